/-! Plans: lists of blocks; the class lays one. -/
abbrev Bk : Type := Nat × Nat × Nat
def fkP (F : Nat → Nat) (h k : Nat) : Prop := ¬ md h k = 9 ∧ 1 + F (md h k) = F h
def fk (F : Nat → Nat) (h : Nat) : Nat := if ¬ md h 0 = 9 ∧ 1 + F (md h 0) = F h then 0 else if ¬ md h 1 = 9 ∧ 1 + F (md h 1) = F h then 1 else if ¬ md h 2 = 9 ∧ 1 + F (md h 2) = F h then 2 else if ¬ md h 3 = 9 ∧ 1 + F (md h 3) = F h then 3 else 4
theorem fk_ok {F : Nat → Nat} {h : Nat} (hx : ∃ k, k < 5 ∧ fkP F h k) : fk F h < 5 ∧ fkP F h (fk F h) ∧ ∀ j, j < fk F h → ¬ fkP F h j := by
  obtain ⟨k, hk, hp⟩ := hx
  unfold fk
  by_cases c0 : ¬ md h 0 = 9 ∧ 1 + F (md h 0) = F h
  · rw [if_pos c0]; exact ⟨by omega, c0, fun j hj => absurd hj (by omega)⟩
  rw [if_neg c0]
  by_cases c1 : ¬ md h 1 = 9 ∧ 1 + F (md h 1) = F h
  · rw [if_pos c1]
    refine ⟨by omega, c1, fun j hj => ?_⟩
    have : j = 0 := by omega
    subst this; exact c0
  rw [if_neg c1]
  by_cases c2 : ¬ md h 2 = 9 ∧ 1 + F (md h 2) = F h
  · rw [if_pos c2]
    refine ⟨by omega, c2, fun j hj => ?_⟩
    have : j = 0 ∨ j = 1 := by omega
    rcases this with rfl | rfl
    · exact c0
    · exact c1
  rw [if_neg c2]
  by_cases c3 : ¬ md h 3 = 9 ∧ 1 + F (md h 3) = F h
  · rw [if_pos c3]
    refine ⟨by omega, c3, fun j hj => ?_⟩
    have : j = 0 ∨ j = 1 ∨ j = 2 := by omega
    rcases this with rfl | rfl | rfl
    · exact c0
    · exact c1
    · exact c2
  rw [if_neg c3]
  have : k = 4 := by
    have : k = 0 ∨ k = 1 ∨ k = 2 ∨ k = 3 ∨ k = 4 := by omega
    rcases this with rfl | rfl | rfl | rfl | rfl
    · exact absurd hp c0
    · exact absurd hp c1
    · exact absurd hp c2
    · exact absurd hp c3
    · rfl
  subst this
  refine ⟨by omega, hp, fun j hj => ?_⟩
  have : j = 0 ∨ j = 1 ∨ j = 2 ∨ j = 3 := by omega
  rcases this with rfl | rfl | rfl | rfl
  · exact c0
  · exact c1
  · exact c2
  · exact c3
theorem lift_ex {g : Nat → Nat} {h : Nat} (hh : h < 6) (hne : lift g h ≠ g h) : ∃ k, k < 5 ∧ fkP (lift g) h k := by
  have l0 := lift_0 g
  unfold fkP
  rcases h6 hh with rfl | rfl | rfl | rfl | rfl | rfl
  · exact absurd l0 hne
  · refine ⟨0, by omega, by decide, ?_⟩
    show 1 + lift g 0 = lift g 1
    have := lift_1 g
    omega
  · refine ⟨0, by omega, by decide, ?_⟩
    show 1 + lift g 0 = lift g 2
    have := lift_2 g
    omega
  · refine ⟨0, by omega, by decide, ?_⟩
    show 1 + lift g 0 = lift g 3
    have := lift_3 g
    omega
  · have l4 := lift_4 g
    have l2 := lift_2 g
    by_cases c : g 0 ≤ g 2
    · refine ⟨0, by omega, by decide, ?_⟩
      show 1 + lift g 0 = lift g 4
      omega
    · refine ⟨2, by omega, by decide, ?_⟩
      show 1 + lift g 2 = lift g 4
      omega
  · have l5 := lift_5 g
    have l1 := lift_1 g
    have l2 := lift_2 g
    have l3 := lift_3 g
    have l4 := lift_4 g
    generalize hm : min (min (g 0) (g 1)) (min (min (g 2) (g 3)) (g 4)) = m at l5
    have e5 : lift g 5 = 1 + m := by omega
    have hmin : m ≤ g 0 ∧ m ≤ g 1 ∧ m ≤ g 2 ∧ m ≤ g 3 ∧ m ≤ g 4 := by omega
    have hor : g 0 = m ∨ g 1 = m ∨ g 2 = m ∨ g 3 = m ∨ g 4 = m := by omega
    clear hm
    rw [e5]
    rcases hor with c | c | c | c | c
    · exact ⟨0, by omega, by decide, by show 1 + lift g 0 = 1 + m; omega⟩
    · exact ⟨1, by omega, by decide, by show 1 + lift g 1 = 1 + m; omega⟩
    · exact ⟨2, by omega, by decide, by show 1 + lift g 2 = 1 + m; omega⟩
    · exact ⟨3, by omega, by decide, by show 1 + lift g 3 = 1 + m; omega⟩
    · exact ⟨4, by omega, by decide, by show 1 + lift g 4 = 1 + m; omega⟩
def Pin (b s : Nat) (F g : Nat → Nat) (sub : Nat → List Bk) (hv : Bool) : Nat → Nat → List Bk
  | 0, _ => []
  | n + 1, h => if F h = 0 then [] else if hv = true ∧ g h = F h then sub h else if md h (fk F h) < h then (b, s, fk F h) :: Pin b s F g sub hv n (md h (fk F h)) else []
theorem Pin_fu {b s : Nat} {F g : Nat → Nat} {sub : Nat → List Bk} {hv : Bool} : ∀ n m h, h < n → h < m → Pin b s F g sub hv n h = Pin b s F g sub hv m h
  | 0, _, h, h1, _ => absurd h1 (Nat.not_lt_zero _)
  | n + 1, m, h, h1, h2 => by
    obtain ⟨m, rfl⟩ : ∃ k, m = k + 1 := ⟨m - 1, by omega⟩
    unfold Pin
    by_cases c : md h (fk F h) < h
    · rw [Pin_fu n m (md h (fk F h)) (by omega) (by omega)]
    · rw [if_neg c, if_neg c]
def Pl (w : Nat → Nat) (d pk : Nat) : Nat → Nat → Nat → List Bk
  | 0, q, h => Pin (q * 2 ^ 0) (2 ^ 0) (Fw w d pk 0 q) (fun _ => 0) (fun _ => []) false 6 h
  | e + 1, q, h => Pin (q * 2 ^ (e + 1)) (2 ^ (e + 1)) (Fw w d pk (e + 1) q) (Fh w d pk e q) (fun h => Pl w d pk e (2 * q) h ++ Pl w d pk e (2 * q + 1) h) true 6 h
section PLM
variable {w : Nat → Nat} {d pk e q h : Nat}
theorem Pl_0 (h0 : Fw w d pk e q h = 0) : Pl w d pk e q h = [] := by
  cases e with
  | zero => unfold Pl Pin; rw [if_pos h0]
  | succ e => unfold Pl Pin; rw [if_pos h0]
theorem Pl_h (h0 : ¬ Fw w d pk (e + 1) q h = 0) (h1 : Fh w d pk e q h = Fw w d pk (e + 1) q h) : Pl w d pk (e + 1) q h = Pl w d pk e (2 * q) h ++ Pl w d pk e (2 * q + 1) h := by
  show Pin _ _ _ _ _ true 6 h = _
  unfold Pin
  rw [if_neg h0, if_pos ⟨rfl, h1⟩]
/-- it lays itself, where halves don't come to it -/
def Is (w : Nat → Nat) (d pk e q h : Nat) : Prop := e = 0 ∨ ∃ e1, e = e1 + 1 ∧ ¬ Fh w d pk e1 q h = Fw w d pk e q h
theorem Is.ex (hs : Is w d pk e q h) (hh : h < 6) (h0 : ¬ Fw w d pk e q h = 0) (hf : Fw w d pk e q h < 1048576) : ∃ k, k < 5 ∧ fkP (Fw w d pk e q) h k := by
  rcases hs with rfl | ⟨e1, rfl, hne⟩
  · refine lift_ex (g := bsA w d pk q) hh ?_
    have h1 : Fw w d pk 0 q h = lift (bsA w d pk q) h := rfl
    rcases bsA_b w d pk q h with c | c <;> omega
  · exact lift_ex (g := Fh w d pk e1 q) hh (fun c => hne c.symm)
theorem Pl_i (hs : Is w d pk e q h) (hh : h < 6) (h0 : ¬ Fw w d pk e q h = 0) (hf : Fw w d pk e q h < 1048576) : Pl w d pk e q h = (q * 2 ^ e, 2 ^ e, fk (Fw w d pk e q) h) :: Pl w d pk e q (md h (fk (Fw w d pk e q) h)) := by
  obtain ⟨k1, k2, _⟩ := fk_ok (hs.ex hh h0 hf)
  have k3 := md_lt h hh _ k1 k2.1
  rcases hs with rfl | ⟨e1, rfl, hne⟩
  · show Pin _ _ _ _ _ false 6 h = _ :: Pin _ _ _ _ _ false 6 _
    rw [← Pin_fu 5 6 (md h (fk (Fw w d pk 0 q) h)) (by omega) (by omega)]
    conv => lhs; unfold Pin
    rw [if_neg h0, if_neg (by simp), if_pos k3]
  · show Pin _ _ _ _ _ true 6 h = _ :: Pin _ _ _ _ _ true 6 _
    rw [← Pin_fu 5 6 (md h (fk (Fw w d pk (e1 + 1) q) h)) (by omega) (by omega)]
    conv => lhs; unfold Pin
    rw [if_neg h0, if_neg (fun c => hne c.2), if_pos k3]
end PLM
theorem Pl_len (w : Nat → Nat) (d pk : Nat) : ∀ e q n h, h < n → h < 6 → Fw w d pk e q h < 1048576 → (Pl w d pk e q h).length = Fw w d pk e q h
  | e, q, 0, h, hn, _, _ => absurd hn (Nat.not_lt_zero _)
  | e, q, n + 1, h, hn, hh, hf => by
    by_cases h0 : Fw w d pk e q h = 0
    · rw [Pl_0 h0, h0]; rfl
    by_cases hs : Is w d pk e q h
    · obtain ⟨k1, k2, _⟩ := fk_ok (hs.ex hh h0 hf)
      have k3 := md_lt h hh _ k1 k2.1
      have k4 := k2.2
      have ih := Pl_len w d pk e q n (md h (fk (Fw w d pk e q) h)) (by omega) (by omega) (by omega)
      rw [Pl_i hs hh h0 hf, List.length_cons, ih]
      omega
    · cases e with
      | zero => exact absurd (Or.inl rfl) hs
      | succ e =>
        have h1 : Fh w d pk e q h = Fw w d pk (e + 1) q h := by
          by_cases c : Fh w d pk e q h = Fw w d pk (e + 1) q h
          · exact c
          · exact absurd (Or.inr ⟨e, rfl, c⟩) hs
        have h2 : Fh w d pk e q h = min 1048576 (Fw w d pk e (2 * q) h + Fw w d pk e (2 * q + 1) h) := rfl
        rw [Pl_h h0 h1, List.length_append, Pl_len w d pk e (2 * q) 6 h hh hh (by omega), Pl_len w d pk e (2 * q + 1) 6 h hh hh (by omega)]
        omega
termination_by e _ n => (e, n)
theorem Fw_u1 {w : Nat → Nat} {d pk e q h : Nat} (hi : ic w e q = 0) (hh : h < 6) (h0 : ¬ Fw w d pk e q h = 0) (hf : Fw w d pk e q h < 1048576) : Fw w d pk e q h = 1 ∧ Is w d pk e q h := by
  have hu := ic_un hi
  have h1 := Fw_un w d pk _ e q hu hh
  have h2 := lift_b (g := bsV (w (q * 2 ^ e)) d pk) (fun h _ => bsV_b _ d pk h) hh
  have h3 : Fw w d pk e q h = 1 := by omega
  refine ⟨h3, ?_⟩
  cases e with
  | zero => exact Or.inl rfl
  | succ e =>
    refine Or.inr ⟨e, rfl, ?_⟩
    have e1 := Fw_un w d pk _ e (2 * q) hu.lo hh
    have e2 := Fw_un w d pk _ e (2 * q + 1) hu.hi hh
    unfold Fh
    omega
/-- the cost is no more than the parts that are alike -/
theorem Fw_IN {w : Nat → Nat} {d : Nat} (hw : ∀ x, w x = 9 ∨ w x < 5) : ∀ e q, Fw w d 5 e q 5 ≤ 1 + IN w e q
  | e, q => by
    by_cases hi : ic w e q = 0
    · have h1 := Fw_un w d 5 _ e q (ic_un hi) (h := 5) (by omega)
      have h2 := lift_5 (bsV (w (q * 2 ^ e)) d 5)
      have h3 : ∃ k, k < 6 ∧ bsV (w (q * 2 ^ e)) d 5 k = 0 := by
        rcases hw (q * 2 ^ e) with c | c
        · exact ⟨0, by omega, if_pos (Or.inl c)⟩
        · refine ⟨w (q * 2 ^ e), by omega, if_pos (Or.inr ?_)⟩
          show kb d (w (q * 2 ^ e)) = _
          unfold kb
          rw [if_neg (by omega)]
      obtain ⟨k, hk, hk0⟩ := h3
      rcases h6 hk with rfl | rfl | rfl | rfl | rfl | rfl <;> omega
    · cases e with
      | zero => exact absurd (ic_0 w q) hi
      | succ e =>
        have h1 : Fw w d 5 (e + 1) q 5 ≤ Fh w d 5 e q 5 := lift_le _ (by omega)
        have h2 : Fh w d 5 e q 5 = min 1048576 (Fw w d 5 e (2 * q) 5 + Fw w d 5 e (2 * q + 1) 5) := rfl
        have i1 := Fw_IN (d := d) hw e (2 * q)
        have i2 := Fw_IN (d := d) hw e (2 * q + 1)
        have h3 : IN w (e + 1) q = 1 + IN w e (2 * q) + IN w e (2 * q + 1) := if_neg hi
        omega
def BV (M : Mm) (q : Nat) (l : List Bk) : Prop := M.1 q 3 = nI l.length ∧ ∀ (i : Nat) (p : Bk), l[i]? = some p → M.1 (q + 1) i = nI p.1 ∧ M.1 (q + 2) i = nI p.2.1 ∧ M.1 (q + 3) i = nI p.2.2
theorem BV.fr {M M' : Mm} {q : Nat} {l : List Bk} (h : BV M q l) (hf : ∀ c, q ≤ c → c < q + 4 → M'.1 c = M.1 c) : BV M' q l := by
  unfold BV at h ⊢
  rw [hf q (by omega) (by omega), hf (q + 1) (by omega) (by omega), hf (q + 2) (by omega) (by omega), hf (q + 3) (by omega) (by omega)]
  exact h
section BX
variable {fu Q : Nat} {M : Mm} {l : List Bk}
theorem X0_add {cap b s k : Nat} (hB : BV M Q l) (hl : l.length < cap) (hc : cap < 2 ^ 31) : Wp (fX0_add fu cap Q (nI b) (nI s) (nI k) M) (fun M' => BV M' Q (l ++ [(b, s, k)]) ∧ Fr Q 4 M M') := by
  have hcap : Int32.ofNat cap = nI cap := rfl
  unfold fX0_add fX0_add_j52
  rw [hcap]
  simp (disch := omega) only [hB.1, zi_li, zi_m, zi_m1, nI_add, zi_sub, zi_mul, zi_addm, zi_m_lt, zi_lt_m, zi_m_le, zi_le_m, zi_eq_m, zi_m_eq, nI_ltI, nI_leI, nI_eq, nI_clamp, zi_div, lt_eq, bm_s, bi_s, bl_s, bw_s, gd, if_pos, if_neg, ite_true, ite_false, or_false, false_or, and_true, true_and, not_true, not_false_iff, true_or, or_true, Nat.not_lt_zero, wI_ne, wI_eq, wI_nk, wIs_ne, wIs_eq]
  rw [wp_some]
  refine ⟨⟨?_, fun i p hp => ?_⟩, ?_⟩
  · simp (disch := omega) only [wI_ne, wI_eq, wI_nk, wIs_ne, wIs_eq]
    rw [List.length_append]
    rfl
  · by_cases c : i < l.length
    · rw [List.getElem?_append_left c] at hp
      have := hB.2 i p hp
      simp (disch := omega) only [wI_ne, wI_eq, wI_nk, wIs_ne, wIs_eq]
      exact this
    · rw [List.getElem?_append_right (by omega)] at hp
      have h1 : i - l.length = 0 := by
        by_cases d : i - l.length = 0
        · exact d
        · rw [List.getElem?_eq_none (by simp; omega)] at hp
          cases hp
      rw [h1] at hp
      have h2 : i = l.length := by omega
      cases hp
      subst h2
      simp (disch := omega) only [wI_ne, wI_eq, wI_nk, wIs_ne, wIs_eq]
      exact ⟨trivial, trivial, trivial⟩
  · exact (((Fr.w1 _ _ _ _ (by omega) (by omega)).tr (Fr.w1 _ _ _ _ (by omega) (by omega))).tr (Fr.w1 _ _ _ _ (by omega) (by omega))).tr (Fr.w1 _ _ _ _ (by omega) (by omega))
end BX
