/-! The reference's table of costs. -/
-- nodes by numbers
theorem nd_ex (t : Nat) : ∀ n, 1 ≤ n → n < 2 ^ (t + 1) → ∃ e q, e ≤ t ∧ q < 2 ^ (t - e) ∧ n = 2 ^ (t - e) + q := by
  induction t with
  | zero =>
    intro n h1 h2
    exact ⟨0, 0, Nat.le_refl _, by decide, by have : (2 : Nat) ^ (0 + 1) = 2 := rfl; have : (2 : Nat) ^ (0 - 0) = 1 := rfl; omega⟩
  | succ t ih =>
    intro n h1 h2
    have p1 := pw1 (t + 1)
    have p2 := pw1 t
    by_cases c : n < 2 ^ (t + 1)
    · obtain ⟨e, q, a1, a2, a3⟩ := ih n h1 c
      have : t + 1 - (e + 1) = t - e := by omega
      exact ⟨e + 1, q, by omega, by rw [this]; exact a2, by rw [this]; exact a3⟩
    · refine ⟨0, n - 2 ^ (t + 1), by omega, ?_, ?_⟩
      · rw [Nat.sub_zero]; omega
      · rw [Nat.sub_zero]; omega
theorem nd_in {a b q p : Nat} (hq : q < 2 ^ a) (hp : p < 2 ^ b) (h : 2 ^ a + q = 2 ^ b + p) : a = b ∧ q = p := by
  rcases Nat.lt_trichotomy a b with c | c | c
  · have : 2 ^ (a + 1) ≤ 2 ^ b := Nat.pow_le_pow_right (by decide) c
    have := pw1 a
    omega
  · subst c; exact ⟨rfl, by omega⟩
  · have : 2 ^ (b + 1) ≤ 2 ^ a := Nat.pow_le_pow_right (by decide) c
    have := pw1 b
    omega
theorem nd_k {t e q : Nat} (he : e + 1 ≤ t) (hq : q < 2 ^ (t - (e + 1))) : 2 * (2 ^ (t - (e + 1)) + q) = 2 ^ (t - e) + 2 * q ∧ 2 * q + 1 < 2 ^ (t - e) := by
  have : t - e = t - (e + 1) + 1 := by omega
  rw [this]
  have := pw1 (t - (e + 1))
  omega
theorem nd_b {t e q : Nat} (he : e ≤ t) (hq : q < 2 ^ (t - e)) : q * 2 ^ e + 2 ^ e ≤ 2 ^ t := by
  have h1 : 2 ^ t = 2 ^ (t - e) * 2 ^ e := by rw [← Nat.pow_add]; congr 1; omega
  rw [h1]
  have h2 : (q + 1) * 2 ^ e ≤ 2 ^ (t - e) * 2 ^ e := Nat.mul_le_mul_right _ hq
  rw [Nat.add_mul, Nat.one_mul] at h2
  exact h2
theorem nd_lt {t e q : Nat} (he : e ≤ t) (hq : q < 2 ^ (t - e)) : 2 ^ (t - e) + q < 2 ^ (t + 1) := by
  have h1 : 2 ^ (t - e) ≤ 2 ^ t := Nat.pow_le_pow_right (by decide) (by omega)
  have := pw1 t
  omega
theorem nd_0 {t e q : Nat} (he : e ≤ t) (hq : q < 2 ^ (t - e)) : 2 ^ (t - e) + q < 2 ^ t ↔ 0 < e := by
  by_cases c : e = 0
  · subst c
    rw [Nat.sub_zero]
    omega
  · have h1 : 2 ^ (t - e + 1) ≤ 2 ^ t := Nat.pow_le_pow_right (by decide) (by omega)
    have := pw1 (t - e)
    omega
-- what a block's addresses are wanted of: 9 all untouched, 8 of several
def WC (w : Nat → Nat) : Nat → Nat → Nat
  | 0, q => w q
  | e + 1, q => if WC w e (2 * q) = 9 then WC w e (2 * q + 1) else if WC w e (2 * q + 1) = 9 then WC w e (2 * q) else if WC w e (2 * q) = WC w e (2 * q + 1) then WC w e (2 * q) else 8
def nm2 : Int32 := -2
def eW (c : Nat) : Int32 := if c = 9 then nm2 else if c = 8 then mI else nI c
theorem eW_in : ∀ a, a < 10 → ∀ b, b < 10 → (eW a = eW b ↔ a = b) := by decide +kernel
theorem eW_9 : ∀ a, a < 10 → (eW a = nm2 ↔ a = 9) := by decide +kernel
theorem eW_k : ∀ a, a < 10 → ∀ b, b < 5 → (eW a = nI b ↔ a = b) := by decide +kernel
theorem eW_n : ∀ a, a < 10 → (eW a < nI 0 ↔ a = 9 ∨ a = 8) := by decide +kernel
theorem WC_lt {w : Nat → Nat} (hw : ∀ x, w x = 9 ∨ w x < 5) : ∀ e q, WC w e q = 9 ∨ WC w e q = 8 ∨ WC w e q < 5
  | 0, q => by
    show w q = 9 ∨ w q = 8 ∨ w q < 5
    have := hw q
    omega
  | e + 1, q => by
    have i1 := WC_lt hw e (2 * q)
    have i2 := WC_lt hw e (2 * q + 1)
    unfold WC
    split
    · exact i2
    · split
      · exact i1
      · split
        · exact i1
        · omega
theorem WC_r {w : Nat → Nat} {s : Nat} (hs : s < 5) : ∀ e q, (WC w e q = 9 ∨ WC w e q = s) ↔ ∀ x, q * 2 ^ e ≤ x → x < q * 2 ^ e + 2 ^ e → w x = 9 ∨ w x = s
  | 0, q => by
    show (w q = 9 ∨ w q = s) ↔ _
    constructor
    · intro h x h1 h2
      have : x = q := by omega
      subst this
      exact h
    · intro h
      exact h q (by omega) (by omega)
  | e + 1, q => by
    have i1 := WC_r (w := w) hs e (2 * q)
    have i2 := WC_r (w := w) hs e (2 * q + 1)
    have e1 := bk_l e q
    have e2 := bk_u e q
    have e3 := pw1 e
    have key : (WC w (e + 1) q = 9 ∨ WC w (e + 1) q = s) ↔ (WC w e (2 * q) = 9 ∨ WC w e (2 * q) = s) ∧ (WC w e (2 * q + 1) = 9 ∨ WC w e (2 * q + 1) = s) := by
      show ((if WC w e (2 * q) = 9 then WC w e (2 * q + 1) else if WC w e (2 * q + 1) = 9 then WC w e (2 * q) else if WC w e (2 * q) = WC w e (2 * q + 1) then WC w e (2 * q) else 8) = 9 ∨ (if WC w e (2 * q) = 9 then WC w e (2 * q + 1) else if WC w e (2 * q + 1) = 9 then WC w e (2 * q) else if WC w e (2 * q) = WC w e (2 * q + 1) then WC w e (2 * q) else 8) = s) ↔ _
      split
      · omega
      · split
        · omega
        · split <;> omega
    rw [key, i1, i2]
    constructor
    · rintro ⟨a1, a2⟩ x h1 h2
      rcases bk_h h1 h2 with ⟨h3, h4⟩ | ⟨h3, h4⟩
      · exact a1 x h3 h4
      · exact a2 x h3 h4
    · intro a
      have e4 := pwp e
      exact ⟨fun x h1 h2 => a x (by omega) (by omega), fun x h1 h2 => a x (by omega) (by omega)⟩
theorem sn_lt : ∀ p, p < 6 → ∀ k, k < 5 → snN p k < 5 := by decide
theorem WC_F {w : Nat → Nat} {d pk h : Nat} (hd : d < 5) (hp : pk < 6) (hh : h < 6) (e q : Nat) : (WC w e q = 9 ∨ WC w e q = snN pk (kb d h)) ↔ Fw w d pk e q h = 0 := by
  rw [Fw_z w d pk hh e q, WC_r (sn_lt pk hp _ (kb_lt hd hh)) e q]
  constructor
  · intro a x h1 h2
    rcases a x h1 h2 with c | c
    · exact decide_eq_true (Or.inl c)
    · exact decide_eq_true (Or.inr c.symm)
  · intro a x h1 h2
    rcases of_decide_eq_true (a x h1 h2) with c | c
    · exact Or.inl c
    · exact Or.inr c.symm
/-- one cell alone is another one -/
def O1 (c0 : Nat) (M M' : Mm) : Prop := (∀ c, c ≠ c0 → M'.1 c = M.1 c) ∧ M'.2 = M.2
theorem O1.rf (c0 : Nat) (M : Mm) : O1 c0 M M := ⟨fun _ _ => rfl, rfl⟩
theorem O1.tr {c0 : Nat} {M M' M'' : Mm} (h : O1 c0 M M') (h' : O1 c0 M' M'') : O1 c0 M M'' := ⟨fun c hc => (h'.1 c hc).trans (h.1 c hc), h'.2.trans h.2⟩
theorem O1.w {c0 : Nat} (M : Mm) (j : Nat) (v : Int32) : O1 c0 M (wI M c0 j v) := ⟨fun c hc => wI_ne hc, rfl⟩
theorem VM.o1 {S : Sto} {M M' : Mm} {m c0 : Nat} (h : VM S M m) (g : O1 c0 M M') (hc : c0 < m ∨ m + 4 < c0) : VM S M' m := by
  unfold VM at h ⊢
  rw [g.1 m (by omega), g.1 (m + 1) (by omega), g.1 (m + 2) (by omega), g.1 (m + 3) (by omega), g.1 (m + 4) (by omega)]
  exact h
/-- wants in the memory -/
def WV (w : Nat → Nat) (t : Nat) (M : Mm) (m : Nat) : Prop := ∀ e q, e ≤ t → q < 2 ^ (t - e) → M.1 (m + 8) (2 ^ (t - e) + q) = eW (WC w e q)
def blN (c : Nat → Nat) (h a : Nat) : Nat → Nat
  | 0 => a
  | i + 1 => if md h i = 9 then blN c h a i else min (blN c h a i) (1 + c (md h i))
theorem blN_le (c : Nat → Nat) (h a : Nat) : ∀ i, blN c h a i ≤ a
  | 0 => Nat.le_refl _
  | i + 1 => by
    have := blN_le c h a i
    unfold blN
    split <;> omega
theorem blN_0 (c : Nat → Nat) (h : Nat) (i : Nat) : blN c h 0 i = 0 := by
  have := blN_le c h 0 i
  omega
theorem lift_bl {g : Nat → Nat} {h : Nat} (hh : h < 6) : blN (lift g) h (g h) 5 = lift g h := by
  have l0 := lift_0 g
  rcases h6 hh with rfl | rfl | rfl | rfl | rfl | rfl
  · exact l0.symm
  · show min (g 1) (1 + lift g 0) = lift g 1
    rw [lift_1, l0]
  · show min (g 2) (1 + lift g 0) = lift g 2
    rw [lift_2, l0]
  · show min (g 3) (1 + lift g 0) = lift g 3
    rw [lift_3, l0]
  · show min (min (g 4) (1 + lift g 0)) (1 + lift g 2) = lift g 4
    rw [lift_4, l0, lift_2]
    omega
  · show min (min (min (min (min (g 5) (1 + lift g 0)) (1 + lift g 1)) (1 + lift g 2)) (1 + lift g 3)) (1 + lift g 4) = lift g 5
    have l1 := lift_1 g
    have l2 := lift_2 g
    have l3 := lift_3 g
    have l4 := lift_4 g
    have a : min (min (lift g 0) (lift g 1)) (min (min (lift g 2) (lift g 3)) (lift g 4)) = min (min (g 0) (g 1)) (min (min (g 2) (g 3)) (g 4)) := by
      rw [l0, l1, l2, l3, l4]
      have b1 : min (g 0) (min (g 1) (1 + g 0)) = min (g 0) (g 1) := by omega
      rw [b1]
      omega
    rw [lift_5, ← a]
    clear a l0 l1 l2 l3 l4
    have mm : ∀ x a b : Nat, min (min x (1 + a)) (1 + b) = min x (1 + min a b) := fun x a b => by omega
    rw [mm, mm, mm, mm]
    generalize lift g 0 = x0
    generalize lift g 1 = x1
    generalize lift g 2 = x2
    generalize lift g 3 = x3
    generalize lift g 4 = x4
    simp only [Nat.min_assoc]
def abA (i : Nat) : Nat := if i = 0 then 0 else if i = 1 then 2 else if i = 2 then 1 else i
theorem abA_md : ∀ i, i < 6 → ∀ k, k < 5 → ¬ md (abA i) k = 9 → ∃ j, j < i ∧ abA j = md (abA i) k := by decide
theorem abA_lt : ∀ i, i < 6 → abA i < 6 := by decide
theorem abA_on : ∀ h, h < 6 → ∃ i, i < 6 ∧ abA i = h := by decide
theorem abA_in : ∀ i, i < 6 → ∀ j, j < 6 → abA i = abA j → i = j := by decide
section RC
variable {fu m d : Nat} {S : Sto} {M : Mm} {w : Nat → Nat}
theorem X11_madeBy {h k : Nat} (hh : h < 6) (hk : k < 5) : fX11_madeBy fu (nI h) (nI k) = some (if md h k = 9 then mI else nI (md h k)) := by
  have : ∀ h, h < 6 → ∀ k, k < 5 → fX11_madeBy 0 (nI h) (nI k) = some (if md h k = 9 then mI else nI (md h k)) := by decide +kernel
  exact this h hh k hk
theorem X11_aboveAt {i : Nat} (hi : i < 6) : fX11_aboveAt fu (nI i) = some (nI (abA i)) := by
  have : ∀ i, i < 6 → fX11_aboveAt 0 (nI i) = some (nI (abA i)) := by decide +kernel
  exact this i hi
theorem X11_less {a b : Nat} (ha : a < 2 ^ 31) (hb : b < 2 ^ 31) : fX11_less fu (nI a) (nI b) = some (nI (min a b)) := by
  simp (disch := omega) only [fX11_less_j10, fX11_less, zi_li, zi_m, zi_m1, nI_add, zi_sub, zi_mul, zi_addm, zi_m_lt, zi_lt_m, zi_m_le, zi_le_m, zi_eq_m, zi_m_eq, nI_ltI, nI_leI, nI_eq, nI_clamp, zi_div, lt_eq, bm_s, bi_s, bl_s, bw_s, gd]
  by_cases c : b ≤ a
  · rw [if_pos c, show min a b = b by omega]
  · rw [if_neg c, show min a b = a by omega]
theorem X11_isRight {node h pk e q : Nat} (hw : ∀ x, w x = 9 ∨ w x < 5) (hd : d < 5) (hn : node < 2048) (h8 : M.1 (m + 8) node = eW (WC w e q)) (h25 : M.1 m 25 = nI d) (hh : h < 6) (hp : pk < 6) : fX11_isRight fu m (nI node) (nI h) (nI pk) M = some (bI (Fw w d pk e q h = 0)) := by
  have hk := kb_lt hd hh
  have hs := sn_lt pk hp _ hk
  have hc := WC_lt hw e q
  rw [← bI_c (WC_F hd hp hh e q)]
  have kby : fX11_kindBy fu m (nI h) M = some (nI (kb d h)) := by
    unfold kb
    simp (disch := omega) only [fX11_kindBy_j13, fX11_kindBy, h25, zi_li, zi_m, zi_m1, nI_add, zi_sub, zi_mul, zi_addm, zi_m_lt, zi_lt_m, zi_m_le, zi_le_m, zi_eq_m, zi_m_eq, nI_ltI, nI_leI, nI_eq, nI_clamp, zi_div, lt_eq, bm_s, bi_s, bl_s, bw_s, gd]
    by_cases c : h = 5
    · rw [if_pos c, if_pos c]
    · rw [if_neg c, if_neg c]
  have e9 := eW_9 (WC w e q) (by omega)
  have ek := eW_k (WC w e q) (by omega) _ hs
  unfold fX11_isRight
  rw [show (-2 : Int32) = nm2 from rfl]
  simp (disch := omega) only [h8, kby, X11_seenAs pk hp (kb d h) (by omega), fX11_isRight_j29, fX11_isRight_j34, zi_li, zi_m, zi_m1, nI_add, zi_sub, zi_mul, zi_addm, zi_m_lt, zi_lt_m, zi_m_le, zi_le_m, zi_eq_m, zi_m_eq, nI_ltI, nI_leI, nI_eq, nI_clamp, zi_div, lt_eq, bm_s, bi_s, bl_s, bw_s, gd, if_pos, if_neg, ite_true, ite_false, or_false, false_or, and_true, true_and, not_true, not_false_iff, true_or, or_true, Nat.not_lt_zero]
  by_cases c : WC w e q = 9
  · rw [if_pos (e9.mpr c), bI_t (Or.inl c)]
  · rw [if_neg (fun q => c (e9.mp q))]
    by_cases c2 : WC w e q = snN pk (kb d h)
    · rw [if_pos (ek.mpr c2), bI_t (Or.inr c2)]
    · rw [if_neg (fun q => c2 (ek.mp q)), bI_f (fun q => q.elim c c2)]
theorem X11_both {n1 a1 node h x y : Nat} (hn : node < 1024) (hh : h < 6) (h1 : n1 < 2 ^ 31) (hc : 12 * node + 6 + h < n1) (hx : M.1 a1 (12 * node + h) = nI x) (hy : M.1 a1 (6 * (2 * node + 1) + h) = nI y) (lx : x ≤ 1048576) (ly : y ≤ 1048576) : fX11_both fu m n1 a1 (nI node) (nI h) M = some (nI (min 1048576 (x + y))) := by
  have lss := X11_less (fu := fu) (a := 1048576) (b := x + y) (by omega) (by omega)
  simp (disch := omega) only [fX11_both, zi_li, zi_m, zi_m1, nI_add, zi_sub, zi_mul, zi_addm, zi_m_lt, zi_lt_m, zi_m_le, zi_le_m, zi_eq_m, zi_m_eq, nI_ltI, nI_leI, nI_eq, nI_clamp, zi_div, lt_eq, bm_s, bi_s, bl_s, bw_s, gd, if_pos, if_neg, ite_true, ite_false, or_false, false_or, and_true, true_and, not_true, not_false_iff, true_or, or_true, Nat.not_lt_zero, hx, hy, lss]
end RC
