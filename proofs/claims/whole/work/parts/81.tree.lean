/-! The cut tree in the memory. -/
def wE (v : Nat) : Int32 := if v = 9 then mI else nI v
theorem wE_inj {u v : Nat} (hu : u < 10) (hv : v < 10) : wE u = wE v ↔ u = v := by
  unfold wE
  by_cases c1 : u = 9 <;> by_cases c2 : v = 9
  · simp [c1, c2]
  · rw [if_pos c1, if_neg c2, zi_m_eq (by omega)]
    exact ⟨False.elim, fun q => c2 (q ▸ c1)⟩
  · rw [if_neg c1, if_pos c2, zi_eq_m (by omega)]
    exact ⟨False.elim, fun q => c1 (q ▸ c2)⟩
  · rw [if_neg c1, if_neg c2, nI_eq (by omega) (by omega)]
/-- the part in which an address is -/
def ci (w : Nat → Nat) (x : Nat) : Nat := smN (chD w) (x + 1) - 1
theorem ch0 (w : Nat → Nat) : smN (chD w) 1 = 1 := rfl
theorem ci_p (w : Nat → Nat) (x : Nat) : smN (chD w) (x + 1) = ci w x + 1 := by
  have := smN_mono (chD w) (a := 1) (b := x + 1) (by omega)
  rw [ch0] at this
  unfold ci
  omega
theorem ci_mono (w : Nat → Nat) {x y : Nat} (h : x ≤ y) : ci w x ≤ ci w y := by
  have := smN_mono (chD w) (a := x + 1) (b := y + 1) (by omega)
  have := ci_p w x
  have := ci_p w y
  omega
theorem ci_at (w : Nat → Nat) : ∀ x, ∃ y, y ≤ x ∧ chD w y = 1 ∧ smN (chD w) y = ci w x ∧ w y = w x
  | 0 => ⟨0, Nat.le_refl _, rfl, rfl, rfl⟩
  | x + 1 => by
    have h1 := ci_p w x
    have h2 := ci_p w (x + 1)
    have h3 : smN (chD w) (x + 1 + 1) = smN (chD w) (x + 1) + chD w (x + 1) := rfl
    by_cases c : w (x + 1) = w x
    · obtain ⟨y, a1, a2, a3, a4⟩ := ci_at w x
      have h4 : chD w (x + 1) = 0 := if_neg (fun q => q.elim (fun q => by omega) (fun q => q c))
      exact ⟨y, by omega, a2, by omega, by rw [a4, c]⟩
    · have h4 : chD w (x + 1) = 1 := if_pos (Or.inr c)
      exact ⟨x + 1, Nat.le_refl _, h4, by omega, rfl⟩
def CV (w : Nat → Nat) (A : Nat) (M : Mm) (r : Nat) : Prop := M.1 r 11 = nI (smN (chD w) A) ∧ (∀ x, x < A → chD w x = 1 → M.1 (r + 8) (smN (chD w) x) = nI x ∧ M.1 (r + 9) (smN (chD w) x) = wE (w x)) ∧ M.1 (r + 8) (smN (chD w) A) = nI A
def Nd (w : Nat → Nat) (M : Mm) (r e q k : Nat) : Prop := (M.1 (r + 1) k = nI (q * 2 ^ e) ∧ M.1 (r + 2) k = nI (2 ^ e) ∧ M.1 (r + 4) k = nI (k + NN w e q)) ∧ (ic w e q = 0 → M.1 (r + 5) k = wE (w (q * 2 ^ e)) ∧ M.1 (r + 3) k = nI 0) ∧ (¬ ic w e q = 0 → M.1 (r + 3) k = nI (k + 1 + NN w (e - 1) (2 * q)))
theorem Nd.fr {w : Nat → Nat} {M M' : Mm} {r e q k : Nat} (h : Nd w M r e q k) (h1 : M'.1 (r + 1) k = M.1 (r + 1) k) (h2 : M'.1 (r + 2) k = M.1 (r + 2) k) (h3 : M'.1 (r + 3) k = M.1 (r + 3) k) (h4 : M'.1 (r + 4) k = M.1 (r + 4) k) (h5 : M'.1 (r + 5) k = M.1 (r + 5) k) : Nd w M' r e q k := by
  unfold Nd at h ⊢
  rw [h1, h2, h3, h4, h5]
  exact h
/-- what growing leaves as it was -/
def Gf (r i : Nat) (M M' : Mm) : Prop := (∀ a, a < r ∨ r + 5 < a → M'.1 a = M.1 a) ∧ (∀ j, j ≠ 5 → j ≠ 12 → M'.1 r j = M.1 r j) ∧ (∀ a j, j < i → 1 ≤ a → a ≤ 5 → M'.1 (r + a) j = M.1 (r + a) j) ∧ M'.2 = M.2
theorem Gf.tr {r i j : Nat} {M M' M'' : Mm} (h : Gf r i M M') (h' : Gf r j M' M'') (hij : i ≤ j) : Gf r i M M'' :=
  ⟨fun a ha => (h'.1 a ha).trans (h.1 a ha), fun a h1 h2 => (h'.2.1 a h1 h2).trans (h.2.1 a h1 h2), fun a k hk h1 h2 => (h'.2.2.1 a k (by omega) h1 h2).trans (h.2.2.1 a k hk h1 h2), h'.2.2.2.trans h.2.2.2⟩
theorem Gf.rf (r i : Nat) (M : Mm) : Gf r i M M := ⟨fun _ _ => rfl, fun _ _ _ => rfl, fun _ _ _ _ _ => rfl, rfl⟩
theorem Gf.w0 {r i : Nat} (M : Mm) {j : Nat} (v : Int32) (hj : j = 5 ∨ j = 12) : Gf r i M (wI M r j v) :=
  ⟨fun a ha => wI_ne (by omega), fun k h1 h2 => wI_nk (by omega), fun a k hk h1 h2 => by rw [wI_ne (by omega)], rfl⟩
theorem Gf.wa {r i : Nat} (M : Mm) {a j : Nat} (v : Int32) (h1 : 1 ≤ a) (h2 : a ≤ 5) (hj : i ≤ j) : Gf r i M (wI M (r + a) j v) :=
  ⟨fun c hc => wI_ne (by omega), fun k q1 q2 => by rw [wI_ne (by omega)], fun c k hk q1 q2 => by
    by_cases e : c = a
    · subst e; exact wI_nk (by omega)
    · rw [wI_ne (by omega)], rfl⟩
theorem CV.fr {w : Nat → Nat} {A : Nat} {M M' : Mm} {r i : Nat} (h : CV w A M r) (g : Gf r i M M') : CV w A M' r := by
  unfold CV at h ⊢
  rw [g.1 (r + 8) (by omega), g.1 (r + 9) (by omega), g.2.1 11 (by omega) (by omega)]
  exact h
section TR
variable {fu r A t : Nat} {w : Nat → Nat} {M : Mm}
theorem ci_nx (hC : CV w A M r) {b : Nat} (hb : b < A) : ∃ y, M.1 (r + 8) (ci w b + 1) = nI y ∧ b < y ∧ y ≤ A ∧ ∀ s, 1 ≤ s → b + s ≤ A → (b + s ≤ y ↔ smN (chD w) (b + s) - smN (chD w) (b + 1) = 0) := by
  have hp := ci_p w b
  have hm := smN_mono (chD w) (a := b + 1) (b := A) (by omega)
  by_cases c : ci w b + 1 < smN (chD w) A
  · obtain ⟨y, hy, cy, sy⟩ := smN_find (chD_le w) c
    have h1 : smN (chD w) (y + 1) = smN (chD w) y + chD w y := rfl
    refine ⟨y, ?_, ?_, by omega, fun s hs hsA => ⟨fun h => ?_, fun h => ?_⟩⟩
    · rw [← sy]; exact (hC.2.1 y hy cy).1
    · by_cases d : b < y
      · exact d
      · have := smN_mono (chD w) (a := y + 1) (b := b + 1) (by omega)
        omega
    · have := smN_mono (chD w) h
      omega
    · by_cases d : b + s ≤ y
      · exact d
      · have := smN_mono (chD w) (a := y + 1) (b := b + s) (by omega)
        omega
  · have e : ci w b + 1 = smN (chD w) A := by omega
    refine ⟨A, by rw [e]; exact hC.2.2, hb, Nat.le_refl _, fun s hs hsA => ⟨fun h => ?_, fun h => hsA⟩⟩
    have := smN_mono (chD w) hsA
    omega
theorem X9_growW (hfu : 200000 ≤ fu) (hA : A ≤ 1024) (hc28 : smN (chD w) A < 28) {Q : Int32 × Mm → Prop} {fr : Nat → Int32 → Int32 → Int32 → Mm → Option (Int32 × Mm)} {b i c : Nat} {x2 x3 : Int32} (hC : CV w A M r) (hb : b < A) (h5 : M.1 r 5 = nI i) (h12 : M.1 r 12 = nI c) (hc : c ≤ ci w b) (hi : i < 320)
    (kk : ∀ M1, M1.1 r 5 = nI (i + 1) → M1.1 r 12 = nI (ci w b) → Gf r i M M1 → CV w A M1 r → Wp (fX9_grow_j69 fu fr r (nI b) x2 x3 (nI i) M1) Q) : Wp (fX9_grow_R fu fr r (nI b) x2 x3 M) Q := by
  have hp := ci_p w b
  have hm := smN_mono (chD w) (a := b + 1) (b := A) (by omega)
  unfold fX9_grow_R fX9_grow_l28
  rw [h5]
  simp (disch := omega) only [zi_li, zi_m, zi_m1, nI_add, zi_sub, zi_mul, zi_addm, zi_m_lt, zi_lt_m, zi_m_le, zi_le_m, zi_eq_m, zi_m_eq, nI_ltI, nI_leI, nI_eq, nI_clamp, zi_div, lt_eq, bm_s, bi_s, bl_s, bw_s, gd, if_pos, if_neg, ite_true, ite_false, or_false, false_or, and_true, true_and, not_true, not_false_iff, true_or, or_true, Nat.not_lt_zero]
  have g0 : Gf r i M (wI M r 5 (nI (i + 1))) := Gf.w0 M _ (Or.inl rfl)
  refine lp_me (fun z => ∃ c, z.1 r 12 = nI c ∧ c ≤ ci w b ∧ Gf r i M z ∧ z.1 r 5 = nI (i + 1)) (fun z => 30 - ix (z.1 r 12)) _ (fun z hz rec hrec => ?_) (by omega) ⟨c, by simp (disch := omega) only [wI_ne, wI_eq, wI_nk, wIs_ne, wIs_eq]; exact h12, hc, g0, by simp (disch := omega) only [wI_ne, wI_eq, wI_nk, wIs_ne, wIs_eq]⟩
  obtain ⟨c, z12, hc, gz, z5⟩ := hz
  have Cz := hC.fr gz
  have c11 := Cz.1
  obtain ⟨y, y1, y2, y3, y4⟩ := ci_nx Cz hb
  unfold fX9_grow_b28
  rw [c11, z12]
  simp (disch := omega) only [zi_li, zi_m, zi_m1, nI_add, zi_sub, zi_mul, zi_addm, zi_m_lt, zi_lt_m, zi_m_le, zi_le_m, zi_eq_m, zi_m_eq, nI_ltI, nI_leI, nI_eq, nI_clamp, zi_div, lt_eq, bm_s, bi_s, bl_s, bw_s, gd]
  by_cases d : c = ci w b
  · subst d
    by_cases d2 : smN (chD w) A ≤ ci w b + 1
    · rw [if_pos d2]
      exact kk z z5 z12 gz Cz
    · simp (disch := omega) only [if_pos, if_neg, ite_true, ite_false, or_false, false_or, and_true, true_and, not_true, not_false_iff, true_or, or_true, Nat.not_lt_zero, y1, zi_li, zi_m, zi_m1, nI_add, zi_sub, zi_mul, zi_addm, zi_m_lt, zi_lt_m, zi_m_le, zi_le_m, zi_eq_m, zi_m_eq, nI_ltI, nI_leI, nI_eq, nI_clamp, zi_div, lt_eq, bm_s, bi_s, bl_s, bw_s, gd]
      exact kk z z5 z12 gz Cz
  · obtain ⟨v, hv, cv, sv⟩ := smN_find (chD_le w) (j := c + 1) (n := b + 1) (by omega)
    have v1 := (Cz.2.1 v (by omega) cv).1
    rw [sv] at v1
    simp (disch := omega) only [if_pos, if_neg, ite_true, ite_false, or_false, false_or, and_true, true_and, not_true, not_false_iff, true_or, or_true, Nat.not_lt_zero, v1, zi_li, zi_m, zi_m1, nI_add, zi_sub, zi_mul, zi_addm, zi_m_lt, zi_lt_m, zi_m_le, zi_le_m, zi_eq_m, zi_m_eq, nI_ltI, nI_leI, nI_eq, nI_clamp, zi_div, lt_eq, bm_s, bi_s, bl_s, bw_s, gd]
    refine hrec _ ⟨c + 1, by simp (disch := omega) only [wI_ne, wI_eq, wI_nk, wIs_ne, wIs_eq], by omega, gz.tr (Gf.w0 z _ (Or.inr rfl)) (Nat.le_refl _), by simp (disch := omega) only [wI_ne, wI_eq, wI_nk, wIs_ne, wIs_eq]; exact z5⟩ ?_
    rw [z12]
    simp (disch := omega) only [wI_ne, wI_eq, wI_nk, wIs_ne, wIs_eq, nI_clamp]
    omega
theorem X9_grow (hfu : 200000 ≤ fu) (hA : A ≤ 1024) (hc28 : smN (chD w) A < 28) : ∀ (e q dp i c dep : Nat) (M : Mm), e < dp → CV w A M r → q * 2 ^ e + 2 ^ e ≤ A → M.1 r 5 = nI i → M.1 r 12 = nI c → c ≤ ci w (q * 2 ^ e) → i + NN w e q ≤ 320 → dep + e ≤ 10 →
    Wp (fX9_grow fu dp r (nI (q * 2 ^ e)) (nI (2 ^ e)) (nI dep) M) (fun z => z.1 = nI i ∧ z.2.1 r 5 = nI (i + NN w e q) ∧ (∃ c', c' ≤ ci w (q * 2 ^ e + 2 ^ e - 1) ∧ z.2.1 r 12 = nI c') ∧ (∀ k, k < NN w e q → Nd w z.2 r (lo w e q k).1 (lo w e q k).2 (i + k)) ∧ Gf r i M z.2) := by
  intro e
  induction e with
  | zero =>
    intro q dp i c dep M hdp hC hqA h5 h12 hc hi hdep
    obtain ⟨dp, rfl⟩ : ∃ f, dp = f + 1 := ⟨dp - 1, by omega⟩
    have hN : NN w 0 q = 1 := rfl
    have hp := pwp 0
    show Wp (fX9_grow_R fu (fX9_grow fu dp) r (nI (q * 2 ^ 0)) (nI (2 ^ 0)) (nI dep) M) _
    refine X9_growW hfu hA hc28 hC (by omega) h5 h12 hc (by omega) (fun M1 m5 m12 g1 C1 => ?_)
    have hcb := ci_p w (q * 2 ^ 0)
    have hm := smN_mono (chD w) (a := q * 2 ^ 0 + 1) (b := A) (by omega)
    obtain ⟨y, y1, y2, y3, y4⟩ := ci_nx C1 (b := q * 2 ^ 0) (by omega)
    obtain ⟨v, v1, v2, v3, v4⟩ := ci_at w (q * 2 ^ 0)
    have v5 := (C1.2.1 v (by omega) v2).2
    rw [v3, v4] at v5
    have h20 : (2 : Nat) ^ 0 = 1 := rfl
    unfold fX9_grow_j69 fX9_grow_j168
    simp (disch := omega) only [zi_li, zi_m, zi_m1, nI_add, zi_sub, zi_mul, zi_addm, zi_m_lt, zi_lt_m, zi_m_le, zi_le_m, zi_eq_m, zi_m_eq, nI_ltI, nI_leI, nI_eq, nI_clamp, zi_div, lt_eq, bm_s, bi_s, bl_s, bw_s, gd, if_pos, if_neg, ite_true, ite_false, or_false, false_or, and_true, true_and, not_true, not_false_iff, true_or, or_true, Nat.not_lt_zero, wI_ne, wI_eq, wI_nk, wIs_ne, wIs_eq, m12, v5, y1]
    rw [wp_some]
    refine ⟨rfl, ?_, ⟨ci w (q * 2 ^ 0), by rw [h20, Nat.add_sub_cancel]; exact Nat.le_refl _, ?_⟩, fun k hk => ?_, ?_⟩
    · simp (disch := omega) only [wI_ne, wI_eq, wI_nk, wIs_ne, wIs_eq]
      exact m5
    · simp (disch := omega) only [wI_ne, wI_eq, wI_nk, wIs_ne, wIs_eq]
      exact m12
    · have : k = 0 := by omega
      subst this
      rw [lo_0]
      show Nd w _ r 0 q i
      refine ⟨⟨?_, ?_, ?_⟩, fun _ => ⟨?_, ?_⟩, fun h => absurd (ic_0 w q) h⟩
      · simp (disch := omega) only [wI_ne, wI_eq, wI_nk, wIs_ne, wIs_eq]
      · simp (disch := omega) only [wI_ne, wI_eq, wI_nk, wIs_ne, wIs_eq]
      · simp (disch := omega) only [wI_ne, wI_eq, wI_nk, wIs_ne, wIs_eq, m5]
        rw [hN]
      · simp (disch := omega) only [wI_ne, wI_eq, wI_nk, wIs_ne, wIs_eq]
      · simp (disch := omega) only [wI_ne, wI_eq, wI_nk, wIs_ne, wIs_eq]
    · exact ((((g1.tr (Gf.wa _ _ (by omega) (by omega) (Nat.le_refl i)) (Nat.le_refl _)).tr (Gf.wa _ _ (by omega) (by omega) (Nat.le_refl i)) (Nat.le_refl _)).tr (Gf.wa _ _ (by omega) (by omega) (Nat.le_refl i)) (Nat.le_refl _)).tr (Gf.wa _ _ (by omega) (by omega) (Nat.le_refl i)) (Nat.le_refl _)).tr (Gf.wa _ _ (by omega) (by omega) (Nat.le_refl i)) (Nat.le_refl _)
  | succ e ih =>
    intro q dp i c dep M hdp hC hqA h5 h12 hc hi hdep
    obtain ⟨dp, rfl⟩ : ∃ f, dp = f + 1 := ⟨dp - 1, by omega⟩
    have hNp := NN_p w (e + 1) q
    have hp := pwp e
    have hp1 := pw1 e
    show Wp (fX9_grow_R fu (fX9_grow fu dp) r (nI (q * 2 ^ (e + 1))) (nI (2 ^ (e + 1))) (nI dep) M) _
    refine X9_growW hfu hA hc28 hC (by omega) h5 h12 hc (by omega) (fun M1 m5 m12 g1 C1 => ?_)
    have hcb := ci_p w (q * 2 ^ (e + 1))
    have hm := smN_mono (chD w) (a := q * 2 ^ (e + 1) + 1) (b := A) (by omega)
    obtain ⟨y, y1, y2, y3, y4⟩ := ci_nx C1 (b := q * 2 ^ (e + 1)) (by omega)
    have y5 := y4 (2 ^ (e + 1)) (by omega) hqA
    have y6 : ic w (e + 1) q = 0 ↔ q * 2 ^ (e + 1) + 2 ^ (e + 1) ≤ y := y5.symm
    obtain ⟨v, v1, v2, v3, v4⟩ := ci_at w (q * 2 ^ (e + 1))
    have v5 := (C1.2.1 v (by omega) v2).2
    rw [v3, v4] at v5
    have eb := bk_l e q
    have eu := bk_u e q
    generalize hB : q * 2 ^ (e + 1) = B at *
    generalize hT : 2 ^ (e + 1) = T at *
    have G5 : ∀ v1 v2 v3 v4, Gf r i M (wI (wI (wI (wI M1 (r + 1) i v1) (r + 2) i v2) (r + 5) i v3) (r + 3) i v4) := fun _ _ _ _ => (((g1.tr (Gf.wa _ _ (by omega) (by omega) (Nat.le_refl i)) (Nat.le_refl _)).tr (Gf.wa _ _ (by omega) (by omega) (Nat.le_refl i)) (Nat.le_refl _)).tr (Gf.wa _ _ (by omega) (by omega) (Nat.le_refl i)) (Nat.le_refl _)).tr (Gf.wa _ _ (by omega) (by omega) (Nat.le_refl i)) (Nat.le_refl _)
    unfold fX9_grow_j69 fX9_grow_j168
    simp (disch := omega) only [zi_li, zi_m, zi_m1, nI_add, zi_sub, zi_mul, zi_addm, zi_m_lt, zi_lt_m, zi_m_le, zi_le_m, zi_eq_m, zi_m_eq, nI_ltI, nI_leI, nI_eq, nI_clamp, zi_div, lt_eq, bm_s, bi_s, bl_s, bw_s, gd, if_pos, if_neg, ite_true, ite_false, or_false, false_or, and_true, true_and, not_true, not_false_iff, true_or, or_true, Nat.not_lt_zero, wI_ne, wI_eq, wI_nk, wIs_ne, wIs_eq, m12, v5, y1]
    by_cases d : ic w (e + 1) q = 0
    · rw [if_pos (y6.mp d), wp_some]
      have hN := NN_u d
      refine ⟨rfl, ?_, ⟨ci w B, ci_mono w (by omega), ?_⟩, fun k hk => ?_, ?_⟩
      · simp (disch := omega) only [wI_ne, wI_eq, wI_nk, wIs_ne, wIs_eq]
        rw [hN]
        exact m5
      · simp (disch := omega) only [wI_ne, wI_eq, wI_nk, wIs_ne, wIs_eq]
        exact m12
      · have : k = 0 := by omega
        subst this
        rw [lo_0]
        show Nd w _ r (e + 1) q i
        refine ⟨⟨?_, ?_, ?_⟩, fun _ => ⟨?_, ?_⟩, fun h => absurd d h⟩
        · simp (disch := omega) only [wI_ne, wI_eq, wI_nk, wIs_ne, wIs_eq]
          rw [hT, hB]
        · simp (disch := omega) only [wI_ne, wI_eq, wI_nk, wIs_ne, wIs_eq]
          rw [hT]
        · simp (disch := omega) only [wI_ne, wI_eq, wI_nk, wIs_ne, wIs_eq, m5]
          rw [hN]
        · simp (disch := omega) only [wI_ne, wI_eq, wI_nk, wIs_ne, wIs_eq]
          rw [hT, hB]
        · simp (disch := omega) only [wI_ne, wI_eq, wI_nk, wIs_ne, wIs_eq]
      · exact (G5 _ _ _ _).tr (Gf.wa _ _ (by omega) (by omega) (Nat.le_refl i)) (Nat.le_refl _)
    · rw [if_neg (fun q => d (y6.mpr q))]
      have hN := NN_h d
      have hT2 : T / 2 = 2 ^ e := by omega
      simp (disch := omega) only [if_pos, if_neg, ite_true, ite_false, or_false, false_or, and_true, true_and, not_true, not_false_iff, true_or, or_true, Nat.not_lt_zero, hT2]
      rw [wp_bw]
      generalize hM2 : wI (wI (wI (wI M1 (r + 1) i (nI B)) (r + 2) i (nI T)) (r + 5) i (wE (w B))) (r + 3) i (nI 0) = M2
      have G2 : Gf r i M M2 := by rw [← hM2]; exact G5 _ _ _ _
      have p5 : M2.1 r 5 = nI (i + 1) := by rw [← hM2]; simp (disch := omega) only [wI_ne, wI_eq, wI_nk, wIs_ne, wIs_eq]; exact m5
      have p12 : M2.1 r 12 = nI (ci w B) := by rw [← hM2]; simp (disch := omega) only [wI_ne, wI_eq, wI_nk, wIs_ne, wIs_eq]; exact m12
      have q1 : M2.1 (r + 1) i = nI B := by rw [← hM2]; simp (disch := omega) only [wI_ne, wI_eq, wI_nk, wIs_ne, wIs_eq]
      have q2 : M2.1 (r + 2) i = nI T := by rw [← hM2]; simp (disch := omega) only [wI_ne, wI_eq, wI_nk, wIs_ne, wIs_eq]
      rw [← eb]
      refine (ih (2 * q) dp (i + 1) (ci w B) (dep + 1) M2 (by omega) (hC.fr G2) (by omega) p5 p12 (by rw [eb]; exact Nat.le_refl _) (by omega) (by omega)).mono fun z1 hz1 => ?_
      obtain ⟨_, b5, ⟨c1, hc1, b12⟩, bN, bG⟩ := hz1
      rw [wp_bw]
      have e2 : 2 * q * 2 ^ e + 2 ^ e = (2 * q + 1) * 2 ^ e := by omega
      rw [e2]
      refine (ih (2 * q + 1) dp (i + 1 + NN w e (2 * q)) c1 (dep + 1) z1.2 (by omega) ((hC.fr G2).fr bG) (by omega) b5 b12 (Nat.le_trans hc1 (ci_mono w (by omega))) (by omega) (by omega)).mono fun z2 hz2 => ?_
      obtain ⟨s1, s5, ⟨c2, hc2, s12⟩, sN, sG⟩ := hz2
      rw [s1, wp_some]
      have n1 : i + 1 + NN w e (2 * q) + NN w e (2 * q + 1) = i + NN w (e + 1) q := by omega
      refine ⟨rfl, ?_, ⟨c2, ?_, ?_⟩, fun k hk => ?_, ?_⟩
      · simp (disch := omega) only [wI_ne, wI_eq, wI_nk, wIs_ne, wIs_eq]
        rw [s5, n1]
      · rw [show 2 * q * 2 ^ e + T - 1 = (2 * q + 1) * 2 ^ e + 2 ^ e - 1 by omega]
        exact hc2
      · simp (disch := omega) only [wI_ne, wI_eq, wI_nk, wIs_ne, wIs_eq]
        exact s12
      · by_cases k0 : k = 0
        · subst k0
          rw [lo_0]
          show Nd w _ r (e + 1) q i
          refine ⟨⟨?_, ?_, ?_⟩, fun h => absurd h d, fun _ => ?_⟩
          · simp (disch := omega) only [wI_ne, wI_eq, wI_nk, wIs_ne, wIs_eq]
            rw [sG.2.2.1 1 i (by omega) (by omega) (by omega), bG.2.2.1 1 i (by omega) (by omega) (by omega), q1, hT, hB]
          · simp (disch := omega) only [wI_ne, wI_eq, wI_nk, wIs_ne, wIs_eq]
            rw [sG.2.2.1 2 i (by omega) (by omega) (by omega), bG.2.2.1 2 i (by omega) (by omega) (by omega), q2, hT]
          · simp (disch := omega) only [wI_ne, wI_eq, wI_nk, wIs_ne, wIs_eq]
            rw [s5, n1]
          · simp (disch := omega) only [wI_ne, wI_eq, wI_nk, wIs_ne, wIs_eq, Nat.add_sub_cancel]
        · by_cases k1 : k ≤ NN w e (2 * q)
          · obtain ⟨k', rfl⟩ : ∃ k', k = 1 + k' := ⟨k - 1, by omega⟩
            rw [lo_l (by omega)]
            have := bN k' (by omega)
            rw [Nat.add_assoc] at this
            refine this.fr ?_ ?_ ?_ ?_ ?_
            · simp (disch := omega) only [wI_ne, wI_eq, wI_nk, wIs_ne, wIs_eq]
              exact sG.2.2.1 1 _ (by omega) (by omega) (by omega)
            · simp (disch := omega) only [wI_ne, wI_eq, wI_nk, wIs_ne, wIs_eq]
              exact sG.2.2.1 2 _ (by omega) (by omega) (by omega)
            · simp (disch := omega) only [wI_ne, wI_eq, wI_nk, wIs_ne, wIs_eq]
              exact sG.2.2.1 3 _ (by omega) (by omega) (by omega)
            · simp (disch := omega) only [wI_ne, wI_eq, wI_nk, wIs_ne, wIs_eq]
              exact sG.2.2.1 4 _ (by omega) (by omega) (by omega)
            · simp (disch := omega) only [wI_ne, wI_eq, wI_nk, wIs_ne, wIs_eq]
              exact sG.2.2.1 5 _ (by omega) (by omega) (by omega)
          · obtain ⟨k', rfl⟩ : ∃ k', k = 1 + NN w e (2 * q) + k' := ⟨k - 1 - NN w e (2 * q), by omega⟩
            rw [lo_u]
            have := sN k' (by omega)
            rw [show i + 1 + NN w e (2 * q) + k' = i + (1 + NN w e (2 * q) + k') by omega] at this
            refine this.fr ?_ ?_ ?_ ?_ ?_
            · simp (disch := omega) only [wI_ne, wI_eq, wI_nk, wIs_ne, wIs_eq]
            · simp (disch := omega) only [wI_ne, wI_eq, wI_nk, wIs_ne, wIs_eq]
            · simp (disch := omega) only [wI_ne, wI_eq, wI_nk, wIs_ne, wIs_eq]
            · simp (disch := omega) only [wI_ne, wI_eq, wI_nk, wIs_ne, wIs_eq]
            · simp (disch := omega) only [wI_ne, wI_eq, wI_nk, wIs_ne, wIs_eq]
      · exact ((((G2.tr bG (by omega)).tr sG (by omega)).tr (Gf.wa _ _ (by omega) (by omega) (Nat.le_refl i)) (Nat.le_refl _)).tr (Gf.wa _ _ (by omega) (by omega) (Nat.le_refl i)) (Nat.le_refl _))
end TR
