/-! The reference's readings of a store. -/
def bI (c : Prop) [Decidable c] : Int32 := if c then nI 1 else nI 0
theorem bI_0 {c : Prop} [Decidable c] : (bI c = nI 0) = ¬ c := by
  unfold bI
  split
  · rename_i h; simp only [h, not_true, eq_iff_iff, iff_false]; decide
  · rename_i h; simp [h]
theorem bI_1 {c : Prop} [Decidable c] : (bI c = nI 1) = c := by
  unfold bI
  split
  · rename_i h; simp [h]
  · rename_i h; simp only [h, eq_iff_iff, iff_false]; decide
theorem bI_g {c : Prop} [Decidable c] : (bI c = nI 0 ∨ bI c = nI 1) = True := by
  rw [bI_0, bI_1]
  by_cases h : c <;> simp [h]
theorem bI_c {c d : Prop} [Decidable c] [Decidable d] (h : c ↔ d) : bI c = bI d := by
  unfold bI
  by_cases hc : c
  · rw [if_pos hc, if_pos (h.mp hc)]
  · rw [if_neg hc, if_neg (fun hd => hc (h.mpr hd))]
theorem bI_t {c : Prop} [Decidable c] (h : c) : bI c = nI 1 := if_pos h
theorem bI_f {c : Prop} [Decidable c] (h : ¬ c) : bI c = nI 0 := if_neg h
def VM (S : Sto) (M : Mm) (m : Nat) : Prop := (∃ k, k < 2 ∧ M.1 m 5 = nI k ∧ M.1 (m + 2) k = nI (S 140) ∧ M.1 (m + 3) k = nI (S 141) ∧ M.1 (m + 4) k = nI (S 142)) ∧ ∀ k, k < 140 → M.1 (m + 1) k = nI (S k)
theorem X11_isIn (fu : Nat) (x l h : Int32) : fX11_isIn fu x l h = some (bI (l ≤ x ∧ x ≤ h)) := by
  unfold fX11_isIn fX11_isIn_j14 fX11_isIn_j15
  by_cases c1 : x < l
  · have : ¬ (l ≤ x ∧ x ≤ h) := fun q => Int32.not_lt.mpr q.1 c1
    rw [bI_f this]
    simp only [c1, if_true]
    rfl
  · by_cases c2 : h < x
    · have : ¬ (l ≤ x ∧ x ≤ h) := fun q => Int32.not_lt.mpr q.2 c2
      rw [bI_f this]
      simp only [c1, c2, if_true, if_false]
      rfl
    · have : (l ≤ x ∧ x ≤ h) := ⟨Int32.not_lt.mp c1, Int32.not_lt.mp c2⟩
      rw [bI_t this]
      simp only [c1, c2, if_false]
      rfl
section MO
variable {fu m : Nat} {S : Sto} {M : Mm}
theorem X11_addresses (hV : VM S M m) (hG : Gd S) : fX11_addresses fu m M = some (nI (2 ^ S 140)) := by
  obtain ⟨⟨k, hk, e1, e2, e3, e4⟩, -⟩ := hV
  have := hG.ad
  have := hG.1
  simp (disch := omega) only [fX11_addresses, e1, e2, zi_lit, zi_m, zi_m1, nI_add, zi_sub, zi_mul, zi_addm, zi_m_lt, zi_lt_m, zi_m_le, zi_le_m, zi_eq_m, zi_m_eq, nI_ltI, nI_leI, nI_eq, nI_clamp, zi_div, lt_eq, bm_s, bi_s, bl_s, bw_s, gd, if_pos, if_neg, ite_true, ite_false, or_false, false_or, and_true, true_and, not_true, not_false_iff, true_or, or_true, Nat.not_lt_zero, zi_shl, Nat.one_mul]
theorem X11_pages (hV : VM S M m) (hG : Gd S) : fX11_pages fu m M = some (nI (2 ^ S 140 / 16)) := by
  have := hG.ad
  simp (disch := omega) only [fX11_pages, X11_addresses hV hG, zi_lit, zi_m, zi_m1, nI_add, zi_sub, zi_mul, zi_addm, zi_m_lt, zi_lt_m, zi_m_le, zi_le_m, zi_eq_m, zi_m_eq, nI_ltI, nI_leI, nI_eq, nI_clamp, zi_div, lt_eq, bm_s, bi_s, bl_s, bw_s, gd]
theorem X11_registersNow (hV : VM S M m) : fX11_registersNow fu m M = some (nI (S 141)) := by
  obtain ⟨⟨k, hk, e1, e2, e3, e4⟩, -⟩ := hV
  simp (disch := omega) only [fX11_registersNow, e1, e3, zi_lit, zi_m, zi_m1, nI_add, zi_sub, zi_mul, zi_addm, zi_m_lt, zi_lt_m, zi_m_le, zi_le_m, zi_eq_m, zi_m_eq, nI_ltI, nI_leI, nI_eq, nI_clamp, zi_div, lt_eq, bm_s, bi_s, bl_s, bw_s, gd, if_pos, if_neg, ite_true, ite_false, or_false, false_or, and_true, true_and, not_true, not_false_iff, true_or, or_true, Nat.not_lt_zero]
theorem X11_isFixed (hV : VM S M m) (hG : Gd S) {x : Nat} (hx : x < 2 ^ 31) : fX11_isFixed fu m (nI x) M = some (bI (x < S 142)) := by
  obtain ⟨⟨k, hk, e1, e2, e3, e4⟩, -⟩ := hV
  have := hG.2.1 142
  simp (disch := omega) only [fX11_isFixed_j18, fX11_isFixed, e1, e4, zi_lit, zi_m, zi_m1, nI_add, zi_sub, zi_mul, zi_addm, zi_m_lt, zi_lt_m, zi_m_le, zi_le_m, zi_eq_m, zi_m_eq, nI_ltI, nI_leI, nI_eq, nI_clamp, zi_div, lt_eq, bm_s, bi_s, bl_s, bw_s, gd, if_pos, if_neg, ite_true, ite_false, or_false, false_or, and_true, true_and, not_true, not_false_iff, true_or, or_true, Nat.not_lt_zero]
  by_cases c : x < S 142
  · simp (disch := omega) only [if_pos, if_neg, ite_true, ite_false, or_false, false_or, and_true, true_and, not_true, not_false_iff, true_or, or_true, Nat.not_lt_zero, bI_t c]
  · simp (disch := omega) only [if_pos, if_neg, ite_true, ite_false, or_false, false_or, and_true, true_and, not_true, not_false_iff, true_or, or_true, Nat.not_lt_zero, bI_f c]
theorem X11_baseOf (hV : VM S M m) {r : Nat} (hr : r < 10) : fX11_baseOf fu m (nI r) M = some (nI (S (38 + 3 * r))) := by
  simp (disch := omega) only [fX11_baseOf, zi_lit, zi_m, zi_m1, nI_add, zi_sub, zi_mul, zi_addm, zi_m_lt, zi_lt_m, zi_m_le, zi_le_m, zi_eq_m, zi_m_eq, nI_ltI, nI_leI, nI_eq, nI_clamp, zi_div, lt_eq, bm_s, bi_s, bl_s, bw_s, gd, if_pos, if_neg, ite_true, ite_false, or_false, false_or, and_true, true_and, not_true, not_false_iff, true_or, or_true, Nat.not_lt_zero, hV.2 (38 + 3 * r) (by omega)]
theorem X11_sizeOf (hV : VM S M m) {r : Nat} (hr : r < 10) : fX11_sizeOf fu m (nI r) M = some (nI (S (39 + 3 * r))) := by
  have e : 38 + 3 * r + 1 = 39 + 3 * r := by omega
  simp (disch := omega) only [fX11_sizeOf, zi_lit, zi_m, zi_m1, nI_add, zi_sub, zi_mul, zi_addm, zi_m_lt, zi_lt_m, zi_m_le, zi_le_m, zi_eq_m, zi_m_eq, nI_ltI, nI_leI, nI_eq, nI_clamp, zi_div, lt_eq, bm_s, bi_s, bl_s, bw_s, gd, if_pos, if_neg, ite_true, ite_false, or_false, false_or, and_true, true_and, not_true, not_false_iff, true_or, or_true, Nat.not_lt_zero, e, hV.2 (39 + 3 * r) (by omega)]
theorem X11_kindOf (hV : VM S M m) {r : Nat} (hr : r < 10) : fX11_kindOf fu m (nI r) M = some (nI (S (40 + 3 * r))) := by
  have e : 38 + 3 * r + 2 = 40 + 3 * r := by omega
  simp (disch := omega) only [fX11_kindOf, zi_lit, zi_m, zi_m1, nI_add, zi_sub, zi_mul, zi_addm, zi_m_lt, zi_lt_m, zi_m_le, zi_le_m, zi_eq_m, zi_m_eq, nI_ltI, nI_leI, nI_eq, nI_clamp, zi_div, lt_eq, bm_s, bi_s, bl_s, bw_s, gd, if_pos, if_neg, ite_true, ite_false, or_false, false_or, and_true, true_and, not_true, not_false_iff, true_or, or_true, Nat.not_lt_zero, e, hV.2 (40 + 3 * r) (by omega)]
theorem X11_wantedAt (hfu : 200000 ≤ fu) (hV : VM S M m) (hG : Gd S) {x : Nat} (hx : x < 2 ^ 31) : fX11_wantedAt fu m (nI x) M = some (nI (wtS S (S 0) x)) := by
  unfold fX11_wantedAt fX11_wantedAt_l9
  have hr := hG.1.2.2.2.2.2
  simp (disch := omega) only [zi_lit, zi_m, zi_m1, nI_add, zi_sub, zi_mul, zi_addm, zi_m_lt, zi_lt_m, zi_m_le, zi_le_m, zi_eq_m, zi_m_eq, nI_ltI, nI_leI, nI_eq, nI_clamp, zi_div, lt_eq, bm_s, bi_s, bl_s, bw_s, gd, hV.2 0]
  refine lp_up (fun i => (nI (wtN S (S 0) x i), nI i)) (S 1) (by omega) (fun i hi rec => ?_) (fun rec => ?_)
  · have b1 := hG.2.1 (2 + 3 * i)
    have b2 := hG.2.1 (3 + 3 * i)
    have e1 : 2 + 3 * i + 1 = 3 + 3 * i := by omega
    have e2 : 2 + 3 * i + 2 = 4 + 3 * i := by omega
    simp (disch := omega) only [fX11_wantedAt_j67, fX11_wantedAt_j61, fX11_wantedAt_b9, fX11_wantedAt, zi_lit, zi_m, zi_m1, nI_add, zi_sub, zi_mul, zi_addm, zi_m_lt, zi_lt_m, zi_m_le, zi_le_m, zi_eq_m, zi_m_eq, nI_ltI, nI_leI, nI_eq, nI_clamp, zi_div, lt_eq, bm_s, bi_s, bl_s, bw_s, gd, if_pos, if_neg, ite_true, ite_false, or_false, false_or, and_true, true_and, not_true, not_false_iff, true_or, or_true, Nat.not_lt_zero, hV.2 1, e1, e2, hV.2 (2 + 3 * i), hV.2 (3 + 3 * i), hV.2 (4 + 3 * i), X11_isIn, bI_0, wtN]
    by_cases c : S (2 + 3 * i) ≤ x ∧ x ≤ S (3 + 3 * i)
    · simp (disch := omega) only [if_pos, if_neg, ite_true, ite_false, or_false, false_or, and_true, true_and, not_true, not_false_iff, true_or, or_true, Nat.not_lt_zero, c]
    · simp (disch := omega) only [if_pos, if_neg, ite_true, ite_false, or_false, false_or, and_true, true_and, not_true, not_false_iff, true_or, or_true, Nat.not_lt_zero, c]
  · simp (disch := omega) only [fX11_wantedAt_j67, fX11_wantedAt_j61, fX11_wantedAt_b9, fX11_wantedAt, zi_lit, zi_m, zi_m1, nI_add, zi_sub, zi_mul, zi_addm, zi_m_lt, zi_lt_m, zi_m_le, zi_le_m, zi_eq_m, zi_m_eq, nI_ltI, nI_leI, nI_eq, nI_clamp, zi_div, lt_eq, bm_s, bi_s, bl_s, bw_s, gd, if_pos, if_neg, ite_true, ite_false, or_false, false_or, and_true, true_and, not_true, not_false_iff, true_or, or_true, Nat.not_lt_zero, hV.2 1]
    rfl
theorem tg_row : ∀ k, k < 32 → ¬ k = 0 → ¬ k % 2 = 1 → ¬ k = 20 → tgN k 0 = if k = 2 then 1 else if k = 4 then 2 else if k = 8 then 3 else if k = 16 then 4 else 5 := by decide
theorem X11_together (hfu : 200000 ≤ fu) (hV : VM S M m) {k : Nat} (hk : k < 32) : fX11_together fu m (nI k) M = some (nI (tgN k (S 0))) := by
  unfold fX11_together fX11_together_l30 tgN
  have e1 : k &&& 1 = k % 2 := Nat.and_one_is_mod k
  simp (disch := omega) only [zi_lit, zi_m, zi_m1, nI_add, zi_sub, zi_mul, zi_addm, zi_m_lt, zi_lt_m, zi_m_le, zi_le_m, zi_eq_m, zi_m_eq, nI_ltI, nI_leI, nI_eq, nI_clamp, zi_div, lt_eq, bm_s, bi_s, bl_s, bw_s, gd, zi_and, e1, hV.2 0]
  by_cases c0 : k = 0
  · simp (disch := omega) only [if_pos, if_neg, ite_true, ite_false, or_false, false_or, and_true, true_and, not_true, not_false_iff, true_or, or_true, Nat.not_lt_zero, c0]
  by_cases c1 : k % 2 = 1
  · simp (disch := omega) only [if_pos, if_neg, ite_true, ite_false, or_false, false_or, and_true, true_and, not_true, not_false_iff, true_or, or_true, Nat.not_lt_zero, c0]
  by_cases c2 : k = 20
  · simp (disch := omega) only [if_pos, if_neg, ite_true, ite_false, or_false, false_or, and_true, true_and, not_true, not_false_iff, true_or, or_true, Nat.not_lt_zero]
  simp (disch := omega) only [if_pos, if_neg, ite_true, ite_false, or_false, false_or, and_true, true_and, not_true, not_false_iff, true_or, or_true, Nat.not_lt_zero]
  obtain ⟨f, rfl⟩ : ∃ f, fu = f + 5 := ⟨fu - 5, by omega⟩
  simp (disch := omega) only [lp_S, fX11_together_j50, fX11_together_j42, fX11_together_b30, fX11_together, zi_lit, zi_m, zi_m1, nI_add, zi_sub, zi_mul, zi_addm, zi_m_lt, zi_lt_m, zi_m_le, zi_le_m, zi_eq_m, zi_m_eq, nI_ltI, nI_leI, nI_eq, nI_clamp, zi_div, lt_eq, bm_s, bi_s, bl_s, bw_s, gd, if_pos, if_neg, ite_true, ite_false, or_false, false_or, and_true, true_and, not_true, not_false_iff, true_or, or_true, Nat.not_lt_zero, zi_shl]
  by_cases d1 : k = 2
  · simp [d1]
  by_cases d2 : k = 4
  · simp [d2]
  by_cases d3 : k = 8
  · simp [d3]
  by_cases d4 : k = 16
  · simp [d4]
  simp [d1, d2, d3, d4]
theorem X11_hasIt (hV : VM S M m) (hG : Gd S) {r x : Nat} (hr : r < S 141) (hx : x < 2 ^ 31) : fX11_hasIt fu m (nI r) (nI x) M = some (bI (S (38 + 3 * r) ≤ x ∧ x < S (38 + 3 * r) + S (39 + 3 * r))) := by
  have b0 := hG.1.2.2.2.1
  have b1 := hG.2.1 (38 + 3 * r)
  have b2 := hG.2.1 (39 + 3 * r)
  simp (disch := omega) only [fX11_hasIt_j38, fX11_hasIt_j37, fX11_hasIt, X11_sizeOf hV (r := r), X11_baseOf hV (r := r), zi_lit, zi_m, zi_m1, nI_add, zi_sub, zi_mul, zi_addm, zi_m_lt, zi_lt_m, zi_m_le, zi_le_m, zi_eq_m, zi_m_eq, nI_ltI, nI_leI, nI_eq, nI_clamp, zi_div, lt_eq, bm_s, bi_s, bl_s, bw_s, gd]
  by_cases c0 : S (39 + 3 * r) ≤ 0
  · simp (disch := omega) only [if_pos, if_neg, ite_true, ite_false, or_false, false_or, and_true, true_and, not_true, not_false_iff, true_or, or_true, Nat.not_lt_zero]
    rw [bI_f (by omega)]
  · simp (disch := omega) only [if_pos, if_neg, ite_true, ite_false, or_false, false_or, and_true, true_and, not_true, not_false_iff, true_or, or_true, Nat.not_lt_zero, zi_lit, zi_m, zi_m1, nI_add, zi_sub, zi_mul, zi_addm, zi_m_lt, zi_lt_m, zi_m_le, zi_le_m, zi_eq_m, zi_m_eq, nI_ltI, nI_leI, nI_eq, nI_clamp, zi_div, lt_eq, bm_s, bi_s, bl_s, bw_s, gd, X11_isIn, bI_0]
    by_cases c : S (38 + 3 * r) ≤ x ∧ x ≤ S (38 + 3 * r) + S (39 + 3 * r) - 1
    · rw [if_neg (by simp [c]), bI_t (by omega)]
    · rw [if_pos c, bI_f (by omega)]
theorem X11_setAt (hfu : 200000 ≤ fu) (hV : VM S M m) (hG : Gd S) {x but : Nat} {v : Int32} (hx : x < 2 ^ 31) (hv : ∀ i, i < 10 → (nI i = v ↔ i = but)) : fX11_setAt fu m (nI x) v M = some (nI (ksS S x but)) := by
  unfold fX11_setAt fX11_setAt_l5
  have hr := hG.1.2.2.2.1
  refine lp_up (fun i => (nI (ksN S x but i), nI i)) (S 141) (by omega) (fun i hi rec => ?_) (fun rec => ?_)
  · have b3 := hG.rk hi
    have b4 := ksN_lt hG x but i (by omega)
    have b5 := pow2_lt32 b3
    simp (disch := omega) only [fX11_setAt_j47, fX11_setAt_j41, fX11_setAt_b5, fX11_setAt, X11_registersNow hV, X11_hasIt hV hG hi hx, X11_kindOf hV (r := i), zi_lit, zi_m, zi_m1, nI_add, zi_sub, zi_mul, zi_addm, zi_m_lt, zi_lt_m, zi_m_le, zi_le_m, zi_eq_m, zi_m_eq, nI_ltI, nI_leI, nI_eq, nI_clamp, zi_div, lt_eq, bm_s, bi_s, bl_s, bw_s, gd, if_pos, if_neg, ite_true, ite_false, or_false, false_or, and_true, true_and, not_true, not_false_iff, true_or, or_true, Nat.not_lt_zero, zi_shl, zi_or, Nat.one_mul, ksN, bI_0]
    by_cases c0 : i = but
    · have := (hv i (by omega)).mpr c0
      rw [if_pos this, if_neg (by simp [c0])]
    · have : ¬ nI i = v := fun h => c0 ((hv i (by omega)).mp h)
      rw [if_neg this]
      by_cases c : S (38 + 3 * i) ≤ x ∧ x < S (38 + 3 * i) + S (39 + 3 * i)
      · rw [if_neg (by simp [c]), if_pos ⟨c0, c⟩]
      · rw [if_pos c, if_neg (fun q => c q.2)]
  · simp (disch := omega) only [fX11_setAt_j47, fX11_setAt_j41, fX11_setAt_b5, fX11_setAt, X11_registersNow hV, zi_lit, zi_m, zi_m1, nI_add, zi_sub, zi_mul, zi_addm, zi_m_lt, zi_lt_m, zi_m_le, zi_le_m, zi_eq_m, zi_m_eq, nI_ltI, nI_leI, nI_eq, nI_clamp, zi_div, lt_eq, bm_s, bi_s, bl_s, bw_s, gd, if_pos, if_neg, ite_true, ite_false, or_false, false_or, and_true, true_and, not_true, not_false_iff, true_or, or_true, Nat.not_lt_zero]
    rfl
theorem fx_div {S : Sto} (hG : Gd S) {x : Nat} (h : x < S 142) : 8 ≤ S 142 ∧ x / (S 142 / 8) = x * 8 / S 142 ∧ ¬ S 142 / 8 = 0 := by
  rcases hG.2.2.1 with h0 | ⟨n, h1, h2, h3⟩
  · omega
  · obtain ⟨j, rfl⟩ : ∃ j, n = j + 3 := ⟨n - 3, by omega⟩
    have h4 : S 142 = 2 ^ j * 8 := by rw [h3, Nat.pow_add]
    have h5 : 1 ≤ 2 ^ j := Nat.one_le_two_pow
    rw [h4]
    refine ⟨by omega, ?_, by omega⟩
    rw [Nat.mul_div_cancel _ (by decide), Nat.mul_div_mul_right _ _ (by decide)]
theorem X11_kindWithout (hfu : 200000 ≤ fu) (hV : VM S M m) (hG : Gd S) {x but : Nat} {v : Int32} (hx : x < 2 ^ 31) (hv : ∀ i, i < 10 → (nI i = v ↔ i = but)) : fX11_kindWithout fu m (nI x) v M = some (nI (kdS S x but)) := by
  unfold fX11_kindWithout kdS
  have b0 := hG.2.1 142
  by_cases c : x < S 142
  · obtain ⟨f1, f2, f3⟩ := fx_div hG c
    have f4 := fx8 hG c
    have hV2 := hV.2 (68 + x * 8 / S 142) (by omega)
    rw [X11_isFixed hV hG hx]
    obtain ⟨⟨k, hk, e1, e2, e3, e4⟩, -⟩ := hV
    simp (disch := omega) only [zi_lit, zi_m, zi_m1, nI_add, zi_sub, zi_mul, zi_addm, zi_m_lt, zi_lt_m, zi_m_le, zi_le_m, zi_eq_m, zi_m_eq, nI_ltI, nI_leI, nI_eq, nI_clamp, zi_div, lt_eq, bm_s, bi_s, bl_s, bw_s, gd, bI_0, if_pos, if_neg, ite_true, ite_false, or_false, false_or, and_true, true_and, not_true, not_false_iff, true_or, or_true, Nat.not_lt_zero, c, e1, e4, f2, hV2]
  · have := ksS_lt hG x but
    simp (disch := omega) only [X11_isFixed hV hG hx, zi_lit, zi_m, zi_m1, nI_add, zi_sub, zi_mul, zi_addm, zi_m_lt, zi_lt_m, zi_m_le, zi_le_m, zi_eq_m, zi_m_eq, nI_ltI, nI_leI, nI_eq, nI_clamp, zi_div, lt_eq, bm_s, bi_s, bl_s, bw_s, gd, bI_0, if_pos, if_neg, ite_true, ite_false, or_false, false_or, and_true, true_and, not_true, not_false_iff, true_or, or_true, Nat.not_lt_zero, c, X11_setAt hfu hV hG hx hv, X11_together hfu hV this]
theorem none_but : ∀ i, i < 10 → (nI i = -1 ↔ i = 99) := by decide +kernel
theorem reg_but {r : Nat} (hr : r < 10) : ∀ i, i < 10 → (nI i = nI r ↔ i = r) := fun i hi => nI_eq (by omega) (by omega)
theorem X11_kindAt (hfu : 200000 ≤ fu) (hV : VM S M m) (hG : Gd S) {x : Nat} (hx : x < 2 ^ 31) : fX11_kindAt fu m (nI x) M = some (nI (kdS S x 99)) := by
  unfold fX11_kindAt
  rw [X11_kindWithout hfu hV hG hx none_but, bi_s]
def snN (p k : Nat) : Nat := if p = 5 then k else if k = 5 then 5 else if (p = 2 ∧ k = 3) ∨ (p = 3 ∧ k = 2) then 0 else if p < k then p else k
theorem X11_seenAs : ∀ p, p < 6 → ∀ k, k < 6 → fX11_seenAs fu (nI p) (nI k) = some (nI (snN p k)) := by
  intro p hp k hk
  simp (disch := omega) only [fX11_seenAs_j43, fX11_seenAs_j38, fX11_seenAs_j34, fX11_seenAs_j24, fX11_seenAs, fX11_less_j10, fX11_less, zi_lit, zi_m, zi_m1, nI_add, zi_sub, zi_mul, zi_addm, zi_m_lt, zi_lt_m, zi_m_le, zi_le_m, zi_eq_m, zi_m_eq, nI_ltI, nI_leI, nI_eq, nI_clamp, zi_div, lt_eq, bm_s, bi_s, bl_s, bw_s, gd, snN]
  have h1 : p = 0 ∨ p = 1 ∨ p = 2 ∨ p = 3 ∨ p = 4 ∨ p = 5 := by omega
  have h2 : k = 0 ∨ k = 1 ∨ k = 2 ∨ k = 3 ∨ k = 4 ∨ k = 5 := by omega
  rcases h1 with rfl | rfl | rfl | rfl | rfl | rfl <;> rcases h2 with rfl | rfl | rfl | rfl | rfl | rfl <;> rfl
theorem snN_le {p k : Nat} (hp : p ≤ 5) (hk : k ≤ 5) : snN p k ≤ 5 := by
  unfold snN
  repeat' split
  all_goals omega
def sdS (S : Sto) (x : Nat) : Nat := snN (S (76 + x / 16)) (kdS S x 99)
theorem pg_div {S : Sto} (hG : Gd S) {x : Nat} (hx : x < 2 ^ S 140) : x / 16 < 2 ^ S 140 / 16 := by
  obtain ⟨n, hn⟩ : ∃ n, S 140 = n + 4 := ⟨S 140 - 4, by have := hG.1.1; omega⟩
  rw [hn, Nat.pow_add] at hx ⊢
  omega
theorem X11_seenAt (hfu : 200000 ≤ fu) (hV : VM S M m) (hG : Gd S) {x : Nat} (hx : x < 2 ^ S 140) : fX11_seenAt fu m (nI x) M = some (nI (sdS S x)) := by
  have h1 := hG.ad
  have h2 := pg_div hG hx
  have h3 := hG.2.2.2.2.2.2.2 (x / 16) h2
  have h4 := kdS_le hG x 99
  have h5 : 2 ^ S 140 / 16 ≤ 64 := by omega
  unfold fX11_seenAt
  simp (disch := omega) only [zi_lit, zi_m, zi_m1, nI_add, zi_sub, zi_mul, zi_addm, zi_m_lt, zi_lt_m, zi_m_le, zi_le_m, zi_eq_m, zi_m_eq, nI_ltI, nI_leI, nI_eq, nI_clamp, zi_div, lt_eq, bm_s, bi_s, bl_s, bw_s, gd, if_pos, if_neg, ite_true, ite_false, or_false, false_or, and_true, true_and, not_true, not_false_iff, true_or, or_true, Nat.not_lt_zero, X11_kindAt hfu hV hG (x := x), hV.2 (76 + x / 16)]
  rw [X11_seenAs _ (by omega) _ (by omega)]
  rfl
end MO
