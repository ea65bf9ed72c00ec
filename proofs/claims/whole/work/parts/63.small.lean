/-! The class's readings of a store. -/
theorem tg_X : ∀ k, k < 32 → ¬ k = 0 → fX10_together 0 (nI k) 0 = some (nI (tgN k 0)) := by decide +kernel
theorem X10_together {fu k d : Nat} (hk : k < 32) : fX10_together fu (nI k) (nI d) = some (nI (tgN k d)) := by
  by_cases c : k = 0
  · subst c; rfl
  · have e : ¬ nI k = 0 := nI_ne0 (by omega) (by omega)
    have h1 : fX10_together fu (nI k) (nI d) = fX10_together 0 (nI k) 0 := by
      unfold fX10_together
      rw [if_neg e, if_neg e]
      rfl
    have h2 : tgN k d = tgN k 0 := by
      unfold tgN
      rw [if_neg c, if_neg c]
    rw [h1, h2, tg_X k hk c]
section SX2
variable {fu b : Nat} {S : Sto} {M : Mm}
theorem X8_kindAt (hfu : 200000 ≤ fu) (hV : VX S M b) (hG : Gd S) {x but : Nat} {v : Int32} (hx : x < 2 ^ 28) (hv : ∀ i, i < 10 → (nI i = v ↔ i = but)) : fX8_kindAt fu b (nI x) v M = some (nI (kdS S x but)) := by
  unfold fX8_kindAt kdS
  have b0 := hG.2.1 142
  by_cases c : x < S 142
  · have f4 := fx8 hG c
    have hV2 := hV.2.2.1 (by omega) (x * 8 / S 142) f4
    simp (disch := omega) only [hV.1.2.2.2.2, zi_lit, zi_m, zi_m1, nI_add, zi_sub, zi_mul, zi_addm, zi_m_lt, zi_lt_m, zi_m_le, zi_le_m, zi_eq_m, zi_m_eq, nI_ltI, nI_leI, nI_eq, nI_clamp, zi_div, lt_eq, bm_s, bi_s, bl_s, bw_s, gd, if_pos, if_neg, ite_true, ite_false, or_false, false_or, and_true, true_and, not_true, not_false_iff, true_or, or_true, Nat.not_lt_zero, hV2, c]
  · have := ksS_lt hG x but
    simp (disch := omega) only [hV.1.2.2.2.2, hV.1.2.2.1, zi_lit, zi_m, zi_m1, nI_add, zi_sub, zi_mul, zi_addm, zi_m_lt, zi_lt_m, zi_m_le, zi_le_m, zi_eq_m, zi_m_eq, nI_ltI, nI_leI, nI_eq, nI_clamp, zi_div, lt_eq, bm_s, bi_s, bl_s, bw_s, gd, if_pos, if_neg, ite_true, ite_false, or_false, false_or, and_true, true_and, not_true, not_false_iff, true_or, or_true, Nat.not_lt_zero, c, X8_kindsOver hfu hV hG (x := x) (but := but) (v := v) (by omega) hv, X10_together this]
theorem seen_T : ∀ p, p < 6 → ∀ k, k < 6 → seenT.getD (p * 6 + k) (nI 0) = nI (snN p k) := by decide +kernel
theorem X8_seenAs (hV : VX S M b) (hG : Gd S) {x k : Nat} (hx : x < 2 ^ S 140) (hk : k ≤ 5) : fX8_seenAs fu b (nI x) (nI k) M = some (nI (snN (S (76 + x / 16)) k)) := by
  have h1 := hG.ad
  have h2 := pg_div hG hx
  have h3 := hG.2.2.2.2.2.2.2 (x / 16) h2
  have h5 : 2 ^ S 140 / 16 ≤ 64 := by omega
  unfold fX8_seenAs
  simp (disch := omega) only [zi_lit, zi_m, zi_m1, nI_add, zi_sub, zi_mul, zi_addm, zi_m_lt, zi_lt_m, zi_m_le, zi_le_m, zi_eq_m, zi_m_eq, nI_ltI, nI_leI, nI_eq, nI_clamp, zi_div, lt_eq, bm_s, bi_s, bl_s, bw_s, gd, if_pos, if_neg, ite_true, ite_false, or_false, false_or, and_true, true_and, not_true, not_false_iff, true_or, or_true, Nat.not_lt_zero, hV.2.2.2.2 (x / 16) h2]
  rw [seen_T _ (by omega) _ (by omega)]
theorem X8_pages (hV : VX S M b) (hG : Gd S) : fX8_pages fu b M = some (nI (2 ^ S 140 / 16)) := by
  have := hG.ad
  simp (disch := omega) only [fX8_pages, hV.1.1, zi_lit, zi_m, zi_m1, nI_add, zi_sub, zi_mul, zi_addm, zi_m_lt, zi_lt_m, zi_m_le, zi_le_m, zi_eq_m, zi_m_eq, nI_ltI, nI_leI, nI_eq, nI_clamp, zi_div, lt_eq, bm_s, bi_s, bl_s, bw_s, gd]
theorem i32_cases (x : Int32) : x < 0 ∨ ∃ j : Nat, j < 2 ^ 31 ∧ x = nI j := by
  by_cases h : x < 0
  · exact Or.inl h
  · exact Or.inr (nI_of h)
theorem neg_lt {x : Int32} (h : x < 0) {a : Nat} (ha : a < 2 ^ 31) : x < nI a := by
  rw [Int32.lt_iff_toInt_lt] at h ⊢
  rw [nI_toInt ha]
  have : (0 : Int32).toInt = 0 := by decide
  omega
theorem neg_le {x : Int32} (h : x < 0) {a : Nat} (ha : a < 2 ^ 31) : x ≤ nI a := Int32.le_of_lt (neg_lt h ha)
theorem neg_nle {x : Int32} (h : x < 0) {a : Nat} (ha : a < 2 ^ 31) : ¬ nI a ≤ x := Int32.not_le.mpr (neg_lt h ha)
theorem neg_ne {x : Int32} (h : x < 0) {a : Nat} (ha : a < 2 ^ 31) : ¬ x = nI a := fun e => by
  subst e
  exact neg_nle h ha (Int32.le_refl _)
/-- a place that is asked for: there, or not -/
def isB (x : Int32) (n : Nat) : Prop := nI 0 ≤ x ∧ x < nI n
theorem isB_of {x : Int32} {n : Nat} (h : isB x n) (hn : n < 2 ^ 31) : ∃ j, j < n ∧ x = nI j := by
  obtain ⟨h1, h2⟩ := h
  rcases i32_cases x with h0 | ⟨j, hj, rfl⟩
  · exact absurd h1 (neg_nle h0 (by omega))
  · exact ⟨j, (nI_ltI hj hn).mp h2, rfl⟩
theorem isB_not {x : Int32} {n : Nat} (h : ¬ isB x n) (hn : n < 2 ^ 31) : x < 0 ∨ ∃ j : Nat, j < 2 ^ 31 ∧ n ≤ j ∧ x = nI j := by
  rcases i32_cases x with h0 | ⟨j, hj, rfl⟩
  · exact Or.inl h0
  · refine Or.inr ⟨j, hj, ?_, rfl⟩
    by_cases c : n ≤ j
    · exact c
    · exact absurd ⟨(nI_leI (by omega) hj).mpr (Nat.zero_le _), (nI_ltI hj hn).mpr (by omega)⟩ h
end SX2
