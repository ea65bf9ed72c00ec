/-! The class's store: what is asked of it, what changes it. -/
def upS (S : Sto) (k v : Nat) : Sto := fun j => if j = k then v else S j
def putS (S : Sto) (r x y z : Nat) : Sto := fun j => if j = 38 + 3 * r then x else if j = 39 + 3 * r then y else if j = 40 + 3 * r then z else S j
def blkP (t : Nat) (x y : Int32) : Prop := ∃ e q : Nat, e ≤ t ∧ y = nI (2 ^ e) ∧ x = nI (q * 2 ^ e) ∧ q * 2 ^ e + 2 ^ e ≤ 2 ^ t
section MU
variable {fu b : Nat} {S : Sto} {M : Mm}
theorem X8_put {r : Nat} (hr : r < 10) (x y k : Int32) : fX8_put fu b (nI r) x y k M = some (wI (wI (wI M (b + 5) r x) (b + 6) r y) (b + 7) r k) := by
  simp (disch := omega) only [fX8_put, zi_lit, zi_m, zi_m1, nI_add, zi_sub, zi_mul, zi_addm, zi_m_lt, zi_lt_m, zi_m_le, zi_le_m, zi_eq_m, zi_m_eq, nI_ltI, nI_leI, nI_eq, nI_clamp, zi_div, lt_eq, bm_s, bi_s, bl_s, bw_s, gd, if_pos, if_neg, ite_true, ite_false, or_false, false_or, and_true, true_and, not_true, not_false_iff, true_or, or_true, Nat.not_lt_zero]
theorem VX.put (hV : VX S M b) (hG : Gd S) {r : Nat} (hr : r < S 141) (x y k : Nat) : VX (putS S r x y k) (wI (wI (wI M (b + 5) r (nI x)) (b + 6) r (nI y)) (b + 7) r (nI k)) b := by
  have h10 := hG.1.2.2.2.1
  have h12 := hG.1.2.2.2.2.2
  have e : ∀ j, j < 38 ∨ 68 ≤ j → putS S r x y k j = S j := fun j hj => by
    unfold putS
    rw [if_neg (by omega), if_neg (by omega), if_neg (by omega)]
  obtain ⟨⟨a0, a1, a2, a3, a4⟩, a5, a6, a7, a8⟩ := hV
  unfold VX
  rw [e 140 (by omega), e 141 (by omega), e 142 (by omega), e 0 (by omega), e 1 (by omega)]
  refine ⟨⟨?_, ?_, ?_, ?_, ?_⟩, fun i hi => ?_, fun h p hp => ?_, fun i hi => ?_, fun p hp => ?_⟩
  · simp (disch := omega) only [wI_ne, wI_eq, wI_nk, wIs_ne, wIs_eq, a0]
  · simp (disch := omega) only [wI_ne, wI_eq, wI_nk, wIs_ne, wIs_eq, a1]
  · simp (disch := omega) only [wI_ne, wI_eq, wI_nk, wIs_ne, wIs_eq, a2]
  · simp (disch := omega) only [wI_ne, wI_eq, wI_nk, wIs_ne, wIs_eq, a3]
  · simp (disch := omega) only [wI_ne, wI_eq, wI_nk, wIs_ne, wIs_eq, a4]
  · rw [e _ (by omega), e _ (by omega), e _ (by omega)]
    simp (disch := omega) only [wI_ne, wI_eq, wI_nk, wIs_ne, wIs_eq]
    exact a5 i hi
  · rw [e _ (by omega)]
    simp (disch := omega) only [wI_ne, wI_eq, wI_nk, wIs_ne, wIs_eq]
    exact a6 h p hp
  · by_cases c : i = r
    · subst c
      simp (disch := omega) only [wI_ne, wI_eq, wI_nk, wIs_ne, wIs_eq, putS, if_pos, if_neg, ite_true, ite_false, or_false, false_or, and_true, true_and, not_true, not_false_iff, true_or, or_true, Nat.not_lt_zero]
    · simp (disch := omega) only [wI_ne, wI_eq, wI_nk, wIs_ne, wIs_eq, putS, if_pos, if_neg, ite_true, ite_false, or_false, false_or, and_true, true_and, not_true, not_false_iff, true_or, or_true, Nat.not_lt_zero]
      exact a7 i hi
  · rw [e _ (by omega)]
    simp (disch := omega) only [wI_ne, wI_eq, wI_nk, wIs_ne, wIs_eq]
    exact a8 p hp
theorem X8_hasAddress (hV : VX S M b) (hG : Gd S) (x : Int32) : ∃ v, fX8_hasAddress fu b x M = some v ∧ ((v = nI 1 ∧ ∃ j, j < 2 ^ S 140 ∧ x = nI j) ∨ (v = nI 0 ∧ ∀ j, j < 2 ^ S 140 → x ≠ nI j)) := by
  have h1 := hG.ad
  unfold fX8_hasAddress fX8_hasAddress_j16 fX8_hasAddress_j17
  rw [hV.1.1]
  rcases i32_cases x with h | ⟨j, hj, rfl⟩
  · rw [if_pos h]
    exact ⟨nI 0, rfl, Or.inr ⟨rfl, fun j hj e => neg_ne h (by omega) e⟩⟩
  · simp (disch := omega) only [zi_lit, zi_m, zi_m1, nI_add, zi_sub, zi_mul, zi_addm, zi_m_lt, zi_lt_m, zi_m_le, zi_le_m, zi_eq_m, zi_m_eq, nI_ltI, nI_leI, nI_eq, nI_clamp, zi_div, lt_eq, bm_s, bi_s, bl_s, bw_s, gd, if_pos, if_neg, ite_true, ite_false, or_false, false_or, and_true, true_and, not_true, not_false_iff, true_or, or_true, Nat.not_lt_zero]
    by_cases c : 2 ^ S 140 ≤ j
    · refine ⟨nI 0, by simp (disch := omega) only [if_pos, if_neg, ite_true, ite_false, or_false, false_or, and_true, true_and, not_true, not_false_iff, true_or, or_true, Nat.not_lt_zero], Or.inr ⟨rfl, fun i hi e => ?_⟩⟩
      rw [nI_eq (by omega) (by omega)] at e
      omega
    · exact ⟨nI 1, by simp (disch := omega) only [if_pos, if_neg, ite_true, ite_false, or_false, false_or, and_true, true_and, not_true, not_false_iff, true_or, or_true, Nat.not_lt_zero], Or.inl ⟨rfl, j, by omega, rfl⟩⟩
theorem X8_hasRegister (hV : VX S M b) (hG : Gd S) (x : Int32) : ∃ v, fX8_hasRegister fu b x M = some v ∧ ((v = nI 1 ∧ ∃ j, j < S 141 ∧ x = nI j) ∨ (v = nI 0 ∧ ∀ j, j < S 141 → x ≠ nI j)) := by
  have h1 := hG.1
  unfold fX8_hasRegister fX8_hasRegister_j16 fX8_hasRegister_j17
  rw [hV.1.2.1]
  rcases i32_cases x with h | ⟨j, hj, rfl⟩
  · rw [if_pos h]
    exact ⟨nI 0, rfl, Or.inr ⟨rfl, fun j hj e => neg_ne h (by omega) e⟩⟩
  · simp (disch := omega) only [zi_lit, zi_m, zi_m1, nI_add, zi_sub, zi_mul, zi_addm, zi_m_lt, zi_lt_m, zi_m_le, zi_le_m, zi_eq_m, zi_m_eq, nI_ltI, nI_leI, nI_eq, nI_clamp, zi_div, lt_eq, bm_s, bi_s, bl_s, bw_s, gd, if_pos, if_neg, ite_true, ite_false, or_false, false_or, and_true, true_and, not_true, not_false_iff, true_or, or_true, Nat.not_lt_zero]
    by_cases c : S 141 ≤ j
    · refine ⟨nI 0, by simp (disch := omega) only [if_pos, if_neg, ite_true, ite_false, or_false, false_or, and_true, true_and, not_true, not_false_iff, true_or, or_true, Nat.not_lt_zero], Or.inr ⟨rfl, fun i hi e => ?_⟩⟩
      rw [nI_eq (by omega) (by omega)] at e
      omega
    · exact ⟨nI 1, by simp (disch := omega) only [if_pos, if_neg, ite_true, ite_false, or_false, false_or, and_true, true_and, not_true, not_false_iff, true_or, or_true, Nat.not_lt_zero], Or.inl ⟨rfl, j, by omega, rfl⟩⟩
theorem X8_hasPage (hV : VX S M b) (hG : Gd S) (x : Int32) : ∃ v, fX8_hasPage fu b x M = some v ∧ ((v = nI 1 ∧ ∃ j, j < 2 ^ S 140 / 16 ∧ x = nI j) ∨ (v = nI 0 ∧ ∀ j, j < 2 ^ S 140 / 16 → x ≠ nI j)) := by
  have h1 := hG.ad
  unfold fX8_hasPage fX8_hasPage_j16 fX8_hasPage_j17
  rw [X8_pages hV hG]
  rcases i32_cases x with h | ⟨j, hj, rfl⟩
  · rw [if_pos h]
    exact ⟨nI 0, rfl, Or.inr ⟨rfl, fun j hj e => neg_ne h (by omega) e⟩⟩
  · simp (disch := omega) only [zi_lit, zi_m, zi_m1, nI_add, zi_sub, zi_mul, zi_addm, zi_m_lt, zi_lt_m, zi_m_le, zi_le_m, zi_eq_m, zi_m_eq, nI_ltI, nI_leI, nI_eq, nI_clamp, zi_div, lt_eq, bm_s, bi_s, bl_s, bw_s, gd, if_pos, if_neg, ite_true, ite_false, or_false, false_or, and_true, true_and, not_true, not_false_iff, true_or, or_true, Nat.not_lt_zero]
    by_cases c : 2 ^ S 140 / 16 ≤ j
    · refine ⟨nI 0, by simp (disch := omega) only [if_pos, if_neg, ite_true, ite_false, or_false, false_or, and_true, true_and, not_true, not_false_iff, true_or, or_true, Nat.not_lt_zero], Or.inr ⟨rfl, fun i hi e => ?_⟩⟩
      rw [nI_eq (by omega) (by omega)] at e
      omega
    · exact ⟨nI 1, by simp (disch := omega) only [if_pos, if_neg, ite_true, ite_false, or_false, false_or, and_true, true_and, not_true, not_false_iff, true_or, or_true, Nat.not_lt_zero], Or.inl ⟨rfl, j, by omega, rfl⟩⟩
theorem X8_hasPart (hV : VX S M b) (hG : Gd S) (x : Int32) : ∃ v, fX8_hasPart fu b x M = some v ∧ ((v = nI 1 ∧ 0 < S 142 ∧ ∃ j, j < 8 ∧ x = nI j) ∨ (v = nI 0 ∧ (S 142 = 0 ∨ ∀ j, j < 8 → x ≠ nI j))) := by
  have h1 := hG.2.1 142
  unfold fX8_hasPart fX8_hasPart_j21 fX8_hasPart_j22
  rw [hV.1.2.2.2.2]
  by_cases c0 : S 142 = 0
  · rw [c0]
    exact ⟨nI 0, rfl, Or.inr ⟨rfl, Or.inl rfl⟩⟩
  rcases i32_cases x with h | ⟨j, hj, rfl⟩
  · rw [if_neg (nI_nle (by omega) (by omega)), if_pos h]
    exact ⟨nI 0, rfl, Or.inr ⟨rfl, Or.inr fun j hj e => neg_ne h (by omega) e⟩⟩
  · simp (disch := omega) only [zi_lit, zi_m, zi_m1, nI_add, zi_sub, zi_mul, zi_addm, zi_m_lt, zi_lt_m, zi_m_le, zi_le_m, zi_eq_m, zi_m_eq, nI_ltI, nI_leI, nI_eq, nI_clamp, zi_div, lt_eq, bm_s, bi_s, bl_s, bw_s, gd, if_pos, if_neg, ite_true, ite_false, or_false, false_or, and_true, true_and, not_true, not_false_iff, true_or, or_true, Nat.not_lt_zero]
    by_cases c : 8 ≤ j
    · refine ⟨nI 0, by simp (disch := omega) only [if_pos, if_neg, ite_true, ite_false, or_false, false_or, and_true, true_and, not_true, not_false_iff, true_or, or_true, Nat.not_lt_zero], Or.inr ⟨rfl, Or.inr fun i hi e => ?_⟩⟩
      rw [nI_eq (by omega) (by omega)] at e
      omega
    · exact ⟨nI 1, by simp (disch := omega) only [if_pos, if_neg, ite_true, ite_false, or_false, false_or, and_true, true_and, not_true, not_false_iff, true_or, or_true, Nat.not_lt_zero], Or.inl ⟨rfl, by omega, j, by omega, rfl⟩⟩
theorem X10_isKind (x : Int32) : ∃ v, fX10_isKind fu x = some v ∧ ((v = nI 1 ∧ ∃ j, j < 5 ∧ x = nI j) ∨ (v = nI 0 ∧ ∀ j, j < 5 → x ≠ nI j)) := by
  unfold fX10_isKind fX10_isKind_j13 fX10_isKind_j14
  rcases i32_cases x with h | ⟨j, hj, rfl⟩
  · rw [if_pos h]
    exact ⟨nI 0, rfl, Or.inr ⟨rfl, fun j hj e => neg_ne h (by omega) e⟩⟩
  · simp (disch := omega) only [zi_lit, zi_m, zi_m1, nI_add, zi_sub, zi_mul, zi_addm, zi_m_lt, zi_lt_m, zi_m_le, zi_le_m, zi_eq_m, zi_m_eq, nI_ltI, nI_leI, nI_eq, nI_clamp, zi_div, lt_eq, bm_s, bi_s, bl_s, bw_s, gd, if_pos, if_neg, ite_true, ite_false, or_false, false_or, and_true, true_and, not_true, not_false_iff, true_or, or_true, Nat.not_lt_zero]
    by_cases c : 5 ≤ j
    · refine ⟨nI 0, by simp (disch := omega) only [if_pos, if_neg, ite_true, ite_false, or_false, false_or, and_true, true_and, not_true, not_false_iff, true_or, or_true, Nat.not_lt_zero], Or.inr ⟨rfl, fun i hi e => ?_⟩⟩
      rw [nI_eq (by omega) (by omega)] at e
      omega
    · exact ⟨nI 1, by simp (disch := omega) only [if_pos, if_neg, ite_true, ite_false, or_false, false_or, and_true, true_and, not_true, not_false_iff, true_or, or_true, Nat.not_lt_zero], Or.inl ⟨rfl, j, by omega, rfl⟩⟩
theorem X8_isSet (hV : VX S M b) (hG : Gd S) (x : Int32) : ∃ v, fX8_isSet fu b x M = some v ∧ ((v = nI 1 ∧ ∃ j, j < S 141 ∧ x = nI j ∧ 0 < S (39 + 3 * j)) ∨ (v = nI 0 ∧ ∀ j, j < S 141 → x = nI j → S (39 + 3 * j) = 0)) := by
  have h1 := hG.1
  obtain ⟨v, e, ⟨rfl, j, hj, rfl⟩ | ⟨rfl, h⟩⟩ := X8_hasRegister (fu := fu) hV hG x
  · have h2 := hG.2.1 (39 + 3 * j)
    simp (disch := omega) only [fX8_isSet_j22, fX8_isSet_j21, fX8_isSet, e, zi_lit, zi_m, zi_m1, nI_add, zi_sub, zi_mul, zi_addm, zi_m_lt, zi_lt_m, zi_m_le, zi_le_m, zi_eq_m, zi_m_eq, nI_ltI, nI_leI, nI_eq, nI_clamp, zi_div, lt_eq, bm_s, bi_s, bl_s, bw_s, gd, if_pos, if_neg, ite_true, ite_false, or_false, false_or, and_true, true_and, not_true, not_false_iff, true_or, or_true, Nat.not_lt_zero, (hV.2.2.2.1 j hj).2.1]
    by_cases c : S (39 + 3 * j) ≤ 0
    · refine ⟨nI 0, by simp (disch := omega) only [if_pos, if_neg, ite_true, ite_false, or_false, false_or, and_true, true_and, not_true, not_false_iff, true_or, or_true, Nat.not_lt_zero], Or.inr ⟨rfl, fun i hi ei => ?_⟩⟩
      rw [nI_eq (by omega) (by omega)] at ei
      subst ei
      omega
    · exact ⟨nI 1, by simp (disch := omega) only [if_pos, if_neg, ite_true, ite_false, or_false, false_or, and_true, true_and, not_true, not_false_iff, true_or, or_true, Nat.not_lt_zero], Or.inl ⟨rfl, j, hj, rfl, by omega⟩⟩
  · simp (disch := omega) only [fX8_isSet_j22, fX8_isSet_j21, fX8_isSet, e, zi_lit, zi_m, zi_m1, nI_add, zi_sub, zi_mul, zi_addm, zi_m_lt, zi_lt_m, zi_m_le, zi_le_m, zi_eq_m, zi_m_eq, nI_ltI, nI_leI, nI_eq, nI_clamp, zi_div, lt_eq, bm_s, bi_s, bl_s, bw_s, gd, if_pos, if_neg, ite_true, ite_false, or_false, false_or, and_true, true_and, not_true, not_false_iff, true_or, or_true, Nat.not_lt_zero]
    exact ⟨nI 0, rfl, Or.inr ⟨rfl, fun j hj ej => absurd ej (h j hj)⟩⟩
def csN (S : Sto) : Nat → Nat
  | 0 => 0
  | n + 1 => csN S n + if S (39 + 3 * n) = 0 then 0 else 1
theorem csN_le (S : Sto) : ∀ n, csN S n ≤ n
  | 0 => Nat.le_refl _
  | n + 1 => by
    have := csN_le S n
    unfold csN
    split <;> omega
theorem X8_countSet (hfu : 200000 ≤ fu) (hV : VX S M b) (hG : Gd S) : fX8_countSet fu b M = some (nI (csN S (S 141))) := by
  unfold fX8_countSet fX8_countSet_l4
  have h1 := hG.1
  refine lp_up (fun i => (nI (csN S i), nI i)) (S 141) (by omega) (fun i hi rec => ?_) (fun rec => ?_)
  · have h2 := hG.2.1 (39 + 3 * i)
    have h3 := csN_le S i
    simp (disch := omega) only [fX8_countSet_j35, fX8_countSet_j27, fX8_countSet_b4, fX8_countSet, hV.1.2.1, (hV.2.2.2.1 i hi).2.1, zi_lit, zi_m, zi_m1, nI_add, zi_sub, zi_mul, zi_addm, zi_m_lt, zi_lt_m, zi_m_le, zi_le_m, zi_eq_m, zi_m_eq, nI_ltI, nI_leI, nI_eq, nI_clamp, zi_div, lt_eq, bm_s, bi_s, bl_s, bw_s, gd, if_pos, if_neg, ite_true, ite_false, or_false, false_or, and_true, true_and, not_true, not_false_iff, true_or, or_true, Nat.not_lt_zero, csN]
    by_cases c : S (39 + 3 * i) = 0
    · simp (disch := omega) only [if_pos, if_neg, ite_true, ite_false, or_false, false_or, and_true, true_and, not_true, not_false_iff, true_or, or_true, Nat.not_lt_zero, Nat.add_zero]
    · simp (disch := omega) only [if_pos, if_neg, ite_true, ite_false, or_false, false_or, and_true, true_and, not_true, not_false_iff, true_or, or_true, Nat.not_lt_zero]
  · simp (disch := omega) only [fX8_countSet_j35, fX8_countSet_j27, fX8_countSet_b4, fX8_countSet, hV.1.2.1, zi_lit, zi_m, zi_m1, nI_add, zi_sub, zi_mul, zi_addm, zi_m_lt, zi_lt_m, zi_m_le, zi_le_m, zi_eq_m, zi_m_eq, nI_ltI, nI_leI, nI_eq, nI_clamp, zi_div, lt_eq, bm_s, bi_s, bl_s, bw_s, gd, if_pos, if_neg, ite_true, ite_false, or_false, false_or, and_true, true_and, not_true, not_false_iff, true_or, or_true, Nat.not_lt_zero]
theorem X8_holderOf (hfu : 200000 ≤ fu) (hV : VX S M b) (hG : Gd S) {x y : Nat} (hx : x < 2 ^ 31) (hy : y < 2 ^ 31) : Wp (fX8_holderOf fu b (nI x) (nI y) M) (fun v => (v = mI ∧ ∀ r, r < S 141 → ¬ (S (38 + 3 * r) = x ∧ S (39 + 3 * r) = y)) ∨ ∃ r, r < S 141 ∧ v = nI r ∧ S (38 + 3 * r) = x ∧ S (39 + 3 * r) = y) := by
  unfold fX8_holderOf fX8_holderOf_l2
  have h1 := hG.1
  refine lp_ho (fun i z => z = nI i ∧ ∀ r, r < i → ¬ (S (38 + 3 * r) = x ∧ S (39 + 3 * r) = y)) _ (S 141) (i := 0) (by omega) (by omega) ⟨rfl, fun r hr => absurd hr (by omega)⟩ (fun i z hi hz rec hrec => ?_) (fun z hz rec => ?_)
  · obtain ⟨rfl, hz⟩ := hz
    have h2 := hG.2.1 (39 + 3 * i)
    have h3 := hG.2.1 (38 + 3 * i)
    simp (disch := omega) only [fX8_holderOf_j38, fX8_holderOf_j32, fX8_holderOf_j30, fX8_holderOf_b2, fX8_holderOf, hV.1.2.1, (hV.2.2.2.1 i hi).2.1, (hV.2.2.2.1 i hi).1, zi_lit, zi_m, zi_m1, nI_add, zi_sub, zi_mul, zi_addm, zi_m_lt, zi_lt_m, zi_m_le, zi_le_m, zi_eq_m, zi_m_eq, nI_ltI, nI_leI, nI_eq, nI_clamp, zi_div, lt_eq, bm_s, bi_s, bl_s, bw_s, gd, if_pos, if_neg, ite_true, ite_false, or_false, false_or, and_true, true_and, not_true, not_false_iff, true_or, or_true, Nat.not_lt_zero]
    by_cases c : S (39 + 3 * i) = y
    · by_cases c2 : S (38 + 3 * i) = x
      · rw [if_pos c, if_pos c2, wp_some]
        exact Or.inr ⟨i, hi, rfl, c2, c⟩
      · rw [if_pos c, if_neg c2]
        refine hrec _ ⟨rfl, fun r hr => ?_⟩
        by_cases e : r = i
        · subst e; exact fun q => c2 q.1
        · exact hz r (by omega)
    · rw [if_neg c]
      refine hrec _ ⟨rfl, fun r hr => ?_⟩
      by_cases e : r = i
      · subst e; exact fun q => c q.2
      · exact hz r (by omega)
  · obtain ⟨rfl, hz⟩ := hz
    simp (disch := omega) only [fX8_holderOf_j38, fX8_holderOf_j32, fX8_holderOf_j30, fX8_holderOf_b2, fX8_holderOf, hV.1.2.1, zi_lit, zi_m, zi_m1, nI_add, zi_sub, zi_mul, zi_addm, zi_m_lt, zi_lt_m, zi_m_le, zi_le_m, zi_eq_m, zi_m_eq, nI_ltI, nI_leI, nI_eq, nI_clamp, zi_div, lt_eq, bm_s, bi_s, bl_s, bw_s, gd, if_pos, if_neg, ite_true, ite_false, or_false, false_or, and_true, true_and, not_true, not_false_iff, true_or, or_true, Nat.not_lt_zero]
    rw [wp_some]
    exact Or.inl ⟨rfl, hz⟩
theorem X8_addSpan (hV : VX S M b) (hG : Gd S) (hm : S 1 < 12) (x y z : Nat) : Wp (fX8_addSpan fu b (nI x) (nI y) (nI z) M) (fun M' => VX (fun j => if j = 1 then S 1 + 1 else if j = 2 + 3 * S 1 then x else if j = 3 + 3 * S 1 then y else if j = 4 + 3 * S 1 then z else S j) M' b ∧ Fr b 9 M M') := by
  simp (disch := omega) only [fX8_addSpan_j49, fX8_addSpan, hV.1.2.2.2.1, zi_lit, zi_m, zi_m1, nI_add, zi_sub, zi_mul, zi_addm, zi_m_lt, zi_lt_m, zi_m_le, zi_le_m, zi_eq_m, zi_m_eq, nI_ltI, nI_leI, nI_eq, nI_clamp, zi_div, lt_eq, bm_s, bi_s, bl_s, bw_s, gd, if_pos, if_neg, ite_true, ite_false, or_false, false_or, and_true, true_and, not_true, not_false_iff, true_or, or_true, Nat.not_lt_zero, wI_ne, wI_eq, wI_nk, wIs_ne, wIs_eq]
  rw [wp_some]
  refine ⟨?_, ?_⟩
  · obtain ⟨⟨a0, a1, a2, a3, a4⟩, a5, a6, a7, a8⟩ := hV
    have e : ∀ j, 38 ≤ j ∨ j = 0 → (fun j => if j = 1 then S 1 + 1 else if j = 2 + 3 * S 1 then x else if j = 3 + 3 * S 1 then y else if j = 4 + 3 * S 1 then z else S j) j = S j := fun j hj => by
      show (if j = 1 then S 1 + 1 else if j = 2 + 3 * S 1 then x else if j = 3 + 3 * S 1 then y else if j = 4 + 3 * S 1 then z else S j) = S j
      rw [if_neg (by omega), if_neg (by omega), if_neg (by omega), if_neg (by omega)]
    unfold VX
    rw [e 140 (by omega), e 141 (by omega), e 142 (by omega), e 0 (by omega)]
    refine ⟨⟨?_, ?_, ?_, ?_, ?_⟩, fun i hi => ?_, fun h p hp => ?_, fun i hi => ?_, fun p hp => ?_⟩
    · simp (disch := omega) only [wI_ne, wI_eq, wI_nk, wIs_ne, wIs_eq, a0]
    · simp (disch := omega) only [wI_ne, wI_eq, wI_nk, wIs_ne, wIs_eq, a1]
    · simp (disch := omega) only [wI_ne, wI_eq, wI_nk, wIs_ne, wIs_eq, a2]
    · simp (disch := omega) only [wI_ne, wI_eq, wI_nk, wIs_ne, wIs_eq, a3, if_pos, if_neg, ite_true, ite_false, or_false, false_or, and_true, true_and, not_true, not_false_iff, true_or, or_true, Nat.not_lt_zero]
    · simp (disch := omega) only [wI_ne, wI_eq, wI_nk, wIs_ne, wIs_eq, a4]
    · have hi : i < S 1 + 1 := hi
      by_cases c : i = S 1
      · subst c
        simp (disch := omega) only [wI_ne, wI_eq, wI_nk, wIs_ne, wIs_eq, if_pos, if_neg, ite_true, ite_false, or_false, false_or, and_true, true_and, not_true, not_false_iff, true_or, or_true, Nat.not_lt_zero]
      · simp (disch := omega) only [wI_ne, wI_eq, wI_nk, wIs_ne, wIs_eq, if_pos, if_neg, ite_true, ite_false, or_false, false_or, and_true, true_and, not_true, not_false_iff, true_or, or_true, Nat.not_lt_zero]
        exact a5 i (by omega)
    · rw [e _ (by omega)]
      simp (disch := omega) only [wI_ne, wI_eq, wI_nk, wIs_ne, wIs_eq]
      exact a6 h p hp
    · rw [e _ (by omega), e _ (by omega), e _ (by omega)]
      simp (disch := omega) only [wI_ne, wI_eq, wI_nk, wIs_ne, wIs_eq]
      exact a7 i hi
    · rw [e _ (by omega)]
      simp (disch := omega) only [wI_ne, wI_eq, wI_nk, wIs_ne, wIs_eq]
      exact a8 p hp
  · exact (((Fr.w1 _ _ _ _ (by omega) (by omega)).tr (Fr.w1 _ _ _ _ (by omega) (by omega))).tr (Fr.w1 _ _ _ _ (by omega) (by omega))).tr (Fr.w1 _ _ _ _ (by omega) (by omega))
theorem X8_copyFrom {c : Nat} (hV : VX S M c) (hG : Gd S) (hd : c + 9 ≤ b ∨ b + 9 ≤ c) : Wp (fX8_copyFrom fu b c M) (fun M' => VX S M' b ∧ Fr b 9 M M') := by
  have e0 : ix 0 = 0 := by decide +kernel
  have e8 : ix 8 = 8 := by decide +kernel
  have e10 : ix 10 = 10 := by decide +kernel
  have e12 : ix 12 = 12 := by decide +kernel
  have e64 : ix 64 = 64 := by decide +kernel
  unfold fX8_copyFrom
  simp (disch := omega) only [lt_eq, e0, e8, e10, e12, e64]
  rw [wp_some]
  refine ⟨?_, ?_⟩
  · have h1 := hG.1
    have h2 := hG.ad
    obtain ⟨⟨a0, a1, a2, a3, a4⟩, a5, a6, a7, a8⟩ := hV
    refine ⟨⟨?_, ?_, ?_, ?_, ?_⟩, fun i hi => ?_, fun h p hp => ?_, fun i hi => ?_, fun p hp => ?_⟩
    · simp (disch := omega) only [wI_ne, wI_eq, wI_nk, wIs_ne, wIs_eq, a0]
    · simp (disch := omega) only [wI_ne, wI_eq, wI_nk, wIs_ne, wIs_eq, a1]
    · simp (disch := omega) only [wI_ne, wI_eq, wI_nk, wIs_ne, wIs_eq, a2]
    · simp (disch := omega) only [wI_ne, wI_eq, wI_nk, wIs_ne, wIs_eq, a3]
    · simp (disch := omega) only [wI_ne, wI_eq, wI_nk, wIs_ne, wIs_eq, a4]
    · simp (disch := omega) only [wI_ne, wI_eq, wI_nk, wIs_ne, wIs_eq, cpy_at]
      exact a5 i hi
    · simp (disch := omega) only [wI_ne, wI_eq, wI_nk, wIs_ne, wIs_eq, cpy_at]
      exact a6 h p hp
    · simp (disch := omega) only [wI_ne, wI_eq, wI_nk, wIs_ne, wIs_eq, cpy_at]
      exact a7 i hi
    · simp (disch := omega) only [wI_ne, wI_eq, wI_nk, wIs_ne, wIs_eq, cpy_at]
      exact a8 p hp
  · intro q hq
    simp only [wI, wIs]
    have n0 : q ≠ b := by omega
    have n1 : q ≠ b + 1 := by omega
    have n2 : q ≠ b + 2 := by omega
    have n3 : q ≠ b + 3 := by omega
    have n4 : q ≠ b + 4 := by omega
    have n5 : q ≠ b + 5 := by omega
    have n6 : q ≠ b + 6 := by omega
    have n7 : q ≠ b + 7 := by omega
    have n8 : q ≠ b + 8 := by omega
    simp [n0, n1, n2, n3, n4, n5, n6, n7, n8]
end MU
