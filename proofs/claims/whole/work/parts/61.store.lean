/-! A store as numbers: what is told of it, how the class's and the reference's cells hold it. -/
abbrev Sto : Type := Nat → Nat
def wtN (S : Sto) (d x : Nat) : Nat → Nat
  | 0 => d
  | n + 1 => if S (2 + 3 * n) ≤ x ∧ x ≤ S (3 + 3 * n) then S (4 + 3 * n) else wtN S d x n
def wtS (S : Sto) (d x : Nat) : Nat := wtN S d x (S 1)
def ksN (S : Sto) (x but : Nat) : Nat → Nat
  | 0 => 0
  | n + 1 => if n ≠ but ∧ S (38 + 3 * n) ≤ x ∧ x < S (38 + 3 * n) + S (39 + 3 * n) then ksN S x but n ||| 2 ^ S (40 + 3 * n) else ksN S x but n
def ksS (S : Sto) (x but : Nat) : Nat := ksN S x but (S 141)
def tgN (k d : Nat) : Nat := if k = 0 then d else if k % 2 = 1 then 0 else if k = 20 then 2 else if k = 2 then 1 else if k = 4 then 2 else if k = 8 then 3 else if k = 16 then 4 else 5
def kdS (S : Sto) (x but : Nat) : Nat := if x < S 142 then S (68 + x * 8 / S 142) else tgN (ksS S x but) (S 0)
def Rg (t b s k : Nat) : Prop := (b = 0 ∧ s = 0 ∧ k = 0) ∨ (k < 5 ∧ ∃ e, e ≤ t ∧ s = 2 ^ e ∧ ∃ q, b = q * 2 ^ e ∧ b + s ≤ 2 ^ t)
def Gd (S : Sto) : Prop := (4 ≤ S 140 ∧ S 140 ≤ 10 ∧ 1 ≤ S 141 ∧ S 141 ≤ 10 ∧ S 0 < 5 ∧ S 1 ≤ 12) ∧ (∀ k, S k ≤ 1024) ∧ (S 142 = 0 ∨ ∃ n, 3 ≤ n ∧ n ≤ S 140 ∧ S 142 = 2 ^ n) ∧
  (∀ i, i < S 1 → S (2 + 3 * i) ≤ S (3 + 3 * i) ∧ S (3 + 3 * i) < 2 ^ S 140 ∧ S (4 + 3 * i) < 5) ∧
  (∀ r, r < S 141 → Rg (S 140) (S (38 + 3 * r)) (S (39 + 3 * r)) (S (40 + 3 * r))) ∧
  (∀ r q, r < S 141 → q < S 141 → r ≠ q → 0 < S (39 + 3 * r) → ¬ (S (38 + 3 * r) = S (38 + 3 * q) ∧ S (39 + 3 * r) = S (39 + 3 * q))) ∧
  (0 < S 142 → ∀ p, p < 8 → S (68 + p) < 5) ∧ (∀ p, p < 2 ^ S 140 / 16 → S (76 + p) ≤ 5)
def VX (S : Sto) (M : Mm) (b : Nat) : Prop :=
  (M.1 b 0 = nI (2 ^ S 140) ∧ M.1 b 1 = nI (S 141) ∧ M.1 b 2 = nI (S 0) ∧ M.1 b 3 = nI (S 1) ∧ M.1 b 4 = nI (S 142)) ∧
  (∀ i, i < S 1 → M.1 (b + 1) i = nI (S (2 + 3 * i)) ∧ M.1 (b + 2) i = nI (S (3 + 3 * i)) ∧ M.1 (b + 3) i = nI (S (4 + 3 * i))) ∧
  (0 < S 142 → ∀ p, p < 8 → M.1 (b + 4) p = nI (S (68 + p))) ∧
  (∀ r, r < S 141 → M.1 (b + 5) r = nI (S (38 + 3 * r)) ∧ M.1 (b + 6) r = nI (S (39 + 3 * r)) ∧ M.1 (b + 7) r = nI (S (40 + 3 * r))) ∧
  (∀ p, p < 2 ^ S 140 / 16 → M.1 (b + 8) p = nI (S (76 + p)))
theorem Gd.ad {S : Sto} (h : Gd S) : 16 ≤ 2 ^ S 140 ∧ 2 ^ S 140 ≤ 1024 := by
  have h1 : 2 ^ 4 ≤ 2 ^ S 140 := Nat.pow_le_pow_right (by decide) h.1.1
  have h2 : 2 ^ S 140 ≤ 2 ^ 10 := Nat.pow_le_pow_right (by decide) h.1.2.1
  omega
theorem Gd.fx {S : Sto} (h : Gd S) : S 142 ≤ 2 ^ S 140 := by
  rcases h.2.2.1 with h0 | ⟨n, h1, h2, h3⟩
  · rw [h0]; exact Nat.zero_le _
  · rw [h3]; exact Nat.pow_le_pow_right (by decide) h2
theorem Gd.rk {S : Sto} (h : Gd S) {r : Nat} (hr : r < S 141) : S (40 + 3 * r) < 5 := by
  rcases h.2.2.2.2.1 r hr with ⟨_, _, h3⟩ | ⟨h1, _⟩ <;> omega
theorem Gd.re {S : Sto} (h : Gd S) {r : Nat} (hr : r < S 141) : S (38 + 3 * r) + S (39 + 3 * r) ≤ 2 ^ S 140 := by
  rcases h.2.2.2.2.1 r hr with ⟨h1, h2, h3⟩ | ⟨h1, e, h2, h3, q, h4, h5⟩
  · rw [h1, h2]; exact Nat.zero_le _
  · exact h5
theorem VX.fr {S : Sto} {M M' : Mm} {b : Nat} (h : VX S M b) (hf : ∀ c, b ≤ c → c < b + 9 → M'.1 c = M.1 c) : VX S M' b := by
  unfold VX at h ⊢
  rw [hf b (by omega) (by omega), hf (b + 1) (by omega) (by omega), hf (b + 2) (by omega) (by omega), hf (b + 3) (by omega) (by omega), hf (b + 4) (by omega) (by omega), hf (b + 5) (by omega) (by omega), hf (b + 6) (by omega) (by omega), hf (b + 7) (by omega) (by omega), hf (b + 8) (by omega) (by omega)]
  exact h
theorem pow2_lt32 {k : Nat} (h : k < 5) : 2 ^ k < 32 := by
  have : 2 ^ k < 2 ^ 5 := Nat.pow_lt_pow_right (by decide) h
  omega
theorem ksN_lt {S : Sto} (hG : Gd S) (x but : Nat) : ∀ n, n ≤ S 141 → ksN S x but n < 32
  | 0, _ => Nat.lt_of_lt_of_le Nat.zero_lt_one (by decide)
  | n + 1, h => by
    have ih := ksN_lt hG x but n (by omega)
    unfold ksN
    split
    · exact Nat.or_lt_two_pow (n := 5) ih (pow2_lt32 (hG.rk (by omega)))
    · exact ih
theorem ksS_lt {S : Sto} (hG : Gd S) (x but : Nat) : ksS S x but < 32 := ksN_lt hG x but _ (Nat.le_refl _)
theorem tgN_le {k d : Nat} (hd : d < 5) : tgN k d ≤ 5 := by
  unfold tgN
  repeat' split
  all_goals omega
theorem wtN_lt {S : Sto} (hG : Gd S) {d : Nat} (hd : d < 5) (x : Nat) : ∀ n, n ≤ S 1 → wtN S d x n < 5
  | 0, _ => hd
  | n + 1, h => by
    have ih := wtN_lt hG hd x n (by omega)
    unfold wtN
    split
    · exact (hG.2.2.2.1 n (by omega)).2.2
    · exact ih
theorem wtS_lt {S : Sto} (hG : Gd S) {d : Nat} (hd : d < 5) (x : Nat) : wtS S d x < 5 := wtN_lt hG hd x _ (Nat.le_refl _)
theorem fx8 {S : Sto} (hG : Gd S) {x : Nat} (hx : x < S 142) : x * 8 / S 142 < 8 := by
  rw [Nat.div_lt_iff_lt_mul (by omega)]
  omega
theorem kdS_le {S : Sto} (hG : Gd S) (x but : Nat) : kdS S x but ≤ 5 := by
  unfold kdS
  split
  · rename_i h
    have := hG.2.2.2.2.2.2.1 (by omega) (x * 8 / S 142) (fx8 hG h)
    omega
  · exact tgN_le hG.1.2.2.2.2.1
section ST
variable {fu b : Nat} {S : Sto} {M : Mm}
theorem X8_wantedAt (hfu : 200000 ≤ fu) (hV : VX S M b) (hG : Gd S) {x d : Nat} (hx : x < 2 ^ 31) : fX8_wantedAt fu b (nI x) (nI d) M = some (nI (wtS S d x)) := by
  unfold fX8_wantedAt fX8_wantedAt_l7
  have e : nI (S 1) - 1 = nI (S 1) + mI := by rw [Int32.sub_eq_add_neg]; rfl
  rw [hV.1.2.2.2.1, lt_eq, e]
  have b3 := hG.1.2.2.2.2.2
  refine lp_sq (fun n => nI n + mI) (fun n => some (nI (wtN S d x n))) (S 1) (by omega) (fun rec => ?_) (fun n hn rec ih => ?_)
  · have : nI 0 + mI = mI := by decide +kernel
    rw [this]
    simp (disch := omega) only [fX8_wantedAt_j44, fX8_wantedAt_j38, fX8_wantedAt_j31, fX8_wantedAt_b7, fX8_wantedAt, zi_lit, zi_m, zi_m1, nI_add, zi_sub, zi_mul, zi_addm, zi_m_lt, zi_lt_m, zi_m_le, zi_le_m, zi_eq_m, zi_m_eq, nI_ltI, nI_leI, nI_eq, nI_clamp, zi_div, lt_eq, bm_s, bi_s, bl_s, bw_s, gd, if_pos, if_neg, ite_true, ite_false, or_false, false_or, and_true, true_and, not_true, not_false_iff, true_or, or_true, Nat.not_lt_zero, wtN]
  · obtain ⟨h1, h2, h3⟩ := hV.2.1 n (by omega)
    have b1 := hG.2.1 (2 + 3 * n)
    have b2 := hG.2.1 (3 + 3 * n)
    rw [zi_addm (by omega), Nat.add_sub_cancel]
    unfold fX8_wantedAt_b7 fX8_wantedAt_j38 fX8_wantedAt_j31 fX8_wantedAt_j44 wtN
    rw [zi_m1]
    simp (disch := omega) only [zi_lit, nI_clamp, nI_ltI, lt_eq, h1, h2, h3, if_pos, if_neg, ite_true, ite_false, or_false, false_or, and_true, true_and, not_true, not_false_iff, true_or, or_true, Nat.not_lt_zero, ih]
    by_cases c1 : x < S (2 + 3 * n)
    · simp (disch := omega) only [if_pos, if_neg, ite_true, ite_false, or_false, false_or, and_true, true_and, not_true, not_false_iff, true_or, or_true, Nat.not_lt_zero]
    · by_cases c2 : S (3 + 3 * n) < x
      · simp (disch := omega) only [if_pos, if_neg, ite_true, ite_false, or_false, false_or, and_true, true_and, not_true, not_false_iff, true_or, or_true, Nat.not_lt_zero]
      · simp (disch := omega) only [if_pos, if_neg, ite_true, ite_false, or_false, false_or, and_true, true_and, not_true, not_false_iff, true_or, or_true, Nat.not_lt_zero]
theorem X8_kindsOver (hfu : 200000 ≤ fu) (hV : VX S M b) (hG : Gd S) {x but : Nat} {v : Int32} (hx : x < 2 ^ 31) (hv : ∀ i, i < 10 → (nI i = v ↔ i = but)) : fX8_kindsOver fu b (nI x) v M = some (nI (ksS S x but)) := by
  unfold fX8_kindsOver fX8_kindsOver_l5
  have hr := hG.1.2.2.2.1
  refine lp_up (fun i => (nI (ksN S x but i), nI i)) (S 141) (by omega) (fun i hi rec => ?_) (fun rec => ?_)
  · obtain ⟨h1, h2, h3⟩ := hV.2.2.2.1 i hi
    have b1 := hG.re hi
    have b2 := hG.ad
    have b3 := hG.rk hi
    have b4 := ksN_lt hG x but i (by omega)
    have b5 := pow2_lt32 b3
    simp (disch := omega) only [fX8_kindsOver_j68, fX8_kindsOver_j62, fX8_kindsOver_b5, fX8_kindsOver, hV.1.2.1, h1, h2, h3, zi_lit, zi_m, zi_m1, nI_add, zi_sub, zi_mul, zi_addm, zi_m_lt, zi_lt_m, zi_m_le, zi_le_m, zi_eq_m, zi_m_eq, nI_ltI, nI_leI, nI_eq, nI_clamp, zi_div, lt_eq, bm_s, bi_s, bl_s, bw_s, gd, if_pos, if_neg, ite_true, ite_false, or_false, false_or, and_true, true_and, not_true, not_false_iff, true_or, or_true, Nat.not_lt_zero, zi_shl, zi_or, Nat.one_mul, ksN]
    by_cases c0 : i = but
    · have := (hv i (by omega)).mpr c0
      simp (disch := omega) only [this, if_pos, if_neg, ite_true, ite_false, or_false, false_or, and_true, true_and, not_true, not_false_iff, true_or, or_true, Nat.not_lt_zero]
    · have : ¬ nI i = v := fun h => c0 ((hv i (by omega)).mp h)
      by_cases c1 : x < S (38 + 3 * i)
      · simp (disch := omega) only [this, if_pos, if_neg, ite_true, ite_false, or_false, false_or, and_true, true_and, not_true, not_false_iff, true_or, or_true, Nat.not_lt_zero]
      · by_cases c2 : S (38 + 3 * i) + S (39 + 3 * i) ≤ x
        · simp (disch := omega) only [this, if_pos, if_neg, ite_true, ite_false, or_false, false_or, and_true, true_and, not_true, not_false_iff, true_or, or_true, Nat.not_lt_zero]
        · simp (disch := omega) only [this, if_pos, if_neg, ite_true, ite_false, or_false, false_or, and_true, true_and, not_true, not_false_iff, true_or, or_true, Nat.not_lt_zero]
  · simp (disch := omega) only [fX8_kindsOver_j68, fX8_kindsOver_j62, fX8_kindsOver_b5, fX8_kindsOver, hV.1.2.1, zi_lit, zi_m, zi_m1, nI_add, zi_sub, zi_mul, zi_addm, zi_m_lt, zi_lt_m, zi_m_le, zi_le_m, zi_eq_m, zi_m_eq, nI_ltI, nI_leI, nI_eq, nI_clamp, zi_div, lt_eq, bm_s, bi_s, bl_s, bw_s, gd, if_pos, if_neg, ite_true, ite_false, or_false, false_or, and_true, true_and, not_true, not_false_iff, true_or, or_true, Nat.not_lt_zero]
    rfl
end ST
