/-! What is a block, in the reference; besides as asked. -/
theorem X11_isBlock {fu t : Nat} (ht : t ≤ 10) (x0 x1 : Int32) : fX11_isBlock fu x0 x1 (nI (2 ^ t)) = some (bI (fP t x0 x1)) := by
  have hp : 2 ^ t ≤ 2 ^ 10 := Nat.pow_le_pow_right (by decide) ht
  have hp1 : 0 < 2 ^ t := Nat.two_pow_pos t
  have n38 : fX11_isBlock_j38 fu = some (nI 0) := rfl
  unfold fX11_isBlock
  rw [n38]
  by_cases c1 : x1 ≤ (0 : Int32)
  · rw [if_pos c1, bI_f (fun q => Int32.not_lt.mpr c1 q.1)]
  · rw [if_neg c1]
    by_cases c3 : x1 &&& (x1 - 1) = (0 : Int32)
    · rw [if_pos c3]
      by_cases c2 : nI (2 ^ t) < x1
      · rw [if_pos c2, bI_f (fun q => Int32.not_le.mpr c2 q.2.1)]
      · rw [if_neg c2]
        have k1 : nI 0 < x1 := Int32.not_le.mp c1
        have k2 : x1 ≤ nI (2 ^ t) := Int32.not_lt.mp c2
        obtain ⟨e, he, rfl⟩ := fP_sz ht k1 k2 c3
        have hpe : 2 ^ e ≤ 2 ^ t := Nat.pow_le_pow_right (by decide) he
        have hp0 : 0 < 2 ^ e := Nat.two_pow_pos e
        show bi (fX11_isIn fu x0 (nI 0) (nI (2 ^ t) - nI 1)) _ = _
        rw [zi_sub (by omega), X11_isIn, bi_s]
        by_cases c4 : nI 0 ≤ x0 ∧ x0 ≤ nI (2 ^ t - 1)
        · obtain ⟨j, hj, rfl⟩ := (isIn_c (by omega)).mp c4
          have d3 : j / 2 ^ e * 2 ^ e ≤ j := Nat.div_mul_le_self j (2 ^ e)
          have d2 : j - j / 2 ^ e * 2 ^ e = j % 2 ^ e := by
            have := Nat.div_add_mod j (2 ^ e)
            rw [Nat.mul_comm] at this
            omega
          have e1 : nI j - nI j / nI (2 ^ e) * nI (2 ^ e) = nI (j % 2 ^ e) := by
            rw [zi_div (by omega) (by omega), zi_mul, zi_sub d3, d2]
          have e2 : nI j &&& (nI (2 ^ e) - nI 1) = nI (j % 2 ^ e) := by
            rw [zi_sub (by omega), zi_and (by omega) (by omega), Nat.and_two_pow_sub_one_eq_mod]
          have c5 : ¬ nI (2 ^ e) = (0 : Int32) := fun q => c1 (by rw [q]; exact Int32.le_refl _)
          rw [bI_t c4, if_neg (by decide), if_neg c5, e1]
          by_cases c6 : nI (j % 2 ^ e) = (0 : Int32)
          · rw [if_pos c6, bI_t ⟨k1, k2, c3, c4.1, (nI_ltI (by omega) (by omega)).mpr (by omega), e2.trans c6⟩]
            rfl
          · rw [if_neg c6, bI_f (fun q => c6 (e2.symm.trans q.2.2.2.2.2))]
        · rw [bI_f c4, if_pos (by decide), bI_f (fun q => by
            obtain ⟨j, hj, ej⟩ := isB_of ⟨q.2.2.2.1, q.2.2.2.2.1⟩ (by omega)
            exact c4 ((isIn_c (by omega)).mpr ⟨j, by omega, ej⟩))]
    · rw [if_neg c3, bI_f (fun q => c3 q.2.2.1)]
