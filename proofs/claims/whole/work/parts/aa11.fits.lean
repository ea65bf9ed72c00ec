/-! What is a block. -/
theorem p2_and : ∀ s, s < 1025 → 0 < s → s &&& (s - 1) = 0 → ∃ e, e < 11 ∧ s = 2 ^ e := by decide +kernel
abbrev fP (t : Nat) (x1 x2 : Int32) : Prop := nI 0 < x2 ∧ x2 ≤ nI (2 ^ t) ∧ x2 &&& (x2 - nI 1) = nI 0 ∧ nI 0 ≤ x1 ∧ x1 < nI (2 ^ t) ∧ x1 &&& (x2 - nI 1) = nI 0
theorem fP_sz {t : Nat} (ht : t ≤ 10) {x2 : Int32} (h1 : nI 0 < x2) (h2 : x2 ≤ nI (2 ^ t)) (h3 : x2 &&& (x2 - nI 1) = nI 0) : ∃ e, e ≤ t ∧ x2 = nI (2 ^ e) := by
  have hp : 2 ^ t ≤ 2 ^ 10 := Nat.pow_le_pow_right (by decide) ht
  obtain ⟨j, hj, rfl⟩ := (isIn_c (k := 2 ^ t) (by omega)).mp ⟨Int32.le_of_lt h1, h2⟩
  have h0 : 0 < j := (nI_ltI (by omega) (by omega)).mp h1
  rw [zi_sub (by omega), zi_and (by omega) (by omega)] at h3
  have h5 : j &&& (j - 1) < 2 ^ 31 := Nat.and_lt_two_pow j (by omega)
  rw [nI_eq h5 (by omega)] at h3
  obtain ⟨e, he, rfl⟩ := p2_and j (by omega) h0 h3
  refine ⟨e, ?_, rfl⟩
  exact (Nat.pow_le_pow_iff_right (by decide)).mp hj
theorem fP_of {t : Nat} (ht : t ≤ 10) {x1 x2 : Int32} (h : fP t x1 x2) : ∃ e q, e ≤ t ∧ x2 = nI (2 ^ e) ∧ x1 = nI (q * 2 ^ e) ∧ q * 2 ^ e + 2 ^ e ≤ 2 ^ t := by
  obtain ⟨h1, h2, h3, h4, h5, h6⟩ := h
  have hp : 2 ^ t ≤ 2 ^ 10 := Nat.pow_le_pow_right (by decide) ht
  obtain ⟨e, he, rfl⟩ := fP_sz ht h1 h2 h3
  have hpe : 2 ^ e ≤ 2 ^ t := Nat.pow_le_pow_right (by decide) he
  have hp0 : 0 < 2 ^ e := Nat.two_pow_pos e
  obtain ⟨j, hj, rfl⟩ := isB_of ⟨h4, h5⟩ (by omega)
  rw [zi_sub (by omega), zi_and (by omega) (by omega), Nat.and_two_pow_sub_one_eq_mod] at h6
  have h7 := Nat.mod_lt j hp0
  rw [nI_eq (by omega) (by omega)] at h6
  have h8 : j / 2 ^ e * 2 ^ e = j := Nat.div_mul_cancel (Nat.dvd_of_mod_eq_zero h6)
  refine ⟨e, j / 2 ^ e, he, rfl, by rw [h8], ?_⟩
  have hd : 2 ^ t / 2 ^ e * 2 ^ e = 2 ^ t := Nat.div_mul_cancel (Nat.pow_dvd_pow 2 he)
  exact (bk_q hp0 hd).mp (Nat.lt_of_mul_lt_mul_right (a := 2 ^ e) (by rw [h8, hd]; exact hj))
section FT
variable {fu b : Nat} {S : Sto} {M : Mm}
theorem X8_fits (hV : VX S M b) (hG : Gd S) (x1 x2 : Int32) : fX8_fits fu b x1 x2 M = some (bI (fP (S 140) x1 x2)) := by
  have hA := hG.ad
  have n50 : fX8_fits_j50 fu M = some (nI 0) := rfl
  have n24 : fX8_fits_j24 fu b x1 x2 M = some (nI 0) := rfl
  unfold fX8_fits
  rw [hV.1.1, n24]
  by_cases c1 : x2 ≤ (0 : Int32)
  · rw [if_pos c1, bI_f (fun q => Int32.not_lt.mpr c1 q.1)]
  · rw [if_neg c1]
    by_cases c2 : nI (2 ^ S 140) < x2
    · rw [if_pos c2, bI_f (fun q => Int32.not_le.mpr c2 q.2.1)]
    · rw [if_neg c2]
      by_cases c3 : x2 &&& (x2 - 1) = (0 : Int32)
      · rw [if_pos c3]
        unfold fX8_fits_j25
        rw [if_neg (by decide), n50]
        obtain ⟨v, ev, ⟨rfl, j, hj, rfl⟩ | ⟨rfl, hn⟩⟩ := X8_hasAddress (fu := fu) hV hG x1
        · rw [ev, bi_s, if_neg (by decide)]
          by_cases c4 : nI j &&& (x2 - 1) = (0 : Int32)
          · rw [if_pos c4, bI_t ⟨Int32.not_le.mp c1, Int32.not_lt.mp c2, c3, (nI_leI (by omega) (by omega)).mpr (by omega), (nI_ltI (by omega) (by omega)).mpr hj, c4⟩]
            rfl
          · rw [if_neg c4, bI_f (fun q => c4 q.2.2.2.2.2)]
        · rw [ev, bi_s, if_pos (by decide), bI_f (fun q => by
            obtain ⟨j, hj, ej⟩ := isB_of ⟨q.2.2.2.1, q.2.2.2.2.1⟩ (by omega)
            exact hn j hj ej)]
      · rw [if_neg c3, bI_f (fun q => c3 q.2.2.1)]
end FT
