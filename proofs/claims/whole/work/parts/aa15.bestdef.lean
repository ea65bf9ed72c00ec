section BE
variable {fu a m : Nat} {S : Sto} {M : Mm}
theorem bd_y {S : Sto} {i : Nat} (c : cvS S (bdN S i) ≤ cvS S (i + 1)) : bdN S (i + 1) = bdN S i := if_pos c
theorem bd_n {S : Sto} {i : Nat} (c : ¬ cvS S (bdN S i) ≤ cvS S (i + 1)) : bdN S (i + 1) = i + 1 := if_neg c
theorem X11_bestDefault (hfu : 200000 ≤ fu) (hV : VM S M m) (hG : Gd S) : Wp (fX11_bestDefault fu m M) (fun z => z.1 = nI (bdN S 4) ∧ Sc m M z.2) := by
  unfold fX11_bestDefault fX11_bestDefault_l4
  refine lp_ho (fun j z => z.1 = nI (bdN S j) ∧ z.2.1 = nI (j + 1) ∧ Sc m M z.2.2) _ 4 (i := 0) (by omega) (by omega) ⟨rfl, rfl, Sc.rf m M⟩ (fun j z hj hz rec hrec => ?_) (fun z hz rec => ?_)
  · obtain ⟨z1, z2, z3⟩ := z
    obtain ⟨rfl, rfl, hs⟩ := hz
    have hb := bd_le S j
    have v1 := cvS_le hG (d := j + 1) (by omega)
    have v2 := cvS_le hG (d := bdN S j) (by omega)
    obtain ⟨⟨r1, M1⟩, e1, f1, _, g1⟩ := X11_costBy hfu (hV.sc hs) hG (d := j + 1) (by omega)
    obtain ⟨⟨r2, M2⟩, e2, f2, _, g2⟩ := X11_costBy hfu (hV.sc (hs.tr g1)) hG (d := bdN S j) (by omega)
    have f1 : r1 = nI (cvS S (j + 1)) := f1
    have f2 : r2 = nI (cvS S (bdN S j)) := f2
    subst f1 f2
    show Wp (fX11_bestDefault_b4 fu _ m (nI (bdN S j)) (nI (j + 1)) z3) _
    simp (disch := omega) only [fX11_bestDefault_b4, fX11_bestDefault_j24, e1, e2, zi_li, zi_m, zi_m1, nI_add, zi_sub, zi_mul, zi_addm, zi_m_lt, zi_lt_m, zi_m_le, zi_le_m, zi_eq_m, zi_m_eq, nI_ltI, nI_leI, nI_eq, nI_clamp, zi_div, lt_eq, bm_s, bi_s, bl_s, bw_s, gd, if_pos, if_neg, ite_true, ite_false, or_false, false_or, and_true, true_and, not_true, not_false_iff, true_or, or_true, Nat.not_lt_zero]
    by_cases c : cvS S (bdN S j) ≤ cvS S (j + 1)
    · rw [if_pos c]
      exact hrec (nI (bdN S j), nI (j + 1 + 1), M2) ⟨by rw [bd_y c], rfl, hs.tr (g1.tr g2)⟩
    · rw [if_neg c]
      exact hrec (nI (j + 1), nI (j + 1 + 1), M2) ⟨by rw [bd_n c], rfl, hs.tr (g1.tr g2)⟩
  · obtain ⟨z1, z2, z3⟩ := z
    obtain ⟨rfl, rfl, hs⟩ := hz
    exact ⟨_, rfl, rfl, hs⟩
theorem X10_bestDefault (hfu : 200000 ≤ fu) (hV : VX S M (a + 12)) (hG : Gd S) : Wp (fX10_bestDefault fu a M) (fun z => z.1 = nI (bdN S 4) ∧ Fr (a + 206) 14 M z.2) := by
  have vx : ∀ M', Fr (a + 206) 14 M M' → VX S M' (a + 12) := fun M' g => hV.fr fun c k1 k2 => g.at (by omega)
  obtain ⟨⟨r0, M0⟩, e0, f0, g0⟩ := X6_fewestOver (r := a + 206) hfu hV hG (d := 0) (by omega) (Or.inl (by omega))
  have f0 : r0 = nI (cvS S 0) := f0
  subst f0
  have e0 : fX6_fewestOver fu (a + 206) (a + 12) 0 M = some (nI (cvS S 0), M0) := e0
  unfold fX10_bestDefault
  rw [e0, bw_s]
  unfold fX10_bestDefault_l17
  refine lp_ho (fun j z => z.1 = nI (bdN S j) ∧ z.2.1 = nI (cvS S (bdN S j)) ∧ z.2.2.1 = nI (j + 1) ∧ Fr (a + 206) 14 M z.2.2.2) _ 4 (i := 0) (by omega) (by omega) ⟨rfl, rfl, rfl, g0⟩ (fun j z hj hz rec hrec => ?_) (fun z hz rec => ?_)
  · obtain ⟨z1, z2, z3, z4⟩ := z
    obtain ⟨rfl, rfl, rfl, hs⟩ := hz
    have hb := bd_le S j
    have v1 := cvS_le hG (d := j + 1) (by omega)
    have v2 := cvS_le hG (d := bdN S j) (by omega)
    obtain ⟨⟨r1, M1⟩, e1, f1, g1⟩ := X6_fewestOver (r := a + 206) hfu (vx _ hs) hG (d := j + 1) (by omega) (Or.inl (by omega))
    have f1 : r1 = nI (cvS S (j + 1)) := f1
    subst f1
    show Wp (fX10_bestDefault_b17 fu _ a (nI (bdN S j)) (nI (cvS S (bdN S j))) (nI (j + 1)) z4) _
    simp (disch := omega) only [fX10_bestDefault_b17, fX10_bestDefault_j47, e1, zi_li, zi_m, zi_m1, nI_add, zi_sub, zi_mul, zi_addm, zi_m_lt, zi_lt_m, zi_m_le, zi_le_m, zi_eq_m, zi_m_eq, nI_ltI, nI_leI, nI_eq, nI_clamp, zi_div, lt_eq, bm_s, bi_s, bl_s, bw_s, gd, if_pos, if_neg, ite_true, ite_false, or_false, false_or, and_true, true_and, not_true, not_false_iff, true_or, or_true, Nat.not_lt_zero]
    by_cases c : cvS S (bdN S j) ≤ cvS S (j + 1)
    · rw [if_pos c]
      exact hrec (nI (bdN S j), nI (cvS S (bdN S j)), nI (j + 1 + 1), M1) ⟨by rw [bd_y c], by rw [bd_y c], rfl, hs.tr g1⟩
    · rw [if_neg c]
      exact hrec (nI (j + 1), nI (cvS S (j + 1)), nI (j + 1 + 1), M1) ⟨by rw [bd_n c], by rw [bd_n c], rfl, hs.tr g1⟩
  · obtain ⟨z1, z2, z3, z4⟩ := z
    obtain ⟨rfl, rfl, rfl, hs⟩ := hz
    exact ⟨_, rfl, rfl, hs⟩
end BE
