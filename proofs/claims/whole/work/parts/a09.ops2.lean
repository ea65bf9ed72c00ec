/-! More of what is asked of the pieces. -/
def stA (S : Sto) (x1 : Int32) : Int32 := if x1 = nI 0 then nI (smN (sgS S) (2 ^ S 140)) else if x1 = nI 1 then fsN (sgS S) (2 ^ S 140) else mI
theorem fsN_fl {g : Nat → Nat} {a b : Nat} (hab : a < b) (hc : ∀ x, a ≤ x → x < b → g x = g a) : fsN g b = if smN g a = 0 ∧ g a ≠ 0 then nI a else fsN g a := by
  obtain ⟨d, rfl⟩ : ∃ d, b = a + 1 + d := ⟨b - (a + 1), by omega⟩
  clear hab
  induction d with
  | zero => rfl
  | succ d ih =>
    have ih := ih fun x h1 h2 => hc x h1 (by omega)
    have e : fsN g (a + 1 + (d + 1)) = if smN g (a + 1 + d) = 0 ∧ g (a + 1 + d) ≠ 0 then nI (a + 1 + d) else fsN g (a + 1 + d) := rfl
    have h1 := hc (a + 1 + d) (by omega) (by omega)
    have h2 := smN_mono g (a := a + 1) (b := a + 1 + d) (by omega)
    have h3 : smN g (a + 1) = smN g a + g a := rfl
    rw [e, if_neg (fun q => by have := q.1; have := q.2; omega)]
    exact ih
section OQ
variable {fu a n : Nat} {S : Sto} {M M1 : Mm} {f : Nat → Nat}
theorem X10_strange_l {p : Nat} (hfu : 200000 ≤ fu) (h : PV S M p n f) (hV : VX S M (a + 12)) (hG : Gd S) (x1 : Int32) : fX10_strange_l13 fu a x1 p M (nI 0) mI (nI 0) = some (stA S x1, M) := by
  have hn := h.2.1
  have hA := hG.ad
  have hn2 := h.1.2.2.1
  unfold fX10_strange_l13
  refine lp_ue (fun i => (nI (smN (sgS S) (f i)), fsN (sgS S) (f i), nI i)) (n - 1) (by rw [h.1.2.2.2.1]; rfl) (by omega) (fun i hi rec => ?_) (fun rec => ?_)
  · have hle := h.le (i := i + 1) (by omega)
    have hlt := h.lt (i := i) (by omega)
    have s4 := wS_lt hG (f i)
    have s5 := kdS_le hG (f i) 99
    have s6 : sdS S (f i) ≤ 5 := snN_le (hG.2.2.2.2.2.2.2 _ (pg_div hG (by omega))) s5
    have hw := (h.2.2.2.2.1 i (by omega)).1
    have hkd := (h.2.2.2.2.1 i (by omega)).2
    have fl : ∀ i x, Al n f i x → sgS S x = sgS S (f i) := fun i x al => by
      unfold sgS
      rw [h.sf hG al, h.wf al]
    have su := h.su fl (i := i) (by omega)
    have fs := fsN_fl (g := sgS S) (a := f i) (b := f (i + 1)) hlt (fun x h1 h2 => fl i x ⟨by omega, h1, h2⟩)
    have hb : smN (sgS S) (f i) ≤ 1 * f i := smN_le fun x _ => by unfold sgS; split <;> omega
    have a1 := X5_startOf (fu := fu) h (i := i) (by omega)
    have a2 := X5_lengthOf (fu := fu) h hG (i := i) (by omega)
    have a3 : fX8_seenAs fu (a + 12) (nI (f i)) (nI (kdS S (f i) 99)) M = some (nI (sdS S (f i))) := X8_seenAs hV hG (by omega) s5
    show fX10_strange_b13 fu _ a x1 p (nI (smN (sgS S) (f i))) (fsN (sgS S) (f i)) (nI i) M = rec (nI (smN (sgS S) (f (i + 1))), fsN (sgS S) (f (i + 1)), nI (i + 1))
    rw [su, fs]
    simp (disch := omega) only [fX10_strange_b13, fX10_strange_j78, fX10_strange_j67, h.2.2.2.1.1, a1, a2, hw, hkd, a3, zi_li, zi_m, zi_m1, nI_add, zi_sub, zi_mul, zi_addm, zi_m_lt, zi_lt_m, zi_m_le, zi_le_m, zi_eq_m, zi_m_eq, nI_ltI, nI_leI, nI_eq, nI_clamp, zi_div, lt_eq, bm_s, bi_s, bl_s, bw_s, gd, if_pos, if_neg, ite_true, ite_false, or_false, false_or, and_true, true_and, not_true, not_false_iff, true_or, or_true, Nat.not_lt_zero]
    by_cases c : sdS S (f i) = wS S (f i)
    · have : sgS S (f i) = 0 := if_pos c
      rw [if_pos c, this, if_neg (fun q => q.2 rfl), Nat.zero_mul]
      rfl
    · have h1 : sgS S (f i) = 1 := if_neg c
      rw [if_neg c, h1, Nat.one_mul]
      by_cases c2 : smN (sgS S) (f i) = 0
      · rw [if_pos c2, if_pos ⟨c2, by omega⟩]
      · rw [if_neg c2, if_neg (fun q => c2 q.1)]
  · have e2 : f (n - 1) = 2 ^ S 140 := h.1.2.2.2.2
    show fX10_strange_b13 fu _ a x1 p (nI (smN (sgS S) (f (n - 1)))) (fsN (sgS S) (f (n - 1))) (nI (n - 1)) M = _
    rw [e2]
    simp (disch := omega) only [fX10_strange_b13, fX10_strange_j84, h.2.2.2.1.1, zi_li, zi_m, zi_m1, nI_add, zi_sub, zi_mul, zi_addm, zi_m_lt, zi_lt_m, zi_m_le, zi_le_m, zi_eq_m, zi_m_eq, nI_ltI, nI_leI, nI_eq, nI_clamp, zi_div, lt_eq, bm_s, bi_s, bl_s, bw_s, gd, if_pos, if_neg, ite_true, ite_false, or_false, false_or, and_true, true_and, not_true, not_false_iff, true_or, or_true, Nat.not_lt_zero]
    unfold stA
    by_cases c0 : x1 = nI 0
    · rw [if_pos c0, if_pos c0]
    · rw [if_neg c0, if_neg c0]
      by_cases c1 : x1 = nI 1
      · rw [if_pos c1, if_pos c1]
      · rw [if_neg c1, if_neg c1]
theorem X10_strange (hfu : 200000 ≤ fu) (h : PV S M1 (a + 198) n f) (hV : VX S M1 (a + 12)) (hG : Gd S) (e : fX10_piecesNow fu a M = some M1) (x1 : Int32) : fX10_strange fu a x1 M = some (stA S x1, M1) := by
  unfold fX10_strange
  rw [e, bm_s]
  exact X10_strange_l hfu h hV hG x1
end OQ
