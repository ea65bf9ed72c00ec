/-! besides as asked. -/
def beA (S : Sto) (x1 x2 x3 : Int32) : Int32 := if fP (S 140) (nI 0) x1 then if nI 0 ≤ x2 ∧ x2 ≤ nI 4 then if nI 0 ≤ x3 ∧ x3 ≤ nI 1 then bqX x3 (bqF S (ix x2) (ix x1) (2 ^ S 140 / ix x1)) else zZ (-2000) else zZ (-2000) else zZ (-2000)
section BO
variable {fu a m n : Nat} {S : Sto} {M M1 : Mm} {f : Nat → Nat}
theorem X11_besides (hfu : 200000 ≤ fu) (hV : VM S M m) (hG : Gd S) (x1 x2 x3 : Int32) : fX11_besides fu m x1 x2 x3 M = some (beA S x1 x2 x3) := by
  have hA := hG.ad
  have n28 : fX11_besides_j28 fu M = some (zZ (-2000)) := rfl
  unfold fX11_besides beA
  rw [X11_addresses hV hG, bi_s, n28]
  show bi (fX11_isBlock fu (nI 0) x1 (nI (2 ^ S 140))) _ = _
  rw [X11_isBlock hG.1.2.1, bi_s]
  by_cases c1 : fP (S 140) (nI 0) x1
  · rw [bI_t c1, if_neg (by decide), if_pos c1, X11_isKind, bi_s]
    by_cases c2 : nI 0 ≤ x2 ∧ x2 ≤ nI 4
    · rw [bI_t c2, if_neg (by decide), if_pos c2]
      show bi (fX11_isIn fu x3 (nI 0) (nI 1)) _ = _
      rw [X11_isIn, bi_s]
      by_cases c3 : nI 0 ≤ x3 ∧ x3 ≤ nI 1
      · rw [bI_t c3, if_neg (by decide), if_pos c3]
        obtain ⟨e, q, he, rfl, _, _⟩ := fP_of hG.1.2.1 c1
        obtain ⟨k, hk, rfl⟩ := (isIn_c (by omega)).mp c2
        have hpe : 2 ^ e ≤ 2 ^ S 140 := Nat.pow_le_pow_right (by decide) he
        rw [ix_n (by omega), ix_n (by omega)]
        exact X11_besides_l hfu hV hG (by omega) (Nat.two_pow_pos e) (p2_d (by omega)) x3
      · rw [bI_f c3, if_pos (by decide), if_neg c3]
    · rw [bI_f c2, if_pos (by decide), if_neg c2]
  · rw [bI_f c1, if_pos (by decide), if_neg c1]
theorem X10_besides (hfu : 200000 ≤ fu) (hV0 : VX S M (a + 12)) (h : PV S M1 (a + 198) n f) (hV : VX S M1 (a + 12)) (hG : Gd S) (e : fX10_piecesNow fu a M = some M1) (x1 x2 x3 : Int32) : ∃ M2, fX10_besides fu a x1 x2 x3 M = some (beA S x1 x2 x3, M2) ∧ (M2 = M ∨ O1 (a + 198 + 5) M1 M2) := by
  have hA := hG.ad
  have n28 : fX10_besides_j28 fu M = some (zZ (-2000), M) := rfl
  unfold fX10_besides beA
  rw [n28]
  show ∃ M2, bi (fX8_fits fu (a + 12) (nI 0) x1 M) _ = _ ∧ _
  rw [X8_fits hV0 hG, bi_s]
  by_cases c1 : fP (S 140) (nI 0) x1
  · rw [bI_t c1, if_neg (by decide), if_pos c1]
    obtain ⟨v, ev, ⟨rfl, k, hk, rfl⟩ | ⟨rfl, hn⟩⟩ := X10_isKind (fu := fu) x2
    · have c2 : nI 0 ≤ nI k ∧ nI k ≤ nI 4 := (isIn_c (by omega)).mpr ⟨k, by omega, rfl⟩
      rw [ev, bi_s, if_neg (by decide), if_pos c2]
      by_cases c3 : nI 0 ≤ x3 ∧ x3 ≤ nI 1
      · have c4 : ¬ x3 < (0 : Int32) := Int32.not_lt.mpr c3.1
        have c5 : x3 ≤ (1 : Int32) := c3.2
        rw [if_neg c4, if_pos c5, if_pos c3, e, bm_s]
        obtain ⟨e', q, he, rfl, _, _⟩ := fP_of hG.1.2.1 c1
        have hpe : 2 ^ e' ≤ 2 ^ S 140 := Nat.pow_le_pow_right (by decide) he
        obtain ⟨M2, ew, g1, g2, g3⟩ := X5_weighBesides hfu h hV hG hk (Or.inl (by omega))
        refine ⟨M2, ?_, Or.inr ⟨g1, g2⟩⟩
        rw [ew, bm_s, ix_n (by omega), ix_n (by omega)]
        exact X10_besides_l hfu (h.fr fun c _ _ k3 => g1 c k3) (hV.fr fun c k1 k2 => g1 c (by omega)) hG g3 (Nat.two_pow_pos e') (p2_d (by omega)) x3
      · refine ⟨M, ?_, Or.inl rfl⟩
        rw [if_neg c3]
        by_cases c4 : x3 < (0 : Int32)
        · rw [if_pos c4]
        · have c5 : ¬ x3 ≤ (1 : Int32) := fun q => c3 ⟨Int32.not_lt.mp c4, q⟩
          rw [if_neg c4, if_neg c5]
    · refine ⟨M, ?_, Or.inl rfl⟩
      have c2 : ¬ (nI 0 ≤ x2 ∧ x2 ≤ nI 4) := fun q => by
        obtain ⟨j, hj, ej⟩ := (isIn_c (by omega)).mp q
        exact hn j (by omega) ej
      rw [ev, bi_s, if_pos (by decide), if_neg c2]
  · refine ⟨M, ?_, Or.inl rfl⟩
    rw [bI_f c1, if_pos (by decide), if_neg c1]
end BO
