/-! wrong and mendable, as asked. -/
def weA (S : Sto) (x1 : Int32) : Int32 := if x1 = nI 0 then nI (smN (wgS S (S 142) (2 ^ S 140)) (2 ^ S 140)) else if x1 = nI 1 then fsN (vgS S (S 142)) (2 ^ S 140) else if x1 = nI 2 then nI (smN (cgS S) (2 ^ S 140)) else if x1 = nI 3 then nI (smN (wgS S 0 (S 142)) (2 ^ S 140)) else mI
def meA (S : Sto) (x : Int32) : Int32 := if nI 0 ≤ x ∧ x < nI (2 ^ S 140 / 16) then mdS S (ix x) else mI
section OW
variable {fu a m n : Nat} {S : Sto} {M M1 : Mm} {f : Nat → Nat}
theorem X10_wrong (hfu : 200000 ≤ fu) (h : PV S M1 (a + 198) n f) (hV : VX S M1 (a + 12)) (hG : Gd S) (e : fX10_piecesNow fu a M = some M1) (x1 : Int32) : fX10_wrong fu a x1 M = some (weA S x1, M1) := by
  have hA := hG.ad
  have hF := hG.2.1 142
  have tu : ∀ i x, Al n f i x → (x < 2 ^ S 140 ↔ f i < 2 ^ S 140) := fun i x al => by
    have := h.le (i := i + 1) al.1
    have := al.2.1
    have := al.2.2
    omega
  have t0 : ∀ i x, Al n f i x → (x < 0 ↔ f i < 0) := fun i x al => by omega
  have tf : ∀ i x, Al n f i x → (x < S 142 ↔ f i < S 142) := fun i x al => h.ff hG al
  have w0 : fX5_wrongOnes fu (a + 198) (nI (S 142)) (nI (2 ^ S 140)) M1 = some (nI (smN (wgS S (S 142) (2 ^ S 140)) (2 ^ S 140))) := X5_wrongOnes hfu h hG (by omega) (by omega) tf tu
  have w1 : fX5_firstWrong fu (a + 198) (nI (S 142)) M1 = some (fsN (vgS S (S 142)) (2 ^ S 140)) := X5_firstWrong hfu h hG (by omega) tf
  have w2 : fX5_clashing fu (a + 198) M1 = some (nI (smN (cgS S) (2 ^ S 140))) := X5_clashing hfu h hG
  have w3 : fX5_wrongOnes fu (a + 198) (nI 0) (nI (S 142)) M1 = some (nI (smN (wgS S 0 (S 142)) (2 ^ S 140))) := X5_wrongOnes hfu h hG (by omega) (by omega) t0 tf
  unfold fX10_wrong weA
  rw [e, bm_s, hV.1.1, hV.1.2.2.2.2]
  show (if x1 = nI 0 then _ else if x1 = nI 1 then _ else if x1 = nI 2 then _ else if x1 = nI 3 then bi (fX5_wrongOnes fu (a + 198) (nI 0) (nI (S 142)) M1) _ else _) = _
  rw [w0, w1, w2, w3, bi_s, bi_s, bi_s, bi_s]
  by_cases c0 : x1 = nI 0
  · rw [if_pos c0, if_pos c0]
  · rw [if_neg c0, if_neg c0]
    by_cases c1 : x1 = nI 1
    · rw [if_pos c1, if_pos c1]
    · rw [if_neg c1, if_neg c1]
      by_cases c2 : x1 = nI 2
      · rw [if_pos c2, if_pos c2]
      · rw [if_neg c2, if_neg c2]
        by_cases c3 : x1 = nI 3
        · rw [if_pos c3, if_pos c3]
        · rw [if_neg c3, if_neg c3]
          rfl
theorem X10_mendable (hfu : 200000 ≤ fu) (hV0 : VX S M (a + 12)) (h : PV S M1 (a + 198) n f) (hG : Gd S) (e : fX10_piecesNow fu a M = some M1) (x : Int32) : ∃ M2, fX10_mendable fu a x M = some (meA S x, M2) ∧ (M2 = M ∨ M2 = M1) := by
  have hA := hG.ad
  have h64 : 2 ^ S 140 / 16 ≤ 64 := by omega
  unfold fX10_mendable meA
  obtain ⟨v, ev, ⟨rfl, j, hj, rfl⟩ | ⟨rfl, hn⟩⟩ := X8_hasPage (fu := fu) hV0 hG x
  · refine ⟨M1, ?_, Or.inr rfl⟩
    have c : nI 0 ≤ nI j ∧ nI j < nI (2 ^ S 140 / 16) := ⟨(nI_leI (by omega) (by omega)).mpr (by omega), (nI_ltI (by omega) (by omega)).mpr hj⟩
    rw [ev, bi_s, if_neg (by decide), e, bm_s, X5_mendingKind hfu h hG hj, bi_s, if_pos c, ix_n (by omega)]
    rfl
  · refine ⟨M, ?_, Or.inl rfl⟩
    have c : ¬ (nI 0 ≤ x ∧ x < nI (2 ^ S 140 / 16)) := fun q => by
      obtain ⟨j, hj, ej⟩ := isB_of q (by omega)
      exact hn j hj ej
    rw [ev, bi_s, if_neg c]
    rfl
theorem X11_mendable_x (hfu : 200000 ≤ fu) (hV : VM S M m) (hG : Gd S) (x : Int32) : fX11_mendable fu m x M = some (meA S x) := by
  have hA := hG.ad
  have h64 : 2 ^ S 140 / 16 ≤ 64 := by omega
  unfold meA
  by_cases c : nI 0 ≤ x ∧ x < nI (2 ^ S 140 / 16)
  · obtain ⟨j, hj, rfl⟩ := isB_of c (by omega)
    rw [if_pos c, ix_n (by omega)]
    exact X11_mendable hfu hV hG hj
  · have c1 : ¬ (nI 0 ≤ x ∧ x ≤ nI (2 ^ S 140 / 16 - 1)) := fun q => by
      obtain ⟨j, hj, ej⟩ := (isIn_c (by omega)).mp q
      exact c (by
        rw [ej]
        exact ⟨(nI_leI (by omega) (by omega)).mpr (by omega), (nI_ltI (by omega) (by omega)).mpr (by omega)⟩)
    rw [if_neg c]
    unfold fX11_mendable
    rw [X11_pages hV hG, bi_s]
    show bi (fX11_isIn fu x (nI 0) (nI (2 ^ S 140 / 16) - nI 1)) _ = _
    rw [zi_sub (by omega), X11_isIn, bi_s, bI_f c1]
    rfl
end OW
