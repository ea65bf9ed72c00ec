/-! Pieces between edges: what mends, what does nothing, what is gained. -/
section ME
variable {fu b p n m : Nat} {S : Sto} {M : Mm} {f : Nat → Nat}
theorem PV.ed (h : PV S M p n f) {y : Nat} (hy : y ≤ 2 ^ S 140) (hm : MemC (2 ^ S 140) n f y) : ∃ i, i < n ∧ f i = y := by
  have h2 := h.1.2.2.1
  by_cases c0 : y = 0
  · exact ⟨0, by omega, by rw [c0]; exact h.1.2.2.2.1⟩
  · by_cases c1 : y = 2 ^ S 140
    · exact ⟨n - 1, by omega, by rw [c1]; exact h.1.2.2.2.2⟩
    · exact hm (by omega) (by omega)
theorem PV.al (h : PV S M p n f) {i j x : Nat} (ha : Al n f i x) (hj : j < n) (hx : f j = x) : i = j := by
  obtain ⟨a1, a2, a3⟩ := ha
  rcases Nat.lt_trichotomy i j with c | c | c
  · by_cases c2 : j = i + 1
    · subst c2; omega
    · have := h.1.2.1 (i + 1) j (by omega) hj; omega
  · exact c
  · have := h.1.2.1 j i c (by omega); omega
/-- from one edge to another -/
theorem PV.fromto (hfu : 200000 ≤ fu) (h : PV S M p n f) (hG : Gd S) {y1 y2 : Nat} (hy : y1 < y2) (hy2 : y2 ≤ 2 ^ S 140) (m1 : MemC (2 ^ S 140) n f y1) (m2 : MemC (2 ^ S 140) n f y2) : ∃ i1 i2, i1 < i2 ∧ i2 < n ∧ f i1 = y1 ∧ f i2 = y2 ∧ fX5_pieceFrom fu p (nI 0) (nI y1) M = some (nI i1) := by
  obtain ⟨i1, a1, a2⟩ := h.ed (by omega) m1
  obtain ⟨i2, b1, b2⟩ := h.ed hy2 m2
  have hn2 := h.1.2.2.1
  obtain ⟨i, e1, e2⟩ := X5_pieceFrom hfu h hG (j := 0) (x := y1) (by omega) (by rw [h.1.2.2.2.1]; omega) (by omega)
  have := h.al e2 a1 a2
  subst this
  refine ⟨i, i2, ?_, b1, a2, b2, e1⟩
  rcases Nat.lt_trichotomy i i2 with c | c | c
  · exact c
  · subst c; omega
  · have := h.1.2.1 i2 i c a1; omega
theorem X5_mends (hfu : 200000 ≤ fu) (h : PV S M p n f) (hG : Gd S) {page pk i1 i2 : Nat} (hp : page < 2 ^ S 140 / 16) (hk : pk < 6) (h12 : i1 < i2) (hi2 : i2 < n) (e1 : f i1 = 16 * page) (e2 : f i2 = 16 * page + 16) : fX5_mends fu p (nI i1) (nI (16 * page + 16)) (nI pk) M = some (bI (okS S page pk = 0)) := by
  have hn := h.2.1
  have hA := hG.ad
  have hF := hG.2.1 142
  have key : Wp (fX5_mends fu p (nI i1) (nI (16 * page + 16)) (nI pk) M) (fun v => v = bI (okS S page pk = 0)) := by
    unfold fX5_mends fX5_mends_l3
    refine lp_ho (fun j z => z = nI (i1 + j) ∧ ∀ x, 16 * page ≤ x → x < f (i1 + j) → bdS S pk x = 0) _ (i2 - i1) (i := 0) (by omega) (by omega) ⟨rfl, fun x h1 h2 => by rw [Nat.add_zero, e1] at h2; omega⟩ (fun j z hj hz rec hrec => ?_) (fun z hz rec => ?_)
    · obtain ⟨rfl, hz⟩ := hz
      have hle := h.le (i := i1 + j) (by omega)
      have s4 := wS_lt hG (f (i1 + j))
      have s5 := kdS_le hG (f (i1 + j)) 99
      have s6 := snN_le (p := pk) (by omega) s5
      have hlt : f (i1 + j) < 16 * page + 16 := by rw [← e2]; exact h.1.2.1 _ _ (by omega) hi2
      have hge : 16 * page ≤ f (i1 + j) := by
        by_cases c : j = 0
        · rw [c, Nat.add_zero, e1]; exact Nat.le_refl _
        · rw [← e1]; exact Nat.le_of_lt (h.1.2.1 _ _ (by omega) (by omega))
      have nxt : bdS S pk (f (i1 + j)) = 0 → ∀ x, 16 * page ≤ x → x < f (i1 + (j + 1)) → bdS S pk x = 0 := fun h0 x h1 h2 => by
        by_cases c : x < f (i1 + j)
        · exact hz x h1 c
        · have al : Al n f (i1 + j) x := ⟨by omega, by omega, h2⟩
          unfold bdS at h0 ⊢
          have t1 := h.ff hG al
          rw [h.wf al, h.kf hG al]
          by_cases c2 : S 142 ≤ x ∧ snN pk (kdS S (f (i1 + j)) 99) ≠ wS S (f (i1 + j))
          · rw [if_pos ⟨by omega, c2.2⟩] at h0
            omega
          · rw [if_neg c2]
      have hw := (h.2.2.2.2.1 (i1 + j) (by omega)).1
      have hkd := (h.2.2.2.2.1 (i1 + j) (by omega)).2
      simp (disch := omega) only [fX5_mends_b3, fX5_mends_j71, fX5_mends_j69, h.2.2.2.1.1, h.2.2.2.1.2, zi_li, zi_m, zi_m1, nI_add, zi_sub, zi_mul, zi_addm, zi_m_lt, zi_lt_m, zi_m_le, zi_le_m, zi_eq_m, zi_m_eq, nI_ltI, nI_leI, nI_eq, nI_clamp, zi_div, lt_eq, bm_s, bi_s, bl_s, bw_s, gd, if_pos, if_neg, ite_true, ite_false, or_false, false_or, and_true, true_and, not_true, not_false_iff, true_or, or_true, Nat.not_lt_zero, h.1.1.2 (i1 + j), hw, hkd]
      rw [seen_T pk hk _ (by omega)]
      by_cases c1 : f (i1 + j) < S 142
      · rw [if_pos c1]
        exact hrec _ ⟨rfl, nxt (if_neg (by omega))⟩
      · rw [if_neg c1]
        by_cases c2 : snN pk (kdS S (f (i1 + j)) 99) = wS S (f (i1 + j))
        · simp (disch := omega) only [zi_li, zi_m, zi_m1, nI_add, zi_sub, zi_mul, zi_addm, zi_m_lt, zi_lt_m, zi_m_le, zi_le_m, zi_eq_m, zi_m_eq, nI_ltI, nI_leI, nI_eq, nI_clamp, zi_div, lt_eq, bm_s, bi_s, bl_s, bw_s, gd, if_pos, if_neg, ite_true, ite_false, or_false, false_or, and_true, true_and, not_true, not_false_iff, true_or, or_true, Nat.not_lt_zero]
          exact hrec _ ⟨rfl, nxt (if_neg (fun q => q.2 c2))⟩
        · simp (disch := omega) only [zi_li, zi_m, zi_m1, nI_add, zi_sub, zi_mul, zi_addm, zi_m_lt, zi_lt_m, zi_m_le, zi_le_m, zi_eq_m, zi_m_eq, nI_ltI, nI_leI, nI_eq, nI_clamp, zi_div, lt_eq, bm_s, bi_s, bl_s, bw_s, gd, if_pos, if_neg, ite_true, ite_false, or_false, false_or, and_true, true_and, not_true, not_false_iff, true_or, or_true, Nat.not_lt_zero]
          rw [wp_some, bI_f]
          intro q
          have h1 := okS_0.mp q (f (i1 + j)) hge hlt
          have h2 : bdS S pk (f (i1 + j)) = 1 := if_pos ⟨by omega, c2⟩
          omega
    · obtain ⟨rfl, hz⟩ := hz
      have ei : i1 + (i2 - i1) = i2 := by omega
      rw [ei] at hz ⊢
      rw [e2] at hz
      have fin : Wp (some (1 : Int32)) (fun v => v = bI (okS S page pk = 0)) := by
        rw [wp_some, bI_t (okS_0.mpr hz)]
        rfl
      unfold fX5_mends_b3 fX5_mends_j77
      rw [h.2.2.2.1.1]
      by_cases c : n - 1 ≤ i2
      · rw [if_pos (nI_le c (by omega))]
        exact fin
      · rw [if_neg (nI_ge (by omega) (by omega)), if_neg (nI_in (by omega) (by omega)), ix_n (by omega), h.1.1.2 i2 hi2, e2, if_pos (Int32.le_refl _)]
        exact fin
  obtain ⟨v, e, rfl⟩ := key
  exact e
theorem X5_mendingKind (hfu : 200000 ≤ fu) (h : PV S M p n f) (hG : Gd S) {page : Nat} (hp : page < 2 ^ S 140 / 16) : fX5_mendingKind fu p (nI page) M = some (mdS S page) := by
  have hA := hG.ad
  have hT : 2 ^ S 140 / 16 * 16 = 2 ^ S 140 := by
    obtain ⟨T, hT, _, hpg, _, _⟩ := pg_T hG
    rw [hpg, hT, p16, Nat.mul_comm]
  have mc : ∀ y, y ≤ 2 ^ S 140 / 16 → MemC (2 ^ S 140) n f (16 * y) := fun y hy => by
    by_cases c : y < 2 ^ S 140 / 16
    · intro h1 h2
      have := h.2.2.1.2.2.2 y (by omega) c
      rw [Nat.mul_comm] at this
      exact this h1 h2
    · intro h1 h2
      have : y = 2 ^ S 140 / 16 := by omega
      subst this
      omega
  obtain ⟨i1, i2, a1, a2, a3, a4, a5⟩ := h.fromto hfu hG (y1 := 16 * page) (y2 := 16 * (page + 1)) (by omega) (by omega) (mc page (by omega)) (mc (page + 1) (by omega))
  have e16 : nI page * 16 = nI (16 * page) := by
    rw [Nat.mul_comm]
    simp (disch := omega) only [zi_li, zi_m, zi_m1, nI_add, zi_sub, zi_mul, zi_addm, zi_m_lt, zi_lt_m, zi_m_le, zi_le_m, zi_eq_m, zi_m_eq, nI_ltI, nI_leI, nI_eq, nI_clamp, zi_div, lt_eq, bm_s, bi_s, bl_s, bw_s, gd]
  unfold fX5_mendingKind fX5_mendingKind_l12
  rw [e16, show (0 : Int32) = nI 0 from rfl, a5, bi_s]
  refine lp_tr (P := fun pk => okS S page pk = 0) (fun k hk rec => ?_) (fun rec => ?_) (by omega)
  · have im := fun pk (hk : pk < 6) => X5_mends hfu h hG (page := page) hp hk a1 a2 a3 (by rw [a4]; omega)
    have e17 : nI page * nI 16 + nI 16 = nI (16 * page + 16) := by
      rw [Nat.mul_comm]
      simp (disch := omega) only [zi_li, zi_m, zi_m1, nI_add, zi_sub, zi_mul, zi_addm, zi_m_lt, zi_lt_m, zi_m_le, zi_le_m, zi_eq_m, zi_m_eq, nI_ltI, nI_leI, nI_eq, nI_clamp, zi_div, lt_eq, bm_s, bi_s, bl_s, bw_s, gd]
    unfold tkN
    by_cases c0 : k = 0
    · subst c0
      have im5 := im 5 (by omega)
      simp (disch := omega) only [fX5_mendingKind_b12, fX5_mendingKind_j37, fX10_pageKindInTurn, fX10_pageKindInTurn_j11, zi_li, bi_s, lt_eq, nI_eq, nI_leI, nI_1, nI_add, e17, if_pos, if_neg, ite_true, ite_false, or_false, false_or, and_true, true_and, not_true, not_false_iff, true_or, or_true, Nat.not_lt_zero, im5, bI_0]
      by_cases c : okS S page 5 = 0
      · rw [if_neg (fun q => q c), if_pos c]
      · rw [if_pos c, if_neg c]
    · have imk := im (k - 1) (by omega)
      simp (disch := omega) only [fX5_mendingKind_b12, fX5_mendingKind_j37, fX10_pageKindInTurn, fX10_pageKindInTurn_j11, zi_li, zi_sub, bi_s, lt_eq, nI_eq, nI_leI, nI_1, nI_add, e17, if_pos, if_neg, ite_true, ite_false, or_false, false_or, and_true, true_and, not_true, not_false_iff, true_or, or_true, Nat.not_lt_zero, imk, bI_0]
      by_cases c : okS S page (k - 1) = 0
      · rw [if_neg (fun q => q c), if_pos c]
      · rw [if_pos c, if_neg c]
  · simp (disch := omega) only [fX5_mendingKind_b12, fX5_mendingKind_j48, zi_li, zi_m, zi_m1, nI_add, zi_sub, zi_mul, zi_addm, zi_m_lt, zi_lt_m, zi_m_le, zi_le_m, zi_eq_m, zi_m_eq, nI_ltI, nI_leI, nI_eq, nI_clamp, zi_div, lt_eq, bm_s, bi_s, bl_s, bw_s, gd, if_pos, if_neg, ite_true, ite_false, or_false, false_or, and_true, true_and, not_true, not_false_iff, true_or, or_true, Nat.not_lt_zero]
end ME
