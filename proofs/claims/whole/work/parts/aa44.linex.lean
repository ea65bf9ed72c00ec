/-! The class reads lines. -/
section VW
variable {b k : Nat} {M : Mm} {T : Sto}
theorem VP.w0 (h : VP k T M b) (h12 : T 1 ≤ 12) (v : Nat) : VP k (upS T 140 v) (wI M b 0 (nI (2 ^ v))) b := by
  obtain ⟨⟨a0, a1, a2, a3, a4⟩, a5, a6, a7, a8⟩ := h
  have e : ∀ j, j ≠ 140 → upS T 140 v j = T j := fun j hj => upS_n hj
  unfold VP
  rw [upS_y, e 141 (by omega), e 0 (by omega), e 1 (by omega), e 142 (by omega)]
  refine ⟨⟨by simp (disch := omega) only [wI_ne, wI_eq, wI_nk, wIs_ne, wIs_eq], by simp (disch := omega) only [wI_ne, wI_eq, wI_nk, wIs_ne, wIs_eq, a1], by simp (disch := omega) only [wI_ne, wI_eq, wI_nk, wIs_ne, wIs_eq, a2], by simp (disch := omega) only [wI_ne, wI_eq, wI_nk, wIs_ne, wIs_eq, a3], by simp (disch := omega) only [wI_ne, wI_eq, wI_nk, wIs_ne, wIs_eq, a4]⟩, fun i hi => ?_, fun h p hp hk => ?_, fun r hr => ?_, fun p hp => ?_⟩
  · rw [e _ (by omega), e _ (by omega), e _ (by omega)]
    simp (disch := omega) only [wI_ne, wI_eq, wI_nk, wIs_ne, wIs_eq]
    exact a5 i hi
  · rw [e _ (by omega)]
    simp (disch := omega) only [wI_ne, wI_eq, wI_nk, wIs_ne, wIs_eq]
    exact a6 h p hp hk
  · rw [e _ (by omega), e _ (by omega), e _ (by omega)]
    simp (disch := omega) only [wI_ne, wI_eq, wI_nk, wIs_ne, wIs_eq]
    exact a7 r hr
  · rw [e _ (by omega)]
    simp (disch := omega) only [wI_ne, wI_eq, wI_nk, wIs_ne, wIs_eq]
    exact a8 p hp
theorem VP.w1 (h : VP k T M b) (h12 : T 1 ≤ 12) (v : Nat) : VP k (upS T 141 v) (wI M b 1 (nI v)) b := by
  obtain ⟨⟨a0, a1, a2, a3, a4⟩, a5, a6, a7, a8⟩ := h
  have e : ∀ j, j ≠ 141 → upS T 141 v j = T j := fun j hj => upS_n hj
  unfold VP
  rw [e 140 (by omega), upS_y, e 0 (by omega), e 1 (by omega), e 142 (by omega)]
  refine ⟨⟨by simp (disch := omega) only [wI_ne, wI_eq, wI_nk, wIs_ne, wIs_eq, a0], by simp (disch := omega) only [wI_ne, wI_eq, wI_nk, wIs_ne, wIs_eq], by simp (disch := omega) only [wI_ne, wI_eq, wI_nk, wIs_ne, wIs_eq, a2], by simp (disch := omega) only [wI_ne, wI_eq, wI_nk, wIs_ne, wIs_eq, a3], by simp (disch := omega) only [wI_ne, wI_eq, wI_nk, wIs_ne, wIs_eq, a4]⟩, fun i hi => ?_, fun h p hp hk => ?_, fun r hr => ?_, fun p hp => ?_⟩
  · rw [e _ (by omega), e _ (by omega), e _ (by omega)]
    simp (disch := omega) only [wI_ne, wI_eq, wI_nk, wIs_ne, wIs_eq]
    exact a5 i hi
  · rw [e _ (by omega)]
    simp (disch := omega) only [wI_ne, wI_eq, wI_nk, wIs_ne, wIs_eq]
    exact a6 h p hp hk
  · rw [e _ (by omega), e _ (by omega), e _ (by omega)]
    simp (disch := omega) only [wI_ne, wI_eq, wI_nk, wIs_ne, wIs_eq]
    exact a7 r hr
  · rw [e _ (by omega)]
    simp (disch := omega) only [wI_ne, wI_eq, wI_nk, wIs_ne, wIs_eq]
    exact a8 p hp
theorem VP.w2 (h : VP k T M b) (h12 : T 1 ≤ 12) (v : Nat) : VP k (upS T 0 v) (wI M b 2 (nI v)) b := by
  obtain ⟨⟨a0, a1, a2, a3, a4⟩, a5, a6, a7, a8⟩ := h
  have e : ∀ j, j ≠ 0 → upS T 0 v j = T j := fun j hj => upS_n hj
  unfold VP
  rw [e 140 (by omega), e 141 (by omega), upS_y, e 1 (by omega), e 142 (by omega)]
  refine ⟨⟨by simp (disch := omega) only [wI_ne, wI_eq, wI_nk, wIs_ne, wIs_eq, a0], by simp (disch := omega) only [wI_ne, wI_eq, wI_nk, wIs_ne, wIs_eq, a1], by simp (disch := omega) only [wI_ne, wI_eq, wI_nk, wIs_ne, wIs_eq], by simp (disch := omega) only [wI_ne, wI_eq, wI_nk, wIs_ne, wIs_eq, a3], by simp (disch := omega) only [wI_ne, wI_eq, wI_nk, wIs_ne, wIs_eq, a4]⟩, fun i hi => ?_, fun h p hp hk => ?_, fun r hr => ?_, fun p hp => ?_⟩
  · rw [e _ (by omega), e _ (by omega), e _ (by omega)]
    simp (disch := omega) only [wI_ne, wI_eq, wI_nk, wIs_ne, wIs_eq]
    exact a5 i hi
  · rw [e _ (by omega)]
    simp (disch := omega) only [wI_ne, wI_eq, wI_nk, wIs_ne, wIs_eq]
    exact a6 h p hp hk
  · rw [e _ (by omega), e _ (by omega), e _ (by omega)]
    simp (disch := omega) only [wI_ne, wI_eq, wI_nk, wIs_ne, wIs_eq]
    exact a7 r hr
  · rw [e _ (by omega)]
    simp (disch := omega) only [wI_ne, wI_eq, wI_nk, wIs_ne, wIs_eq]
    exact a8 p hp
theorem VP.w4 (h : VP k T M b) (h12 : T 1 ≤ 12) (v : Nat) : VP 0 (upS T 142 v) (wI M b 4 (nI v)) b := by
  obtain ⟨⟨a0, a1, a2, a3, a4⟩, a5, a6, a7, a8⟩ := h
  have e : ∀ j, j ≠ 142 → upS T 142 v j = T j := fun j hj => upS_n hj
  unfold VP
  rw [e 140 (by omega), e 141 (by omega), e 0 (by omega), e 1 (by omega), upS_y]
  refine ⟨⟨by simp (disch := omega) only [wI_ne, wI_eq, wI_nk, wIs_ne, wIs_eq, a0], by simp (disch := omega) only [wI_ne, wI_eq, wI_nk, wIs_ne, wIs_eq, a1], by simp (disch := omega) only [wI_ne, wI_eq, wI_nk, wIs_ne, wIs_eq, a2], by simp (disch := omega) only [wI_ne, wI_eq, wI_nk, wIs_ne, wIs_eq, a3], by simp (disch := omega) only [wI_ne, wI_eq, wI_nk, wIs_ne, wIs_eq]⟩, fun i hi => ?_, fun h p hp hk => by omega, fun r hr => ?_, fun p hp => ?_⟩
  · rw [e _ (by omega), e _ (by omega), e _ (by omega)]
    simp (disch := omega) only [wI_ne, wI_eq, wI_nk, wIs_ne, wIs_eq]
    exact a5 i hi
  · rw [e _ (by omega), e _ (by omega), e _ (by omega)]
    simp (disch := omega) only [wI_ne, wI_eq, wI_nk, wIs_ne, wIs_eq]
    exact a7 r hr
  · rw [e _ (by omega)]
    simp (disch := omega) only [wI_ne, wI_eq, wI_nk, wIs_ne, wIs_eq]
    exact a8 p hp
theorem VP.wp (h : VP k T M b) (h12 : T 1 ≤ 12) (hk : k < 8) (v : Nat) : VP (k + 1) (upS T (68 + k) v) (wI M (b + 4) k (nI v)) b := by
  obtain ⟨⟨a0, a1, a2, a3, a4⟩, a5, a6, a7, a8⟩ := h
  have e : ∀ j, j ≠ 68 + k → upS T (68 + k) v j = T j := fun j hj => upS_n hj
  unfold VP
  rw [e 140 (by omega), e 141 (by omega), e 0 (by omega), e 1 (by omega), e 142 (by omega)]
  refine ⟨⟨by simp (disch := omega) only [wI_ne, wI_eq, wI_nk, wIs_ne, wIs_eq, a0], by simp (disch := omega) only [wI_ne, wI_eq, wI_nk, wIs_ne, wIs_eq, a1], by simp (disch := omega) only [wI_ne, wI_eq, wI_nk, wIs_ne, wIs_eq, a2], by simp (disch := omega) only [wI_ne, wI_eq, wI_nk, wIs_ne, wIs_eq, a3], by simp (disch := omega) only [wI_ne, wI_eq, wI_nk, wIs_ne, wIs_eq, a4]⟩, fun i hi => ?_, fun h p hp hk => ?_, fun r hr => ?_, fun p hp => ?_⟩
  · rw [e _ (by omega), e _ (by omega), e _ (by omega)]
    simp (disch := omega) only [wI_ne, wI_eq, wI_nk, wIs_ne, wIs_eq]
    exact a5 i hi
  · by_cases c : p = k
    · subst c
      rw [upS_y]
      simp (disch := omega) only [wI_ne, wI_eq, wI_nk, wIs_ne, wIs_eq]
    · rw [e _ (by omega)]
      simp (disch := omega) only [wI_ne, wI_eq, wI_nk, wIs_ne, wIs_eq]
      exact a6 h p hp (by omega)
  · rw [e _ (by omega), e _ (by omega), e _ (by omega)]
    simp (disch := omega) only [wI_ne, wI_eq, wI_nk, wIs_ne, wIs_eq]
    exact a7 r hr
  · rw [e _ (by omega)]
    simp (disch := omega) only [wI_ne, wI_eq, wI_nk, wIs_ne, wIs_eq]
    exact a8 p hp
theorem VP.wg (h : VP k T M b) (h12 : T 1 ≤ 12) {i : Nat} (hi : i < 64) (v : Nat) : VP k (upS T (76 + i) v) (wI M (b + 8) i (nI v)) b := by
  obtain ⟨⟨a0, a1, a2, a3, a4⟩, a5, a6, a7, a8⟩ := h
  have e : ∀ j, j ≠ 76 + i → upS T (76 + i) v j = T j := fun j hj => upS_n hj
  unfold VP
  rw [e 140 (by omega), e 141 (by omega), e 0 (by omega), e 1 (by omega), e 142 (by omega)]
  refine ⟨⟨by simp (disch := omega) only [wI_ne, wI_eq, wI_nk, wIs_ne, wIs_eq, a0], by simp (disch := omega) only [wI_ne, wI_eq, wI_nk, wIs_ne, wIs_eq, a1], by simp (disch := omega) only [wI_ne, wI_eq, wI_nk, wIs_ne, wIs_eq, a2], by simp (disch := omega) only [wI_ne, wI_eq, wI_nk, wIs_ne, wIs_eq, a3], by simp (disch := omega) only [wI_ne, wI_eq, wI_nk, wIs_ne, wIs_eq, a4]⟩, fun i hi => ?_, fun h p hp hk => ?_, fun r hr => ?_, fun p hp => ?_⟩
  · rw [e _ (by omega), e _ (by omega), e _ (by omega)]
    simp (disch := omega) only [wI_ne, wI_eq, wI_nk, wIs_ne, wIs_eq]
    exact a5 i hi
  · rw [e _ (by omega)]
    simp (disch := omega) only [wI_ne, wI_eq, wI_nk, wIs_ne, wIs_eq]
    exact a6 h p hp hk
  · rw [e _ (by omega), e _ (by omega), e _ (by omega)]
    simp (disch := omega) only [wI_ne, wI_eq, wI_nk, wIs_ne, wIs_eq]
    exact a7 r hr
  · by_cases c : p = i
    · subst c
      rw [upS_y]
      simp (disch := omega) only [wI_ne, wI_eq, wI_nk, wIs_ne, wIs_eq]
    · rw [e _ (by omega)]
      simp (disch := omega) only [wI_ne, wI_eq, wI_nk, wIs_ne, wIs_eq]
      exact a8 p hp
theorem VP.wr (h : VP k T M b) (h12 : T 1 ≤ 12) {r : Nat} (hr : r < 10) (x y z : Nat) : VP k (putS T r x y z) (wI (wI (wI M (b + 5) r (nI x)) (b + 6) r (nI y)) (b + 7) r (nI z)) b := by
  obtain ⟨⟨a0, a1, a2, a3, a4⟩, a5, a6, a7, a8⟩ := h
  have e : ∀ j, j < 38 ∨ 68 ≤ j → putS T r x y z j = T j := putS_e hr
  unfold VP
  rw [e 140 (by omega), e 141 (by omega), e 0 (by omega), e 1 (by omega), e 142 (by omega)]
  refine ⟨⟨by simp (disch := omega) only [wI_ne, wI_eq, wI_nk, wIs_ne, wIs_eq, a0], by simp (disch := omega) only [wI_ne, wI_eq, wI_nk, wIs_ne, wIs_eq, a1], by simp (disch := omega) only [wI_ne, wI_eq, wI_nk, wIs_ne, wIs_eq, a2], by simp (disch := omega) only [wI_ne, wI_eq, wI_nk, wIs_ne, wIs_eq, a3], by simp (disch := omega) only [wI_ne, wI_eq, wI_nk, wIs_ne, wIs_eq, a4]⟩, fun i hi => ?_, fun h p hp hk => ?_, fun q hq => ?_, fun p hp => ?_⟩
  · rw [e _ (by omega), e _ (by omega), e _ (by omega)]
    simp (disch := omega) only [wI_ne, wI_eq, wI_nk, wIs_ne, wIs_eq]
    exact a5 i hi
  · rw [e _ (by omega)]
    simp (disch := omega) only [wI_ne, wI_eq, wI_nk, wIs_ne, wIs_eq]
    exact a6 h p hp hk
  · by_cases c : q = r
    · subst c
      obtain ⟨p1, p2, p3⟩ := putS_y T q x y z
      rw [p1, p2, p3]
      simp (disch := omega) only [wI_ne, wI_eq, wI_nk, wIs_ne, wIs_eq]
      exact ⟨trivial, trivial, trivial⟩
    · obtain ⟨p1, p2, p3⟩ := putS_n T x y z c
      rw [p1, p2, p3]
      simp (disch := omega) only [wI_ne, wI_eq, wI_nk, wIs_ne, wIs_eq]
      exact a7 q hq
  · rw [e _ (by omega)]
    simp (disch := omega) only [wI_ne, wI_eq, wI_nk, wIs_ne, wIs_eq]
    exact a8 p hp
theorem VP.add {fu : Nat} (h : VP k T M b) (hm : T 1 < 12) (x y z : Nat) : Wp (fX8_addSpan fu b (nI x) (nI y) (nI z) M) (fun M' => VP k (adS T x y z) M' b ∧ Fr b 9 M M' ∧ M'.2 = M.2) := by
  have h3 : M.1 b 3 = nI (T 1) := h.1.2.2.2.1
  simp (disch := omega) only [fX8_addSpan_j49, fX8_addSpan, h3, zi_lit, zi_m, zi_m1, nI_add, zi_sub, zi_mul, zi_addm, zi_m_lt, zi_lt_m, zi_m_le, zi_le_m, zi_eq_m, zi_m_eq, nI_ltI, nI_leI, nI_eq, nI_clamp, zi_div, lt_eq, bm_s, bi_s, bl_s, bw_s, gd, if_pos, if_neg, ite_true, ite_false, or_false, false_or, and_true, true_and, not_true, not_false_iff, true_or, or_true, Nat.not_lt_zero, wI_ne, wI_eq, wI_nk, wIs_ne, wIs_eq]
  rw [wp_some]
  refine ⟨?_, (((Fr.w1 _ _ _ _ (by omega) (by omega)).tr (Fr.w1 _ _ _ _ (by omega) (by omega))).tr (Fr.w1 _ _ _ _ (by omega) (by omega))).tr (Fr.w1 _ _ _ _ (by omega) (by omega)), rfl⟩
  obtain ⟨⟨a0, a1, a2, a3, a4⟩, a5, a6, a7, a8⟩ := h
  have e := adS_e hm x y z
  have e1 : adS T x y z 1 = T 1 + 1 := rfl
  unfold VP
  rw [e 140 (by omega), e 141 (by omega), e 142 (by omega), e 0 (by omega), e1]
  refine ⟨⟨by simp (disch := omega) only [wI_ne, wI_eq, wI_nk, wIs_ne, wIs_eq, a0], by simp (disch := omega) only [wI_ne, wI_eq, wI_nk, wIs_ne, wIs_eq, a1], by simp (disch := omega) only [wI_ne, wI_eq, wI_nk, wIs_ne, wIs_eq, a2], by simp (disch := omega) only [wI_ne, wI_eq, wI_nk, wIs_ne, wIs_eq], by simp (disch := omega) only [wI_ne, wI_eq, wI_nk, wIs_ne, wIs_eq, a4]⟩, fun i hi => ?_, fun h p hp hk => ?_, fun r hr => ?_, fun p hp => ?_⟩
  · unfold adS
    by_cases c : i = T 1
    · subst c
      simp (disch := omega) only [wI_ne, wI_eq, wI_nk, wIs_ne, wIs_eq, if_pos, if_neg, ite_true, ite_false, or_false, false_or, and_true, true_and, not_true, not_false_iff, true_or, or_true, Nat.not_lt_zero]
    · simp (disch := omega) only [wI_ne, wI_eq, wI_nk, wIs_ne, wIs_eq, if_pos, if_neg, ite_true, ite_false, or_false, false_or, and_true, true_and, not_true, not_false_iff, true_or, or_true, Nat.not_lt_zero]
      exact a5 i (by omega)
  · rw [e _ (by omega)]
    simp (disch := omega) only [wI_ne, wI_eq, wI_nk, wIs_ne, wIs_eq]
    exact a6 h p hp hk
  · rw [e _ (by omega), e _ (by omega), e _ (by omega)]
    simp (disch := omega) only [wI_ne, wI_eq, wI_nk, wIs_ne, wIs_eq]
    exact a7 r hr
  · rw [e _ (by omega)]
    simp (disch := omega) only [wI_ne, wI_eq, wI_nk, wIs_ne, wIs_eq]
    exact a8 p hp
end VW
section XL
variable {fu c n p : Nat} {t : Nat → Nat} {M : Mm} {T : Sto}
theorem TpX.fg {M' : Mm} (h : TpX t n M c) (hf : FG c M M') : TpX t n M' c := ⟨h.1, by rw [hf.2.1 1 (by omega)]; exact h.2.1, fun j hj => by rw [hf.1 (c + 1) (by omega)]; exact h.2.2 j hj⟩
theorem TpX.rf {M' : Mm} (h : TpX t n M c) (hf : RF c M M') : TpX t n M' c := ⟨h.1, by rw [hf.2.1 1 (by omega)]; exact h.2.1, fun j hj => by rw [hf.1 (c + 1) (by omega) (by omega)]; exact h.2.2 j hj⟩
theorem X7_readSpace_y (hfu : 200000 ≤ fu) (hT : TpX t n M c) (hp : M.1 c 5 = nI p) (hpn : p ≤ n) (hV : VF T M (c + 2)) (h12 : T 1 ≤ 12) (h9 : M.1 c 9 = nI 0) (h13 : M.1 c 13 = nI 0) : Wp (fX7_readSpace fu c M) (LX (l5 t n p T) (wI M c 9 1) c) := by
  have hen := en_le (t := t) hpn
  unfold fX7_readSpace l5
  rw [h9, if_pos (show nI 0 = (0 : Int32) from rfl), h13, if_pos (show nI 0 = (0 : Int32) from rfl), lt_eq, wp_bw]
  have T1 : TpX t n (wI M c 9 1) c := ⟨hT.1, by rw [wI_nk (by omega)]; exact hT.2.1, fun j hj => by rw [wI_ne (by omega)]; exact hT.2.2 j hj⟩
  have V1 : VF T (wI M c 9 1) (c + 2) := VP.fr hV fun c' k1 k2 => wI_ne (by omega)
  generalize hM1 : wI M c 9 1 = M1 at *
  have p1 : M1.1 c 5 = nI p := by rw [← hM1, wI_nk (by omega)]; exact hp
  refine (X7_readNumber (lo := 4) (hi := 10) hfu T1 p1 hpn (by omega) (by omega)).mono fun z q => ?_
  obtain ⟨r0, M2⟩ := z
  rcases q with ⟨q1, q2, q3, q4, q5⟩ | ⟨q1, q2, q3, q4, q5⟩
  · dsimp only at *
    subst q2
    obtain ⟨u1, u2, u3⟩ := nuC_0.mp q1
    rw [if_neg (by decide), if_pos q1, q4]
    have hp2 : 2 ^ vaT t n p ≤ 2 ^ 10 := Nat.pow_le_pow_right (by decide) u3
    have esh : (1 : Int32) <<< (nI (vaT t n p) &&& 31) = nI (2 ^ vaT t n p) := by
      have := zi_shl (n := 1) (k := vaT t n p) (by omega) (by omega)
      rw [Nat.one_mul] at this
      exact this
    rw [esh, lt_eq]
    have V2 : VF T M2 (c + 2) := VP.fr V1 fun c' k1 k2 => q5.1 c' (by omega)
    have V3 : VF (upS T 140 (vaT t n p)) (wI M2 (c + 2) 0 (nI (2 ^ vaT t n p))) (c + 2) := VP.w0 V2 h12 _
    generalize hM3 : wI M2 (c + 2) 0 (nI (2 ^ vaT t n p)) = M3 at V3 ⊢
    have F2 : RF c M1 M3 := by rw [← hM3]; exact q5.fg.rf.tr (RF.of (Fr.w1 _ _ _ _ (by omega) (by omega)) rfl)
    have T3 : TpX t n M3 c := by rw [← hM3]; exact ⟨hT.1, by rw [wI_ne (by omega)]; exact (T1.fn q5).2.1, fun j hj => by rw [wI_ne (by omega)]; exact (T1.fn q5).2.2 j hj⟩
    have p3 : M3.1 c 5 = nI (enT t n p) := by rw [← hM3, wI_ne (by omega)]; exact q3.1
    have k2 : M3.1 c 2 = M1.1 c 2 := by rw [← hM3, wI_ne (by omega)]; exact q5.2.1 2 (by omega) (by omega) (by omega) (by omega)
    have k3 : M3.1 c 3 = M1.1 c 3 := by rw [← hM3, wI_ne (by omega)]; exact q5.2.1 3 (by omega) (by omega) (by omega) (by omega)
    rw [wp_bw]
    refine (X7_readStop hfu T3 p3 hen.2 V3).mono fun z q => ?_
    obtain ⟨r1, M4⟩ := z
    rw [gd01 q.g, wp_some]
    exact q.pre F2 k2 k3
  · dsimp only at *
    subst q2
    rw [if_pos (show nI 0 = (0 : Int32) from rfl), if_neg q1, wp_some]
    exact LX.fl q1 q3 q4 q5.rf
theorem X7_readSpace_n {s b : Nat} (h6 : M.1 c 6 = nI p) (h9 : M.1 c 9 = nI s) (h13 : M.1 c 13 = nI b) (hs : s ≤ 1) (hb : b ≤ 1) (h : ¬ (s = 0 ∧ b = 0)) : Wp (fX7_readSpace fu c M) (LX (Fl 3 p) M c) := by
  obtain ⟨M2, f1, f2, f3, f4⟩ := X7_failed (fu := fu) 3 p h6
  have f1 : fX7_failed fu c 3 M = some (nI 0, M2) := f1
  have n14 : fX7_readSpace_j14 fu c M = some (nI 0, M2) := by
    unfold fX7_readSpace_j14
    rw [f1, bw_s]
    exact gd01 (Or.inl rfl) _
  unfold fX7_readSpace
  rw [n14, h9, h13]
  by_cases c1 : s = 0
  · have c2 : b = 1 := by omega
    rw [c1, c2, if_pos (show nI 0 = (0 : Int32) from rfl), if_neg (show ¬ nI 1 = (0 : Int32) by decide), wp_some]
    exact LX.fl (by omega) f2 f3 f4.rf
  · have c2 : s = 1 := by omega
    rw [c2, if_neg (show ¬ nI 1 = (0 : Int32) by decide), wp_some]
    exact LX.fl (by omega) f2 f3 f4.rf
theorem X7_readRegisters_y (hfu : 200000 ≤ fu) (hT : TpX t n M c) (hp : M.1 c 5 = nI p) (hpn : p ≤ n) (hV : VF T M (c + 2)) (h12 : T 1 ≤ 12) (h9 : M.1 c 10 = nI 0) (h13 : M.1 c 13 = nI 0) : Wp (fX7_readRegisters fu c M) (LX (l6 t n p T) (wI M c 10 1) c) := by
  have hen := en_le (t := t) hpn
  unfold fX7_readRegisters l6
  rw [h9, if_pos (show nI 0 = (0 : Int32) from rfl), h13, if_pos (show nI 0 = (0 : Int32) from rfl), lt_eq, wp_bw]
  have T1 : TpX t n (wI M c 10 1) c := ⟨hT.1, by rw [wI_nk (by omega)]; exact hT.2.1, fun j hj => by rw [wI_ne (by omega)]; exact hT.2.2 j hj⟩
  have V1 : VF T (wI M c 10 1) (c + 2) := VP.fr hV fun c' k1 k2 => wI_ne (by omega)
  generalize hM1 : wI M c 10 1 = M1 at *
  have p1 : M1.1 c 5 = nI p := by rw [← hM1, wI_nk (by omega)]; exact hp
  refine (X7_readNumber (lo := 1) (hi := 10) hfu T1 p1 hpn (by omega) (by omega)).mono fun z q => ?_
  obtain ⟨r0, M2⟩ := z
  rcases q with ⟨q1, q2, q3, q4, q5⟩ | ⟨q1, q2, q3, q4, q5⟩
  · dsimp only at *
    subst q2
    obtain ⟨u1, u2, u3⟩ := nuC_0.mp q1
    rw [if_neg (by decide), if_pos q1, q4]
    rw [lt_eq]
    have V2 : VF T M2 (c + 2) := VP.fr V1 fun c' k1 k2 => q5.1 c' (by omega)
    have V3 : VF (upS T 141 (vaT t n p)) (wI M2 (c + 2) 1 (nI (vaT t n p))) (c + 2) := VP.w1 V2 h12 _
    generalize hM3 : wI M2 (c + 2) 1 (nI (vaT t n p)) = M3 at V3 ⊢
    have F2 : RF c M1 M3 := by rw [← hM3]; exact q5.fg.rf.tr (RF.of (Fr.w1 _ _ _ _ (by omega) (by omega)) rfl)
    have T3 : TpX t n M3 c := by rw [← hM3]; exact ⟨hT.1, by rw [wI_ne (by omega)]; exact (T1.fn q5).2.1, fun j hj => by rw [wI_ne (by omega)]; exact (T1.fn q5).2.2 j hj⟩
    have p3 : M3.1 c 5 = nI (enT t n p) := by rw [← hM3, wI_ne (by omega)]; exact q3.1
    have k2 : M3.1 c 2 = M1.1 c 2 := by rw [← hM3, wI_ne (by omega)]; exact q5.2.1 2 (by omega) (by omega) (by omega) (by omega)
    have k3 : M3.1 c 3 = M1.1 c 3 := by rw [← hM3, wI_ne (by omega)]; exact q5.2.1 3 (by omega) (by omega) (by omega) (by omega)
    rw [wp_bw]
    refine (X7_readStop hfu T3 p3 hen.2 V3).mono fun z q => ?_
    obtain ⟨r1, M4⟩ := z
    rw [gd01 q.g, wp_some]
    exact q.pre F2 k2 k3
  · dsimp only at *
    subst q2
    rw [if_pos (show nI 0 = (0 : Int32) from rfl), if_neg q1, wp_some]
    exact LX.fl q1 q3 q4 q5.rf
theorem X7_readRegisters_n {s b : Nat} (h6 : M.1 c 6 = nI p) (h9 : M.1 c 10 = nI s) (h13 : M.1 c 13 = nI b) (hs : s ≤ 1) (hb : b ≤ 1) (h : ¬ (s = 0 ∧ b = 0)) : Wp (fX7_readRegisters fu c M) (LX (Fl 3 p) M c) := by
  obtain ⟨M2, f1, f2, f3, f4⟩ := X7_failed (fu := fu) 3 p h6
  have f1 : fX7_failed fu c 3 M = some (nI 0, M2) := f1
  have n14 : fX7_readRegisters_j14 fu c M = some (nI 0, M2) := by
    unfold fX7_readRegisters_j14
    rw [f1, bw_s]
    exact gd01 (Or.inl rfl) _
  unfold fX7_readRegisters
  rw [n14, h9, h13]
  by_cases c1 : s = 0
  · have c2 : b = 1 := by omega
    rw [c1, c2, if_pos (show nI 0 = (0 : Int32) from rfl), if_neg (show ¬ nI 1 = (0 : Int32) by decide), wp_some]
    exact LX.fl (by omega) f2 f3 f4.rf
  · have c2 : s = 1 := by omega
    rw [c2, if_neg (show ¬ nI 1 = (0 : Int32) by decide), wp_some]
    exact LX.fl (by omega) f2 f3 f4.rf
theorem X7_readDefault_y (hfu : 200000 ≤ fu) (hT : TpX t n M c) (hp : M.1 c 5 = nI p) (hpn : p ≤ n) (hV : VF T M (c + 2)) (h12 : T 1 ≤ 12) (h9 : M.1 c 11 = nI 0) (h13 : M.1 c 13 = nI 0) : Wp (fX7_readDefault fu c M) (LX (l7 t n p T) (wI M c 11 1) c) := by
  have hen := en_le (t := t) hpn
  have hk5 := kiT_le t n p
  unfold fX7_readDefault l7
  rw [h9, if_pos (show nI 0 = (0 : Int32) from rfl), h13, if_pos (show nI 0 = (0 : Int32) from rfl), lt_eq, wp_bm]
  have T1 : TpX t n (wI M c 11 1) c := ⟨hT.1, by rw [wI_nk (by omega)]; exact hT.2.1, fun j hj => by rw [wI_ne (by omega)]; exact hT.2.2 j hj⟩
  have V1 : VF T (wI M c 11 1) (c + 2) := VP.fr hV fun c' k1 k2 => wI_ne (by omega)
  generalize hM1 : wI M c 11 1 = M1 at *
  have p1 : M1.1 c 5 = nI p := by rw [← hM1, wI_nk (by omega)]; exact hp
  refine (X7_next hfu T1 p1 hpn).mono fun M2 q => ?_
  obtain ⟨q3, q5⟩ := q
  have T2 := T1.fn q5
  have V2 : VF T M2 (c + 2) := VP.fr V1 fun c' k1 k2 => q5.1 c' (by omega)
  rw [X7_kindHere hfu T2 hpn q3, bi_s, lt_eq, wI_eq]
  by_cases ck : kiT t n p = 5
  · rw [if_pos (kiI_m.mpr ck), if_pos ck]
    obtain ⟨M3, f1, f2, f3, f4⟩ := X7_failed (fu := fu) (M := wI M2 (c + 2) 2 (kiI t n p)) (c := c) 1 (stT t n p) (by rw [wI_ne (by omega)]; exact q3.2.1)
    have f1 : fX7_failed fu c 1 (wI M2 (c + 2) 2 (kiI t n p)) = some (nI 0, M3) := f1
    rw [f1, bw_s]
    unfold fX7_readDefault_j63
    rw [gd01 (Or.inl rfl), wp_some]
    exact LX.fl (by omega) f2 f3 ((q5.fg.rf.tr (RF.of (Fr.w1 _ _ _ _ (by omega) (by omega)) rfl)).tr f4.rf)
  · rw [if_neg (fun z => ck (kiI_m.mp z)), if_neg ck, kiI_n ck]
    have V3 : VF (upS T 0 (kiT t n p)) (wI M2 (c + 2) 2 (nI (kiT t n p))) (c + 2) := VP.w2 V2 h12 _
    generalize hM3 : wI M2 (c + 2) 2 (nI (kiT t n p)) = M3 at V3 ⊢
    have F2 : RF c M1 M3 := by rw [← hM3]; exact q5.fg.rf.tr (RF.of (Fr.w1 _ _ _ _ (by omega) (by omega)) rfl)
    have T3 : TpX t n M3 c := T1.rf F2
    have p3 : M3.1 c 5 = nI (enT t n p) := by rw [← hM3, wI_ne (by omega)]; exact q3.1
    have k2 : M3.1 c 2 = M1.1 c 2 := by rw [← hM3, wI_ne (by omega)]; exact q5.2.1 2 (by omega) (by omega) (by omega) (by omega)
    have k3 : M3.1 c 3 = M1.1 c 3 := by rw [← hM3, wI_ne (by omega)]; exact q5.2.1 3 (by omega) (by omega) (by omega) (by omega)
    rw [wp_bw]
    refine (X7_readStop hfu T3 p3 hen.2 V3).mono fun z q => ?_
    obtain ⟨r1, M4⟩ := z
    unfold fX7_readDefault_j63
    rw [gd01 q.g, wp_some]
    exact q.pre F2 k2 k3
theorem X7_readDefault_n {s b : Nat} (h6 : M.1 c 6 = nI p) (h9 : M.1 c 11 = nI s) (h13 : M.1 c 13 = nI b) (hs : s ≤ 1) (hb : b ≤ 1) (h : ¬ (s = 0 ∧ b = 0)) : Wp (fX7_readDefault fu c M) (LX (Fl 3 p) M c) := by
  obtain ⟨M2, f1, f2, f3, f4⟩ := X7_failed (fu := fu) 3 p h6
  have f1 : fX7_failed fu c 3 M = some (nI 0, M2) := f1
  have n14 : fX7_readDefault_j14 fu c M = some (nI 0, M2) := by
    unfold fX7_readDefault_j14
    rw [f1, bw_s]
    exact gd01 (Or.inl rfl) _
  unfold fX7_readDefault
  rw [n14, h9, h13]
  by_cases c1 : s = 0
  · have c2 : b = 1 := by omega
    rw [c1, c2, if_pos (show nI 0 = (0 : Int32) from rfl), if_neg (show ¬ nI 1 = (0 : Int32) by decide), wp_some]
    exact LX.fl (by omega) f2 f3 f4.rf
  · have c2 : s = 1 := by omega
    rw [c2, if_neg (show ¬ nI 1 = (0 : Int32) by decide), wp_some]
    exact LX.fl (by omega) f2 f3 f4.rf
/-- a kind, then the line's end -/
theorem X7_fin {fu c n p : Nat} {t : Nat → Nat} {M M' : Mm} {T : Sto} (hfu : 200000 ≤ fu) (hT : TpX t n M' c) (hp : M'.1 c 5 = nI p) (hpn : p ≤ n) (hV : VF T M' (c + 2)) (hf : RF c M M') (k2 : M'.1 c 2 = M.1 c 2) (k3 : M'.1 c 3 = M.1 c 3) : Wp (bw (fX7_readStop fu c M') fun r M => gd (r = 0 ∨ r = 1) (some (r, M))) (LX (spL t n p T) M c) := by
  rw [wp_bw]
  refine (X7_readStop hfu hT hp hpn hV).mono fun z q => ?_
  obtain ⟨r1, M4⟩ := z
  rw [gd01 q.g, wp_some]
  exact q.pre hf k2 k3
theorem X7_bad {fu c k q : Nat} {M M' : Mm} (hk : ¬ k = 0) (h6 : M'.1 c 6 = nI q) (hf : RF c M M') : Wp (bw (fX7_failed fu c (nI k) M') fun r M => gd (r = 0 ∨ r = 1) (some (r, M))) (LX (Fl k q) M c) := by
  obtain ⟨M3, f1, f2, f3, f4⟩ := X7_failed (fu := fu) k q h6
  rw [f1, bw_s, gd01 (Or.inl rfl), wp_some]
  exact LX.fl hk f2 f3 (hf.tr f4.rf)
theorem X7_readSpan (hfu : 200000 ≤ fu) {q0 : Nat} (hT : TpX t n M c) (h6 : M.1 c 6 = nI q0) (hp : M.1 c 5 = nI p) (hpn : p ≤ n) (hV : VF T M (c + 2)) (hG : Gd T) : Wp (fX7_readSpan fu c M) (LX (l9 t n q0 p T) M c) := by
  have h12 := hG.1.2.2.2.2.2
  have hA := hG.ad
  have e1 := en_le (t := t) hpn
  have e2 := en_le (t := t) e1.2
  have e3 := en_le (t := t) e2.2
  unfold fX7_readSpan l9
  have h3 : M.1 (c + 2) 3 = nI (T 1) := hV.1.2.2.2.1
  have h0 : M.1 (c + 2) 0 = nI (2 ^ T 140) := hV.1.1
  have es : nI (2 ^ T 140) - 1 = nI (2 ^ T 140 - 1) := zi_sub (b := 1) (by omega)
  rw [h3]
  by_cases c12 : T 1 = 12
  · rw [c12, if_neg (show ¬ nI 12 < (12 : Int32) by decide), if_pos rfl]
    exact X7_bad (k := 4) (by omega) h6 ⟨fun _ _ _ => rfl, fun _ _ => rfl, rfl⟩
  have c12' : nI (T 1) < (12 : Int32) := nI_lt (b := 12) (by omega) (by omega)
  rw [if_pos c12', if_neg c12, h0, es, wp_bw]
  refine (X7_readNumber (lo := 0) (hi := 2 ^ T 140 - 1) hfu hT hp hpn (by omega) (by omega)).mono fun z q => ?_
  obtain ⟨r0, M2⟩ := z
  rcases q with ⟨q1, q2, q3, q4, q5⟩ | ⟨q1, q2, q3, q4, q5⟩
  · dsimp only at *
    subst q2
    obtain ⟨u1, u2, u3⟩ := nuC_0.mp q1
    have T2 := hT.fn q5
    have h02 : M2.1 (c + 2) 0 = nI (2 ^ T 140) := by rw [q5.1 _ (by omega)]; exact h0
    rw [if_neg (by decide), if_pos q1, q4, lt_eq, h02, es, wp_bw]
    refine (X7_readNumber (lo := vaT t n p) (hi := 2 ^ T 140 - 1) hfu T2 q3.1 e1.2 (by omega) (by omega)).mono fun z w => ?_
    obtain ⟨r1, M3⟩ := z
    rcases w with ⟨w1, w2, w3, w4, w5⟩ | ⟨w1, w2, w3, w4, w5⟩
    · dsimp only at *
      subst w2
      obtain ⟨x1, x2, x3⟩ := nuC_0.mp w1
      have T3 := T2.fn w5
      rw [if_neg (by decide), if_pos w1, w4, lt_eq, wp_bm]
      refine (X7_next hfu T3 w3.1 e2.2).mono fun M4 y => ?_
      obtain ⟨y1, y2⟩ := y
      have T4 := T3.fn y2
      have F4 := (q5.tr w5).tr y2
      have V4 : VF T M4 (c + 2) := VP.fr hV fun c' k1 k2 => F4.1 c' (by omega)
      rw [X7_kindHere hfu T4 e2.2 y1, bi_s]
      by_cases ck : kiT t n (enT t n (enT t n p)) = 5
      · rw [if_pos (kiI_m.mpr ck), if_pos ck]
        exact X7_bad (k := 1) (by omega) y1.2.1 F4.fg.rf
      · rw [if_neg (fun z => ck (kiI_m.mp z)), if_neg ck, kiI_n ck, wp_bm]
        refine (VP.add V4 (by omega) _ _ _).mono fun M5 a => ?_
        obtain ⟨a1, a2, a3⟩ := a
        have F5 : RF c M M5 := F4.fg.rf.tr (RF.of a2 a3)
        exact X7_fin hfu (hT.rf F5) (by rw [a2.at (by omega)]; exact y1.1) e3.2 a1 F5 (by rw [a2.at (by omega)]; exact F4.2.1 2 (by omega) (by omega) (by omega) (by omega)) (by rw [a2.at (by omega)]; exact F4.2.1 3 (by omega) (by omega) (by omega) (by omega))
    · dsimp only at *
      subst w2
      rw [if_pos (show nI 0 = (0 : Int32) from rfl), if_neg w1, wp_some]
      exact LX.fl w1 w3 w4 (q5.fg.tr w5).rf
  · dsimp only at *
    subst q2
    rw [if_pos (show nI 0 = (0 : Int32) from rfl), if_neg q1, wp_some]
    exact LX.fl q1 q3 q4 q5.rf
theorem X7_readPage (hfu : 200000 ≤ fu) (hT : TpX t n M c) (hp : M.1 c 5 = nI p) (hpn : p ≤ n) (hV : VF T M (c + 2)) (hG : Gd T) : Wp (fX7_readPage fu c M) (LX (l11 t n p T) M c) := by
  have h12 := hG.1.2.2.2.2.2
  have hA := hG.ad
  have e1 := en_le (t := t) hpn
  have e2 := en_le (t := t) e1.2
  unfold fX7_readPage l11
  have es : nI (2 ^ T 140 / 16) - 1 = nI (2 ^ T 140 / 16 - 1) := zi_sub (b := 1) (by omega)
  rw [X8_pages (hV.vx hG) hG, bi_s, es, wp_bw]
  refine (X7_readNumber (lo := 0) (hi := 2 ^ T 140 / 16 - 1) hfu hT hp hpn (by omega) (by omega)).mono fun z q => ?_
  obtain ⟨r0, M2⟩ := z
  rcases q with ⟨q1, q2, q3, q4, q5⟩ | ⟨q1, q2, q3, q4, q5⟩
  · dsimp only at *
    subst q2
    obtain ⟨u1, u2, u3⟩ := nuC_0.mp q1
    have T2 := hT.fn q5
    have V2 : VF T M2 (c + 2) := VP.fr hV fun c' k1 k2 => q5.1 c' (by omega)
    have hb := hG.2.1 (76 + vaT t n p)
    rw [if_neg (by decide), if_pos q1, q4, lt_eq, if_neg (nI_in (by omega) (by omega)), ix_n (by omega), V2.2.2.2.2 _ (by omega)]
    by_cases c5 : T (76 + vaT t n p) = 5
    · rw [if_pos (show nI (T (76 + vaT t n p)) = (5 : Int32) by rw [c5]; rfl), if_pos c5, wp_bm]
      refine (X7_next hfu T2 q3.1 e1.2).mono fun M4 y => ?_
      obtain ⟨y1, y2⟩ := y
      have T4 := T2.fn y2
      have F4 := q5.tr y2
      have V4 : VF T M4 (c + 2) := VP.fr hV fun c' k1 k2 => F4.1 c' (by omega)
      rw [X7_kindHere hfu T4 e1.2 y1, bi_s]
      by_cases ck : kiT t n (enT t n p) = 5
      · rw [if_pos (kiI_m.mpr ck), if_pos ck]
        exact X7_bad (k := 1) (by omega) y1.2.1 F4.fg.rf
      · rw [if_neg (fun z => ck (kiI_m.mp z)), if_neg ck, kiI_n ck, lt_eq]
        have V5 := VP.wg V4 h12 (i := vaT t n p) (by omega) (kiT t n (enT t n p))
        have F5 : RF c M (wI M4 (c + 2 + 8) (vaT t n p) (nI (kiT t n (enT t n p)))) := F4.fg.rf.tr (RF.of (Fr.w1 _ _ _ _ (by omega) (by omega)) rfl)
        exact X7_fin hfu (hT.rf F5) (by rw [wI_ne (by omega)]; exact y1.1) e2.2 V5 F5 (by rw [wI_ne (by omega)]; exact F4.2.1 2 (by omega) (by omega) (by omega) (by omega)) (by rw [wI_ne (by omega)]; exact F4.2.1 3 (by omega) (by omega) (by omega) (by omega))
    · rw [if_neg (show ¬ nI (T (76 + vaT t n p)) = (5 : Int32) from fun z => c5 ((nI_eq (a := T (76 + vaT t n p)) (b := 5) (by omega) (by omega)).mp z)), if_neg c5]
      exact X7_bad (k := 3) (by omega) q3.2.1 q5.fg.rf
  · dsimp only at *
    subst q2
    rw [if_pos (show nI 0 = (0 : Int32) from rfl), if_neg q1, wp_some]
    exact LX.fl q1 q3 q4 q5.rf
end XL
