/-! The reference's history. -/
/-- only the history's cell and its two numbers -/
def KA (m : Nat) (M M' : Mm) : Prop := (∀ c, c ≠ m → c ≠ m + 27 → M'.1 c = M.1 c) ∧ (∀ j, j ≠ 50 → j ≠ 51 → M'.1 m j = M.1 m j) ∧ M'.2 = M.2
theorem VM.ch {S S' : Sto} {M M' : Mm} {m : Nat} (hV : VM S M m) (g : Gm S S') (h5 : M'.1 m 5 = M.1 m 5) (h2 : M'.1 (m + 2) = M.1 (m + 2)) (h3 : M'.1 (m + 3) = M.1 (m + 3)) (h4 : M'.1 (m + 4) = M.1 (m + 4)) (hc : ∀ k, k < 140 → M'.1 (m + 1) k = nI (S' k)) : VM S' M' m := by
  obtain ⟨⟨k, k1, k2, k3, k4, k5⟩, _⟩ := hV
  obtain ⟨g1, g2, g3⟩ := g
  exact ⟨⟨k, k1, by rw [h5]; exact k2, by rw [h2, g1]; exact k3, by rw [h3, g2]; exact k4, by rw [h4, g3]; exact k5⟩, hc⟩
theorem VM.ka {S : Sto} {M M' : Mm} {m : Nat} (hV : VM S M m) (g : KA m M M') : VM S M' m := hV.ch ⟨rfl, rfl, rfl⟩ (g.2.1 5 (by omega) (by omega)) (g.1 _ (by omega) (by omega)) (g.1 _ (by omega) (by omega)) (g.1 _ (by omega) (by omega)) (fun k hk => by rw [g.1 _ (by omega) (by omega)]; exact hV.2 k hk)
section HJ
variable {fu m k u : Nat} {S : Sto} {M : Mm} {Hs : Nat → Sto}
theorem X11_keep_l (hfu : 200000 ≤ fu) (hk : k < 17) (h1 : M.1 m 50 = nI k) : Wp (fX11_keepAct_j50 fu m M) (fun M' => M'.1 m 50 = nI (k + 1) ∧ M'.1 m 51 = nI 0 ∧ (∀ y, M'.1 (m + 27) y = if 140 * k ≤ y ∧ y < 140 * k + 140 then M.1 (m + 1) (y - 140 * k) else M.1 (m + 27) y) ∧ KA m M M') := by
  unfold fX11_keepAct_j50 fX11_keepAct_l52
  refine lp_ho (fun x z => z.1 = nI x ∧ (∀ y, z.2.1 (m + 27) y = if 140 * k ≤ y ∧ y < 140 * k + x then M.1 (m + 1) (y - 140 * k) else M.1 (m + 27) y) ∧ (∀ c, c ≠ m + 27 → z.2.1 c = M.1 c) ∧ z.2.2 = M.2) _ 140 (i := 0) (by omega) (by omega) ⟨rfl, fun y => by rw [if_neg (by omega)], fun _ _ => rfl, rfl⟩ (fun x z hx hz rec hrec => ?_) (fun z hz rec => ?_)
  · obtain ⟨z1, z2⟩ := z
    obtain ⟨rfl, g1, g2, g3⟩ := hz
    dsimp only at *
    simp (disch := omega) only [fX11_keepAct_b52, zi_li, zi_m, zi_m1, nI_add, zi_sub, zi_mul, zi_addm, zi_m_lt, zi_lt_m, zi_m_le, zi_le_m, zi_eq_m, zi_m_eq, nI_ltI, nI_leI, nI_eq, nI_clamp, zi_div, lt_eq, bm_s, bi_s, bl_s, bw_s, gd, if_pos, if_neg, ite_true, ite_false, or_false, false_or, and_true, true_and, not_true, not_false_iff, true_or, or_true, Nat.not_lt_zero, g2 m, g2 (m + 1), h1]
    refine hrec _ ⟨rfl, fun y => ?_, fun c hc => ?_, g3⟩
    · by_cases c : y = 140 * k + x
      · subst c
        simp (disch := omega) only [wI_ne, wI_eq, wI_nk, wIs_ne, wIs_eq, if_pos, if_neg, ite_true, ite_false, or_false, false_or, and_true, true_and, not_true, not_false_iff, true_or, or_true, Nat.not_lt_zero]
        rw [Nat.add_sub_cancel_left]
      · simp (disch := omega) only [wI_ne, wI_eq, wI_nk, wIs_ne, wIs_eq]
        rw [g1]
        by_cases c2 : 140 * k ≤ y ∧ y < 140 * k + x
        · rw [if_pos c2, if_pos (by omega)]
        · rw [if_neg c2, if_neg (by omega)]
    · simp (disch := omega) only [wI_ne, wI_eq, wI_nk, wIs_ne, wIs_eq]
      exact g2 c hc
  · obtain ⟨z1, z2⟩ := z
    obtain ⟨rfl, g1, g2, g3⟩ := hz
    dsimp only at *
    simp (disch := omega) only [fX11_keepAct_b52, fX11_keepAct_j86, zi_li, zi_m, zi_m1, nI_add, zi_sub, zi_mul, zi_addm, zi_m_lt, zi_lt_m, zi_m_le, zi_le_m, zi_eq_m, zi_m_eq, nI_ltI, nI_leI, nI_eq, nI_clamp, zi_div, lt_eq, bm_s, bi_s, bl_s, bw_s, gd, if_pos, if_neg, ite_true, ite_false, or_false, false_or, and_true, true_and, not_true, not_false_iff, true_or, or_true, Nat.not_lt_zero, g2 m, h1]
    rw [wp_some]
    refine ⟨?_, ?_, fun y => ?_, fun c h1 h2 => ?_, fun j h1 h2 => ?_, g3⟩
    · simp (disch := omega) only [wI_ne, wI_eq, wI_nk, wIs_ne, wIs_eq]
    · simp (disch := omega) only [wI_ne, wI_eq, wI_nk, wIs_ne, wIs_eq]
    · simp (disch := omega) only [wI_ne, wI_eq, wI_nk, wIs_ne, wIs_eq]
      exact g1 y
    · simp (disch := omega) only [wI_ne, wI_eq, wI_nk, wIs_ne, wIs_eq]
      exact g2 c h2
    · simp (disch := omega) only [wI_ne, wI_eq, wI_nk, wIs_ne, wIs_eq]
      rw [g2 m (by omega)]
theorem X11_keepAct (hfu : 200000 ≤ fu) (hH : HM Hs k u M m) (hA : ∀ j, j < 140 → M.1 (m + 1) j = nI (Hs k j)) : Wp (fX11_keepAct fu m M) (fun M' => (∀ S, HM (ntH Hs k S) (ntK k) 0 M' m) ∧ KA m M M') := by
  obtain ⟨h0, h1, h2, h3, h4⟩ := hH
  unfold fX11_keepAct
  rw [h1]
  by_cases c : k < 16
  · have c' : ¬ nI k = 16 := fun q => by
      have := (nI_eq (a := k) (b := 16) (by omega) (by omega)).mp q
      omega
    rw [if_neg c']
    refine (X11_keep_l hfu (by omega) h1).mono fun M' q => ?_
    obtain ⟨q1, q2, q3, q4⟩ := q
    refine ⟨fun S => ?_, q4⟩
    rw [ntK_1 c]
    refine ⟨by omega, q1, q2, fun i hi j hj => ?_, fun i hi1 hi2 => by omega⟩
    rw [ntH_1 Hs S c (by omega), q3]
    by_cases ci : i = k
    · subst ci
      rw [if_pos (by omega), Nat.add_sub_cancel_left]
      exact hA j hj
    · rw [if_neg (by omega)]
      exact h3 i (by omega) j hj
  · have hk : k = 16 := by omega
    subst hk
    rw [if_pos (show nI 16 = (16 : Int32) from rfl)]
    unfold fX11_keepAct_l11
    refine lp_ho (fun x z => z.1 = nI x ∧ (∀ y, z.2.1 (m + 27) y = if y < x then M.1 (m + 27) (y + 140) else M.1 (m + 27) y) ∧ (∀ c, c ≠ m + 27 → z.2.1 c = M.1 c) ∧ z.2.2 = M.2) _ 2240 (i := 0) (by omega) (by omega) ⟨rfl, fun y => by rw [if_neg (by omega)], fun _ _ => rfl, rfl⟩ (fun x z hx hz rec hrec => ?_) (fun z hz rec => ?_)
    · obtain ⟨z1, z2⟩ := z
      obtain ⟨rfl, g1, g2, g3⟩ := hz
      dsimp only at *
      simp (disch := omega) only [fX11_keepAct_b11, zi_li, zi_m, zi_m1, nI_add, zi_sub, zi_mul, zi_addm, zi_m_lt, zi_lt_m, zi_m_le, zi_le_m, zi_eq_m, zi_m_eq, nI_ltI, nI_leI, nI_eq, nI_clamp, zi_div, lt_eq, bm_s, bi_s, bl_s, bw_s, gd, if_pos, if_neg, ite_true, ite_false, or_false, false_or, and_true, true_and, not_true, not_false_iff, true_or, or_true, Nat.not_lt_zero]
      refine hrec _ ⟨rfl, fun y => ?_, fun c hc => ?_, g3⟩
      · by_cases c : y = x
        · subst c
          simp (disch := omega) only [wI_ne, wI_eq, wI_nk, wIs_ne, wIs_eq]
          rw [g1, if_neg (by omega), if_pos (by omega)]
        · simp (disch := omega) only [wI_ne, wI_eq, wI_nk, wIs_ne, wIs_eq]
          rw [g1]
          by_cases c2 : y < x
          · rw [if_pos c2, if_pos (by omega)]
          · rw [if_neg c2, if_neg (by omega)]
      · simp (disch := omega) only [wI_ne, wI_eq, wI_nk, wIs_ne, wIs_eq]
        exact g2 c hc
    · obtain ⟨z1, z2⟩ := z
      obtain ⟨rfl, g1, g2, g3⟩ := hz
      dsimp only at *
      simp (disch := omega) only [fX11_keepAct_b11, fX11_keepAct_j40, zi_li, zi_m, zi_m1, nI_add, zi_sub, zi_mul, zi_addm, zi_m_lt, zi_lt_m, zi_m_le, zi_le_m, zi_eq_m, zi_m_eq, nI_ltI, nI_leI, nI_eq, nI_clamp, zi_div, lt_eq, bm_s, bi_s, bl_s, bw_s, gd, if_pos, if_neg, ite_true, ite_false, or_false, false_or, and_true, true_and, not_true, not_false_iff, true_or, or_true, Nat.not_lt_zero, g2 m, h1]
      refine (X11_keep_l (k := 15) hfu (by omega) (by simp (disch := omega) only [wI_ne, wI_eq, wI_nk, wIs_ne, wIs_eq])).mono fun M' q => ?_
      obtain ⟨q1, q2, q3, q4⟩ := q
      refine ⟨fun S => ?_, fun c h1 h2 => ?_, fun j h1 h2 => ?_, q4.2.2.trans g3⟩
      · rw [ntK_2 c]
        refine ⟨by omega, q1, q2, fun i hi j hj => ?_, fun i hi1 hi2 => by omega⟩
        rw [ntH_2 Hs S c (by omega), q3]
        by_cases ci : i = 15
        · subst ci
          rw [if_pos (by omega), Nat.add_sub_cancel_left]
          simp (disch := omega) only [wI_ne, wI_eq, wI_nk, wIs_ne, wIs_eq, g2 (m + 1)]
          exact hA j hj
        · rw [if_neg (by omega)]
          simp (disch := omega) only [wI_ne, wI_eq, wI_nk, wIs_ne, wIs_eq]
          rw [g1, if_pos (by omega)]
          have := h3 (i + 1) (by omega) j hj
          rw [show 140 * i + j + 140 = 140 * (i + 1) + j by omega]
          exact this
      · rw [q4.1 c h1 h2]
        simp (disch := omega) only [wI_ne, wI_eq, wI_nk, wIs_ne, wIs_eq]
        exact g2 c h2
      · rw [q4.2.1 j h1 h2]
        simp (disch := omega) only [wI_ne, wI_eq, wI_nk, wIs_ne, wIs_eq]
        rw [g2 m (by omega)]
theorem X11_swapAll (hfu : 200000 ≤ fu) (hk : k < 17) (h1 : M.1 m 50 = nI k) : Wp (fX11_swapAll fu m M) (fun M' => (∀ y, M'.1 (m + 27) y = if 140 * k ≤ y ∧ y < 140 * k + 140 then M.1 (m + 1) (y - 140 * k) else M.1 (m + 27) y) ∧ (∀ y, y < 140 → M'.1 (m + 1) y = M.1 (m + 27) (140 * k + y)) ∧ (∀ c, c ≠ m + 1 → c ≠ m + 27 → M'.1 c = M.1 c) ∧ M'.2 = M.2) := by
  unfold fX11_swapAll fX11_swapAll_l2
  refine lp_ho (fun x z => z.1 = nI x ∧ (∀ y, z.2.1 (m + 27) y = if 140 * k ≤ y ∧ y < 140 * k + x then M.1 (m + 1) (y - 140 * k) else M.1 (m + 27) y) ∧ (∀ y, z.2.1 (m + 1) y = if y < x then M.1 (m + 27) (140 * k + y) else M.1 (m + 1) y) ∧ (∀ c, c ≠ m + 1 → c ≠ m + 27 → z.2.1 c = M.1 c) ∧ z.2.2 = M.2) _ 140 (i := 0) (by omega) (by omega) ⟨rfl, fun y => by rw [if_neg (by omega)], fun y => by rw [if_neg (by omega)], fun _ _ _ => rfl, rfl⟩ (fun x z hx hz rec hrec => ?_) (fun z hz rec => ?_)
  · obtain ⟨z1, z2⟩ := z
    obtain ⟨rfl, g1, g4, g2, g3⟩ := hz
    dsimp only at *
    simp (disch := omega) only [fX11_swapAll_b2, zi_li, zi_m, zi_m1, nI_add, zi_sub, zi_mul, zi_addm, zi_m_lt, zi_lt_m, zi_m_le, zi_le_m, zi_eq_m, zi_m_eq, nI_ltI, nI_leI, nI_eq, nI_clamp, zi_div, lt_eq, bm_s, bi_s, bl_s, bw_s, gd, if_pos, if_neg, ite_true, ite_false, or_false, false_or, and_true, true_and, not_true, not_false_iff, true_or, or_true, Nat.not_lt_zero, g2 m, h1]
    refine hrec _ ⟨rfl, fun y => ?_, fun y => ?_, fun c hc hc2 => ?_, g3⟩
    · by_cases c : y = 140 * k + x
      · subst c
        simp (disch := omega) only [wI_ne, wI_eq, wI_nk, wIs_ne, wIs_eq]
        rw [g4, if_neg (by omega), if_pos (by omega), Nat.add_sub_cancel_left]
      · simp (disch := omega) only [wI_ne, wI_eq, wI_nk, wIs_ne, wIs_eq]
        rw [g1]
        by_cases c2 : 140 * k ≤ y ∧ y < 140 * k + x
        · rw [if_pos c2, if_pos (by omega)]
        · rw [if_neg c2, if_neg (by omega)]
    · by_cases c : y = x
      · subst c
        simp (disch := omega) only [wI_ne, wI_eq, wI_nk, wIs_ne, wIs_eq]
        rw [g1, if_neg (by omega), if_pos (by omega)]
      · simp (disch := omega) only [wI_ne, wI_eq, wI_nk, wIs_ne, wIs_eq]
        rw [g4]
        by_cases c2 : y < x
        · rw [if_pos c2, if_pos (by omega)]
        · rw [if_neg c2, if_neg (by omega)]
    · simp (disch := omega) only [wI_ne, wI_eq, wI_nk, wIs_ne, wIs_eq]
      exact g2 c hc hc2
  · obtain ⟨z1, z2⟩ := z
    obtain ⟨rfl, g1, g4, g2, g3⟩ := hz
    dsimp only at *
    simp (disch := omega) only [fX11_swapAll_b2, fX11_swapAll_j59, zi_li, zi_m, zi_m1, nI_add, zi_sub, zi_mul, zi_addm, zi_m_lt, zi_lt_m, zi_m_le, zi_le_m, zi_eq_m, zi_m_eq, nI_ltI, nI_leI, nI_eq, nI_clamp, zi_div, lt_eq, bm_s, bi_s, bl_s, bw_s, gd, if_pos, if_neg, ite_true, ite_false, or_false, false_or, and_true, true_and, not_true, not_false_iff, true_or, or_true, Nat.not_lt_zero]
    rw [wp_some]
    exact ⟨g1, fun y hy => by rw [g4, if_pos hy], g2, g3⟩
/-- only the store's row, the history, its two numbers -/
def UA (m : Nat) (M M' : Mm) : Prop := (∀ c, c ≠ m → c ≠ m + 1 → c ≠ m + 27 → M'.1 c = M.1 c) ∧ (∀ j, j ≠ 50 → j ≠ 51 → M'.1 m j = M.1 m j) ∧ M'.2 = M.2
theorem X11_undo (hfu : 200000 ≤ fu) (hH : HM Hs k u M m) (hA : ∀ j, j < 140 → M.1 (m + 1) j = nI (Hs k j)) : Wp (fX11_undo fu m M) (fun z => (k = 0 ∧ z = (nI 0, M)) ∨ (0 < k ∧ z.1 = nI 1 ∧ (∀ j, j < 140 → z.2.1 (m + 1) j = nI (Hs (k - 1) j)) ∧ HM Hs (k - 1) (u + 1) z.2 m ∧ UA m M z.2)) := by
  obtain ⟨h0, h1, h2, h3, h4⟩ := hH
  unfold fX11_undo
  rw [h1]
  by_cases c : k = 0
  · subst c
    exact ⟨_, rfl, Or.inl ⟨rfl, rfl⟩⟩
  · simp (disch := omega) only [zi_li, zi_m, zi_m1, nI_add, zi_sub, zi_mul, zi_addm, zi_m_lt, zi_lt_m, zi_m_le, zi_le_m, zi_eq_m, zi_m_eq, nI_ltI, nI_leI, nI_eq, nI_clamp, zi_div, lt_eq, bm_s, bi_s, bl_s, bw_s, gd, wI_ne, wI_eq, wI_nk, wIs_ne, wIs_eq, if_pos, if_neg, ite_true, ite_false, or_false, false_or, and_true, true_and, not_true, not_false_iff, true_or, or_true, Nat.not_lt_zero, h2]
    rw [wp_bm]
    refine (X11_swapAll (k := k - 1) hfu (by omega) (by simp (disch := omega) only [wI_ne, wI_eq, wI_nk, wIs_ne, wIs_eq])).mono fun M' q => ?_
    obtain ⟨q1, q2, q3, q4⟩ := q
    rw [wp_some]
    have em := q3 m (by omega) (by omega)
    refine Or.inr ⟨by omega, rfl, fun j hj => ?_, ⟨by omega, by rw [em]; simp (disch := omega) only [wI_ne, wI_eq, wI_nk, wIs_ne, wIs_eq], by rw [em]; simp (disch := omega) only [wI_ne, wI_eq, wI_nk, wIs_ne, wIs_eq], fun i hi j hj => ?_, fun i hi1 hi2 j hj => ?_⟩, fun c h1 h2 h3 => ?_, fun j h1 h2 => ?_, q4⟩
    · show M'.1 (m + 1) j = _
      rw [q2 j hj]
      simp (disch := omega) only [wI_ne, wI_eq, wI_nk, wIs_ne, wIs_eq]
      exact h3 (k - 1) (by omega) j hj
    · rw [q1, if_neg (by omega)]
      simp (disch := omega) only [wI_ne, wI_eq, wI_nk, wIs_ne, wIs_eq]
      exact h3 i (by omega) j hj
    · rw [q1]
      by_cases ci : i = k - 1
      · subst ci
        rw [if_pos (by omega), Nat.add_sub_cancel_left, Nat.sub_add_cancel (by omega)]
        simp (disch := omega) only [wI_ne, wI_eq, wI_nk, wIs_ne, wIs_eq]
        exact hA j hj
      · rw [if_neg (by omega)]
        simp (disch := omega) only [wI_ne, wI_eq, wI_nk, wIs_ne, wIs_eq]
        exact h4 i (by omega) (by omega) j hj
    · show M'.1 c = _
      rw [q3 c h2 h3]
      simp (disch := omega) only [wI_ne, wI_eq, wI_nk, wIs_ne, wIs_eq]
    · show M'.1 m j = _
      rw [em]
      simp (disch := omega) only [wI_ne, wI_eq, wI_nk, wIs_ne, wIs_eq]
theorem X11_redo (hfu : 200000 ≤ fu) (hH : HM Hs k u M m) (hA : ∀ j, j < 140 → M.1 (m + 1) j = nI (Hs k j)) : Wp (fX11_redo fu m M) (fun z => (u = 0 ∧ z = (nI 0, M)) ∨ (0 < u ∧ z.1 = nI 1 ∧ (∀ j, j < 140 → z.2.1 (m + 1) j = nI (Hs (k + 1) j)) ∧ HM Hs (k + 1) (u - 1) z.2 m ∧ UA m M z.2)) := by
  obtain ⟨h0, h1, h2, h3, h4⟩ := hH
  unfold fX11_redo
  rw [h2]
  by_cases c : u = 0
  · subst c
    exact ⟨_, rfl, Or.inl ⟨rfl, rfl⟩⟩
  · simp (disch := omega) only [zi_li, zi_m, zi_m1, nI_add, zi_sub, zi_mul, zi_addm, zi_m_lt, zi_lt_m, zi_m_le, zi_le_m, zi_eq_m, zi_m_eq, nI_ltI, nI_leI, nI_eq, nI_clamp, zi_div, lt_eq, bm_s, bi_s, bl_s, bw_s, gd, if_pos, if_neg, ite_true, ite_false, or_false, false_or, and_true, true_and, not_true, not_false_iff, true_or, or_true, Nat.not_lt_zero]
    rw [wp_bm]
    refine (X11_swapAll (k := k) hfu (by omega) h1).mono fun M' q => ?_
    obtain ⟨q1, q2, q3, q4⟩ := q
    have em := q3 m (by omega) (by omega)
    simp (disch := omega) only [zi_li, zi_m, zi_m1, nI_add, zi_sub, zi_mul, zi_addm, zi_m_lt, zi_lt_m, zi_m_le, zi_le_m, zi_eq_m, zi_m_eq, nI_ltI, nI_leI, nI_eq, nI_clamp, zi_div, lt_eq, bm_s, bi_s, bl_s, bw_s, gd, wI_ne, wI_eq, wI_nk, wIs_ne, wIs_eq, em, h1, h2]
    rw [wp_some]
    refine Or.inr ⟨by omega, rfl, fun j hj => ?_, ⟨by omega, by simp (disch := omega) only [wI_ne, wI_eq, wI_nk, wIs_ne, wIs_eq], by simp (disch := omega) only [wI_ne, wI_eq, wI_nk, wIs_ne, wIs_eq], fun i hi j hj => ?_, fun i hi1 hi2 j hj => ?_⟩, fun c h1 h2 h3 => ?_, fun j h1 h2 => ?_, q4⟩
    · simp (disch := omega) only [wI_ne, wI_eq, wI_nk, wIs_ne, wIs_eq]
      rw [q2 j hj]
      exact h4 k (by omega) (by omega) j hj
    · simp (disch := omega) only [wI_ne, wI_eq, wI_nk, wIs_ne, wIs_eq]
      rw [q1]
      by_cases ci : i = k
      · subst ci
        rw [if_pos (by omega), Nat.add_sub_cancel_left]
        exact hA j hj
      · rw [if_neg (by omega)]
        exact h3 i (by omega) j hj
    · simp (disch := omega) only [wI_ne, wI_eq, wI_nk, wIs_ne, wIs_eq]
      rw [q1, if_neg (by omega)]
      exact h4 i (by omega) (by omega) j hj
    · simp (disch := omega) only [wI_ne, wI_eq, wI_nk, wIs_ne, wIs_eq]
      exact q3 c h2 h3
    · simp (disch := omega) only [wI_ne, wI_eq, wI_nk, wIs_ne, wIs_eq]
      rw [em]
end HJ
