/-! The reference's table is filled. -/
theorem blN_p {c : Nat → Nat} {h a : Nat} (ha : 0 < a) : ∀ i, 0 < blN c h a i
  | 0 => ha
  | i + 1 => by
    have := blN_p (c := c) (h := h) ha i
    unfold blN
    split <;> omega
section RL
variable {fu m d : Nat} {S : Sto} {M : Mm} {w : Nat → Nat}
theorem X11_lfLoop (hfu : 200000 ≤ fu) {k11 k18 : Int32 → Mm → Option Mm} {x1 x2 x4 : Int32} {node h a : Nat} {c : Nat → Nat} (hn : node < 2048) (hh : h < 6) (ha : a ≤ 1048576) (hc : ∀ k, k < 5 → ¬ md h k = 9 → M.1 (m + 9) (6 * node + md h k) = nI (c (md h k)) ∧ c (md h k) ≤ 1048576) :
    fX11_layFewest_l74 fu k11 k18 m x1 x2 (nI node) x4 (nI h) M (nI a) 0 = fX11_layFewest_j127 fu k11 k18 m x1 x2 (nI node) x4 (nI h) (nI (blN c h a 5)) M := by
  unfold fX11_layFewest_l74
  by_cases c0 : a = 0
  · subst c0
    rw [blN_0]
    obtain ⟨g, rfl⟩ : ∃ g, fu = g + 1 := ⟨fu - 1, by omega⟩
    rw [lp_S]
    simp (disch := omega) only [fX11_layFewest_b74, zi_li, zi_m, zi_m1, nI_add, zi_sub, zi_mul, zi_addm, zi_m_lt, zi_lt_m, zi_m_le, zi_le_m, zi_eq_m, zi_m_eq, nI_ltI, nI_leI, nI_eq, nI_clamp, zi_div, lt_eq, bm_s, bi_s, bl_s, bw_s, gd, if_pos, if_neg, ite_true, ite_false, or_false, false_or, and_true, true_and, not_true, not_false_iff, true_or, or_true, Nat.not_lt_zero]
  · refine lp_ue (fun i => (nI (blN c h a i), nI i)) 5 rfl (by omega) (fun i hi rec => ?_) (fun rec => ?_)
    · have hp := blN_p (c := c) (h := h) (a := a) (by omega) i
      have hl := blN_le c h a i
      have hm := md_lt h hh i hi
      have hb := X11_madeBy (fu := fu) hh hi
      by_cases c3 : md h i = 9
      · have e1 : blN c h a (i + 1) = blN c h a i := if_pos c3
        have hb1 : fX11_madeBy fu (nI h) (nI i) = some mI := by rw [hb, if_pos c3]
        have q1 : ¬ (5 : Int32) ≤ nI i := by
          show ¬ nI 5 ≤ nI i
          exact nI_ge hi (by omega)
        have q2 : ¬ nI (blN c h a i) ≤ 0 := nI_nle hp (by omega)
        have q3 : mI < 0 := by decide +kernel
        dsimp only
        unfold fX11_layFewest_b74 fX11_layFewest_j121
        rw [e1, hb1, if_neg q1, if_neg q2, bi_s, if_pos q3, lt_eq, nI_1]
      · obtain ⟨h1, h2⟩ := hc i hi c3
        have h3 := hm c3
        have hb1 : fX11_madeBy fu (nI h) (nI i) = some (nI (md h i)) := by rw [hb, if_neg c3]
        have e1 : blN c h a (i + 1) = min (blN c h a i) (1 + c (md h i)) := if_neg c3
        have ls := X11_less (fu := fu) (a := blN c h a i) (b := 1 + c (md h i)) (by omega) (by omega)
        dsimp only
        rw [e1]
        simp (disch := omega) only [fX11_layFewest_b74, fX11_layFewest_j121, hb1, zi_li, zi_m, zi_m1, nI_add, zi_sub, zi_mul, zi_addm, zi_m_lt, zi_lt_m, zi_m_le, zi_le_m, zi_eq_m, zi_m_eq, nI_ltI, nI_leI, nI_eq, nI_clamp, zi_div, lt_eq, bm_s, bi_s, bl_s, bw_s, gd, if_pos, if_neg, ite_true, ite_false, or_false, false_or, and_true, true_and, not_true, not_false_iff, true_or, or_true, Nat.not_lt_zero, h1, ls]
    · simp (disch := omega) only [fX11_layFewest_b74, zi_li, zi_m, zi_m1, nI_add, zi_sub, zi_mul, zi_addm, zi_m_lt, zi_lt_m, zi_m_le, zi_le_m, zi_eq_m, zi_m_eq, nI_ltI, nI_leI, nI_eq, nI_clamp, zi_div, lt_eq, bm_s, bi_s, bl_s, bw_s, gd, if_pos, if_neg, ite_true, ite_false, or_false, false_or, and_true, true_and, not_true, not_false_iff, true_or, or_true, Nat.not_lt_zero]
theorem X11_lfStep (hfu : 200000 ≤ fu) {k11 k18 : Int32 → Mm → Option Mm} {t pk e q i : Nat} (hw : ∀ x, w x = 9 ∨ w x < 5) (hd : d < 5) (hp : pk < 6) (ht : t ≤ 10) (he : e ≤ t) (hq : q < 2 ^ (t - e)) (hi : i < 6) (h8 : M.1 (m + 8) (2 ^ (t - e) + q) = eW (WC w e q)) (h25 : M.1 m 25 = nI d)
    (hprev : ∀ j, j < i → M.1 (m + 9) (6 * (2 ^ (t - e) + q) + abA j) = nI (Fw w d pk e q (abA j)))
    (hkid : ∀ e1, e = e1 + 1 → ∀ h, h < 6 → M.1 (m + 9) (6 * (2 ^ (t - e1) + 2 * q) + h) = nI (Fw w d pk e1 (2 * q) h) ∧ M.1 (m + 9) (6 * (2 ^ (t - e1) + (2 * q + 1)) + h) = nI (Fw w d pk e1 (2 * q + 1) h)) :
    fX11_layFewest_b18 fu k11 k18 m (nI pk) (nI (2 ^ t)) (nI (2 ^ (t - e) + q)) (nI i) M = k18 (nI (i + 1)) (wI M (m + 9) (6 * (2 ^ (t - e) + q) + abA i) (nI (Fw w d pk e q (abA i)))) := by
  have hh := abA_lt i hi
  have h11 : 2 ^ (t + 1) ≤ 2 ^ 11 := Nat.pow_le_pow_right (by decide) (by omega)
  have hnl := nd_lt he hq
  have hn0 := nd_0 he hq
  have ht2 := pw1 t
  have hFl := Fw_le w d pk e q hh
  have ir := X11_isRight (fu := fu) (w := w) (node := 2 ^ (t - e) + q) (e := e) (q := q) hw hd (by omega) h8 h25 hh hp
  have loop := fun a (ha : a ≤ 1048576) => X11_lfLoop hfu (M := M) (m := m) (k11 := k11) (k18 := k18) (x1 := nI pk) (x2 := nI (2 ^ t)) (x4 := nI i) (node := 2 ^ (t - e) + q) (h := abA i) (a := a) (c := Fw w d pk e q) (by omega) hh ha (fun k hk h9 => by
    obtain ⟨j, hj, ej⟩ := abA_md i hi k hk h9
    have := hprev j hj
    rw [ej] at this
    exact ⟨this, Fw_le w d pk e q (by have := abA_lt j (by omega); omega)⟩)
  have fin : ∀ v, v = Fw w d pk e q (abA i) → fX11_layFewest_j127 fu k11 k18 m (nI pk) (nI (2 ^ t)) (nI (2 ^ (t - e) + q)) (nI i) (nI (abA i)) (nI v) M = k18 (nI (i + 1)) (wI M (m + 9) (6 * (2 ^ (t - e) + q) + abA i) (nI (Fw w d pk e q (abA i)))) := fun v hv => by
    subst hv
    simp (disch := omega) only [fX11_layFewest_j127, zi_li, zi_m, zi_m1, nI_add, zi_sub, zi_mul, zi_addm, zi_m_lt, zi_lt_m, zi_m_le, zi_le_m, zi_eq_m, zi_m_eq, nI_ltI, nI_leI, nI_eq, nI_clamp, zi_div, lt_eq, bm_s, bi_s, bl_s, bw_s, gd, if_pos, if_neg, ite_true, ite_false, or_false, false_or, and_true, true_and, not_true, not_false_iff, true_or, or_true, Nat.not_lt_zero]
  unfold fX11_layFewest_b18 fX11_layFewest_j69
  rw [X11_aboveAt hi]
  simp (disch := omega) only [zi_li, zi_m, zi_m1, nI_add, zi_sub, zi_mul, zi_addm, zi_m_lt, zi_lt_m, zi_m_le, zi_le_m, zi_eq_m, zi_m_eq, nI_ltI, nI_leI, nI_eq, nI_clamp, zi_div, lt_eq, bm_s, bi_s, bl_s, bw_s, gd, if_pos, if_neg, ite_true, ite_false, or_false, false_or, and_true, true_and, not_true, not_false_iff, true_or, or_true, Nat.not_lt_zero, ir, bI_0]
  rw [show (nI 0 : Int32) = 0 from rfl]
  by_cases c : Fw w d pk e q (abA i) = 0
  · rw [if_neg (fun q => q c)]
    have := loop 0 (by omega)
    rw [blN_0] at this
    exact this.trans (fin 0 c.symm)
  · rw [if_pos c]
    by_cases c1 : e = 0
    · subst c1
      rw [if_pos (by omega)]
      refine (loop 1048576 (by omega)).trans (fin _ ?_)
      have e1 : bsA w d pk q (abA i) = 1048576 := by
        rcases bsA_b w d pk q (abA i) with z | z
        · exact absurd ((lift_z (bsA w d pk q) hh).mpr z) c
        · exact z
      rw [← e1]
      exact lift_bl hh
    · obtain ⟨e1, rfl⟩ : ∃ e1, e = e1 + 1 := ⟨e - 1, by omega⟩
      obtain ⟨k1, k2⟩ := nd_k he hq
      obtain ⟨a1, a2⟩ := hkid e1 rfl (abA i) hh
      have i1 : 12 * (2 ^ (t - (e1 + 1)) + q) + abA i = 6 * (2 ^ (t - e1) + 2 * q) + abA i := by omega
      have i2 : 6 * (2 * (2 ^ (t - (e1 + 1)) + q) + 1) + abA i = 6 * (2 ^ (t - e1) + (2 * q + 1)) + abA i := by omega
      have b1 := X11_both (fu := fu) (M := M) (m := m) (n1 := 12288) (a1 := m + 9) (node := 2 ^ (t - (e1 + 1)) + q) (h := abA i) (x := Fw w d pk e1 (2 * q) (abA i)) (y := Fw w d pk e1 (2 * q + 1) (abA i)) (by omega) hh (by omega) (by omega) (by rw [i1]; exact a1) (by rw [i2]; exact a2) (Fw_le _ _ _ _ _ hh) (Fw_le _ _ _ _ _ hh)
      rw [if_neg (by omega), b1, bi_s]
      refine (loop _ (Nat.min_le_left _ _)).trans (fin _ ?_)
      exact lift_bl (g := Fh w d pk e1 q) hh
/-- the table in the memory -/
def FV (w : Nat → Nat) (d pk t : Nat) (M : Mm) (m : Nat) : Prop := ∀ e q h, e ≤ t → q < 2 ^ (t - e) → h < 6 → M.1 (m + 9) (6 * (2 ^ (t - e) + q) + h) = nI (Fw w d pk e q h)
theorem X11_layFewest (hfu : 200000 ≤ fu) {pk : Nat} (hV : VM S M m) (hG : Gd S) (hw : ∀ x, w x = 9 ∨ w x < 5) (hd : d < 5) (hp : pk < 6) (h8 : WV w (S 140) M m) (h25 : M.1 m 25 = nI d) : Wp (fX11_layFewest fu m (nI pk) M) (fun M' => FV w d pk (S 140) M' m ∧ O1 (m + 9) M M') := by
  have hA := hG.ad
  have ht := hG.1.2.1
  have ht2 := pw1 (S 140)
  unfold fX11_layFewest fX11_layFewest_l11
  simp (disch := omega) only [X11_addresses hV hG, zi_li, zi_m, zi_m1, nI_add, zi_sub, zi_mul, zi_addm, zi_m_lt, zi_lt_m, zi_m_le, zi_le_m, zi_eq_m, zi_m_eq, nI_ltI, nI_leI, nI_eq, nI_clamp, zi_div, lt_eq, bm_s, bi_s, bl_s, bw_s, gd]
  refine lp_ho (fun k z => z.1 = nI (2 * 2 ^ S 140 - 1 - k) ∧ O1 (m + 9) M z.2 ∧ ∀ e q h, e ≤ S 140 → q < 2 ^ (S 140 - e) → h < 6 → 2 * 2 ^ S 140 - 1 - k < 2 ^ (S 140 - e) + q → z.2.1 (m + 9) (6 * (2 ^ (S 140 - e) + q) + h) = nI (Fw w d pk e q h)) _ (2 * 2 ^ S 140 - 1) (i := 0) (by omega) (by omega) ⟨rfl, O1.rf _ _, fun e q h h1 h2 h3 h4 => ?_⟩ (fun k z hk hz rec hrec => ?_) (fun z hz rec => ?_)
  · have := nd_lt h1 h2
    omega
  · obtain ⟨z1, z2⟩ := z
    obtain ⟨rfl, g1, g2⟩ := hz
    dsimp only at *
    obtain ⟨e, q, he, hq, hn⟩ := nd_ex (S 140) (2 * 2 ^ S 140 - 1 - k) (by omega) (by omega)
    have hnz : 1 ≤ 2 ^ (S 140 - e) := pwp _
    unfold fX11_layFewest_b11
    rw [hn] at g2 ⊢
    simp (disch := omega) only [zi_li, zi_m, zi_m1, nI_add, zi_sub, zi_mul, zi_addm, zi_m_lt, zi_lt_m, zi_m_le, zi_le_m, zi_eq_m, zi_m_eq, nI_ltI, nI_leI, nI_eq, nI_clamp, zi_div, lt_eq, bm_s, bi_s, bl_s, bw_s, gd, if_pos, if_neg, ite_true, ite_false, or_false, false_or, and_true, true_and, not_true, not_false_iff, true_or, or_true, Nat.not_lt_zero]
    unfold fX11_layFewest_l18
    refine lp_ho (fun i y => y.1 = nI i ∧ O1 (m + 9) M y.2 ∧ (∀ j, j < i → y.2.1 (m + 9) (6 * (2 ^ (S 140 - e) + q) + abA j) = nI (Fw w d pk e q (abA j))) ∧ (∀ j, j < 6 * (2 ^ (S 140 - e) + q) ∨ 6 * (2 ^ (S 140 - e) + q) + 6 ≤ j → y.2.1 (m + 9) j = z2.1 (m + 9) j)) _ 6 (i := 0) (by omega) (by omega) ⟨rfl, g1, fun j hj => absurd hj (by omega), fun j _ => rfl⟩ (fun i y hi hy rec2 hrec2 => ?_) (fun y hy rec2 => ?_)
    · obtain ⟨y1, y2⟩ := y
      obtain ⟨rfl, u1, u2, u3⟩ := hy
      dsimp only at *
      have hab := abA_lt i hi
      rw [X11_lfStep hfu (w := w) (d := d) (t := S 140) hw hd hp ht he hq hi (by rw [u1.1 (m + 8) (by omega)]; exact h8 e q he hq) (by rw [u1.1 m (by omega)]; exact h25) u2 (fun e1 he1 h hh => by
        subst he1
        obtain ⟨k1, k2⟩ := nd_k he hq
        have hge : 2 ^ (S 140 - (e1 + 1)) + q < 2 ^ (S 140 - e1) + 2 * q := by omega
        refine ⟨?_, ?_⟩
        · rw [u3 _ (by omega)]
          exact g2 e1 (2 * q) h (by omega) (by omega) hh (by omega)
        · rw [u3 _ (by omega)]
          exact g2 e1 (2 * q + 1) h (by omega) (by omega) hh (by omega))]
      refine hrec2 _ ⟨rfl, u1.tr (O1.w _ _ _), fun j hj => ?_, fun j hj => ?_⟩
      · by_cases c : j = i
        · subst c
          simp (disch := omega) only [wI_ne, wI_eq, wI_nk, wIs_ne, wIs_eq]
        · have : abA j ≠ abA i := fun q => c (abA_in j (by omega) i hi q)
          simp (disch := omega) only [wI_ne, wI_eq, wI_nk, wIs_ne, wIs_eq]
          exact u2 j (by omega)
      · simp (disch := omega) only [wI_ne, wI_eq, wI_nk, wIs_ne, wIs_eq]
        exact u3 j hj
    · obtain ⟨y1, y2⟩ := y
      obtain ⟨rfl, u1, u2, u3⟩ := hy
      dsimp only at *
      simp (disch := omega) only [fX11_layFewest_b18, fX11_layFewest_j147, zi_li, zi_m, zi_m1, nI_add, zi_sub, zi_mul, zi_addm, zi_m_lt, zi_lt_m, zi_m_le, zi_le_m, zi_eq_m, zi_m_eq, nI_ltI, nI_leI, nI_eq, nI_clamp, zi_div, lt_eq, bm_s, bi_s, bl_s, bw_s, gd, if_pos, if_neg, ite_true, ite_false, or_false, false_or, and_true, true_and, not_true, not_false_iff, true_or, or_true, Nat.not_lt_zero]
      refine hrec _ ⟨?_, u1, fun e' q' h h1 h2 h3 h4 => ?_⟩
      · show nI (2 ^ (S 140 - e) + q - 1) = _
        congr 1
        omega
      · by_cases c : 2 ^ (S 140 - e') + q' = 2 ^ (S 140 - e) + q
        · obtain ⟨a1, a2⟩ := nd_in h2 hq c
          have : e' = e := by omega
          subst this
          subst a2
          obtain ⟨i, hi, ei⟩ := abA_on h h3
          rw [← ei]
          exact u2 i hi
        · rw [u3 _ (by omega)]
          exact g2 e' q' h h1 h2 h3 (by omega)
  · obtain ⟨z1, z2⟩ := z
    obtain ⟨rfl, g1, g2⟩ := hz
    dsimp only at *
    rw [Nat.sub_self]
    simp (disch := omega) only [fX11_layFewest_b11, fX11_layFewest_j153, zi_li, zi_m, zi_m1, nI_add, zi_sub, zi_mul, zi_addm, zi_m_lt, zi_lt_m, zi_m_le, zi_le_m, zi_eq_m, zi_m_eq, nI_ltI, nI_leI, nI_eq, nI_clamp, zi_div, lt_eq, bm_s, bi_s, bl_s, bw_s, gd, if_pos, if_neg, ite_true, ite_false, or_false, false_or, and_true, true_and, not_true, not_false_iff, true_or, or_true, Nat.not_lt_zero]
    rw [wp_some]
    refine ⟨fun e q h h1 h2 h3 => g2 e q h h1 h2 h3 ?_, g1⟩
    have := pwp (S 140 - e)
    omega
end RL
