/-! The reference's table for pages. -/
def rm (f : Nat → Nat) : Nat → Nat
  | 0 => 1048576
  | j + 1 => min (rm f j) (f (tkN j))
theorem rm_6 {f : Nat → Nat} (hf : f 5 ≤ 1048576) : rm f 6 = mn6 f := by
  show min (min (min (min (min (min 1048576 (f 5)) (f 0)) (f 1)) (f 2)) (f 3)) (f 4) = min (f 5) (min (min (min (f 0) (f 1)) (min (f 2) (f 3))) (f 4))
  rw [show min 1048576 (f 5) = f 5 by omega]
  simp only [Nat.min_assoc]
theorem rm_le (f : Nat → Nat) : ∀ j, rm f j ≤ 1048576
  | 0 => Nat.le_refl _
  | j + 1 => by
    have := rm_le f j
    unfold rm
    omega
def PV1 (w : Nat → Nat) (d T : Nat) (M : Mm) (m : Nat) : Prop := ∀ e q h, e ≤ T → q < 2 ^ (T - e) → h < 6 → M.1 (m + 11) (6 * (2 ^ (T - e) + q) + h) = nI (PF w d e q h)
theorem pg_T {S : Sto} (hG : Gd S) : ∃ T, S 140 = 4 + T ∧ T ≤ 6 ∧ 2 ^ S 140 / 16 = 2 ^ T ∧ 2 ^ T ≤ 64 ∧ 1 ≤ 2 ^ T := by
  have h1 := hG.1
  obtain ⟨T, hT⟩ : ∃ T, S 140 = 4 + T := ⟨S 140 - 4, by omega⟩
  have h2 : 2 ^ T ≤ 2 ^ 6 := Nat.pow_le_pow_right (by decide) (by omega)
  refine ⟨T, hT, by omega, ?_, by omega, pwp T⟩
  rw [hT, p16]
  exact Nat.mul_div_cancel_left _ (by decide)
theorem X11_triedKind {fu i : Nat} (hi : i < 6) : fX11_triedKind fu (nI i) = some (nI (tkN i)) := by
  have : ∀ i, i < 6 → fX11_triedKind 0 (nI i) = some (nI (tkN i)) := by decide +kernel
  exact this i hi
section RPG
variable {fu m d : Nat} {S : Sto} {M : Mm} {w : Nat → Nat}
theorem X11_pfLoop (hfu : 200000 ≤ fu) {k113 k119 : Int32 → Mm → Option Mm} {x2 : Int32} {node h a : Nat} {c : Nat → Nat} (hn : node < 2048) (hh : h < 6) (ha : a ≤ 1048576) (hc : ∀ k, k < 5 → ¬ md h k = 9 → M.1 (m + 11) (6 * node + md h k) = nI (c (md h k)) ∧ c (md h k) ≤ 1048576) :
    fX11_layPageFewest_l145 fu k113 k119 m (nI node) x2 (nI h) M (nI a) 0 = fX11_layPageFewest_j191 fu k113 k119 m (nI node) x2 (nI h) (nI (blN c h a 5)) M := by
  unfold fX11_layPageFewest_l145
  refine lp_ue (fun i => (nI (blN c h a i), nI i)) 5 rfl (by omega) (fun i hi rec => ?_) (fun rec => ?_)
  · have hl := blN_le c h a i
    have hm := md_lt h hh i hi
    have hb := X11_madeBy (fu := fu) hh hi
    have q1 : ¬ (5 : Int32) ≤ nI i := by
      show ¬ nI 5 ≤ nI i
      exact nI_ge hi (by omega)
    by_cases c3 : md h i = 9
    · have e1 : blN c h a (i + 1) = blN c h a i := if_pos c3
      have hb1 : fX11_madeBy fu (nI h) (nI i) = some mI := by rw [hb, if_pos c3]
      have q3 : mI < 0 := by decide +kernel
      dsimp only
      unfold fX11_layPageFewest_b145 fX11_layPageFewest_j185
      rw [e1, hb1, if_neg q1, bi_s, if_pos q3, lt_eq, nI_1]
    · obtain ⟨h1, h2⟩ := hc i hi c3
      have h3 := hm c3
      have hb1 : fX11_madeBy fu (nI h) (nI i) = some (nI (md h i)) := by rw [hb, if_neg c3]
      have e1 : blN c h a (i + 1) = min (blN c h a i) (1 + c (md h i)) := if_neg c3
      have ls := X11_less (fu := fu) (a := blN c h a i) (b := 1 + c (md h i)) (by omega) (by omega)
      dsimp only
      rw [e1]
      simp (disch := omega) only [fX11_layPageFewest_b145, fX11_layPageFewest_j185, hb1, zi_li, zi_m, zi_m1, nI_add, zi_sub, zi_mul, zi_addm, zi_m_lt, zi_lt_m, zi_m_le, zi_le_m, zi_eq_m, zi_m_eq, nI_ltI, nI_leI, nI_eq, nI_clamp, zi_div, lt_eq, bm_s, bi_s, bl_s, bw_s, gd, if_pos, if_neg, ite_true, ite_false, or_false, false_or, and_true, true_and, not_true, not_false_iff, true_or, or_true, Nat.not_lt_zero, h1, ls]
  · simp (disch := omega) only [fX11_layPageFewest_b145, zi_li, zi_m, zi_m1, nI_add, zi_sub, zi_mul, zi_addm, zi_m_lt, zi_lt_m, zi_m_le, zi_le_m, zi_eq_m, zi_m_eq, nI_ltI, nI_leI, nI_eq, nI_clamp, zi_div, lt_eq, bm_s, bi_s, bl_s, bw_s, gd, if_pos, if_neg, ite_true, ite_false, or_false, false_or, and_true, true_and, not_true, not_false_iff, true_or, or_true, Nat.not_lt_zero]
theorem X11_pfUp (hfu : 200000 ≤ fu) {T : Nat} (hT6 : T ≤ 6) (h0 : ∀ q h, q < 2 ^ T → h < 6 → M.1 (m + 11) (6 * (2 ^ T + q) + h) = nI (PF w d 0 q h)) : Wp (fX11_layPageFewest_l113 fu m (nI (2 ^ T - 1)) M) (fun M' => PV1 w d T M' m ∧ O1 (m + 11) M M') := by
  have h64 : 2 ^ T ≤ 2 ^ 6 := Nat.pow_le_pow_right (by decide) hT6
  have hp := pwp T
  unfold fX11_layPageFewest_l113
  refine lp_ho (fun k z => z.1 = nI (2 ^ T - 1 - k) ∧ O1 (m + 11) M z.2 ∧ ∀ e q h, e ≤ T → q < 2 ^ (T - e) → h < 6 → 2 ^ T - 1 - k < 2 ^ (T - e) + q → z.2.1 (m + 11) (6 * (2 ^ (T - e) + q) + h) = nI (PF w d e q h)) _ (2 ^ T - 1) (i := 0) (by omega) (by omega) ⟨rfl, O1.rf _ _, fun e q h h1 h2 h3 h4 => ?_⟩ (fun k z hk hz rec hrec => ?_) (fun z hz rec => ?_)
  · have := nd_0 h1 h2
    have he : e = 0 := by omega
    subst he
    rw [Nat.sub_zero] at h2 ⊢
    exact h0 q h h2 h3
  · obtain ⟨z1, z2⟩ := z
    obtain ⟨rfl, g1, g2⟩ := hz
    dsimp only at *
    obtain ⟨e, q, he, hq, hn⟩ := nd_ex T (2 ^ T - 1 - k) (by omega) (by have := pw1 T; omega)
    have he0 := nd_0 he hq
    obtain ⟨e, rfl⟩ : ∃ e1, e = e1 + 1 := ⟨e - 1, by omega⟩
    obtain ⟨k1, k2⟩ := nd_k he hq
    have hnz := pwp (T - (e + 1))
    unfold fX11_layPageFewest_b113
    rw [hn] at g2 ⊢
    simp (disch := omega) only [zi_li, zi_m, zi_m1, nI_add, zi_sub, zi_mul, zi_addm, zi_m_lt, zi_lt_m, zi_m_le, zi_le_m, zi_eq_m, zi_m_eq, nI_ltI, nI_leI, nI_eq, nI_clamp, zi_div, lt_eq, bm_s, bi_s, bl_s, bw_s, gd, if_pos, if_neg, ite_true, ite_false, or_false, false_or, and_true, true_and, not_true, not_false_iff, true_or, or_true, Nat.not_lt_zero]
    unfold fX11_layPageFewest_l119
    refine lp_ho (fun i y => y.1 = nI i ∧ O1 (m + 11) M y.2 ∧ (∀ j, j < i → y.2.1 (m + 11) (6 * (2 ^ (T - (e + 1)) + q) + abA j) = nI (PF w d (e + 1) q (abA j))) ∧ (∀ j, j < 6 * (2 ^ (T - (e + 1)) + q) ∨ 6 * (2 ^ (T - (e + 1)) + q) + 6 ≤ j → y.2.1 (m + 11) j = z2.1 (m + 11) j)) _ 6 (i := 0) (by omega) (by omega) ⟨rfl, g1, fun j hj => absurd hj (by omega), fun j _ => rfl⟩ (fun i y hi hy rec2 hrec2 => ?_) (fun y hy rec2 => ?_)
    · obtain ⟨y1, y2⟩ := y
      obtain ⟨rfl, u1, u2, u3⟩ := hy
      dsimp only at *
      have hab := abA_lt i hi
      have i1 : 12 * (2 ^ (T - (e + 1)) + q) + abA i = 6 * (2 ^ (T - e) + 2 * q) + abA i := by omega
      have i2 : 6 * (2 * (2 ^ (T - (e + 1)) + q) + 1) + abA i = 6 * (2 ^ (T - e) + (2 * q + 1)) + abA i := by omega
      have b1 := X11_both (fu := fu) (M := y2) (m := m) (n1 := 12288) (a1 := m + 11) (node := 2 ^ (T - (e + 1)) + q) (h := abA i) (x := PF w d e (2 * q) (abA i)) (y := PF w d e (2 * q + 1) (abA i)) (by omega) hab (by omega) (by omega) (by rw [i1, u3 _ (by omega)]; exact g2 e _ _ (by omega) (by omega) hab (by omega)) (by rw [i2, u3 _ (by omega)]; exact g2 e _ _ (by omega) (by omega) hab (by omega)) (PF_le _ _ _ _ hab) (PF_le _ _ _ _ hab)
      have lpE := X11_pfLoop hfu (M := y2) (m := m) (k113 := fun x1 M => rec (x1, M)) (k119 := fun x2 M => rec2 (x2, M)) (x2 := nI i) (node := 2 ^ (T - (e + 1)) + q) (h := abA i) (a := min 1048576 (PF w d e (2 * q) (abA i) + PF w d e (2 * q + 1) (abA i))) (c := PF w d (e + 1) q) (by omega) hab (Nat.min_le_left _ _) (fun k hk h9 => by
        obtain ⟨j, hj, ej⟩ := abA_md i hi k hk h9
        have := u2 j hj
        rw [ej] at this
        exact ⟨this, PF_le _ _ _ _ (by have := abA_lt j (by omega); omega)⟩)
      have hbl : blN (PF w d (e + 1) q) (abA i) (min 1048576 (PF w d e (2 * q) (abA i) + PF w d e (2 * q + 1) (abA i))) 5 = PF w d (e + 1) q (abA i) := lift_bl (g := Ph w d e q) hab
      rw [hbl] at lpE
      have q1 : ¬ (6 : Int32) ≤ nI i := by
        show ¬ nI 6 ≤ nI i
        exact nI_ge hi (by omega)
      unfold fX11_layPageFewest_b119
      rw [if_neg q1, X11_aboveAt hi, bi_s, b1, bi_s, lpE]
      simp (disch := omega) only [fX11_layPageFewest_j191, zi_li, zi_m, zi_m1, nI_add, zi_sub, zi_mul, zi_addm, zi_m_lt, zi_lt_m, zi_m_le, zi_le_m, zi_eq_m, zi_m_eq, nI_ltI, nI_leI, nI_eq, nI_clamp, zi_div, lt_eq, bm_s, bi_s, bl_s, bw_s, gd, if_pos, if_neg, ite_true, ite_false, or_false, false_or, and_true, true_and, not_true, not_false_iff, true_or, or_true, Nat.not_lt_zero]
      refine hrec2 _ ⟨rfl, u1.tr (O1.w _ _ _), fun j hj => ?_, fun j hj => ?_⟩
      · by_cases c : j = i
        · subst c
          simp (disch := omega) only [wI_ne, wI_eq, wI_nk, wIs_ne, wIs_eq]
        · have : abA j ≠ abA i := fun q => c (abA_in j (by omega) i hi q)
          simp (disch := omega) only [wI_ne, wI_eq, wI_nk, wIs_ne, wIs_eq]
          exact u2 j (by omega)
      · simp (disch := omega) only [wI_ne, wI_eq, wI_nk, wIs_ne, wIs_eq]
        exact u3 j hj
    · obtain ⟨y1, y2⟩ := y
      obtain ⟨rfl, u1, u2, u3⟩ := hy
      dsimp only at *
      simp (disch := omega) only [fX11_layPageFewest_b119, fX11_layPageFewest_j210, zi_li, zi_m, zi_m1, nI_add, zi_sub, zi_mul, zi_addm, zi_m_lt, zi_lt_m, zi_m_le, zi_le_m, zi_eq_m, zi_m_eq, nI_ltI, nI_leI, nI_eq, nI_clamp, zi_div, lt_eq, bm_s, bi_s, bl_s, bw_s, gd, if_pos, if_neg, ite_true, ite_false, or_false, false_or, and_true, true_and, not_true, not_false_iff, true_or, or_true, Nat.not_lt_zero]
      refine hrec _ ⟨?_, u1, fun e' q' h h1 h2 h3 h4 => ?_⟩
      · show nI (2 ^ (T - (e + 1)) + q - 1) = _
        congr 1
        omega
      · by_cases c : 2 ^ (T - e') + q' = 2 ^ (T - (e + 1)) + q
        · obtain ⟨a1, a2⟩ := nd_in h2 hq c
          have : e' = e + 1 := by omega
          subst this
          subst a2
          obtain ⟨i, hi, ei⟩ := abA_on h h3
          rw [← ei]
          exact u2 i hi
        · rw [u3 _ (by omega)]
          exact g2 e' q' h h1 h2 h3 (by omega)
  · obtain ⟨z1, z2⟩ := z
    obtain ⟨rfl, g1, g2⟩ := hz
    dsimp only at *
    rw [Nat.sub_self]
    simp (disch := omega) only [fX11_layPageFewest_b113, fX11_layPageFewest_j216, zi_li, zi_m, zi_m1, nI_add, zi_sub, zi_mul, zi_addm, zi_m_lt, zi_lt_m, zi_m_le, zi_le_m, zi_eq_m, zi_m_eq, nI_ltI, nI_leI, nI_eq, nI_clamp, zi_div, lt_eq, bm_s, bi_s, bl_s, bw_s, gd, if_pos, if_neg, ite_true, ite_false, or_false, false_or, and_true, true_and, not_true, not_false_iff, true_or, or_true, Nat.not_lt_zero]
    rw [wp_some]
    refine ⟨fun e q h h1 h2 h3 => g2 e q h h1 h2 h3 ?_, g1⟩
    have := pwp (T - e)
    omega
/-- while the reference works with pages -/
def Cg (S : Sto) (M : Mm) (m : Nat) : Prop := VM S M m ∧ WV (wi S (S 0)) (S 140) M m ∧ M.1 m 25 = nI (S 0) ∧ PV1 (wi S (S 0)) (S 0) (S 140 - 4) M m
theorem X11_layPageFewest (hfu : 200000 ≤ fu) (hV : VM S M m) (hG : Gd S) : Wp (fX11_layPageFewest fu m M) (fun M' => Cg S M' m ∧ Sc m M M') := by
  have hd5 := hG.1.2.2.2.2.1
  have hw := (wi_G hG hd5).1
  obtain ⟨T, hT, hT6, hpg, hT64, hT1⟩ := pg_T hG
  have e0 : ix 0 = 0 := by decide +kernel
  unfold fX11_layPageFewest
  rw [e0, hV.2 0 (by omega), wp_bm]
  refine (X11_layWants hfu hV hG hd5).mono fun M1 h1 => ?_
  obtain ⟨a1, a2, a3, a4, a5⟩ := h1
  have s1 : Sc m M M1 := ⟨fun c h1 h2 => a3 c h1 (by omega), fun j h1 _ _ _ _ _ _ => a4 j h1, a5⟩
  have V1 := hV.sc s1
  unfold fX11_layPageFewest_l12
  refine lp_ho (fun k z => z.1 = nI k ∧ (∀ j, j < k → z.2.1 (m + 11) j = nI 1048576) ∧ O1 (m + 11) M1 z.2) _ (12 * 2 ^ T) (i := 0) (by omega) (by omega) ⟨rfl, fun j hj => absurd hj (by omega), O1.rf _ _⟩ (fun k z hk hz rec hrec => ?_) (fun z hz rec => ?_)
  · obtain ⟨z1, z2⟩ := z
    obtain ⟨rfl, g1, g2⟩ := hz
    dsimp only at *
    have pz := X11_pages (fu := fu) (V1.o1 g2 (by omega)) hG
    rw [hpg] at pz
    simp (disch := omega) only [fX11_layPageFewest_b12, pz, zi_li, zi_m, zi_m1, nI_add, zi_sub, zi_mul, zi_addm, zi_m_lt, zi_lt_m, zi_m_le, zi_le_m, zi_eq_m, zi_m_eq, nI_ltI, nI_leI, nI_eq, nI_clamp, zi_div, lt_eq, bm_s, bi_s, bl_s, bw_s, gd, if_pos, if_neg, ite_true, ite_false, or_false, false_or, and_true, true_and, not_true, not_false_iff, true_or, or_true, Nat.not_lt_zero]
    refine hrec _ ⟨rfl, fun j hj => ?_, g2.tr (O1.w _ _ _)⟩
    by_cases c : j = k
    · subst c
      simp (disch := omega) only [wI_ne, wI_eq, wI_nk, wIs_ne, wIs_eq]
    · simp (disch := omega) only [wI_ne, wI_eq, wI_nk, wIs_ne, wIs_eq]
      exact g1 j (by omega)
  · obtain ⟨z1, z2⟩ := z
    obtain ⟨rfl, g1, g2⟩ := hz
    dsimp only at *
    have Vz := V1.o1 g2 (by omega)
    have pz := X11_pages (fu := fu) Vz hG
    rw [hpg] at pz
    unfold fX11_layPageFewest_b12 fX11_layPageFewest_j38 fX11_layPageFewest_l40
    simp (disch := omega) only [pz, zi_li, zi_m, zi_m1, nI_add, zi_sub, zi_mul, zi_addm, zi_m_lt, zi_lt_m, zi_m_le, zi_le_m, zi_eq_m, zi_m_eq, nI_ltI, nI_leI, nI_eq, nI_clamp, zi_div, lt_eq, bm_s, bi_s, bl_s, bw_s, gd, if_pos, if_neg, ite_true, ite_false, or_false, false_or, and_true, true_and, not_true, not_false_iff, true_or, or_true, Nat.not_lt_zero]
    clear rec
    refine lp_ho (fun i y => y.1 = nI i ∧ (∀ k, 6 * 2 ^ T ≤ k → k < 12 * 2 ^ T → y.2.1 (m + 11) k = nI (rm (fun pk => Fw (wi S (S 0)) (S 0) pk 4 (k / 6 - 2 ^ T) (k % 6)) i)) ∧ Sc m M y.2 ∧ WV (wi S (S 0)) (S 140) y.2 m ∧ y.2.1 m 25 = nI (S 0)) _ 6 (i := 0) (by omega) (by omega) ⟨rfl, fun k _ hk => g1 k hk, s1.tr (Sc.o1 g2 (by omega) (by omega)), fun e q h1 h2 => by rw [g2.1 (m + 8) (by omega)]; exact a1 e q h1 h2, by rw [g2.1 m (by omega)]; exact a2⟩ (fun i y hi hy rec hrec => ?_) (fun y hy rec => ?_)
    · obtain ⟨y1, y2⟩ := y
      obtain ⟨rfl, u1, u2, u3, u4⟩ := hy
      dsimp only at *
      have Vy := hV.sc u2
      have q1 : ¬ (6 : Int32) ≤ nI i := by
        show ¬ nI 6 ≤ nI i
        exact nI_ge hi (by omega)
      unfold fX11_layPageFewest_b40
      rw [if_neg q1, X11_triedKind hi, bi_s, wp_bm]
      refine (X11_layFewest hfu Vy hG hw hd5 (tkN_lt hi) u3 u4).mono fun M2 h2 => ?_
      obtain ⟨f1, f2⟩ := h2
      have V2 := Vy.o1 f2 (by omega)
      have p2 := X11_pages (fu := fu) V2 hG
      rw [hpg] at p2
      rw [p2, bi_s]
      have fval : ∀ k, 6 * 2 ^ T ≤ k → k < 12 * 2 ^ T → M2.1 (m + 9) k = nI (Fw (wi S (S 0)) (S 0) (tkN i) 4 (k / 6 - 2 ^ T) (k % 6)) := fun k h1 h2 => by
        have := f1 4 (k / 6 - 2 ^ T) (k % 6) (by omega) (by rw [show S 140 - 4 = T by omega]; omega) (by omega)
        rw [show S 140 - 4 = T by omega, show 6 * (2 ^ T + (k / 6 - 2 ^ T)) + k % 6 = k by omega] at this
        exact this
      unfold fX11_layPageFewest_l62
      simp (disch := omega) only [zi_li, zi_m, zi_m1, nI_add, zi_sub, zi_mul, zi_addm, zi_m_lt, zi_lt_m, zi_m_le, zi_le_m, zi_eq_m, zi_m_eq, nI_ltI, nI_leI, nI_eq, nI_clamp, zi_div, lt_eq, bm_s, bi_s, bl_s, bw_s, gd]
      refine lp_ho (fun j x => x.1 = nI (6 * 2 ^ T + j) ∧ O1 (m + 11) M2 x.2 ∧ (∀ k, 6 * 2 ^ T ≤ k → k < 6 * 2 ^ T + j → x.2.1 (m + 11) k = nI (rm (fun pk => Fw (wi S (S 0)) (S 0) pk 4 (k / 6 - 2 ^ T) (k % 6)) (i + 1))) ∧ (∀ k, 6 * 2 ^ T + j ≤ k → k < 12 * 2 ^ T → x.2.1 (m + 11) k = nI (rm (fun pk => Fw (wi S (S 0)) (S 0) pk 4 (k / 6 - 2 ^ T) (k % 6)) i))) _ (6 * 2 ^ T) (i := 0) (by omega) (by omega) ⟨rfl, O1.rf _ _, fun k h1 h2 => absurd h2 (by omega), fun k h1 h2 => by rw [f2.1 (m + 11) (by omega)]; exact u1 k (by omega) h2⟩ (fun j x hj hx rec2 hrec2 => ?_) (fun x hx rec2 => ?_)
      · obtain ⟨x1, x2⟩ := x
        obtain ⟨rfl, b1, b2, b3⟩ := hx
        dsimp only at *
        have px := X11_pages (fu := fu) (V2.o1 b1 (by omega)) hG
        rw [hpg] at px
        have v1 := b3 (6 * 2 ^ T + j) (by omega) (by omega)
        have v2 := fval (6 * 2 ^ T + j) (by omega) (by omega)
        rw [← b1.1 (m + 9) (by omega)] at v2
        have l1 := rm_le (fun pk => Fw (wi S (S 0)) (S 0) pk 4 ((6 * 2 ^ T + j) / 6 - 2 ^ T) ((6 * 2 ^ T + j) % 6)) i
        have l2 := Fw_le (wi S (S 0)) (S 0) (tkN i) 4 ((6 * 2 ^ T + j) / 6 - 2 ^ T) (h := (6 * 2 ^ T + j) % 6) (by omega)
        have ls := X11_less (fu := fu) (a := rm (fun pk => Fw (wi S (S 0)) (S 0) pk 4 ((6 * 2 ^ T + j) / 6 - 2 ^ T) ((6 * 2 ^ T + j) % 6)) i) (b := Fw (wi S (S 0)) (S 0) (tkN i) 4 ((6 * 2 ^ T + j) / 6 - 2 ^ T) ((6 * 2 ^ T + j) % 6)) (by omega) (by omega)
        simp (disch := omega) only [fX11_layPageFewest_b62, px, zi_li, zi_m, zi_m1, nI_add, zi_sub, zi_mul, zi_addm, zi_m_lt, zi_lt_m, zi_m_le, zi_le_m, zi_eq_m, zi_m_eq, nI_ltI, nI_leI, nI_eq, nI_clamp, zi_div, lt_eq, bm_s, bi_s, bl_s, bw_s, gd, if_pos, if_neg, ite_true, ite_false, or_false, false_or, and_true, true_and, not_true, not_false_iff, true_or, or_true, Nat.not_lt_zero, v1, v2, ls]
        refine hrec2 _ ⟨rfl, b1.tr (O1.w _ _ _), fun k h1 h2 => ?_, fun k h1 h2 => ?_⟩
        · by_cases c : k = 6 * 2 ^ T + j
          · subst c
            simp (disch := omega) only [wI_ne, wI_eq, wI_nk, wIs_ne, wIs_eq]
            rfl
          · simp (disch := omega) only [wI_ne, wI_eq, wI_nk, wIs_ne, wIs_eq]
            exact b2 k h1 (by omega)
        · simp (disch := omega) only [wI_ne, wI_eq, wI_nk, wIs_ne, wIs_eq]
          exact b3 k (by omega) h2
      · obtain ⟨x1, x2⟩ := x
        obtain ⟨rfl, b1, b2, b3⟩ := hx
        dsimp only at *
        have px := X11_pages (fu := fu) (V2.o1 b1 (by omega)) hG
        rw [hpg] at px
        simp (disch := omega) only [fX11_layPageFewest_b62, fX11_layPageFewest_j100, px, zi_li, zi_m, zi_m1, nI_add, zi_sub, zi_mul, zi_addm, zi_m_lt, zi_lt_m, zi_m_le, zi_le_m, zi_eq_m, zi_m_eq, nI_ltI, nI_leI, nI_eq, nI_clamp, zi_div, lt_eq, bm_s, bi_s, bl_s, bw_s, gd, if_pos, if_neg, ite_true, ite_false, or_false, false_or, and_true, true_and, not_true, not_false_iff, true_or, or_true, Nat.not_lt_zero]
        refine hrec _ ⟨rfl, fun k h1 h2 => b2 k h1 (by omega), (u2.tr (Sc.o1 f2 (by omega) (by omega))).tr (Sc.o1 b1 (by omega) (by omega)), fun e q h1 h2 => ?_, ?_⟩
        · rw [b1.1 (m + 8) (by omega), f2.1 (m + 8) (by omega)]; exact u3 e q h1 h2
        · rw [b1.1 m (by omega), f2.1 m (by omega)]; exact u4
    · obtain ⟨y1, y2⟩ := y
      obtain ⟨rfl, u1, u2, u3, u4⟩ := hy
      dsimp only at *
      have Vy := hV.sc u2
      have py := X11_pages (fu := fu) Vy hG
      rw [hpg] at py
      unfold fX11_layPageFewest_b40 fX11_layPageFewest_j106
      simp (disch := omega) only [py, zi_li, zi_m, zi_m1, nI_add, zi_sub, zi_mul, zi_addm, zi_m_lt, zi_lt_m, zi_m_le, zi_le_m, zi_eq_m, zi_m_eq, nI_ltI, nI_leI, nI_eq, nI_clamp, zi_div, lt_eq, bm_s, bi_s, bl_s, bw_s, gd, if_pos, if_neg, ite_true, ite_false, or_false, false_or, and_true, true_and, not_true, not_false_iff, true_or, or_true, Nat.not_lt_zero]
      refine (X11_pfUp (w := wi S (S 0)) (d := S 0) hfu hT6 (fun q h hq hh => ?_)).mono fun M' hM' => ?_
      · have := u1 (6 * (2 ^ T + q) + h) (by omega) (by omega)
        rw [show (6 * (2 ^ T + q) + h) / 6 - 2 ^ T = q by omega, show (6 * (2 ^ T + q) + h) % 6 = h by omega, rm_6 (f := fun pk => Fw (wi S (S 0)) (S 0) pk 4 q h) (Fw_le _ _ _ _ _ hh)] at this
        exact this
      · obtain ⟨r1, r2⟩ := hM'
        refine ⟨⟨Vy.o1 r2 (by omega), fun e q h1 h2 => ?_, ?_, ?_⟩, u2.tr (Sc.o1 r2 (by omega) (by omega))⟩
        · rw [r2.1 (m + 8) (by omega)]; exact u3 e q h1 h2
        · rw [r2.1 m (by omega)]; exact u4
        · rw [show S 140 - 4 = T by omega]; exact r1
end RPG
