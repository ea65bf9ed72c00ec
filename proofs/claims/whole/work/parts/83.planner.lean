/-! The planner's table. -/
def byI (c : Nat → Nat) (h : Nat) : Nat := if h = 0 then 10000 else if h = 5 then min 10000 (1 + min (min (c 0) (c 1)) (min (min (c 2) (c 3)) (c 4))) else if h = 4 then min 10000 (1 + min (c 0) (c 2)) else min 10000 (1 + c 0)
def byO (o : Nat) (c : Nat → Nat) (h : Nat) : Nat := if o = 1 ∨ h = 5 then byI c h else 10000
def bfN (c : Nat → Nat) (h : Nat) : Nat → Nat
  | 0 => 10000
  | i + 1 => if md h i = 9 then bfN c h i else min (bfN c h i) (1 + c (md h i))
theorem bfN_5 (c : Nat → Nat) {h : Nat} (hh : h < 6) : bfN c h 5 = byI c h := by
  rcases h6 hh with rfl | rfl | rfl | rfl | rfl | rfl
  · rfl
  · show min 10000 (1 + c 0) = min 10000 (1 + c 0); rfl
  · show min 10000 (1 + c 0) = min 10000 (1 + c 0); rfl
  · show min 10000 (1 + c 0) = min 10000 (1 + c 0); rfl
  · show min (min 10000 (1 + c 0)) (1 + c 2) = min 10000 (1 + min (c 0) (c 2)); omega
  · show min (min (min (min (min 10000 (1 + c 0)) (1 + c 1)) (1 + c 2)) (1 + c 3)) (1 + c 4) = min 10000 (1 + min (min (c 0) (c 1)) (min (min (c 2) (c 3)) (c 4))); omega
theorem bfN_le (c : Nat → Nat) (h : Nat) : ∀ i, bfN c h i ≤ 10000
  | 0 => Nat.le_refl _
  | i + 1 => by
    have := bfN_le c h i
    unfold bfN
    split <;> omega
theorem laid_T : ∀ h, h < 6 → ∀ i, i < 5 → laidT.getD (h * 5 + i) (nI 0) = if md h i = 9 then mI else nI (md h i) := by decide +kernel
theorem md_lt : ∀ h, h < 6 → ∀ i, i < 5 → ¬ md h i = 9 → md h i < h := by decide
theorem byI_cg {c c' : Nat → Nat} {h : Nat} (hh : h < 6) (hc : ∀ j, j < h → c j = c' j) : byI c h = byI c' h := by
  unfold byI
  rcases h6 hh with rfl | rfl | rfl | rfl | rfl | rfl
  · rfl
  · rw [hc 0 (by omega)]; rfl
  · rw [hc 0 (by omega)]; rfl
  · rw [hc 0 (by omega)]; rfl
  · rw [hc 0 (by omega), hc 2 (by omega)]; rfl
  · rw [hc 0 (by omega), hc 1 (by omega), hc 2 (by omega), hc 3 (by omega), hc 4 (by omega)]
theorem wE_m {v : Nat} (hv : v < 2 ^ 31) : (wE v = mI) = (v = 9) := by
  unfold wE
  by_cases c : v = 9
  · rw [if_pos c]; simp [c]
  · rw [if_neg c, zi_eq_m hv]; simp [c]
/-- a tree with its default and what is untouched -/
def TW (w : Nat → Nat) (t d F : Nat) (M : Mm) (r : Nat) : Prop := TV w t M r ∧ M.1 r 6 = nI d ∧ M.1 r 7 = nI F
theorem TW.fr {w : Nat → Nat} {t d F r : Nat} {M M' : Mm} (h : TW w t d F M r) (hf : ∀ c, r ≤ c → c ≤ r + 5 → M'.1 c = M.1 c) : TW w t d F M' r := by
  refine ⟨h.1.fr hf, ?_, ?_⟩
  · rw [hf r (by omega) (by omega)]; exact h.2.1
  · rw [hf r (by omega) (by omega)]; exact h.2.2
/-- what is asked of the wants -/
def WG (w : Nat → Nat) (t d : Nat) : Prop := (∀ x, w x = 9 ∨ w x < 5) ∧ d < 5 ∧ t ≤ 10 ∧ NN w t 0 ≤ 313
theorem wi_G {S : Sto} (hG : Gd S) {d : Nat} (hd : d < 5) : WG (wi S d) (S 140) d := by
  refine ⟨fun x => ?_, hd, hG.1.2.1, NN_wi hG d⟩
  unfold wi
  have := wtS_lt hG hd x
  by_cases c : x < S 142
  · rw [if_pos c]; exact Or.inl rfl
  · rw [if_neg c]; exact Or.inr this
theorem kb_lt {d h : Nat} (hd : d < 5) (hh : h < 6) : kb d h < 5 := by
  unfold kb
  split <;> omega
section PN
variable {fu r t d F k e q : Nat} {w : Nat → Nat} {M : Mm}
theorem WG.lv (hW : WG w t d) (hk : k < NN w t 0) (hl : lo w t 0 k = (e, q)) : 2 ^ e ≤ 1024 ∧ q * 2 ^ e + 2 ^ e ≤ 1024 ∧ e ≤ t ∧ k + NN w e q ≤ NN w t 0 ∧ q * 2 ^ e + 2 ^ e ≤ 2 ^ t := by
  obtain ⟨a1, a2, a3, _⟩ := lo_sh w t 0 k e q hk hl
  have h1 : 2 ^ t ≤ 2 ^ 10 := Nat.pow_le_pow_right (by decide) hW.2.2.1
  rw [Nat.zero_mul, Nat.zero_add] at a3
  have := pwp e
  omega
theorem X9_isRight (hT : TW w t d F M r) (hW : WG w t d) (hk : k < NN w t 0) (hl : lo w t 0 k = (e, q)) (hi : ic w e q = 0) {h pk : Nat} (hh : h < 6) (hp : pk < 6) : fX9_isRight fu r (nI k) (nI h) (nI pk) M = some (bI (bsV (w (q * 2 ^ e)) d pk h = 0)) := by
  have hN := hT.1.2 k hk
  rw [hl] at hN
  have h5 := (hN.2.1 hi).1
  have h313 := hW.2.2.2
  have hv := hW.1 (q * 2 ^ e)
  have key : ∀ y, y < 6 → fX9_isRight_j13 fu r (nI k) (nI pk) (nI y) M = some (bI (w (q * 2 ^ e) = 9 ∨ snN pk y = w (q * 2 ^ e))) := fun y hy => by
    have hs := snN_le (p := pk) (k := y) (by omega) (by omega)
    simp (disch := omega) only [fX9_isRight_j13, fX9_isRight_j45, fX9_isRight_j50, zi_li, zi_m, zi_m1, nI_add, zi_sub, zi_mul, zi_addm, zi_m_lt, zi_lt_m, zi_m_le, zi_le_m, zi_eq_m, zi_m_eq, nI_ltI, nI_leI, nI_eq, nI_clamp, zi_div, lt_eq, bm_s, bi_s, bl_s, bw_s, gd, if_pos, if_neg, ite_true, ite_false, or_false, false_or, and_true, true_and, not_true, not_false_iff, true_or, or_true, Nat.not_lt_zero, h5, wE_m]
    by_cases c : w (q * 2 ^ e) = 9
    · rw [if_pos c, bI_t (Or.inl c)]
    · rw [if_neg c, seen_T pk hp y hy]
      have : wE (w (q * 2 ^ e)) = nI (w (q * 2 ^ e)) := if_neg c
      rw [this]
      simp (disch := omega) only [zi_li, zi_m, zi_m1, nI_add, zi_sub, zi_mul, zi_addm, zi_m_lt, zi_lt_m, zi_m_le, zi_le_m, zi_eq_m, zi_m_eq, nI_ltI, nI_leI, nI_eq, nI_clamp, zi_div, lt_eq, bm_s, bi_s, bl_s, bw_s, gd]
      by_cases c2 : snN pk y = w (q * 2 ^ e)
      · rw [if_pos c2, bI_t (Or.inr c2)]
      · rw [if_neg c2, bI_f (fun q => q.elim c c2)]
  have fin : (w (q * 2 ^ e) = 9 ∨ snN pk (kb d h) = w (q * 2 ^ e)) ↔ bsV (w (q * 2 ^ e)) d pk h = 0 := by
    unfold bsV
    by_cases c : w (q * 2 ^ e) = 9 ∨ snN pk (kb d h) = w (q * 2 ^ e)
    · rw [if_pos c]; simp [c]
    · rw [if_neg c]; simp [c]
  rw [← bI_c fin]
  unfold fX9_isRight kb
  simp (disch := omega) only [zi_li, zi_m, zi_m1, nI_add, zi_sub, zi_mul, zi_addm, zi_m_lt, zi_lt_m, zi_m_le, zi_le_m, zi_eq_m, zi_m_eq, nI_ltI, nI_leI, nI_eq, nI_clamp, zi_div, lt_eq, bm_s, bi_s, bl_s, bw_s, gd]
  by_cases c : h = 5
  · have := hW.2.1
    rw [if_pos c, if_pos c, hT.2.1]
    exact key d (by omega)
  · rw [if_neg c, if_neg c]
    exact key h (by omega)
theorem X9_pageKindFor (hfu : 200000 ≤ fu) (hT : TW w t d F M r) (hW : WG w t d) (hk : k < NN w t 0) (hl : lo w t 0 k = (e, q)) (hi : ic w e q = 0) {h : Nat} (hh : h < 6) : fX9_pageKindFor fu r (nI k) (nI h) M = some (trN (fun pk => bsV (w (q * 2 ^ e)) d pk h = 0)) := by
  unfold fX9_pageKindFor fX9_pageKindFor_l2
  refine lp_tr (fun j hj rec => ?_) (fun rec => ?_) (by omega)
  · have im := fun pk (hp : pk < 6) => X9_isRight (fu := fu) hT hW hk hl hi hh hp
    unfold tkN
    by_cases c0 : j = 0
    · subst c0
      simp (disch := omega) only [fX9_pageKindFor_b2, fX9_pageKindFor_j21, fX10_pageKindInTurn, fX10_pageKindInTurn_j11, zi_li, zi_m, zi_m1, nI_add, zi_sub, zi_mul, zi_addm, zi_m_lt, zi_lt_m, zi_m_le, zi_le_m, zi_eq_m, zi_m_eq, nI_ltI, nI_leI, nI_eq, nI_clamp, zi_div, lt_eq, bm_s, bi_s, bl_s, bw_s, gd, if_pos, if_neg, ite_true, ite_false, or_false, false_or, and_true, true_and, not_true, not_false_iff, true_or, or_true, Nat.not_lt_zero, im, bI_0]
      by_cases c : bsV (w (q * 2 ^ e)) d 5 h = 0
      · rw [if_neg (fun q => q c), if_pos c]
      · rw [if_pos c, if_neg c]
    · simp (disch := omega) only [fX9_pageKindFor_b2, fX9_pageKindFor_j21, fX10_pageKindInTurn, fX10_pageKindInTurn_j11, zi_li, zi_m, zi_m1, nI_add, zi_sub, zi_mul, zi_addm, zi_m_lt, zi_lt_m, zi_m_le, zi_le_m, zi_eq_m, zi_m_eq, nI_ltI, nI_leI, nI_eq, nI_clamp, zi_div, lt_eq, bm_s, bi_s, bl_s, bw_s, gd, if_pos, if_neg, ite_true, ite_false, or_false, false_or, and_true, true_and, not_true, not_false_iff, true_or, or_true, Nat.not_lt_zero, im, bI_0]
      by_cases c : bsV (w (q * 2 ^ e)) d (j - 1) h = 0
      · rw [if_neg (fun q => q c), if_pos c]
      · rw [if_pos c, if_neg c]
  · simp (disch := omega) only [fX9_pageKindFor_b2, fX9_pageKindFor_j32, zi_li, zi_m, zi_m1, nI_add, zi_sub, zi_mul, zi_addm, zi_m_lt, zi_lt_m, zi_m_le, zi_le_m, zi_eq_m, zi_m_eq, nI_ltI, nI_leI, nI_eq, nI_clamp, zi_div, lt_eq, bm_s, bi_s, bl_s, bw_s, gd, if_pos, if_neg, ite_true, ite_false, or_false, false_or, and_true, true_and, not_true, not_false_iff, true_or, or_true, Nat.not_lt_zero]
theorem X6_byHalves {h u a b : Nat} (hk : k < 313) (hu : u < 313) (hh : h < 6) (h3 : M.1 (r + 1 + 3) k = nI u) (ha : M.1 (r + 11) ((k + 1) * 6 + h) = nI a) (hb : M.1 (r + 11) (u * 6 + h) = nI b) (la : a ≤ 10000) (lb : b ≤ 10000) : fX6_byHalves fu r (nI k) (nI h) M = some (nI (min 10000 (a + b))) := by
  simp (disch := omega) only [fX6_byHalves, zi_li, zi_m, zi_m1, nI_add, zi_sub, zi_mul, zi_addm, zi_m_lt, zi_lt_m, zi_m_le, zi_le_m, zi_eq_m, zi_m_eq, nI_ltI, nI_leI, nI_eq, nI_clamp, zi_div, lt_eq, bm_s, bi_s, bl_s, bw_s, gd, if_pos, if_neg, ite_true, ite_false, or_false, false_or, and_true, true_and, not_true, not_false_iff, true_or, or_true, Nat.not_lt_zero, h3, ha, hb]
  by_cases c : a + b < 10000
  · rw [if_pos c, show min 10000 (a + b) = a + b by omega]
  · rw [if_neg c, show min 10000 (a + b) = 10000 by omega]
theorem X6_byItself (hfu : 200000 ≤ fu) {h o : Nat} {c : Nat → Nat} (hk : k < 313) (hh : h < 6) (ho : o < 2) (h4 : M.1 r 4 = nI o) (hc : ∀ j, j < h → M.1 (r + 11) (k * 6 + j) = nI (c j)) (lc : ∀ j, j < h → c j ≤ 10000) : fX6_byItself fu r (nI k) (nI h) M = some (nI (byO o c h)) := by
  unfold fX6_byItself fX6_byItself_l7 byO
  by_cases c1 : o = 1 ∨ h = 5
  · rw [if_pos c1, ← bfN_5 c hh]
    refine lp_ue (fun i => (nI (bfN c h i), nI i)) 5 rfl (by omega) (fun i hi rec => ?_) (fun rec => ?_)
    · have hm := md_lt h hh i hi
      have hL := laid_T h hh i hi
      have hb := bfN_le c h i
      have go : fX6_byItself_b7 fu (fun x3 x4 => rec (x3, x4)) r (nI k) (nI h) (nI (bfN c h i)) (nI i) M = fX6_byItself_j25 fu (fun x3 x4 => rec (x3, x4)) r (nI k) (nI h) (nI (bfN c h i)) (nI i) M := by
        simp (disch := omega) only [fX6_byItself_b7, fX6_byItself_j67, h4, zi_li, zi_m, zi_m1, nI_add, zi_sub, zi_mul, zi_addm, zi_m_lt, zi_lt_m, zi_m_le, zi_le_m, zi_eq_m, zi_m_eq, nI_ltI, nI_leI, nI_eq, nI_clamp, zi_div, lt_eq, bm_s, bi_s, bl_s, bw_s, gd, if_pos, if_neg, ite_true, ite_false, or_false, false_or, and_true, true_and, not_true, not_false_iff, true_or, or_true, Nat.not_lt_zero]
        by_cases c2 : o = 0
        · rw [if_pos c2]
        · rw [if_neg c2]
      rw [go]
      simp (disch := omega) only [fX6_byItself_j25, fX6_byItself_j61, zi_li, zi_m, zi_m1, nI_add, zi_sub, zi_mul, zi_addm, zi_m_lt, zi_lt_m, zi_m_le, zi_le_m, zi_eq_m, zi_m_eq, nI_ltI, nI_leI, nI_eq, nI_clamp, zi_div, lt_eq, bm_s, bi_s, bl_s, bw_s, gd, if_pos, if_neg, ite_true, ite_false, or_false, false_or, and_true, true_and, not_true, not_false_iff, true_or, or_true, Nat.not_lt_zero, hL]
      by_cases c3 : md h i = 9
      · have e1 : bfN c h (i + 1) = bfN c h i := if_pos c3
        rw [if_pos c3, e1]
        simp (disch := omega) only [zi_li, zi_m, zi_m1, nI_add, zi_sub, zi_mul, zi_addm, zi_m_lt, zi_lt_m, zi_m_le, zi_le_m, zi_eq_m, zi_m_eq, nI_ltI, nI_leI, nI_eq, nI_clamp, zi_div, lt_eq, bm_s, bi_s, bl_s, bw_s, gd, if_pos, if_neg, ite_true, ite_false, or_false, false_or, and_true, true_and, not_true, not_false_iff, true_or, or_true, Nat.not_lt_zero]
      · have e1 : bfN c h (i + 1) = min (bfN c h i) (1 + c (md h i)) := if_neg c3
        have h1 := hc (md h i) (hm c3)
        have h2 := lc (md h i) (hm c3)
        have h3 := hm c3
        rw [if_neg c3, e1]
        simp (disch := omega) only [zi_li, zi_m, zi_m1, nI_add, zi_sub, zi_mul, zi_addm, zi_m_lt, zi_lt_m, zi_m_le, zi_le_m, zi_eq_m, zi_m_eq, nI_ltI, nI_leI, nI_eq, nI_clamp, zi_div, lt_eq, bm_s, bi_s, bl_s, bw_s, gd, if_pos, if_neg, ite_true, ite_false, or_false, false_or, and_true, true_and, not_true, not_false_iff, true_or, or_true, Nat.not_lt_zero, h1]
        by_cases c4 : 1 + c (md h i) < bfN c h i
        · rw [if_pos c4, show min (bfN c h i) (1 + c (md h i)) = 1 + c (md h i) by omega]
        · rw [if_neg c4, show min (bfN c h i) (1 + c (md h i)) = bfN c h i by omega]
    · simp (disch := omega) only [fX6_byItself_b7, fX6_byItself_j67, zi_li, zi_m, zi_m1, nI_add, zi_sub, zi_mul, zi_addm, zi_m_lt, zi_lt_m, zi_m_le, zi_le_m, zi_eq_m, zi_m_eq, nI_ltI, nI_leI, nI_eq, nI_clamp, zi_div, lt_eq, bm_s, bi_s, bl_s, bw_s, gd, if_pos, if_neg, ite_true, ite_false, or_false, false_or, and_true, true_and, not_true, not_false_iff, true_or, or_true, Nat.not_lt_zero]
  · rw [if_neg c1]
    obtain ⟨g, rfl⟩ : ∃ g, fu = g + 1 := ⟨fu - 1, by omega⟩
    rw [lp_S]
    have : o = 0 := by omega
    subst this
    simp (disch := omega) only [fX6_byItself_b7, fX6_byItself_j67, h4, zi_li, zi_m, zi_m1, nI_add, zi_sub, zi_mul, zi_addm, zi_m_lt, zi_lt_m, zi_m_le, zi_le_m, zi_eq_m, zi_m_eq, nI_ltI, nI_leI, nI_eq, nI_clamp, zi_div, lt_eq, bm_s, bi_s, bl_s, bw_s, gd, if_pos, if_neg, ite_true, ite_false, or_false, false_or, and_true, true_and, not_true, not_false_iff, true_or, or_true, Nat.not_lt_zero]
/-- entries of some nodes alone are other ones -/
def Ef (r k0 k1 : Nat) (M M' : Mm) : Prop := (∀ a, a ≠ r + 11 → M'.1 a = M.1 a) ∧ (∀ j, j < k0 * 6 ∨ k1 * 6 ≤ j → M'.1 (r + 11) j = M.1 (r + 11) j) ∧ M'.2 = M.2
theorem Ef.rf (r k0 k1 : Nat) (M : Mm) : Ef r k0 k1 M M := ⟨fun _ _ => rfl, fun _ _ => rfl, rfl⟩
theorem Ef.tr {r k0 k1 : Nat} {M M' M'' : Mm} (h : Ef r k0 k1 M M') (h' : Ef r k0 k1 M' M'') : Ef r k0 k1 M M'' := ⟨fun a ha => (h'.1 a ha).trans (h.1 a ha), fun j hj => (h'.2.1 j hj).trans (h.2.1 j hj), h'.2.2.trans h.2.2⟩
theorem Ef.wd {r k0 k1 l0 l1 : Nat} {M M' : Mm} (h : Ef r k0 k1 M M') (h0 : l0 ≤ k0) (h1 : k1 ≤ l1) : Ef r l0 l1 M M' := ⟨h.1, fun j hj => h.2.1 j (by omega), h.2.2⟩
theorem Ef.w1 {r k0 k1 : Nat} (M : Mm) {j : Nat} (v : Int32) (h0 : k0 * 6 ≤ j) (h1 : j < k1 * 6) : Ef r k0 k1 M (wI M (r + 11) j v) := ⟨fun a ha => wI_ne ha, fun i hi => wI_nk (by omega), rfl⟩
/-- what the values of a table are -/
def VS (V : Nat → Nat → Nat → Nat) (w : Nat → Nat) (d pk o : Nat) : Prop := (∀ e q h, h < 6 → V e q h ≤ 10000) ∧ (∀ e q h, h < 6 → ic w e q = 0 → V e q h = min (if bsV (w (q * 2 ^ e)) d pk h = 0 then 0 else 10000) (byO o (V e q) h)) ∧
  (∀ e q h, h < 6 → ¬ ic w (e + 1) q = 0 → V (e + 1) q h = min (min 10000 (V e (2 * q) h + V e (2 * q + 1) h)) (byO o (V (e + 1) q) h))
def FT (V : Nat → Nat → Nat → Nat) (M : Mm) (r e q k : Nat) : Prop := ∀ h, h < 6 → M.1 (r + 11) (k * 6 + h) = nI (V e q h)
theorem byO_le {o : Nat} {c : Nat → Nat} {h : Nat} (hh : h < 6) : byO o c h ≤ 10000 := by
  unfold byO byI
  rcases h6 hh with rfl | rfl | rfl | rfl | rfl | rfl <;> split <;> simp <;> omega
theorem X6_weighNode (hfu : 200000 ≤ fu) {V : Nat → Nat → Nat → Nat} {pk o : Nat} {x1 : Int32} {kk : Int32 → Mm → Option Mm} {Q : Mm → Prop} (hV : VS V w d pk o) (ho : o < 2) (hp : pk < 6) (hT : TW w t d F M (r + 1)) (hW : WG w t d) (h4 : M.1 r 4 = nI o) (hk : k < NN w t 0) (hl : lo w t 0 k = (e, q))
    (hkid : ∀ e1, e = e1 + 1 → ¬ ic w e q = 0 → FT V M r e1 (2 * q) (k + 1) ∧ FT V M r e1 (2 * q + 1) (k + 1 + NN w e1 (2 * q)))
    (hQ : ∀ M', FT V M' r e q k → Ef r k (k + 1) M M' → Wp (kk (nI k + mI) M') Q) : Wp (fX6_weighWithin_l20 fu kk r x1 (nI pk) (nI k) 0 M) Q := by
  have h313 := hW.2.2.2
  have hN := hT.1.2 k hk
  rw [hl] at hN
  unfold fX6_weighWithin_l20
  refine lp_ho (fun h z => z.1 = nI h ∧ (∀ j, j < h → z.2.1 (r + 11) (k * 6 + j) = nI (V e q j)) ∧ Ef r k (k + 1) M z.2) _ 6 (i := 0) (by omega) (by omega) ⟨rfl, fun j hj => absurd hj (by omega), Ef.rf _ _ _ _⟩ (fun h z hh hz rec hrec => ?_) (fun z hz rec => ?_)
  · obtain ⟨z1, z2⟩ := z
    obtain ⟨rfl, g1, g2⟩ := hz
    dsimp only at *
    have Tz : TW w t d F z2 (r + 1) := hT.fr fun c _ _ => g2.1 c (by omega)
    have z4 : z2.1 r 4 = nI o := by rw [g2.1 r (by omega)]; exact h4
    have it := X6_byItself hfu (M := z2) (r := r) (c := V e q) (o := o) (k := k) (h := h) (by omega) hh ho z4 g1 (fun j hj => hV.1 e q j (by omega))
    have lb := byO_le (o := o) (c := V e q) hh
    have fin : ∀ a, a ≤ 10000 → V e q h = min a (byO o (V e q) h) → Wp (fX6_weighWithin_j70 fu kk (fun x4 M => rec (x4, M)) r x1 (nI pk) (nI k) (nI h) (nI a) z2) Q := fun a la ea => by
      simp (disch := omega) only [fX6_weighWithin_j70, it, zi_li, zi_m, zi_m1, nI_add, zi_sub, zi_mul, zi_addm, zi_m_lt, zi_lt_m, zi_m_le, zi_le_m, zi_eq_m, zi_m_eq, nI_ltI, nI_leI, nI_eq, nI_clamp, zi_div, lt_eq, bm_s, bi_s, bl_s, bw_s, gd, if_pos, if_neg, ite_true, ite_false, or_false, false_or, and_true, true_and, not_true, not_false_iff, true_or, or_true, Nat.not_lt_zero]
      have em : (if byO o (V e q) h < a then nI (byO o (V e q) h) else nI a) = nI (V e q h) := by
        rw [ea]
        by_cases c : byO o (V e q) h < a
        · rw [if_pos c, show min a (byO o (V e q) h) = byO o (V e q) h by omega]
        · rw [if_neg c, show min a (byO o (V e q) h) = a by omega]
      rw [em]
      refine hrec _ ⟨rfl, fun j hj => ?_, g2.tr (Ef.w1 _ _ (by omega) (by omega))⟩
      by_cases c : j = h
      · subst c
        simp (disch := omega) only [wI_ne, wI_eq, wI_nk, wIs_ne, wIs_eq]
      · simp (disch := omega) only [wI_ne, wI_eq, wI_nk, wIs_ne, wIs_eq]
        exact g1 j (by omega)
    unfold fX6_weighWithin_b20
    by_cases ci : ic w e q = 0
    · have h3 : z2.1 (r + 1 + 3) k = nI 0 := by rw [g2.1 (r + 1 + 3) (by omega)]; exact (hN.2.1 ci).2
      have ir := X9_isRight (fu := fu) Tz hW hk hl ci hh hp
      have hv := hV.2.1 e q h hh ci
      simp (disch := omega) only [zi_li, zi_m, zi_m1, nI_add, zi_sub, zi_mul, zi_addm, zi_m_lt, zi_lt_m, zi_m_le, zi_le_m, zi_eq_m, zi_m_eq, nI_ltI, nI_leI, nI_eq, nI_clamp, zi_div, lt_eq, bm_s, bi_s, bl_s, bw_s, gd, if_pos, if_neg, ite_true, ite_false, or_false, false_or, and_true, true_and, not_true, not_false_iff, true_or, or_true, Nat.not_lt_zero, h3, ir, bI_0]
      by_cases c : bsV (w (q * 2 ^ e)) d pk h = 0
      · rw [if_neg (fun q => q c)]
        rw [if_pos c] at hv
        exact fin 0 (by omega) hv
      · rw [if_pos c]
        rw [if_neg c] at hv
        exact fin 10000 (by omega) hv
    · obtain ⟨e1, rfl⟩ : ∃ e1, e = e1 + 1 := by
        cases e with
        | zero => exact absurd (ic_0 w q) ci
        | succ e1 => exact ⟨e1, rfl⟩
      obtain ⟨k1, k2⟩ := hkid e1 rfl ci
      obtain ⟨l1, l2, l3⟩ := lo_kid hk hl ci
      have p2 := NN_p w e1 (2 * q + 1)
      have h3 : z2.1 (r + 1 + 3) k = nI (k + 1 + NN w e1 (2 * q)) := by rw [g2.1 (r + 1 + 3) (by omega)]; exact hN.2.2 ci
      have a1 : z2.1 (r + 11) ((k + 1) * 6 + h) = nI (V e1 (2 * q) h) := by rw [g2.2.1 _ (by omega)]; exact k1 h hh
      have a2 : z2.1 (r + 11) ((k + 1 + NN w e1 (2 * q)) * 6 + h) = nI (V e1 (2 * q + 1) h) := by rw [g2.2.1 _ (by omega)]; exact k2 h hh
      have bh := X6_byHalves (fu := fu) (M := z2) (r := r) (k := k) (by omega) (by omega) hh h3 a1 a2 (hV.1 _ _ _ hh) (hV.1 _ _ _ hh)
      simp (disch := omega) only [zi_li, zi_m, zi_m1, nI_add, zi_sub, zi_mul, zi_addm, zi_m_lt, zi_lt_m, zi_m_le, zi_le_m, zi_eq_m, zi_m_eq, nI_ltI, nI_leI, nI_eq, nI_clamp, zi_div, lt_eq, bm_s, bi_s, bl_s, bw_s, gd, if_pos, if_neg, ite_true, ite_false, or_false, false_or, and_true, true_and, not_true, not_false_iff, true_or, or_true, Nat.not_lt_zero, h3, bh]
      exact fin _ (by omega) (hV.2.2 e1 q h hh ci)
  · obtain ⟨z1, z2⟩ := z
    obtain ⟨rfl, g1, g2⟩ := hz
    dsimp only at *
    simp (disch := omega) only [fX6_weighWithin_b20, fX6_weighWithin_j102, zi_li, zi_m, zi_m1, nI_add, zi_sub, zi_mul, zi_addm, zi_m_lt, zi_lt_m, zi_m_le, zi_le_m, zi_eq_m, zi_m_eq, nI_ltI, nI_leI, nI_eq, nI_clamp, zi_div, lt_eq, bm_s, bi_s, bl_s, bw_s, gd, if_pos, if_neg, ite_true, ite_false, or_false, false_or, and_true, true_and, not_true, not_false_iff, true_or, or_true, Nat.not_lt_zero]
    exact hQ z2 (fun h hh => g1 h hh) g2
theorem FT.fr {V : Nat → Nat → Nat → Nat} {M M' : Mm} {r e q k k0 k1 : Nat} (h : FT V M r e q k) (g : Ef r k0 k1 M M') (hk : k < k0 ∨ k1 ≤ k) : FT V M' r e q k := fun j hj => by
  rw [g.2.1 _ (by omega)]
  exact h j hj
theorem X6_weighWithin (hfu : 200000 ≤ fu) {V : Nat → Nat → Nat → Nat} {pk o : Nat} (hV : VS V w d pk o) (ho : o < 2) (hp : pk < 6) (hT : TW w t d F M (r + 1)) (hW : WG w t d) (h4 : M.1 r 4 = nI o) (hk : k < NN w t 0) (hl : lo w t 0 k = (e, q)) :
    Wp (fX6_weighWithin fu r (nI k) (nI pk) M) (fun M' => (∀ j, j < NN w e q → FT V M' r (lo w e q j).1 (lo w e q j).2 (k + j)) ∧ Ef r k (k + NN w e q) M M') := by
  have h313 := hW.2.2.2
  obtain ⟨s1, s2, s3, s4⟩ := lo_sh w t 0 k e q hk hl
  have hNp := NN_p w e q
  have hN := hT.1.2 k hk
  rw [hl] at hN
  have h44 := hN.1.2.2
  unfold fX6_weighWithin fX6_weighWithin_l12
  simp (disch := omega) only [zi_li, zi_m, zi_m1, nI_add, zi_sub, zi_mul, zi_addm, zi_m_lt, zi_lt_m, zi_m_le, zi_le_m, zi_eq_m, zi_m_eq, nI_ltI, nI_leI, nI_eq, nI_clamp, zi_div, lt_eq, bm_s, bi_s, bl_s, bw_s, gd, if_pos, if_neg, ite_true, ite_false, or_false, false_or, and_true, true_and, not_true, not_false_iff, true_or, or_true, Nat.not_lt_zero, h44]
  have es : nI (k + NN w e q - 1) = nI (k + NN w e q - 0) + mI := by rw [Nat.sub_zero, zi_addm (by omega)]
  rw [es]
  refine lp_ho (fun i z => z.1 = nI (k + NN w e q - i) + mI ∧ (∀ j, NN w e q - i ≤ j → j < NN w e q → FT V z.2 r (lo w e q j).1 (lo w e q j).2 (k + j)) ∧ Ef r k (k + NN w e q) M z.2) _ (NN w e q) (i := 0) (by omega) (by omega) ⟨rfl, fun j h1 h2 => absurd h2 (by omega), Ef.rf _ _ _ _⟩ (fun i z hi hz rec hrec => ?_) (fun z hz rec => ?_)
  · obtain ⟨z1, z2⟩ := z
    obtain ⟨rfl, g1, g2⟩ := hz
    dsimp only at *
    have Tz : TW w t d F z2 (r + 1) := hT.fr fun c _ _ => g2.1 c (by omega)
    have z4 : z2.1 r 4 = nI o := by rw [g2.1 r (by omega)]; exact h4
    have hj : lo w t 0 (k + (NN w e q - i - 1)) = ((lo w e q (NN w e q - i - 1)).1, (lo w e q (NN w e q - i - 1)).2) := s4 _ (by omega)
    rw [zi_addm (by omega)]
    unfold fX6_weighWithin_b12
    simp (disch := omega) only [zi_li, zi_m, zi_m1, nI_add, zi_sub, zi_mul, zi_addm, zi_m_lt, zi_lt_m, zi_m_le, zi_le_m, zi_eq_m, zi_m_eq, nI_ltI, nI_leI, nI_eq, nI_clamp, zi_div, lt_eq, bm_s, bi_s, bl_s, bw_s, gd, if_pos, if_neg, ite_true, ite_false, or_false, false_or, and_true, true_and, not_true, not_false_iff, true_or, or_true, Nat.not_lt_zero]
    rw [show k + NN w e q - i - 1 = k + (NN w e q - i - 1) by omega]
    refine X6_weighNode hfu hV ho hp Tz hW z4 (by omega) hj (fun e1 he1 hc => ?_) (fun M' q1 q2 => ?_)
    · have hj2 : lo w e q (NN w e q - i - 1) = (e1 + 1, (lo w e q (NN w e q - i - 1)).2) := by rw [← he1]
      rw [he1] at hc
      obtain ⟨a1, a2, a3⟩ := lo_kid (by omega) hj2 hc
      have p1 := NN_p w e1 (2 * (lo w e q (NN w e q - i - 1)).2)
      have p2 := NN_p w e1 (2 * (lo w e q (NN w e q - i - 1)).2 + 1)
      have f1 := g1 (NN w e q - i - 1 + 1) (by omega) (by omega)
      have f2 := g1 (NN w e q - i - 1 + 1 + NN w e1 (2 * (lo w e q (NN w e q - i - 1)).2)) (by omega) (by omega)
      rw [a1] at f1
      rw [a2] at f2
      refine ⟨?_, ?_⟩
      · rw [Nat.add_assoc]; exact f1
      · rw [Nat.add_assoc, Nat.add_assoc, ← Nat.add_assoc (NN w e q - i - 1)]; exact f2
    · have en : k + (NN w e q - i - 1) = k + NN w e q - (i + 1) := by omega
      refine hrec _ ⟨by rw [en], fun j h1 h2 => ?_, g2.tr (q2.wd (by omega) (by omega))⟩
      by_cases c : j = NN w e q - i - 1
      · subst c
        exact q1
      · exact (g1 j (by omega) h2).fr q2 (by omega)
  · obtain ⟨z1, z2⟩ := z
    obtain ⟨rfl, g1, g2⟩ := hz
    dsimp only at *
    rw [Nat.add_sub_cancel]
    have : nI k + mI < nI k := by
      by_cases c : k = 0
      · subst c; decide +kernel
      · rw [zi_addm (by omega)]
        exact nI_lt (by omega) (by omega)
    unfold fX6_weighWithin_b12 fX6_weighWithin_j108
    rw [if_pos this, wp_some]
    exact ⟨fun j hj => g1 j (by omega) hj, g2⟩
end PN
-- the values
def Fc (w : Nat → Nat) (d pk e q h : Nat) : Nat := min 10000 (Fw w d pk e q h)
theorem lift_cap {g : Nat → Nat} {h : Nat} (hh : h < 6) : min 10000 (lift g h) = min (min 10000 (g h)) (byI (fun h => min 10000 (lift g h)) h) := by
  rcases h6 hh with rfl | rfl | rfl | rfl | rfl | rfl
  · show min 10000 (g 0) = min (min 10000 (g 0)) 10000
    omega
  · show min 10000 (lift g 1) = min (min 10000 (g 1)) (min 10000 (1 + min 10000 (lift g 0)))
    rw [lift_1, lift_0]; omega
  · show min 10000 (lift g 2) = min (min 10000 (g 2)) (min 10000 (1 + min 10000 (lift g 0)))
    rw [lift_2, lift_0]; omega
  · show min 10000 (lift g 3) = min (min 10000 (g 3)) (min 10000 (1 + min 10000 (lift g 0)))
    rw [lift_3, lift_0]; omega
  · show min 10000 (lift g 4) = min (min 10000 (g 4)) (min 10000 (1 + min (min 10000 (lift g 0)) (min 10000 (lift g 2))))
    rw [lift_4, lift_0, lift_2]; omega
  · show min 10000 (lift g 5) = min (min 10000 (g 5)) (min 10000 (1 + min (min (min 10000 (lift g 0)) (min 10000 (lift g 1))) (min (min (min 10000 (lift g 2)) (min 10000 (lift g 3))) (min 10000 (lift g 4)))))
    rw [lift_5]
    have l0 := lift_0 g
    have l1 := lift_1 g
    have l2 := lift_2 g
    have l3 := lift_3 g
    have l4 := lift_4 g
    have a : min (min (lift g 0) (lift g 1)) (min (min (lift g 2) (lift g 3)) (lift g 4)) = min (min (g 0) (g 1)) (min (min (g 2) (g 3)) (g 4)) := by
      rw [l0, l1, l2, l3, l4]
      have b1 : min (g 0) (min (g 1) (1 + g 0)) = min (g 0) (g 1) := by omega
      rw [b1]
      omega
    rw [← a]
    have mm : ∀ a b : Nat, min (min 10000 a) (min 10000 b) = min 10000 (min a b) := fun a b => by omega
    have a2 : min (min (min 10000 (lift g 0)) (min 10000 (lift g 1))) (min (min (min 10000 (lift g 2)) (min 10000 (lift g 3))) (min 10000 (lift g 4))) = min 10000 (min (min (lift g 0) (lift g 1)) (min (min (lift g 2) (lift g 3)) (lift g 4))) := by rw [mm, mm, mm, mm]
    rw [a2]
    clear a a2 l0 l1 l2 l3 l4
    generalize min (min (lift g 0) (lift g 1)) (min (min (lift g 2) (lift g 3)) (lift g 4)) = m
    omega
theorem VS_Fc (w : Nat → Nat) (d pk : Nat) : VS (Fc w d pk) w d pk 1 := by
  refine ⟨fun e q h _ => Nat.min_le_left _ _, fun e q h hh hi => ?_, fun e q h hh hi => ?_⟩
  · have hu := ic_un hi
    have e1 : ∀ h, h < 6 → Fc w d pk e q h = min 10000 (lift (bsV (w (q * 2 ^ e)) d pk) h) := fun h hh => by unfold Fc; rw [Fw_un w d pk _ e q hu hh]
    have e2 : byO 1 (Fc w d pk e q) h = byI (fun h => min 10000 (lift (bsV (w (q * 2 ^ e)) d pk) h)) h := by
      unfold byO
      rw [if_pos (Or.inl rfl)]
      exact byI_cg hh fun j hj => e1 j (by omega)
    rw [e1 h hh, e2, lift_cap hh]
    congr 1
    rcases bsV_b (w (q * 2 ^ e)) d pk h with c | c <;> rw [c] <;> rfl
  · have e2 : byO 1 (Fc w d pk (e + 1) q) h = byI (fun h => min 10000 (lift (Fh w d pk e q) h)) h := by
      unfold byO
      rw [if_pos (Or.inl rfl)]
      rfl
    rw [e2]
    show min 10000 (lift (Fh w d pk e q) h) = _
    rw [lift_cap hh]
    congr 1
    unfold Fh Fc
    omega
