/-! The class's best set. -/
def FR (w : Nat → Nat) (t d F Q : Nat) (M : Mm) (g : Nat) : Prop := TW w t d F M (g + 1) ∧ (∀ k, k < NN w t 0 → MT w d M g (lo w t 0 k).1 (lo w t 0 k).2 k) ∧ M.2.2 g 2 = some Q
theorem FR.fr {w : Nat → Nat} {t d F Q g : Nat} {M M' : Mm} (h : FR w t d F Q M g) (hf : Fr Q 4 M M') (hd : Q + 4 ≤ g ∨ g + 12 ≤ Q) : FR w t d F Q M' g := by
  refine ⟨h.1.fr fun c _ _ => hf.at (by omega), fun k hk i hi r hr => ?_, ?_⟩
  · rw [hf.at (by omega)]
    exact h.2.1 k hk i hi r hr
  · rw [(hf g (by omega)).2.2]
    exact h.2.2
section BS
variable {fu g t d F k e q Q : Nat} {w : Nat → Nat} {M : Mm} {L : Lay}
theorem X3_byHalves {h u x y a b : Nat} (hk : k < 313) (hu : u < 313) (hh : h < 6) (hx : x < 11) (hy : y < 11) (h3 : M.1 (g + 1 + 3) k = nI u) (ha : M.1 (g + 11) (((k + 1) * 6 + h) * 11 + x) = nI a) (hb : M.1 (g + 11) ((u * 6 + h) * 11 + y) = nI b) : fX3_byHalves fu g (nI k) (nI h) (nI x) (nI y) M = some (nI (a + b)) := by
  have c1 := X3_cell (fu := fu) (a := k + 1) (b := h) (c := x)
  have c2 := X3_cell (fu := fu) (a := u) (b := h) (c := y)
  simp (disch := omega) only [fX3_byHalves, zi_li, zi_m, zi_m1, nI_add, zi_sub, zi_mul, zi_addm, zi_m_lt, zi_lt_m, zi_m_le, zi_le_m, zi_eq_m, zi_m_eq, nI_ltI, nI_leI, nI_eq, nI_clamp, zi_div, lt_eq, bm_s, bi_s, bl_s, bw_s, gd, if_pos, if_neg, ite_true, ite_false, or_false, false_or, and_true, true_and, not_true, not_false_iff, true_or, or_true, Nat.not_lt_zero, c1, c2, h3, ha, hb]
theorem X3_layNode (hfu : 200000 ≤ fu) {fr : Nat → Int32 → Int32 → Int32 → Int32 → Mm → Option Mm} {dep h0 r0 : Nat} {l0 : List Bk} (hW : WG w t d) (ha : atB L Q (T0 10) = true) (hd : Q + 4 ≤ g ∨ g + 12 ≤ Q) (hl : lo w t 0 k = (e, q)) (hk : k < NN w t 0) (hdep : dep + e ≤ 11) (hh0 : h0 < 6) (hr0 : r0 < 11) (hR0 : FR w t d F Q M g) (hB0 : BV M Q l0) (hb0 : l0.length + r0 ≤ 10)
    (hH : ∀ e1, e = e1 + 1 → ¬ ic w e q = 0 → ∀ h r x l M, h < 6 → r < 11 → x ≤ r → FR w t d F Q M g → BV M Q l → l.length + r ≤ 10 → Wp (fX3_layWithin_j125 fu L fr g (nI k) (nI dep) (nI h) (nI r) (nI x) M) (fun M' => BV M' Q (l ++ (Bl w d e1 (2 * q) h x ++ Bl w d e1 (2 * q + 1) h (r - x))) ∧ Fr Q 4 M M')) :
    Wp (fX3_layWithin_R fu L fr g (nI k) (nI h0) (nI r0) (nI dep) M) (fun M' => BV M' Q (l0 ++ Bl w d e q h0 r0) ∧ Fr Q 4 M M') := by
  have h313 := hW.2.2.2
  obtain ⟨lv1, lv2, lv3, lv4, lv5⟩ := hW.lv hk hl
  have ht10 := hW.2.2.1
  have hN := hR0.1.1.2 k hk
  rw [hl] at hN
  by_cases ci : ic w e q = 0
  · have h3 : M.1 (g + 1 + 3) k = nI 0 := (hN.2.1 ci).2
    have b1 : M.1 (g + 1 + 1) k = nI (q * 2 ^ e) := hN.1.1
    have b2 : M.1 (g + 1 + 2) k = nI (2 ^ e) := hN.1.2.1
    have mt := hR0.2.1 k hk
    rw [hl] at mt
    unfold fX3_layWithin_R
    simp (disch := omega) only [zi_li, zi_m, zi_m1, nI_add, zi_sub, zi_mul, zi_addm, zi_m_lt, zi_lt_m, zi_m_le, zi_le_m, zi_eq_m, zi_m_eq, nI_ltI, nI_leI, nI_eq, nI_clamp, zi_div, lt_eq, bm_s, bi_s, bl_s, bw_s, gd, if_pos, if_neg, ite_true, ite_false, or_false, false_or, and_true, true_and, not_true, not_false_iff, true_or, or_true, Nat.not_lt_zero, h3, b1, b2]
    rw [wp_bm]
    refine (X3_layAlike hfu hW hk lv3 ha hd ci e q 16 dep h0 r0 l0 M (ic_un ci) (by omega) lv2 (by omega) hdep hh0 hr0 mt hR0.2.2 hB0 hb0).mono fun M' hM' => ?_
    rw [wp_some]
    exact hM'
  · obtain ⟨e1, rfl⟩ : ∃ e1, e = e1 + 1 := by
      cases e with
      | zero => exact absurd (ic_0 w q) ci
      | succ e1 => exact ⟨e1, rfl⟩
    obtain ⟨l1, l2, l3⟩ := lo_kid hk hl ci
    have p1 := NN_p w e1 (2 * q)
    have p2 := NN_p w e1 (2 * q + 1)
    have h3 : M.1 (g + 1 + 3) k = nI (k + 1 + NN w e1 (2 * q)) := hN.2.2 ci
    have lG : ∀ e' q' h r, e' ≤ e1 + 1 → h < 6 → Gw w d e' q' h r ≤ 1024 := fun e' q' h r he hh => by
      have h1 := Gw_le (w := w) hW.2.1 e' q' h r hh
      have h2 := OP_le w e' q'
      have h3 : 2 ^ e' ≤ 2 ^ 10 := Nat.pow_le_pow_right (by decide) (by omega)
      omega
    unfold fX3_layWithin_R fX3_layWithin_l46
    simp (disch := omega) only [zi_li, zi_m, zi_m1, nI_add, zi_sub, zi_mul, zi_addm, zi_m_lt, zi_lt_m, zi_m_le, zi_le_m, zi_eq_m, zi_m_eq, nI_ltI, nI_leI, nI_eq, nI_clamp, zi_div, lt_eq, bm_s, bi_s, bl_s, bw_s, gd, if_pos, if_neg, ite_true, ite_false, or_false, false_or, and_true, true_and, not_true, not_false_iff, true_or, or_true, Nat.not_lt_zero, h3]
    refine lp_me (fun z => ∃ h r l, z.1 = nI h ∧ z.2.1 = nI r ∧ h < 6 ∧ r < 11 ∧ FR w t d F Q z.2.2 g ∧ BV z.2.2 Q l ∧ l.length + r ≤ 10 ∧ l0 ++ Bl w d (e1 + 1) q h0 r0 = l ++ Bl w d (e1 + 1) q h r ∧ Fr Q 4 M z.2.2) (fun z => ix z.2.1) _ (fun z hz rec hrec => ?_) (by dsimp only; rw [ix_n (by omega)]; omega) ⟨h0, r0, l0, rfl, rfl, hh0, hr0, hR0, hB0, hb0, rfl, Fr.rf _ _ _⟩
    obtain ⟨z1, z2, z3⟩ := z
    obtain ⟨h, r, l, e1', e2', hh, hr, hR, hB, hb, hBl, hF⟩ := hz
    dsimp only at *
    subst e1' e2'
    have mt := hR.2.1 k hk
    rw [hl] at mt
    by_cases c0 : r = 0
    · subst c0
      simp (disch := omega) only [fX3_layWithin_b46, fX3_layWithin_j228, zi_li, zi_m, zi_m1, nI_add, zi_sub, zi_mul, zi_addm, zi_m_lt, zi_lt_m, zi_m_le, zi_le_m, zi_eq_m, zi_m_eq, nI_ltI, nI_leI, nI_eq, nI_clamp, zi_div, lt_eq, bm_s, bi_s, bl_s, bw_s, gd, if_pos, if_neg, ite_true, ite_false, or_false, false_or, and_true, true_and, not_true, not_false_iff, true_or, or_true, Nat.not_lt_zero]
      rw [wp_some, hBl, Bl_0 (Gw_0 w d (e1 + 1) q h).symm, List.append_nil]
      exact ⟨hB, hF⟩
    have cl0 := X3_cell (fu := fu) (a := k) (b := h) (c := 0)
    have cl1 := X3_cell (fu := fu) (a := k) (b := h) (c := r)
    have v0 := mt h hh 0 (by omega)
    have v1 := mt h hh r hr
    rw [Gw_0] at v0
    have g0 := lG (e1 + 1) q h 0 (Nat.le_refl _) hh
    rw [Gw_0] at g0
    have g1 := lG (e1 + 1) q h r (Nat.le_refl _) hh
    have itself : ¬ RI w d (e1 + 1) q h = Gw w d (e1 + 1) q h r → hv w d (e1 + 1) q h r = none → Wp (fX3_layWithin_j171 fu L fr (fun x5 x6 M => rec (x5, x6, M)) g (nI k) (nI dep) (nI h) (nI r) z3) (fun M' => BV M' Q (l0 ++ Bl w d (e1 + 1) q h0 r0) ∧ Fr Q 4 M M') := fun hne hno => by
      have hx := Bl_x hh hne hno
      obtain ⟨f1, f2, f3⟩ := fm_ok hx
      have hm := md_lt h hh _ f1 f2.1
      have fk1 := X3_firstKind hfu hW hk mt lv3 hh (by omega) hr hx
      have hL := laid_T h hh _ f1
      rw [if_neg f2.1] at hL
      have hNz := hR.1.1.2 k hk
      rw [hl] at hNz
      have b1 : z3.1 (g + 1 + 1) k = nI (q * 2 ^ (e1 + 1)) := hNz.1.1
      have b2 : z3.1 (g + 1 + 2) k = nI (2 ^ (e1 + 1)) := hNz.1.2.1
      unfold fX3_layWithin_j171
      rw [fk1, bi_s, hR.2.2, bl_s]
      simp (disch := omega) only [gd, ha, zi_li, zi_m, zi_m1, nI_add, zi_sub, zi_mul, zi_addm, zi_m_lt, zi_lt_m, zi_m_le, zi_le_m, zi_eq_m, zi_m_eq, nI_ltI, nI_leI, nI_eq, nI_clamp, zi_div, lt_eq, bm_s, bi_s, bl_s, bw_s, gd, if_pos, if_neg, ite_true, ite_false, or_false, false_or, and_true, true_and, not_true, not_false_iff, true_or, or_true, Nat.not_lt_zero, b1, b2]
      rw [wp_bm]
      refine (X0_add (fu := fu) (cap := 10) (b := q * 2 ^ (e1 + 1)) (s := 2 ^ (e1 + 1)) (k := fm (Gw w d (e1 + 1) q) h r) hB (by omega) (by omega)).mono fun M' hM' => ?_
      obtain ⟨y1, y2⟩ := hM'
      simp (disch := omega) only [zi_li, zi_m, zi_m1, nI_add, zi_sub, zi_mul, zi_addm, zi_m_lt, zi_lt_m, zi_m_le, zi_le_m, zi_eq_m, zi_m_eq, nI_ltI, nI_leI, nI_eq, nI_clamp, zi_div, lt_eq, bm_s, bi_s, bl_s, bw_s, gd, if_pos, if_neg, ite_true, ite_false, or_false, false_or, and_true, true_and, not_true, not_false_iff, true_or, or_true, Nat.not_lt_zero, hL]
      refine hrec _ ⟨_, r - 1, _, rfl, rfl, by omega, by omega, hR.fr y2 hd, y1, ?_, ?_, hF.tr y2⟩ ?_
      · rw [List.length_append]
        show l.length + 1 + (r - 1) ≤ 10
        omega
      · rw [hBl, Bl_i hne hno, List.append_assoc]
        rfl
      · dsimp only
        rw [ix_n (by omega), ix_n (by omega)]
        omega
    simp (disch := omega) only [fX3_layWithin_b46, fX3_layWithin_j95, zi_li, zi_m, zi_m1, nI_add, zi_sub, zi_mul, zi_addm, zi_m_lt, zi_lt_m, zi_m_le, zi_le_m, zi_eq_m, zi_m_eq, nI_ltI, nI_leI, nI_eq, nI_clamp, zi_div, lt_eq, bm_s, bi_s, bl_s, bw_s, gd, if_pos, if_neg, ite_true, ite_false, or_false, false_or, and_true, true_and, not_true, not_false_iff, true_or, or_true, Nat.not_lt_zero, cl0, cl1, v0, v1]
    by_cases c1 : RI w d (e1 + 1) q h = Gw w d (e1 + 1) q h r
    · rw [if_pos c1, wp_some, hBl, Bl_0 c1, List.append_nil]
      exact ⟨hB, hF⟩
    rw [if_neg c1]
    have hkl := hR.2.1 (k + 1) (by omega)
    have hku := hR.2.1 (k + 1 + NN w e1 (2 * q)) (by omega)
    rw [l1] at hkl
    rw [l2] at hku
    have h3z : z3.1 (g + 1 + 3) k = nI (k + 1 + NN w e1 (2 * q)) := by rw [hF.at (by omega)]; exact h3
    have step : ∀ i, i ≤ r → ∀ k99 : Int32 → Option Mm, fX3_layWithin_b99 fu L fr (fun x5 x6 M => rec (x5, x6, M)) k99 g (nI k) (nI dep) (nI h) (nI r) (nI (Gw w d (e1 + 1) q h r)) (nI i) z3 = if Gw w d e1 (2 * q) h i + Gw w d e1 (2 * q + 1) h (r - i) = Gw w d (e1 + 1) q h r then fX3_layWithin_j125 fu L fr g (nI k) (nI dep) (nI h) (nI r) (nI i) z3 else k99 (nI (i + 1)) := fun i hi k99 => by
      have bh := X3_byHalves (fu := fu) (M := z3) (g := g) (k := k) (h := h) (x := i) (y := r - i) (by omega) (by omega) hh (by omega) (by omega) h3z (hkl h hh i (by omega)) (hku h hh (r - i) (by omega))
      have g2 := lG e1 (2 * q) h i (by omega) hh
      have g3 := lG e1 (2 * q + 1) h (r - i) (by omega) hh
      simp (disch := omega) only [fX3_layWithin_b99, zi_li, zi_m, zi_m1, nI_add, zi_sub, zi_mul, zi_addm, zi_m_lt, zi_lt_m, zi_m_le, zi_le_m, zi_eq_m, zi_m_eq, nI_ltI, nI_leI, nI_eq, nI_clamp, zi_div, lt_eq, bm_s, bi_s, bl_s, bw_s, gd, if_pos, if_neg, ite_true, ite_false, or_false, false_or, and_true, true_and, not_true, not_false_iff, true_or, or_true, Nat.not_lt_zero, bh]
    unfold fX3_layWithin_l99
    cases hc : hv w d (e1 + 1) q h r with
    | some x =>
      obtain ⟨x1, x2, x3⟩ := fxn_s hc
      refine lp_ho (fun i z => z = nI i) _ x (i := 0) (by omega) (by omega) rfl (fun i z hi hz rec2 hrec2 => ?_) (fun z hz rec2 => ?_)
      · subst hz
        rw [step i (by omega), if_neg (x3 i hi)]
        exact hrec2 _ rfl
      · subst hz
        rw [step x x1, if_pos x2]
        refine (hH e1 rfl ci h r x l z3 hh hr x1 hR hB hb).mono fun M' hM' => ?_
        rw [hBl, Bl_h c1 hc]
        exact ⟨hM'.1, hF.tr hM'.2⟩
    | none =>
      have xn := fxn_n hc
      refine lp_ho (fun i z => z = nI i) _ (r + 1) (i := 0) (by omega) (by omega) rfl (fun i z hi hz rec2 hrec2 => ?_) (fun z hz rec2 => ?_)
      · subst hz
        rw [step i (by omega), if_neg (xn i (by omega))]
        exact hrec2 _ rfl
      · subst hz
        unfold fX3_layWithin_b99
        rw [if_pos (nI_lt (by omega) (by omega))]
        exact itself c1 hc
theorem X3_layWithin (hfu : 200000 ≤ fu) (hW : WG w t d) (ha : atB L Q (T0 10) = true) (hd : Q + 4 ≤ g ∨ g + 12 ≤ Q) : ∀ (e q k dp dep h r : Nat) (l : List Bk) (M : Mm), lo w t 0 k = (e, q) → k < NN w t 0 → e < dp → dep + e ≤ 11 → h < 6 → r < 11 → FR w t d F Q M g → BV M Q l → l.length + r ≤ 10 →
    Wp (fX3_layWithin fu L dp g (nI k) (nI h) (nI r) (nI dep) M) (fun M' => BV M' Q (l ++ Bl w d e q h r) ∧ Fr Q 4 M M') := by
  intro e
  induction e with
  | zero =>
    intro q k dp dep h0 r0 l0 M0 hl hk hdp hdep hh0 hr0 hR0 hB0 hb0
    obtain ⟨dp, rfl⟩ : ∃ f, dp = f + 1 := ⟨dp - 1, by omega⟩
    exact X3_layNode hfu hW ha hd hl hk hdep hh0 hr0 hR0 hB0 hb0 (fun e1 h1 => by omega)
  | succ e ih =>
    intro q k dp dep h0 r0 l0 M0 hl hk hdp hdep hh0 hr0 hR0 hB0 hb0
    obtain ⟨dp, rfl⟩ : ∃ f, dp = f + 1 := ⟨dp - 1, by omega⟩
    refine X3_layNode hfu hW ha hd hl hk hdep hh0 hr0 hR0 hB0 hb0 (fun e1 he1 ci h r x l M hh hr hx hR hB hb => ?_)
    have : e1 = e := by omega
    subst this
    have h313 := hW.2.2.2
    obtain ⟨l1, l2, l3⟩ := lo_kid hk hl ci
    have p1 := NN_p w e1 (2 * q)
    have p2 := NN_p w e1 (2 * q + 1)
    have hlen := Bl_len w d e1 (2 * q) (x + 1) h x (by omega) hh
    unfold fX3_layWithin_j125
    simp (disch := omega) only [zi_li, zi_m, zi_m1, nI_add, zi_sub, zi_mul, zi_addm, zi_m_lt, zi_lt_m, zi_m_le, zi_le_m, zi_eq_m, zi_m_eq, nI_ltI, nI_leI, nI_eq, nI_clamp, zi_div, lt_eq, bm_s, bi_s, bl_s, bw_s, gd]
    rw [wp_bm]
    refine (ih (2 * q) (k + 1) dp (dep + 1) h x l M l1 (by omega) (by omega) (by omega) hh (by omega) hR hB (by omega)).mono fun M1 hM1 => ?_
    obtain ⟨b1, b2⟩ := hM1
    have hR1 := hR.fr b2 hd
    have hN := hR1.1.1.2 k hk
    rw [hl] at hN
    have h3 : M1.1 (g + 1 + 3) k = nI (k + 1 + NN w e1 (2 * q)) := hN.2.2 ci
    simp (disch := omega) only [h3, zi_li, zi_m, zi_m1, nI_add, zi_sub, zi_mul, zi_addm, zi_m_lt, zi_lt_m, zi_m_le, zi_le_m, zi_eq_m, zi_m_eq, nI_ltI, nI_leI, nI_eq, nI_clamp, zi_div, lt_eq, bm_s, bi_s, bl_s, bw_s, gd, if_pos, if_neg, ite_true, ite_false, or_false, false_or, and_true, true_and, not_true, not_false_iff, true_or, or_true, Nat.not_lt_zero]
    rw [wp_bm]
    refine (ih (2 * q + 1) (k + 1 + NN w e1 (2 * q)) dp (dep + 1) h (r - x) _ M1 l2 (by omega) (by omega) (by omega) hh (by omega) hR1 b1 (by rw [List.length_append]; omega)).mono fun M2 hM2 => ?_
    obtain ⟨c1, c2⟩ := hM2
    rw [wp_some, ← List.append_assoc]
    exact ⟨c1, b2.tr c2⟩
def bsS (S : Sto) (r : Nat) : List Bk := Bl (wi S (S 0)) (S 0) (S 140) 0 5 r
theorem X3_layBest (hfu : 200000 ≤ fu) {S : Sto} {r : Nat} (hG : Gd S) (hV : FiV S M g) (ha : atB L Q (T0 10) = true) (hd : Q + 4 ≤ g ∨ g + 12 ≤ Q) (hr : r < 11) : Wp (fX3_layBest fu L g (nI r) Q M) (fun M' => BV M' Q (bsS S r) ∧ FiV S M' g ∧ F2 g 12 Q 4 M M' ∧ ∀ c, (c < Q ∨ Q + 4 ≤ c) → M'.1 c = M.1 c) := by
  have hd5 := hG.1.2.2.2.2.1
  have hW := wi_G hG hd5
  have h10 := hG.1.2.1
  have hNp := NN_p (wi S (S 0)) (S 140) 0
  unfold fX3_layBest
  have e5 : (wR M g 2 (some Q)).2.2 g 2 = some Q := by rw [wR_3, if_pos ⟨rfl, rfl⟩]
  simp (disch := omega) only [lt_eq, e5, bl_s, gd, ha, if_pos, if_neg, ite_true, ite_false, or_false, false_or, and_true, true_and, not_true, not_false_iff, true_or, or_true, Nat.not_lt_zero, zi_li]
  rw [wp_bm]
  generalize hM3 : wI (wR M g 2 (some Q)) Q 3 (nI 0) = M3
  have x1 : ∀ c, c ≠ Q → M3.1 c = M.1 c := fun c hc => by rw [← hM3]; exact wI_ne hc
  have hR : FR (wi S (S 0)) (S 140) (S 0) (S 142) Q M3 g := by
    have h1 := hV.fr (M' := M3) fun c h1 h2 => x1 c (by omega)
    refine ⟨h1.1, h1.2, ?_⟩
    rw [← hM3]
    exact e5
  have hB : BV M3 Q [] := by
    refine ⟨?_, fun i p hp => by simp at hp⟩
    rw [← hM3]
    simp (disch := omega) only [wI_ne, wI_eq, wI_nk, wIs_ne, wIs_eq]
    rfl
  refine (X3_layWithin hfu hW ha hd (S 140) 0 0 16 0 5 r [] M3 (lo_0 _ _ _) hNp (by omega) (by omega) (by omega) hr hR hB (by show 0 + r ≤ 10; omega)).mono fun M4 h4 => ?_
  obtain ⟨g1, g2⟩ := h4
  rw [wp_some]
  refine ⟨g1, hV.fr fun c h1 h2 => by rw [g2.at (by omega), x1 c (by omega)], ?_, fun c hc => by rw [g2.at hc, x1 c (by omega)]⟩
  have k2 : F2 g 12 Q 4 M M3 := by
    rw [← hM3]
    exact (F2.a (Fr.w4 _ _ _ _ (by omega) (by omega))).tr (F2.b (Fr.w1 _ _ _ _ (by omega) (by omega)))
  exact k2.tr (F2.b g2)
end BS
