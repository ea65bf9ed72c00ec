/-! The class lays a plan. -/
section LY
variable {fu r t d F k e q pk Q : Nat} {w : Nat → Nat} {M : Mm} {L : Lay}
theorem X6_layItself (hfu : 200000 ≤ fu) {V : Nat → Nat} {h : Nat} {l : List Bk} (hT : TW w t d F M (r + 1)) (hW : WG w t d) (hk : k < NN w t 0) (hl : lo w t 0 k = (e, q)) (hh : h < 6) (hr : M.2.2 r 5 = some Q) (ha : atB L Q (T0 160) = true) (hV : ∀ j, j < 6 → M.1 (r + 11) (k * 6 + j) = nI (min 10000 (V j))) (hf : V h < 10000) (hx : ∃ k, k < 5 ∧ fkP V h k) (hB : BV M Q l) (hb : l.length < 160) :
    Wp (fX6_layItself fu L r (nI k) (nI h) (nI (V h)) M) (fun z => z.1 = nI (md h (fk V h)) ∧ BV z.2 Q (l ++ [(q * 2 ^ e, 2 ^ e, fk V h)]) ∧ Fr Q 4 M z.2) := by
  obtain ⟨f1, f2, f3⟩ := fk_ok hx
  have h313 := hW.2.2.2
  have hN := hT.1.2 k hk
  rw [hl] at hN
  unfold fX6_layItself fX6_layItself_l3
  have g : ∀ i, i < 5 → ∀ rec : Int32 → Option (Int32 × Mm), (fkP V h i → fX6_layItself_b3 fu L (fun x4 => rec x4) r (nI k) (nI h) (nI (V h)) (nI i) M = fX6_layItself_j44 fu L r (nI k) (nI i) (nI (md h i)) M) ∧ (¬ fkP V h i → fX6_layItself_b3 fu L (fun x4 => rec x4) r (nI k) (nI h) (nI (V h)) (nI i) M = rec (nI (i + 1))) := fun i hi rec => by
    have hm := md_lt h hh i hi
    have hL := laid_T h hh i hi
    by_cases c3 : md h i = 9
    · refine ⟨fun c => absurd c3 c.1, fun _ => ?_⟩
      simp (disch := omega) only [fX6_layItself_b3, fX6_layItself_j74, zi_li, zi_m, zi_m1, nI_add, zi_sub, zi_mul, zi_addm, zi_m_lt, zi_lt_m, zi_m_le, zi_le_m, zi_eq_m, zi_m_eq, nI_ltI, nI_leI, nI_eq, nI_clamp, zi_div, lt_eq, bm_s, bi_s, bl_s, bw_s, gd, if_pos, if_neg, ite_true, ite_false, or_false, false_or, and_true, true_and, not_true, not_false_iff, true_or, or_true, Nat.not_lt_zero, hL]
    · have h1 := hV (md h i) (by have := hm c3; omega)
      have h3 := hm c3
      have e1 : fX6_layItself_b3 fu L (fun x4 => rec x4) r (nI k) (nI h) (nI (V h)) (nI i) M = if 1 + min 10000 (V (md h i)) = V h then fX6_layItself_j44 fu L r (nI k) (nI i) (nI (md h i)) M else rec (nI (i + 1)) := by
        simp (disch := omega) only [fX6_layItself_b3, fX6_layItself_j74, zi_li, zi_m, zi_m1, nI_add, zi_sub, zi_mul, zi_addm, zi_m_lt, zi_lt_m, zi_m_le, zi_le_m, zi_eq_m, zi_m_eq, nI_ltI, nI_leI, nI_eq, nI_clamp, zi_div, lt_eq, bm_s, bi_s, bl_s, bw_s, gd, if_pos, if_neg, ite_true, ite_false, or_false, false_or, and_true, true_and, not_true, not_false_iff, true_or, or_true, Nat.not_lt_zero, hL, h1]
      rw [e1]
      refine ⟨fun c => if_pos ?_, fun c => if_neg ?_⟩
      · have := c.2
        omega
      · intro c2
        exact c ⟨c3, by omega⟩
  refine lp_ho (fun i z => z = nI i) _ (fk V h) (i := 0) (by omega) (by omega) rfl (fun i z hi hz rec hrec => ?_) (fun z hz rec => ?_)
  · subst hz
    rw [(g i (by omega) rec).2 (f3 i hi)]
    exact hrec _ rfl
  · subst hz
    rw [(g _ f1 rec).1 f2]
    unfold fX6_layItself_j44
    simp (disch := omega) only [hr, zi_li, zi_m, zi_m1, nI_add, zi_sub, zi_mul, zi_addm, zi_m_lt, zi_lt_m, zi_m_le, zi_le_m, zi_eq_m, zi_m_eq, nI_ltI, nI_leI, nI_eq, nI_clamp, zi_div, lt_eq, bm_s, bi_s, bl_s, bw_s, gd, ha, if_pos, if_neg, ite_true, ite_false, or_false, false_or, and_true, true_and, not_true, not_false_iff, true_or, or_true, Nat.not_lt_zero, hN.1.1, hN.1.2.1]
    rw [wp_bm]
    refine (X0_add hB hb (by omega)).mono fun M' hM' => ?_
    rw [wp_some]
    exact ⟨rfl, hM'.1, hM'.2⟩
/-- the planner is ready to lay a node -/
def PR (w : Nat → Nat) (t d F pk Q : Nat) (M : Mm) (r e q k : Nat) : Prop := TW w t d F M (r + 1) ∧ (∀ j, j < NN w e q → FT (Fc w d pk) M r (lo w e q j).1 (lo w e q j).2 (k + j)) ∧ M.2.2 r 5 = some Q
theorem PR.fr {M M' : Mm} (h : PR w t d F pk Q M r e q k) (hf : Fr Q 4 M M') (hd : Q + 4 ≤ r ∨ r + 14 ≤ Q) : PR w t d F pk Q M' r e q k := by
  refine ⟨h.1.fr fun c _ _ => hf.at (by omega), fun j hj i hi => ?_, ?_⟩
  · rw [hf.at (by omega)]
    exact h.2.1 j hj i hi
  · rw [(hf r (by omega)).2.2]
    exact h.2.2
theorem X6_layNode (hfu : 200000 ≤ fu) {fr : Nat → Int32 → Int32 → Int32 → Mm → Option Mm} {dep h0 : Nat} {l0 : List Bk} (hW : WG w t d) (ha : atB L Q (T0 160) = true) (hd : Q + 4 ≤ r ∨ r + 14 ≤ Q) (hl : lo w t 0 k = (e, q)) (hk : k < NN w t 0) (hdep : dep ≤ 11) (hh0 : h0 < 6) (hf0 : Fw w d pk e q h0 < 10000) (hP0 : PR w t d F pk Q M r e q k) (hB0 : BV M Q l0) (hb0 : l0.length + Fw w d pk e q h0 ≤ 160)
    (hH : ∀ e1, e = e1 + 1 → ¬ ic w e q = 0 → ∀ h l M, h < 6 → Fh w d pk e1 q h < 10000 → PR w t d F pk Q M r e q k → BV M Q l → l.length + Fh w d pk e1 q h ≤ 160 → Wp (fX6_layWithin_j71 fu L fr r (nI k) (nI dep) (nI h) M) (fun M' => BV M' Q (l ++ (Pl w d pk e1 (2 * q) h ++ Pl w d pk e1 (2 * q + 1) h)) ∧ Fr Q 4 M M')) :
    Wp (fX6_layWithin_R fu L fr r (nI k) (nI h0) (nI dep) M) (fun M' => BV M' Q (l0 ++ Pl w d pk e q h0) ∧ Fr Q 4 M M') := by
  have h313 := hW.2.2.2
  have hNp := NN_p w e q
  unfold fX6_layWithin_R fX6_layWithin_l6
  refine lp_me (fun z => ∃ h a l, z.1 = nI h ∧ z.2.1 = nI a ∧ a + h ≤ 5 ∧ PR w t d F pk Q z.2.2 r e q k ∧ BV z.2.2 Q l ∧ l.length + Fw w d pk e q h ≤ 160 ∧ Fw w d pk e q h < 10000 ∧ l0 ++ Pl w d pk e q h0 = l ++ Pl w d pk e q h ∧ Fr Q 4 M z.2.2) (fun z => ix z.1) _ (fun z hz rec hrec => ?_) (by dsimp only; rw [ix_n (by omega)]; omega) ⟨h0, 0, l0, rfl, rfl, by omega, hP0, hB0, hb0, hf0, rfl, Fr.rf _ _ _⟩
  obtain ⟨z1, z2, z3⟩ := z
  obtain ⟨h, a, l, e1, e2, hah, hP, hB, hb, hf, hPl, hF⟩ := hz
  dsimp only at *
  subst e1 e2
  have hN := hP.1.1.2 k hk
  rw [hl] at hN
  have hT0 := hP.2.1 0 hNp
  rw [lo_0, Nat.add_zero] at hT0
  have hV : ∀ j, j < 6 → z3.1 (r + 11) (k * 6 + j) = nI (min 10000 (Fw w d pk e q j)) := hT0
  have hVh := hV h (by omega)
  rw [show min 10000 (Fw w d pk e q h) = Fw w d pk e q h by omega] at hVh
  have itself : ¬ Fw w d pk e q h = 0 → Is w d pk e q h → Wp (fX6_layWithin_j102 fu L fr (fun x4 x5 M => rec (x4, x5, M)) r (nI k) (nI dep) (nI h) (nI a) (nI (Fw w d pk e q h)) z3) (fun M' => BV M' Q (l0 ++ Pl w d pk e q h0) ∧ Fr Q 4 M M') := fun hn0 hIs => by
    have hx := hIs.ex (by omega) hn0 (by omega)
    obtain ⟨f1, f2, f3⟩ := fk_ok hx
    have hm := md_lt h (by omega) _ f1 f2.1
    have hv := f2.2
    unfold fX6_layWithin_j102
    rw [wp_bw]
    refine (X6_layItself hfu hP.1 hW hk hl (by omega) hP.2.2 ha hV hf hx hB (by omega)).mono fun y hy => ?_
    obtain ⟨y1, y2, y3⟩ := hy
    rw [y1]
    simp (disch := omega) only [zi_li, zi_m, zi_m1, nI_add, zi_sub, zi_mul, zi_addm, zi_m_lt, zi_lt_m, zi_m_le, zi_le_m, zi_eq_m, zi_m_eq, nI_ltI, nI_leI, nI_eq, nI_clamp, zi_div, lt_eq, bm_s, bi_s, bl_s, bw_s, gd]
    refine hrec _ ⟨_, a + 1, _, rfl, rfl, by omega, hP.fr y3 hd, y2, ?_, by omega, ?_, hF.tr y3⟩ ?_
    · rw [List.length_append]
      show l.length + 1 + _ ≤ 160
      omega
    · rw [hPl, Pl_i hIs (by omega) hn0 (by omega), List.append_assoc]
      rfl
    · dsimp only
      rw [ix_n (by omega), ix_n (by omega)]
      exact hm
  simp (disch := omega) only [fX6_layWithin_b6, fX6_layWithin_j119, fX6_layWithin_j46, zi_li, zi_m, zi_m1, nI_add, zi_sub, zi_mul, zi_addm, zi_m_lt, zi_lt_m, zi_m_le, zi_le_m, zi_eq_m, zi_m_eq, nI_ltI, nI_leI, nI_eq, nI_clamp, zi_div, lt_eq, bm_s, bi_s, bl_s, bw_s, gd, if_pos, if_neg, ite_true, ite_false, or_false, false_or, and_true, true_and, not_true, not_false_iff, true_or, or_true, Nat.not_lt_zero, hVh]
  by_cases c0 : Fw w d pk e q h = 0
  · rw [if_pos c0, wp_some, hPl, Pl_0 c0, List.append_nil]
    exact ⟨hB, hF⟩
  rw [if_neg c0]
  by_cases ci : ic w e q = 0
  · simp (disch := omega) only [(hN.2.1 ci).2, zi_li, zi_m, zi_m1, nI_add, zi_sub, zi_mul, zi_addm, zi_m_lt, zi_lt_m, zi_m_le, zi_le_m, zi_eq_m, zi_m_eq, nI_ltI, nI_leI, nI_eq, nI_clamp, zi_div, lt_eq, bm_s, bi_s, bl_s, bw_s, gd, if_pos, if_neg, ite_true, ite_false, or_false, false_or, and_true, true_and, not_true, not_false_iff, true_or, or_true, Nat.not_lt_zero]
    exact itself c0 (Fw_u1 ci (by omega) c0 (by omega)).2
  · obtain ⟨e1, rfl⟩ : ∃ e1, e = e1 + 1 := by
      cases e with
      | zero => exact absurd (ic_0 w q) ci
      | succ e1 => exact ⟨e1, rfl⟩
    obtain ⟨l1, l2, l3⟩ := lo_kid hk hl ci
    have p1 := NN_p w e1 (2 * q)
    have p2 := NN_p w e1 (2 * q + 1)
    have hNN := NN_h ci
    have h3 : z3.1 (r + 1 + 3) k = nI (k + 1 + NN w e1 (2 * q)) := hN.2.2 ci
    have a1 : z3.1 (r + 11) ((k + 1) * 6 + h) = nI (Fc w d pk e1 (2 * q) h) := by
      have := hP.2.1 (1 + 0) (by omega) h (by omega)
      rw [lo_l p1, lo_0] at this
      exact this
    have a2 : z3.1 (r + 11) ((k + 1 + NN w e1 (2 * q)) * 6 + h) = nI (Fc w d pk e1 (2 * q + 1) h) := by
      have := hP.2.1 (1 + NN w e1 (2 * q) + 0) (by omega) h (by omega)
      rw [lo_u, lo_0, ← Nat.add_assoc, ← Nat.add_assoc] at this
      exact this
    have bh := X6_byHalves (fu := fu) (M := z3) (r := r) (k := k) (by omega) (by omega) (by omega) h3 a1 a2 (Nat.min_le_left _ _) (Nat.min_le_left _ _)
    have hFh : Fh w d pk e1 q h = min 1048576 (Fw w d pk e1 (2 * q) h + Fw w d pk e1 (2 * q + 1) h) := rfl
    have hc : min 10000 (Fc w d pk e1 (2 * q) h + Fc w d pk e1 (2 * q + 1) h) = Fw w d pk (e1 + 1) q h ↔ Fh w d pk e1 q h = Fw w d pk (e1 + 1) q h := by
      rw [hFh]
      unfold Fc
      omega
    simp (disch := omega) only [h3, bh, zi_li, zi_m, zi_m1, nI_add, zi_sub, zi_mul, zi_addm, zi_m_lt, zi_lt_m, zi_m_le, zi_le_m, zi_eq_m, zi_m_eq, nI_ltI, nI_leI, nI_eq, nI_clamp, zi_div, lt_eq, bm_s, bi_s, bl_s, bw_s, gd, if_pos, if_neg, ite_true, ite_false, or_false, false_or, and_true, true_and, not_true, not_false_iff, true_or, or_true, Nat.not_lt_zero]
    by_cases c1 : Fh w d pk e1 q h = Fw w d pk (e1 + 1) q h
    · rw [if_pos (hc.mpr c1)]
      refine (hH e1 rfl ci h l z3 (by omega) (by omega) hP hB (by omega)).mono fun M' hM' => ?_
      rw [hPl, Pl_h c0 c1]
      exact ⟨hM'.1, hF.tr hM'.2⟩
    · rw [if_neg (fun c => c1 (hc.mp c))]
      exact itself c0 (Or.inr ⟨e1, rfl, c1⟩)
theorem PR.lo {M : Mm} (h : PR w t d F pk Q M r (e + 1) q k) (hi : ¬ ic w (e + 1) q = 0) : PR w t d F pk Q M r e (2 * q) (k + 1) := by
  have hNN := NN_h hi
  refine ⟨h.1, fun j hj => ?_, h.2.2⟩
  have := h.2.1 (1 + j) (by omega)
  rw [lo_l hj, ← Nat.add_assoc] at this
  exact this
theorem PR.hi {M : Mm} (h : PR w t d F pk Q M r (e + 1) q k) (hi : ¬ ic w (e + 1) q = 0) : PR w t d F pk Q M r e (2 * q + 1) (k + 1 + NN w e (2 * q)) := by
  have hNN := NN_h hi
  refine ⟨h.1, fun j hj => ?_, h.2.2⟩
  have := h.2.1 (1 + NN w e (2 * q) + j) (by omega)
  rw [lo_u, ← Nat.add_assoc, ← Nat.add_assoc] at this
  exact this
theorem X6_layWithin (hfu : 200000 ≤ fu) (hW : WG w t d) (ha : atB L Q (T0 160) = true) (hd : Q + 4 ≤ r ∨ r + 14 ≤ Q) : ∀ (e q k dp dep h : Nat) (l : List Bk) (M : Mm), lo w t 0 k = (e, q) → k < NN w t 0 → e < dp → dep + e ≤ 11 → h < 6 → Fw w d pk e q h < 10000 → PR w t d F pk Q M r e q k → BV M Q l → l.length + Fw w d pk e q h ≤ 160 →
    Wp (fX6_layWithin fu L dp r (nI k) (nI h) (nI dep) M) (fun M' => BV M' Q (l ++ Pl w d pk e q h) ∧ Fr Q 4 M M') := by
  intro e
  induction e with
  | zero =>
    intro q k dp dep h0 l0 M0 hl hk hdp hdep hh0 hf0 hP0 hB0 hb0
    obtain ⟨dp, rfl⟩ : ∃ f, dp = f + 1 := ⟨dp - 1, by omega⟩
    exact X6_layNode hfu hW ha hd hl hk (by omega) hh0 hf0 hP0 hB0 hb0 (fun e1 h1 => by omega)
  | succ e ih =>
    intro q k dp dep h0 l0 M0 hl hk hdp hdep hh0 hf0 hP0 hB0 hb0
    obtain ⟨dp, rfl⟩ : ∃ f, dp = f + 1 := ⟨dp - 1, by omega⟩
    refine X6_layNode hfu hW ha hd hl hk (by omega) hh0 hf0 hP0 hB0 hb0 (fun e1 he1 ci h l M hh hf hP hB hb => ?_)
    have : e1 = e := by omega
    subst this
    have h313 := hW.2.2.2
    obtain ⟨l1, l2, l3⟩ := lo_kid hk hl ci
    have p1 := NN_p w e1 (2 * q)
    have p2 := NN_p w e1 (2 * q + 1)
    have hFh : Fh w d pk e1 q h = min 1048576 (Fw w d pk e1 (2 * q) h + Fw w d pk e1 (2 * q + 1) h) := rfl
    have hlen := Pl_len w d pk e1 (2 * q) 6 h hh hh (by omega)
    unfold fX6_layWithin_j71
    simp (disch := omega) only [zi_li, zi_m, zi_m1, nI_add, zi_sub, zi_mul, zi_addm, zi_m_lt, zi_lt_m, zi_m_le, zi_le_m, zi_eq_m, zi_m_eq, nI_ltI, nI_leI, nI_eq, nI_clamp, zi_div, lt_eq, bm_s, bi_s, bl_s, bw_s, gd]
    rw [wp_bm]
    refine (ih (2 * q) (k + 1) dp (dep + 1) h l M l1 (by omega) (by omega) (by omega) hh (by omega) (hP.lo ci) hB (by omega)).mono fun M1 hM1 => ?_
    obtain ⟨b1, b2⟩ := hM1
    have hP1 := hP.fr b2 hd
    have hN := hP1.1.1.2 k hk
    rw [hl] at hN
    have h3 : M1.1 (r + 1 + 3) k = nI (k + 1 + NN w e1 (2 * q)) := hN.2.2 ci
    simp (disch := omega) only [h3, zi_li, zi_m, zi_m1, nI_add, zi_sub, zi_mul, zi_addm, zi_m_lt, zi_lt_m, zi_m_le, zi_le_m, zi_eq_m, zi_m_eq, nI_ltI, nI_leI, nI_eq, nI_clamp, zi_div, lt_eq, bm_s, bi_s, bl_s, bw_s, gd, if_pos, if_neg, ite_true, ite_false, or_false, false_or, and_true, true_and, not_true, not_false_iff, true_or, or_true, Nat.not_lt_zero]
    rw [wp_bm]
    refine (ih (2 * q + 1) (k + 1 + NN w e1 (2 * q)) dp (dep + 1) h _ M1 l2 (by omega) (by omega) (by omega) hh (by omega) (hP1.hi ci) b1 (by rw [List.length_append, hlen]; omega)).mono fun M2 hM2 => ?_
    obtain ⟨c1, c2⟩ := hM2
    rw [wp_some, ← List.append_assoc]
    exact ⟨c1, b2.tr c2⟩
end LY
