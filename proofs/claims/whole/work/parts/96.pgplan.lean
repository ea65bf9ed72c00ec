/-! The class's paged plan. -/
theorem p16 (e : Nat) : 2 ^ (4 + e) = 16 * 2 ^ e := by rw [Nat.pow_add]
theorem PQ.qf {fu r t d F k e q Q R : Nat} {w : Nat → Nat} {M M' : Mm} (h : PQ w t d F Q R M r (e + 1) q k) (hi : ¬ ic w (4 + (e + 1)) q = 0) (hf : Qf w r Q R e (2 * q) (k + 1) M M') (hd : Q + 4 ≤ r ∨ r + 14 ≤ Q) (hd2 : R < r ∨ r + 14 ≤ R) : PQ w t d F Q R M' r e (2 * q + 1) (k + 1 + NN w (4 + e) (2 * q)) := by
  obtain ⟨a1, a2, a3, a4, a5⟩ := h.kh hi
  refine ⟨a1.fr fun c _ _ => hf.1 c (by omega) (by omega) (by omega), by rw [hf.1 r (by omega) (by omega) (by omega)]; exact a2, fun j hj e' q' hl => ?_, by rw [(hf.2.2.2 r (by omega)).2]; exact a4, by rw [(hf.2.2.2 r (by omega)).2]; exact a5⟩
  obtain ⟨b1, b2⟩ := a3 j hj e' q' hl
  refine ⟨fun i hi => ?_, fun he i hi hf' => ?_⟩
  · rw [hf.2.1 _ (by omega)]; exact b1 i hi
  · rw [hf.1 (r + 12) (by omega) (by omega) (by omega)]; exact b2 he i hi hf'
section PP
variable {fu r t d F k e q Q R : Nat} {w : Nat → Nat} {M : Mm} {L : Lay}
theorem X6_layLeaf (hfu : 200000 ≤ fu) {fr : Nat → Int32 → Int32 → Int32 → Mm → Option Mm} {dep h : Nat} (hW : WG w t d) (hR : L.contains (R, (0, 64)) = true) (hd2 : R < r ∨ r + 14 ≤ R) (hl : lo w t 0 k = (4 + (e + 1), q)) (hk : k < NN w t 0) (hi : ic w (4 + (e + 1)) q = 0) (hh : h < 6) (h0 : uV (w (q * 2 ^ (4 + (e + 1)))) d h = 0) (hT : TW w t d F M (r + 1)) (h6' : M.2.2 r 6 = some R) :
    Wp (fX6_layHalvesAbovePages fu L fr r (nI k) (nI h) (nI dep) M) (fun M' => (∀ p, q * 2 ^ (e + 1) ≤ p → p < q * 2 ^ (e + 1) + 2 ^ (e + 1) → M'.1 R p = nI (fpk (fun pk => bsV (w (q * 2 ^ (4 + (e + 1)))) d pk h))) ∧ (∀ p, p < q * 2 ^ (e + 1) ∨ q * 2 ^ (e + 1) + 2 ^ (e + 1) ≤ p → M'.1 R p = M.1 R p) ∧ O1 R M M') := by
  have h313 := hW.2.2.2
  obtain ⟨lv1, lv2, lv3, lv4, lv5⟩ := hW.lv hk hl
  have hN := hT.1.2 k hk
  rw [hl] at hN
  have h3 : M.1 (r + 1 + 3) k = nI 0 := (hN.2.1 hi).2
  have hp16 := p16 (e + 1)
  have hpp := pwp (e + 1)
  have pf := X9_pageKindFor (fu := fu) hfu hT hW hk hl hi hh
  rw [trN_fpk (f := fun pk => bsV (w (q * 2 ^ (4 + (e + 1)))) d pk h) h0] at pf
  have b1 : M.1 (r + 1 + 1) k = nI (q * 2 ^ (4 + (e + 1))) := hN.1.1
  have b2 : M.1 (r + 1 + 2) k = nI (2 ^ (4 + (e + 1))) := hN.1.2.1
  have d1 : q * 2 ^ (4 + (e + 1)) / 16 = q * 2 ^ (e + 1) := by
    rw [hp16, Nat.mul_left_comm]
    exact Nat.mul_div_cancel_left _ (by decide)
  have d2 : 2 ^ (4 + (e + 1)) / 16 = 2 ^ (e + 1) := by
    rw [hp16]
    exact Nat.mul_div_cancel_left _ (by decide)
  have hle : q * 2 ^ (e + 1) + 2 ^ (e + 1) ≤ 64 := by
    have : q * 2 ^ (4 + (e + 1)) = 16 * (q * 2 ^ (e + 1)) := by rw [hp16, Nat.mul_left_comm]
    omega
  generalize hpk : fpk (fun pk => bsV (w (q * 2 ^ (4 + (e + 1)))) d pk h) = pk at pf
  generalize hB : q * 2 ^ (e + 1) = B at *
  generalize hC : 2 ^ (e + 1) = C at *
  unfold fX6_layHalvesAbovePages fX6_layHalvesAbovePages_l89
  have l1 : q * 2 ^ (4 + (e + 1)) < 2 ^ 31 := by omega
  have l2 : 2 ^ (4 + (e + 1)) < 2 ^ 31 := by omega
  simp (disch := omega) only [zi_li, zi_m, zi_m1, nI_add, zi_sub, zi_mul, zi_addm, zi_m_lt, zi_lt_m, zi_m_le, zi_le_m, zi_eq_m, zi_m_eq, nI_ltI, nI_leI, nI_eq, nI_clamp, zi_div, lt_eq, bm_s, bi_s, bl_s, bw_s, gd, if_pos, if_neg, ite_true, ite_false, or_false, false_or, and_true, true_and, not_true, not_false_iff, true_or, or_true, Nat.not_lt_zero, h3, b1, b2, d1, d2, pf]
  refine lp_ho (fun i z => z.1 = nI (B + i) ∧ (∀ p, B ≤ p → p < B + i → z.2.1 R p = nI pk) ∧ (∀ p, p < B ∨ B + C ≤ p → z.2.1 R p = M.1 R p) ∧ O1 R M z.2) _ C (i := 0) (by omega) (by omega) ⟨rfl, fun p h1 h2 => absurd h2 (by omega), fun p _ => rfl, O1.rf _ _⟩ (fun i z hi hz rec hrec => ?_) (fun z hz rec => ?_)
  · obtain ⟨z1, z2⟩ := z
    obtain ⟨rfl, g1, g2, g3⟩ := hz
    dsimp only at *
    have z6 : z2.2.2 r 6 = some R := by rw [g3.2]; exact h6'
    simp (disch := omega) only [fX6_layHalvesAbovePages_b89, zi_li, zi_m, zi_m1, nI_add, zi_sub, zi_mul, zi_addm, zi_m_lt, zi_lt_m, zi_m_le, zi_le_m, zi_eq_m, zi_m_eq, nI_ltI, nI_leI, nI_eq, nI_clamp, zi_div, lt_eq, bm_s, bi_s, bl_s, bw_s, gd, if_pos, if_neg, ite_true, ite_false, or_false, false_or, and_true, true_and, not_true, not_false_iff, true_or, or_true, Nat.not_lt_zero, z6, hR]
    refine hrec _ ⟨rfl, fun p h1 h2 => ?_, fun p hp => ?_, g3.tr (O1.w _ _ _)⟩
    · by_cases c : p = B + i
      · subst c
        simp (disch := omega) only [wI_ne, wI_eq, wI_nk, wIs_ne, wIs_eq]
      · simp (disch := omega) only [wI_ne, wI_eq, wI_nk, wIs_ne, wIs_eq]
        exact g1 p h1 (by omega)
    · simp (disch := omega) only [wI_ne, wI_eq, wI_nk, wIs_ne, wIs_eq]
      exact g2 p hp
  · obtain ⟨z1, z2⟩ := z
    obtain ⟨rfl, g1, g2, g3⟩ := hz
    dsimp only at *
    simp (disch := omega) only [fX6_layHalvesAbovePages_b89, fX6_layHalvesAbovePages_j121, zi_li, zi_m, zi_m1, nI_add, zi_sub, zi_mul, zi_addm, zi_m_lt, zi_lt_m, zi_m_le, zi_le_m, zi_eq_m, zi_m_eq, nI_ltI, nI_leI, nI_eq, nI_clamp, zi_div, lt_eq, bm_s, bi_s, bl_s, bw_s, gd, if_pos, if_neg, ite_true, ite_false, or_false, false_or, and_true, true_and, not_true, not_false_iff, true_or, or_true, Nat.not_lt_zero]
    rw [wp_some]
    exact ⟨g1, g2, g3⟩
theorem X6_layNodeP (hfu : 200000 ≤ fu) {fr : Nat → Int32 → Int32 → Int32 → Mm → Option Mm} {dep h0 : Nat} {l0 : List Bk} (hW : WG w t d) (ha : atB L Q (T0 160) = true) (hR : L.contains (R, (0, 64)) = true) (hd : Q + 4 ≤ r ∨ r + 14 ≤ Q) (hd2 : R < r ∨ r + 14 ≤ R) (hd3 : R < Q ∨ Q + 4 ≤ R) (hl : lo w t 0 k = (4 + (e + 1), q)) (hk : k < NN w t 0) (hdep : dep ≤ 11) (hh0 : h0 < 6) (hf0 : PF w d (e + 1) q h0 < 10000) (hP0 : PQ w t d F Q R M r (e + 1) q k) (hB0 : BV M Q l0) (hb0 : l0.length + PF w d (e + 1) q h0 ≤ 160)
    (hH : ¬ ic w (4 + (e + 1)) q = 0 → ∀ h l M, h < 6 → Ph w d e q h < 10000 → PQ w t d F Q R M r (e + 1) q k → BV M Q l → l.length + Ph w d e q h ≤ 160 → Wp (fX6_layHalvesAbovePages fu L fr r (nI k) (nI h) (nI dep) M) (fun M' => BV M' Q (l ++ (PL w d e (2 * q) h ++ PL w d e (2 * q + 1) h)) ∧ (∀ p, q * 2 ^ (e + 1) ≤ p → p < q * 2 ^ (e + 1) + 2 ^ (e + 1) → M'.1 R p = nI (if p < (2 * q + 1) * 2 ^ e then PG w d e (2 * q) h p else PG w d e (2 * q + 1) h p)) ∧ Qf w r Q R (e + 1) q k M M')) :
    Wp (fX6_layAbovePages_R fu L fr r (nI k) (nI h0) (nI dep) M) (fun M' => BV M' Q (l0 ++ PL w d (e + 1) q h0) ∧ (∀ p, q * 2 ^ (e + 1) ≤ p → p < q * 2 ^ (e + 1) + 2 ^ (e + 1) → M'.1 R p = nI (PG w d (e + 1) q h0 p)) ∧ Qf w r Q R (e + 1) q k M M') := by
  have h313 := hW.2.2.2
  obtain ⟨lv1, lv2, lv3, lv4, lv5⟩ := hW.lv hk hl
  have hNp := NN_p w (4 + (e + 1)) q
  have hN0 := hP0.1.1.2 k hk
  rw [hl] at hN0
  have hsz : M.1 (r + 1 + 2) k = nI (2 ^ (4 + (e + 1))) := hN0.1.2.1
  have h32 : 32 ≤ 2 ^ (4 + (e + 1)) := by
    have h1 := p16 (e + 1)
    have h2 := pw1 e
    have h3 := pwp e
    omega
  unfold fX6_layAbovePages_R fX6_layAbovePages_l28
  simp (disch := omega) only [zi_li, zi_m, zi_m1, nI_add, zi_sub, zi_mul, zi_addm, zi_m_lt, zi_lt_m, zi_m_le, zi_le_m, zi_eq_m, zi_m_eq, nI_ltI, nI_leI, nI_eq, nI_clamp, zi_div, lt_eq, bm_s, bi_s, bl_s, bw_s, gd, if_pos, if_neg, ite_true, ite_false, or_false, false_or, and_true, true_and, not_true, not_false_iff, true_or, or_true, Nat.not_lt_zero, hsz]
  refine lp_me (fun z => ∃ h a l, z.1 = nI h ∧ z.2.1 = nI a ∧ a + h ≤ 5 ∧ PQ w t d F Q R z.2.2 r (e + 1) q k ∧ BV z.2.2 Q l ∧ l.length + PF w d (e + 1) q h ≤ 160 ∧ PF w d (e + 1) q h < 10000 ∧ l0 ++ PL w d (e + 1) q h0 = l ++ PL w d (e + 1) q h ∧ (∀ p, PG w d (e + 1) q h0 p = PG w d (e + 1) q h p) ∧ Qf w r Q R (e + 1) q k M z.2.2) (fun z => ix z.1) _ (fun z hz rec hrec => ?_) (by dsimp only; rw [ix_n (by omega)]; omega) ⟨h0, 0, l0, rfl, rfl, by omega, hP0, hB0, hb0, hf0, rfl, fun _ => rfl, Qf.rf _ _ _ _ _ _ _ _⟩
  obtain ⟨z1, z2, z3⟩ := z
  obtain ⟨h, a, l, e1, e2, hah, hP, hB, hb, hf, hPl, hPG, hF⟩ := hz
  dsimp only at *
  subst e1 e2
  have hT0 : PT w d z3 r (e + 1) q k := (hP.2.2.1 0 hNp (e + 1) q (lo_0 _ _ _)).1
  have hV : ∀ j, j < 6 → z3.1 (r + 11) (k * 6 + j) = nI (min 10000 (PF w d (e + 1) q j)) := hT0
  have hVh := hV h (by omega)
  rw [show min 10000 (PF w d (e + 1) q h) = PF w d (e + 1) q h by omega] at hVh
  have bp := X6_byPages (fu := fu) (h := h) hfu hP.1 hW hk hl (by omega) (fun c => by
    have hNN : NN w (4 + e + 1) q = _ := NN_h c
    have p1 := NN_p w (4 + e) (2 * q)
    have p2 := NN_p w (4 + e) (2 * q + 1)
    refine ⟨?_, ?_⟩
    · have := (hP.2.2.1 (1 + 0) (by show 1 + 0 < NN w (4 + e + 1) q; omega) e (2 * q) (by show lo w (4 + e + 1) q (1 + 0) = _; rw [lo_l p1, lo_0])).1
      exact this
    · have := (hP.2.2.1 (1 + NN w (4 + e) (2 * q) + 0) (by show _ < NN w (4 + e + 1) q; omega) e (2 * q + 1) (by show lo w (4 + e + 1) q _ = _; rw [lo_u, lo_0])).1
      rw [← Nat.add_assoc, ← Nat.add_assoc] at this
      exact this)
  have itself : ¬ Ph w d e q h = PF w d (e + 1) q h → Wp (bw (fX6_layItself fu L r (nI k) (nI h) (nI (PF w d (e + 1) q h)) z3) fun r_82 M_82 => rec (r_82, nI (a + 1), M_82)) (fun M' => BV M' Q (l0 ++ PL w d (e + 1) q h0) ∧ (∀ p, q * 2 ^ (e + 1) ≤ p → p < q * 2 ^ (e + 1) + 2 ^ (e + 1) → M'.1 R p = nI (PG w d (e + 1) q h0 p)) ∧ Qf w r Q R (e + 1) q k M M') := fun hne => by
    have hx := PL_x (by omega) hne
    obtain ⟨f1, f2, f3⟩ := fk_ok hx
    have hm := md_lt h (by omega) _ f1 f2.1
    have hv := f2.2
    rw [wp_bw]
    refine (X6_layItself hfu hP.1 hW hk hl (by omega) hP.2.2.2.1 ha hV hf hx hB (by omega)).mono fun y hy => ?_
    obtain ⟨y1, y2, y3⟩ := hy
    obtain ⟨i1, i2⟩ := PL_i (by omega) hne
    rw [y1]
    refine hrec _ ⟨_, a + 1, _, rfl, rfl, by omega, hP.fq y3 hd, y2, ?_, by omega, ?_, fun p => by rw [hPG p, i2 p], hF.tr (Qf.fq y3 hd hd3)⟩ ?_
    · rw [List.length_append]
      show l.length + 1 + _ ≤ 160
      omega
    · rw [hPl, i1, List.append_assoc]
      rfl
    · dsimp only
      rw [ix_n (by omega), ix_n (by omega)]
      exact hm
  have hgl : min 10000 (gP w d e q h) ≤ 10000 := Nat.min_le_left _ _
  simp (disch := omega) only [fX6_layAbovePages_b28, fX6_layAbovePages_j67, zi_li, zi_m, zi_m1, nI_add, zi_sub, zi_mul, zi_addm, zi_m_lt, zi_lt_m, zi_m_le, zi_le_m, zi_eq_m, zi_m_eq, nI_ltI, nI_leI, nI_eq, nI_clamp, zi_div, lt_eq, bm_s, bi_s, bl_s, bw_s, gd, if_pos, if_neg, ite_true, ite_false, or_false, false_or, and_true, true_and, not_true, not_false_iff, true_or, or_true, Nat.not_lt_zero, hVh, bp]
  by_cases ci : ic w (4 + (e + 1)) q = 0
  · have hg : gP w d e q h = uV (w (q * 2 ^ (4 + (e + 1)))) d h := if_pos ci
    rcases PF_u1 (d := d) ci (show h < 6 by omega) (by omega) with ⟨c1, c2⟩ | ⟨c1, c2, c3⟩
    · rw [if_pos (by rw [hg]; omega), wp_bm]
      refine (X6_layLeaf hfu hW hR hd2 hl hk ci (by omega) c2 hP.1 hP.2.2.2.2).mono fun M' hM' => ?_
      obtain ⟨m1, m2, m3⟩ := hM'
      obtain ⟨u1, u2⟩ := PL_u0 (w := w) (d := d) (show h < 6 by omega) c2 (e + 1) q (ic_un ci)
      rw [wp_some, hPl, u1, List.append_nil]
      refine ⟨hB.fr fun c k1 k2 => m3.1 c (by omega), fun p h1 h2 => ?_, hF.tr ⟨fun a _ h2 _ => m3.1 a h2, fun j _ => by rw [m3.1 (r + 11) (by omega)], m2, fun a _ => by rw [m3.2]; exact ⟨rfl, rfl⟩⟩⟩
      rw [hPG p, u2 p h1 h2]
      exact m1 p h1 h2
    · have c4 := uV_b (w (q * 2 ^ (4 + (e + 1)))) d h
      rw [if_neg (by rw [hg]; omega)]
      exact itself c3
  · have hg : gP w d e q h = Ph w d e q h := if_neg ci
    by_cases c1 : Ph w d e q h = PF w d (e + 1) q h
    · rw [if_pos (by rw [hg]; omega), wp_bm]
      refine (hH ci h l z3 (by omega) (by omega) hP hB (by omega)).mono fun M' hM' => ?_
      obtain ⟨m1, m2, m3⟩ := hM'
      obtain ⟨i1, i2⟩ := PL_h c1
      rw [wp_some, hPl, i1]
      refine ⟨m1, fun p h1 h2 => ?_, hF.tr m3⟩
      rw [hPG p, i2 p]
      exact m2 p h1 h2
    · rw [if_neg (by rw [hg]; omega)]
      exact itself c1
theorem X6_layAbovePages (hfu : 200000 ≤ fu) (hW : WG w t d) (ha : atB L Q (T0 160) = true) (hR : L.contains (R, (0, 64)) = true) (hd : Q + 4 ≤ r ∨ r + 14 ≤ Q) (hd2 : R < r ∨ r + 14 ≤ R) (hd3 : R < Q ∨ Q + 4 ≤ R) : ∀ (e q k dp dep h : Nat) (l : List Bk) (M : Mm), lo w t 0 k = (4 + e, q) → k < NN w t 0 → e < dp → dep + 4 + e ≤ 11 → h < 6 → PF w d e q h < 10000 → PQ w t d F Q R M r e q k → BV M Q l → l.length + PF w d e q h ≤ 160 →
    Wp (fX6_layAbovePages fu L dp r (nI k) (nI h) (nI dep) M) (fun M' => BV M' Q (l ++ PL w d e q h) ∧ (∀ p, q * 2 ^ e ≤ p → p < q * 2 ^ e + 2 ^ e → M'.1 R p = nI (PG w d e q h p)) ∧ Qf w r Q R e q k M M') := by
  intro e
  induction e with
  | zero =>
    intro q k dp dep h l M hl hk hdp hdep hh hf hP hB hb
    obtain ⟨dp, rfl⟩ : ∃ f, dp = f + 1 := ⟨dp - 1, by omega⟩
    have h313 := hW.2.2.2
    have hN0 := hP.1.1.2 k hk
    rw [hl] at hN0
    have hsz : M.1 (r + 1 + 2) k = nI 16 := hN0.1.2.1
    show Wp (fX6_layAbovePages_R fu L (fX6_layAbovePages fu L dp) r (nI k) (nI h) (nI dep) M) _
    unfold fX6_layAbovePages_R
    simp (disch := omega) only [zi_li, zi_m, zi_m1, nI_add, zi_sub, zi_mul, zi_addm, zi_m_lt, zi_lt_m, zi_m_le, zi_le_m, zi_eq_m, zi_m_eq, nI_ltI, nI_leI, nI_eq, nI_clamp, zi_div, lt_eq, bm_s, bi_s, bl_s, bw_s, gd, if_pos, if_neg, ite_true, ite_false, or_false, false_or, and_true, true_and, not_true, not_false_iff, true_or, or_true, Nat.not_lt_zero, hsz]
    rw [wp_bm]
    refine (X6_layPage hfu hW ha hR hd hd2 hd3 hl hk (by omega) hh hf hP hB hb).mono fun M' hM' => ?_
    rw [wp_some]
    exact hM'
  | succ e ih =>
    intro q k dp dep h0 l0 M0 hl hk hdp hdep hh0 hf0 hP0 hB0 hb0
    obtain ⟨dp, rfl⟩ : ∃ f, dp = f + 1 := ⟨dp - 1, by omega⟩
    show Wp (fX6_layAbovePages_R fu L (fX6_layAbovePages fu L dp) r (nI k) (nI h0) (nI dep) M0) _
    refine X6_layNodeP hfu hW ha hR hd hd2 hd3 hl hk (by omega) hh0 hf0 hP0 hB0 hb0 (fun ci h l M hh hf hP hB hb => ?_)
    have h313 := hW.2.2.2
    obtain ⟨l1, l2, l3⟩ := lo_kid hk (show lo w t 0 k = (4 + e + 1, q) from hl) ci
    have p1 := NN_p w (4 + e) (2 * q)
    have p2 := NN_p w (4 + e) (2 * q + 1)
    have hNN : NN w (4 + e + 1) q = _ := NN_h ci
    have hNN' : NN w (4 + (e + 1)) q = NN w (4 + e + 1) q := rfl
    have hPh : Ph w d e q h = min 1048576 (PF w d e (2 * q) h + PF w d e (2 * q + 1) h) := rfl
    have hlen := PL_len w d e (2 * q) 6 h hh hh (by omega)
    have k1 := bk_l e q
    have k2 := bk_u e q
    have k3 := pw1 e
    have hN := hP.1.1.2 k hk
    rw [hl] at hN
    have h3 : M.1 (r + 1 + 3) k = nI (k + 1 + NN w (4 + e) (2 * q)) := hN.2.2 ci
    unfold fX6_layHalvesAbovePages
    simp (disch := omega) only [zi_li, zi_m, zi_m1, nI_add, zi_sub, zi_mul, zi_addm, zi_m_lt, zi_lt_m, zi_m_le, zi_le_m, zi_eq_m, zi_m_eq, nI_ltI, nI_leI, nI_eq, nI_clamp, zi_div, lt_eq, bm_s, bi_s, bl_s, bw_s, gd, if_pos, if_neg, ite_true, ite_false, or_false, false_or, and_true, true_and, not_true, not_false_iff, true_or, or_true, Nat.not_lt_zero, h3]
    rw [wp_bm]
    refine (ih (2 * q) (k + 1) dp (dep + 1) h l M l1 (by omega) (by omega) (by omega) hh (by omega) (hP.kl ci) hB (by omega)).mono fun M1 hM1 => ?_
    obtain ⟨b1, b2, b3⟩ := hM1
    have hP1 := hP.qf ci b3 hd hd2 (fu := fu)
    have h31 : M1.1 (r + 1 + 3) k = nI (k + 1 + NN w (4 + e) (2 * q)) := by rw [b3.1 (r + 1 + 3) (by omega) (by omega) (by omega)]; exact h3
    rw [h31, wp_bm]
    refine (ih (2 * q + 1) (k + 1 + NN w (4 + e) (2 * q)) dp (dep + 1) h _ M1 l2 (by omega) (by omega) (by omega) hh (by omega) hP1 b1 (by rw [List.length_append, hlen]; omega)).mono fun M2 hM2 => ?_
    obtain ⟨c1, c2, c3⟩ := hM2
    rw [wp_some, ← List.append_assoc]
    refine ⟨c1, fun p h1 h2 => ?_, fun a q1 q2 q3 => (c3.1 a q1 q2 q3).trans (b3.1 a q1 q2 q3), fun j hj => ?_, fun p hp => ?_, fun a ha => ⟨(c3.2.2.2 a ha).1.trans (b3.2.2.2 a ha).1, (c3.2.2.2 a ha).2.trans (b3.2.2.2 a ha).2⟩⟩
    · by_cases cp : p < (2 * q + 1) * 2 ^ e
      · rw [if_pos cp, c3.2.2.1 p (by omega)]
        exact b2 p (by omega) (by omega)
      · rw [if_neg cp]
        exact c2 p (by omega) (by omega)
    · rw [c3.2.1 j (by omega), b3.2.1 j (by omega)]
    · rw [c3.2.2.1 p (by omega), b3.2.2.1 p (by omega)]
theorem X6_layPagedPlan (hfu : 200000 ≤ fu) {b : Nat} {S : Sto} (hV : VX S M b) (hG : Gd S) (hb : b + 9 ≤ r ∨ r + 14 ≤ b) (ha : atB L Q (T0 160) = true) (hR : L.contains (R, (0, 64)) = true) (hd : Q + 4 ≤ r ∨ r + 14 ≤ Q) (hd2 : R < r ∨ r + 14 ≤ R) (hd3 : R < Q ∨ Q + 4 ≤ R) :
    Wp (fX6_layPagedPlan fu L r b Q R M) (fun M' => BV M' Q (PL (wi S (S 0)) (S 0) (S 140 - 4) 0 5) ∧ (∀ p, p < 2 ^ (S 140 - 4) → M'.1 R p = nI (PG (wi S (S 0)) (S 0) (S 140 - 4) 0 5 p)) ∧ (∀ c, (c < r ∨ r + 14 ≤ c) → (c < Q ∨ Q + 4 ≤ c) → c ≠ R → M'.1 c = M.1 c) ∧ (∀ c, (c < r ∨ r + 14 ≤ c) → (c < Q ∨ Q + 4 ≤ c) → M'.2.1 c = M.2.1 c ∧ M'.2.2 c = M.2.2 c)) := by
  have hd5 := hG.1.2.2.2.2.1
  have hW := wi_G hG hd5
  have hcv := cvS_le hG hd5
  have h4 := hG.1.1
  have h10 := hG.1.2.1
  obtain ⟨e, he⟩ : ∃ e, S 140 = 4 + e := ⟨S 140 - 4, by omega⟩
  have hNp := NN_p (wi S (S 0)) (S 140) 0
  have h313 := hW.2.2.2
  generalize hw : wi S (S 0) = w at *
  unfold fX6_layPagedPlan
  rw [hV.1.2.2.1, wp_bm]
  refine (X9_make hfu hV hG hd5 (by omega)).mono fun M1 h1 => ?_
  rw [hw] at h1
  obtain ⟨t1, t2, t3, t4⟩ := h1
  have hT : TW w (S 140) (S 0) (S 142) (wI M1 r 4 (nI 1)) (r + 1) := TW.fr (M := M1) ⟨t1, t2, t3⟩ fun c _ _ => wI_ne (by omega)
  have c5 : (wI M1 r 4 (nI 1)).1 (r + 1) 5 = nI (NN w (S 140) 0) := hT.1.1
  unfold fX6_layPagedPlan_l28
  simp (disch := omega) only [lt_eq, zi_li, c5, zi_sub]
  generalize hM2 : wI M1 r 4 (nI 1) = M2 at hT
  have x4 : M2.1 r 4 = nI 1 := by rw [← hM2]; simp (disch := omega) only [wI_ne, wI_eq, wI_nk, wIs_ne, wIs_eq]
  have F0 : Fr r 14 M M2 := by rw [← hM2]; exact (t4.wd (by omega) (by omega)).tr (Fr.w1 _ _ _ _ (by omega) (by omega))
  have es : nI (NN w (S 140) 0 - 1) = nI (NN w (S 140) 0 - 0) + mI := by rw [Nat.sub_zero, zi_addm (by omega)]
  rw [es]
  refine lp_ho (fun i z => z.1 = nI (NN w (S 140) 0 - i) + mI ∧ TW w (S 140) (S 0) (S 142) z.2 (r + 1) ∧ z.2.1 r 4 = nI 1 ∧ (∀ j, NN w (S 140) 0 - i ≤ j → j < NN w (S 140) 0 → ∀ e' q', lo w (S 140) 0 j = (4 + e', q') → PT w (S 0) z.2 r e' q' j ∧ (e' = 0 → CH w (S 0) z.2 r q' j)) ∧ Fr r 14 M z.2) _ (NN w (S 140) 0) (i := 0) (by omega) (by omega) ⟨rfl, hT, x4, fun j h1 h2 => absurd h2 (by omega), F0⟩ (fun i z hi hz rec hrec => ?_) (fun z hz rec => ?_)
  · obtain ⟨z1, z2⟩ := z
    obtain ⟨rfl, g1, g2, g3, g4⟩ := hz
    dsimp only at *
    rw [zi_addm (by omega)]
    obtain ⟨j, hj⟩ : ∃ j, j = NN w (S 140) 0 - i - 1 := ⟨_, rfl⟩
    rw [← hj]
    have hk : j < NN w (S 140) 0 := by omega
    obtain ⟨e1, q1, hl⟩ : ∃ e1 q1, lo w (S 140) 0 j = (e1, q1) := ⟨_, _, rfl⟩
    obtain ⟨lv1, lv2, lv3, lv4, lv5⟩ := hW.lv hk hl
    have hN := g1.1.2 j hk
    rw [hl] at hN
    have hsz : z2.1 (r + 1 + 2) j = nI (2 ^ e1) := hN.1.2.1
    have nxt : nI j + mI = nI (NN w (S 140) 0 - (i + 1)) + mI := by rw [show j = NN w (S 140) 0 - (i + 1) by omega]
    unfold fX6_layPagedPlan_b28 fX6_layPagedPlan_j78
    have j0 : ¬ nI j < 0 := nI_pos (by omega)
    rw [if_neg j0]
    simp (disch := omega) only [zi_li, zi_m, zi_m1, nI_add, zi_sub, zi_mul, zi_addm, zi_m_lt, zi_lt_m, zi_m_le, zi_le_m, zi_eq_m, zi_m_eq, nI_ltI, nI_leI, nI_eq, nI_clamp, zi_div, lt_eq, bm_s, bi_s, bl_s, bw_s, gd, if_pos, if_neg, ite_true, ite_false, or_false, false_or, and_true, true_and, not_true, not_false_iff, true_or, or_true, Nat.not_lt_zero, hsz]
    by_cases c4 : e1 = 4
    · subst c4
      rw [if_pos (by decide), if_pos (by decide), wp_bm]
      refine (X6_choosePageKinds hfu g1 hW g2 hk hl).mono fun M' hM' => ?_
      obtain ⟨m1, m2, m3⟩ := hM'
      refine hrec _ ⟨nxt, g1.fr fun c _ _ => m3.1 c (by omega) (by omega) (by omega), by rw [m3.1 r (by omega) (by omega) (by omega)]; exact g2, fun j' h1 h2 e' q' hl' => ?_, g4.tr m3.f⟩
      by_cases cj : j' = j
      · subst cj
        rw [hl] at hl'
        injection hl' with v1 v2
        have : e' = 0 := by omega
        subst this
        subst v2
        exact ⟨m1, fun _ => m2⟩
      · by_cases cin : j' < j + NN w 4 q1
        · obtain ⟨s1, s2, s3, s4⟩ := lo_sh w (S 140) 0 j 4 q1 hk hl
          have := s4 (j' - j) (by omega)
          rw [show j + (j' - j) = j' by omega, hl'] at this
          have lv := lo_lv w (e := 4) (q := q1) (i := j' - j) (by omega) (by omega)
          rw [← this] at lv
          dsimp only at lv
          omega
        · obtain ⟨b1, b2⟩ := g3 j' (by omega) h2 e' q' hl'
          refine ⟨fun a ha => ?_, fun h0 a ha hf => ?_⟩
          · rw [(m3.2.1 _ (by omega)).1]; exact b1 a ha
          · rw [(m3.2.1 _ (by omega)).2]; exact b2 h0 a ha hf
    · by_cases c5 : e1 < 4
      · have hlt : 2 ^ e1 < 2 ^ 4 := Nat.pow_lt_pow_right (by decide) c5
        rw [if_pos (by omega), if_neg (by omega)]
        refine hrec _ ⟨nxt, g1, g2, fun j' h1 h2 e' q' hl' => ?_, g4⟩
        by_cases cj : j' = j
        · subst cj
          rw [hl] at hl'
          injection hl' with v1 v2
          omega
        · exact g3 j' (by omega) h2 e' q' hl'
      · obtain ⟨e2, rfl⟩ : ∃ e2, e1 = 4 + (e2 + 1) := ⟨e1 - 5, by omega⟩
        have hgt : 2 ^ 5 ≤ 2 ^ (4 + (e2 + 1)) := Nat.pow_le_pow_right (by decide) (by omega)
        rw [if_neg (by omega), wp_bm]
        refine (X6_weighAbovePages hfu g1 hW g2 hk hl (fun ci => by
          obtain ⟨l1, l2, l3⟩ := lo_kid hk (show lo w (S 140) 0 j = (4 + e2 + 1, q1) from hl) ci
          have p1 := NN_p w (4 + e2) (2 * q1)
          have p2 := NN_p w (4 + e2) (2 * q1 + 1)
          exact ⟨(g3 (j + 1) (by omega) (by omega) e2 _ l1).1, (g3 (j + 1 + NN w (4 + e2) (2 * q1)) (by omega) (by omega) e2 _ l2).1⟩)).mono fun M' hM' => ?_
        obtain ⟨m1, m2⟩ := hM'
        refine hrec _ ⟨nxt, g1.fr fun c _ _ => m2.1 c (by omega), by rw [m2.1 r (by omega)]; exact g2, fun j' h1 h2 e' q' hl' => ?_, g4.tr m2.f⟩
        by_cases cj : j' = j
        · subst cj
          rw [hl] at hl'
          injection hl' with v1 v2
          have : e' = e2 + 1 := by omega
          subst this
          subst v2
          exact ⟨m1, fun h => by omega⟩
        · obtain ⟨b1, b2⟩ := g3 j' (by omega) h2 e' q' hl'
          refine ⟨fun a ha => ?_, fun h0 a ha hf => ?_⟩
          · rw [m2.2.1 _ (by omega)]; exact b1 a ha
          · rw [m2.1 (r + 12) (by omega)]; exact b2 h0 a ha hf
  · obtain ⟨z1, z2⟩ := z
    obtain ⟨rfl, g1, g2, g3, g4⟩ := hz
    dsimp only at *
    rw [Nat.sub_self]
    have q0 : nI 0 + mI < 0 := by decide +kernel
    unfold fX6_layPagedPlan_b28 fX6_layPagedPlan_j84
    rw [if_pos q0]
    have e5 : (wR z2 r 5 (some Q)).2.2 r 5 = some Q := by rw [wR_3, if_pos ⟨rfl, rfl⟩]
    simp (disch := omega) only [lt_eq, e5, bl_s, gd, ha, if_pos, if_neg, ite_true, ite_false, or_false, false_or, and_true, true_and, not_true, not_false_iff, true_or, or_true, Nat.not_lt_zero, zi_li]
    generalize hM3 : wR (wI (wR z2 r 5 (some Q)) Q 3 (nI 0)) r 6 (some R) = M3
    have y1 : ∀ c, c ≠ Q → M3.1 c = z2.1 c := fun c hc => by rw [← hM3]; exact wI_ne hc
    have y5 : M3.2.2 r 5 = some Q := by rw [← hM3, wR_3, if_neg (by omega)]; exact e5
    have y6 : M3.2.2 r 6 = some R := by rw [← hM3, wR_3, if_pos ⟨rfl, rfl⟩]
    have yF : ∀ c, c ≠ r → M3.2.1 c = z2.2.1 c ∧ M3.2.2 c = z2.2.2 c := fun c hc => by
      rw [← hM3]
      refine ⟨rfl, ?_⟩
      simp [wR, wI, hc]
    have hP : PQ w (S 140) (S 0) (S 142) Q R M3 r e 0 0 := by
      refine ⟨g1.fr fun c _ _ => y1 c (by omega), by rw [y1 r (by omega)]; exact g2, fun j hj e' q' hl => ?_, y5, y6⟩
      rw [← he] at hj hl
      obtain ⟨b1, b2⟩ := g3 j (by omega) hj e' q' hl
      rw [Nat.zero_add]
      refine ⟨fun a ha => ?_, fun h0 a ha hf => ?_⟩
      · rw [y1 _ (by omega)]; exact b1 a ha
      · rw [y1 _ (by omega)]; exact b2 h0 a ha hf
    have hB : BV M3 Q [] := by
      refine ⟨?_, fun i p hp => by simp at hp⟩
      rw [← hM3]
      show (wI (wR z2 r 5 (some Q)) Q 3 (nI 0)).1 Q 3 = _
      simp (disch := omega) only [wI_ne, wI_eq, wI_nk, wIs_ne, wIs_eq]
      rfl
    have hpf : PF w (S 0) e 0 5 ≤ 157 := by
      have h1 := PF_Fw w (S 0) e 0 5 (by omega)
      unfold cvS at hcv
      rw [hw, he] at hcv
      omega
    rw [wp_bm]
    refine (X6_layAbovePages hfu hW ha hR hd hd2 hd3 e 0 0 16 0 5 [] M3 (by rw [lo_0, he]) hNp (by omega) (by omega) (by omega) (by omega) hP hB (by show 0 + _ ≤ 160; omega)).mono fun M4 h4 => ?_
    obtain ⟨k1, k2, k3⟩ := h4
    have ee : S 140 - 4 = e := by omega
    rw [wp_some, ee]
    refine ⟨k1, fun p hp => k2 p (by omega) (by omega), fun c h1 h2 h3 => ?_, fun c h1 h2 => ?_⟩
    · rw [k3.1 c (by omega) h3 h2, y1 c (by omega), (g4 c h1).1]
    · obtain ⟨v1, v2⟩ := k3.2.2.2 c h2
      obtain ⟨v3, v4⟩ := yF c (by omega)
      obtain ⟨_, v5, v6⟩ := g4 c h1
      exact ⟨v1.trans (v3.trans v5), v2.trans (v4.trans v6)⟩
end PP
