/-! The reference lays its paged plan. -/
def Pf (m : Nat) (M M' : Mm) : Prop := (∀ c, c ≠ m → c ≠ m + 9 → (c < m + 12 ∨ m + 17 < c) → M'.1 c = M.1 c) ∧ (∀ j, j ≠ 32 → j ≠ 33 → M'.1 m j = M.1 m j) ∧ M'.2 = M.2
theorem Pf.tr {m : Nat} {M M' M'' : Mm} (h : Pf m M M') (h' : Pf m M' M'') : Pf m M M'' := ⟨fun c h1 h2 h3 => (h'.1 c h1 h2 h3).trans (h.1 c h1 h2 h3), fun j h1 h2 => (h'.2.1 j h1 h2).trans (h.2.1 j h1 h2), h'.2.2.trans h.2.2⟩
theorem Lf.pf {m : Nat} {M M' : Mm} (h : Lf m M M') : Pf m M M' := ⟨fun c h1 _ h3 => h.1 c h1 (by omega), h.2.1, h.2.2⟩
theorem O1.pf {m c0 : Nat} {M M' : Mm} (h : O1 c0 M M') (hc : c0 = m + 9 ∨ c0 = m + 17) : Pf m M M' := ⟨fun c _ h2 h3 => h.1 c (by omega), fun j _ _ => by rw [h.1 m (by omega)], h.2⟩
theorem Pf.sc {m : Nat} {M M' : Mm} (h : Pf m M M') : Sc m M M' := ⟨fun c h1 h2 => h.1 c h1 (by omega) (by omega), fun j _ h1 h2 _ _ _ _ => h.2.1 j h1 h2, h.2.2⟩
theorem Cg.pf {S : Sto} {m : Nat} {M M' : Mm} (h : Cg S M m) (g : Pf m M M') : Cg S M' m := by
  refine ⟨h.1.sc g.sc, ?_, ?_, ?_⟩
  · unfold WV; rw [g.1 (m + 8) (by omega) (by omega) (by omega)]; exact h.2.1
  · rw [g.2.1 25 (by omega) (by omega)]; exact h.2.2.1
  · unfold PV1; rw [g.1 (m + 11) (by omega) (by omega) (by omega)]; exact h.2.2.2
theorem WT.o1 {M M' : Mm} {m c0 : Nat} {st : List (Nat × Nat)} (h : WT M m st) (g : O1 c0 M M') (hc : c0 = m + 9 ∨ c0 = m + 17) : WT M' m st := by
  unfold WT at h ⊢
  rw [g.1 m (by omega), g.1 (m + 12) (by omega), g.1 (m + 13) (by omega)]
  exact h
theorem MB.o1 {M M' : Mm} {m c0 : Nat} {l : List Bk} (h : MB M m l) (g : O1 c0 M M') (hc : c0 = m + 9 ∨ c0 = m + 17) : MB M' m l := by
  unfold MB at h ⊢
  rw [g.1 m (by omega), g.1 (m + 14) (by omega), g.1 (m + 15) (by omega), g.1 (m + 16) (by omega)]
  exact h
section RQ
variable {fu m : Nat} {S : Sto} {M : Mm} {st : List (Nat × Nat)} {l : List Bk}
theorem X11_layPage (hfu : 200000 ≤ fu) (hG : Gd S) {q h : Nat} (hC : Cg S M m) (hq : q < 2 ^ (S 140 - 4)) (hh : h < 6) (hf : PF (wi S (S 0)) (S 0) 0 q h < 1048576) (hW : WT M m st) (hs : st.length + 6 < 4200) (hB : MB M m l) (hl : l.length + PF (wi S (S 0)) (S 0) 0 q h < 2100) :
    Wp (fX11_layPage fu m (nI q) (nI h) M) (fun M' => Pf m M M' ∧ WT M' m st ∧ MB M' m (l ++ PL (wi S (S 0)) (S 0) 0 q h) ∧ M'.1 (m + 17) q = nI (pkF (wi S (S 0)) (S 0) q h) ∧ ∀ p, p ≠ q → M'.1 (m + 17) p = M.1 (m + 17) p) := by
  have hd5 := hG.1.2.2.2.2.1
  have hw := (wi_G hG hd5).1
  obtain ⟨T, hT, hT6, hpg, hT64, hT1⟩ := pg_T hG
  have hTT : S 140 - 4 = T := by omega
  obtain ⟨V, hWV, h25, hPV⟩ := hC
  rw [hTT] at hq hPV
  generalize hwd : wi S (S 0) = w at *
  obtain ⟨t1, t2, t3⟩ := fpt_ok (fun pk => Fw w (S 0) pk 4 q h)
  have hpk := fpk_ok (fun pk => Fw w (S 0) pk 4 q h)
  have hP0 := hPV 0 q h (Nat.zero_le _) (by rw [Nat.sub_zero]; exact hq) hh
  rw [Nat.sub_zero] at hP0
  have hPl := PF_le w (S 0) 0 q hh
  unfold fX11_layPage fX11_pageNode
  have pz := X11_pages (fu := fu) V hG
  rw [hpg] at pz
  rw [pz, bi_s, nI_add, bi_s, wp_bm]
  refine (X11_layFewest (pk := 5) hfu V hG hw hd5 (by omega) hWV h25).mono fun M1 h1 => ?_
  obtain ⟨f1, f2⟩ := h1
  unfold fX11_layPage_l14
  refine lp_ho (fun i (z : Int32 × Mm) => z.1 = nI i ∧ FV w (S 0) (tkN i) (S 140) z.2 m ∧ O1 (m + 9) M z.2) _ (fpt (fun pk => Fw w (S 0) pk 4 q h)) (i := 0) (by omega) (by omega) ⟨rfl, (f1 : FV w (S 0) (tkN 0) (S 140) M1 m), f2⟩ (fun i z hi hz rec hrec => ?_) (fun z hz rec => ?_)
  · obtain ⟨z1, z2⟩ := z
    obtain ⟨rfl, g1, g2⟩ := hz
    dsimp only at *
    have e1 := g1 4 q h (by omega) (by rw [hTT]; exact hq) hh
    rw [hTT] at e1
    have e2 : z2.1 (m + 11) (6 * (2 ^ T + q) + h) = nI (PF w (S 0) 0 q h) := by rw [g2.1 (m + 11) (by omega)]; exact hP0
    have ne : ¬ Fw w (S 0) (tkN i) 4 q h = PF w (S 0) 0 q h := t3 i hi
    have l1 := Fw_le w (S 0) (tkN i) 4 q hh
    have Vz := V.o1 g2 (by omega)
    have ht := X11_triedKind (fu := fu) (i := i + 1) (by omega)
    unfold fX11_layPage_b14
    simp (disch := omega) only [zi_li, zi_m, zi_m1, nI_add, zi_sub, zi_mul, zi_addm, zi_m_lt, zi_lt_m, zi_m_le, zi_le_m, zi_eq_m, zi_m_eq, nI_ltI, nI_leI, nI_eq, nI_clamp, zi_div, lt_eq, bm_s, bi_s, bl_s, bw_s, gd, if_pos, if_neg, ite_true, ite_false, or_false, false_or, and_true, true_and, not_true, not_false_iff, true_or, or_true, Nat.not_lt_zero, e1, e2, ht]
    rw [wp_bm]
    refine (X11_layFewest hfu Vz hG hw hd5 (tkN_lt (by omega)) (by unfold WV; rw [g2.1 (m + 8) (by omega)]; exact hWV) (by rw [g2.1 m (by omega)]; exact h25)).mono fun M2 h2 => ?_
    obtain ⟨b1, b2⟩ := h2
    exact hrec _ ⟨rfl, b1, g2.tr b2⟩
  · obtain ⟨z1, z2⟩ := z
    obtain ⟨rfl, g1, g2⟩ := hz
    dsimp only at *
    rw [t2] at g1
    have e1 := g1 4 q h (by omega) (by rw [hTT]; exact hq) hh
    rw [hTT] at e1
    have eq1 : Fw w (S 0) (fpk (fun pk => Fw w (S 0) pk 4 q h)) 4 q h = PF w (S 0) 0 q h := hpk.2
    have e2 : z2.1 (m + 11) (6 * (2 ^ T + q) + h) = nI (PF w (S 0) 0 q h) := by rw [g2.1 (m + 11) (by omega)]; exact hP0
    have l1 := Fw_le w (S 0) (fpk (fun pk => Fw w (S 0) pk 4 q h)) 4 q hh
    have ht := X11_triedKind (fu := fu) (i := fpt (fun pk => Fw w (S 0) pk 4 q h)) t1
    rw [t2] at ht
    rw [eq1] at e1
    unfold fX11_layPage_b14 fX11_layPage_j54
    simp (disch := omega) only [zi_li, zi_m, zi_m1, nI_add, zi_sub, zi_mul, zi_addm, zi_m_lt, zi_lt_m, zi_m_le, zi_le_m, zi_eq_m, zi_m_eq, nI_ltI, nI_leI, nI_eq, nI_clamp, zi_div, lt_eq, bm_s, bi_s, bl_s, bw_s, gd, if_pos, if_neg, ite_true, ite_false, or_false, false_or, and_true, true_and, not_true, not_false_iff, true_or, or_true, Nat.not_lt_zero, e1, e2, ht]
    generalize hM2 : wI z2 (m + 17) q (nI (fpk (fun pk => Fw w (S 0) pk 4 q h))) = M2
    have o2 : O1 (m + 17) z2 M2 := by rw [← hM2]; exact O1.w _ _ _
    have W2 := (hW.o1 g2 (Or.inl rfl)).o1 o2 (Or.inr rfl)
    have B2 := (hB.o1 g2 (Or.inl rfl)).o1 o2 (Or.inr rfl)
    have V2 := (V.o1 g2 (by omega)).o1 o2 (by omega)
    have w32 := W2.1
    have P2 : Pf m M M2 := (g2.pf (Or.inl rfl)).tr (o2.pf (Or.inr rfl))
    rw [w32, wp_bm]
    refine (X11_waits (fu := fu) (a := 2 ^ T + q) (b := h) W2 (by omega)).mono fun M3 h3 => ?_
    obtain ⟨q1, q2, q3⟩ := h3
    rw [wp_bm]
    have hCk : Ck S (S 0) (fpk (fun pk => Fw w (S 0) pk 4 q h)) M3 m := by
      refine ⟨V2.sc q2.sc, ?_, ?_, ?_⟩
      · rw [hwd]; unfold WV; rw [q2.1 (m + 8) (by omega) (by omega), o2.1 (m + 8) (by omega), g2.1 (m + 8) (by omega)]; exact hWV
      · rw [q2.2.1 25 (by omega) (by omega), o2.1 m (by omega), g2.1 m (by omega)]; exact h25
      · rw [hwd]; unfold FV; rw [q2.1 (m + 9) (by omega) (by omega), o2.1 (m + 9) (by omega)]; exact g1
    refine (X11_layWaiting (e := 4) (q := q) (h := h) (l := l) hfu hG hd5 hpk.1 hCk (by omega) (by rw [hTT]; exact hq) hh (by omega) (by rw [hTT]; exact q1) (q3 _ B2) (by rw [hwd, eq1]; exact hl)).mono fun M4 h4 => ?_
    obtain ⟨r1, r2, r3⟩ := h4
    rw [hwd] at r3
    rw [wp_some]
    refine ⟨(P2.tr q2.pf).tr r1.pf, r2, r3, ?_, fun p hp => ?_⟩
    · rw [r1.1 (m + 17) (by omega) (by omega), q2.1 (m + 17) (by omega) (by omega), ← hM2]
      simp (disch := omega) only [wI_ne, wI_eq, wI_nk, wIs_ne, wIs_eq]
      rfl
    · rw [r1.1 (m + 17) (by omega) (by omega), q2.1 (m + 17) (by omega) (by omega), ← hM2]
      simp (disch := omega) only [wI_ne, wI_eq, wI_nk, wIs_ne, wIs_eq]
      rw [g2.1 (m + 17) (by omega)]
def lqF (fu m : Nat) : (Mm → Option Mm) → Mm → Option Mm := fun rec s => fX11_layPagedPlan_b20 fu (fun M => rec M) m s
theorem X11_pgRun (hfu : 200000 ≤ fu) (hG : Gd S) : ∀ (e q n h : Nat) (st : List (Nat × Nat)) (l : List Bk) (M : Mm), h < n → Cg S M m → e ≤ S 140 - 4 → q < 2 ^ (S 140 - 4 - e) → h < 6 → st.length + e + 10 < 4200 → WT M m (st ++ [(2 ^ (S 140 - 4 - e) + q, h)]) → MB M m l → l.length + PF (wi S (S 0)) (S 0) e q h < 2100 →
    ∃ k M', k + 11 ≤ 12 * 2 ^ e + h ∧ Pf m M M' ∧ WT M' m st ∧ MB M' m (l ++ PL (wi S (S 0)) (S 0) e q h) ∧ (∀ p, q * 2 ^ e ≤ p → p < q * 2 ^ e + 2 ^ e → M'.1 (m + 17) p = nI (PG (wi S (S 0)) (S 0) e q h p)) ∧ (∀ p, p < q * 2 ^ e ∨ q * 2 ^ e + 2 ^ e ≤ p → M'.1 (m + 17) p = M.1 (m + 17) p) ∧ ∀ f, lp (lqF fu m) (f + k) M = lp (lqF fu m) f M'
  | e, q, 0, h, st, l, M, hn, _, _, _, _, _, _, _, _ => absurd hn (Nat.not_lt_zero _)
  | e, q, n + 1, h, st, l, M, hn, hC, he, hq, hh, hs, hW, hB, hl => by
    have hpe := pwp e
    obtain ⟨T, hT, hT6, hpg, hT64, hT1⟩ := pg_T hG
    have hTT : S 140 - 4 = T := by omega
    have hCT := hC
    rw [hTT] at he hq hW
    have hnl := nd_lt he hq
    have hn0 := nd_0 he hq
    have ht2 := pw1 T
    obtain ⟨p1, p2, p3, p4⟩ := hW.pop
    have L1 : Lf m M (wI M m 32 (nI st.length)) := Lf.w0 _ _ (Or.inl rfl)
    generalize hM1 : wI M m 32 (nI st.length) = M1 at L1 p4
    have hC1 := hC.pf L1.pf
    have B1 : MB M1 m l := by
      rw [← hM1]
      refine ⟨?_, fun i p hp => ?_⟩
      · simp (disch := omega) only [wI_ne, wI_eq, wI_nk, wIs_ne, wIs_eq]; exact hB.1
      · simp (disch := omega) only [wI_ne, wI_eq, wI_nk, wIs_ne, wIs_eq]; exact hB.2 i p hp
    have a1 : M1.1 (m + 12) st.length = nI (2 ^ (T - e) + q) := by rw [← hM1]; simp (disch := omega) only [wI_ne, wI_eq, wI_nk, wIs_ne, wIs_eq]; exact p2
    have a2 : M1.1 (m + 13) st.length = nI h := by rw [← hM1]; simp (disch := omega) only [wI_ne, wI_eq, wI_nk, wIs_ne, wIs_eq]; exact p3
    have a3 : M1.1 m 32 = nI st.length := p4.1
    have pz := X11_pages (fu := fu) hC1.1 hG
    rw [hpg] at pz
    have hPl := PF_le (wi S (S 0)) (S 0) e q hh
    have hPV := hC1.2.2.2
    rw [hTT] at hPV
    have hF1 := hPV e q h he hq hh
    have beg : ∀ rec, lqF fu m rec M = if 0 < e then bm (fX11_layBy fu m 12288 (m + 11) (nI (2 ^ (T - e) + q)) (nI h) (nI (PF (wi S (S 0)) (S 0) e q h)) (nI 1) M1) (fun M => rec M) else bm (fX11_layPage fu m (nI (2 ^ (T - e) + q - 2 ^ T)) (nI h) M1) (fun M => rec M) := fun rec => by
      unfold lqF fX11_layPagedPlan_b20 fX11_layPagedPlan_j101
      rw [p1]
      by_cases c : 0 < e
      · simp (disch := omega) only [zi_li, zi_m, zi_m1, nI_add, zi_sub, zi_mul, zi_addm, zi_m_lt, zi_lt_m, zi_m_le, zi_le_m, zi_eq_m, zi_m_eq, nI_ltI, nI_leI, nI_eq, nI_clamp, zi_div, lt_eq, bm_s, bi_s, bl_s, bw_s, gd, if_pos, if_neg, ite_true, ite_false, or_false, false_or, and_true, true_and, not_true, not_false_iff, true_or, or_true, Nat.not_lt_zero, Nat.add_sub_cancel, hM1, a3, a1, a2, pz, hF1]
      · simp (disch := omega) only [zi_li, zi_m, zi_m1, nI_add, zi_sub, zi_mul, zi_addm, zi_m_lt, zi_lt_m, zi_m_le, zi_le_m, zi_eq_m, zi_m_eq, nI_ltI, nI_leI, nI_eq, nI_clamp, zi_div, lt_eq, bm_s, bi_s, bl_s, bw_s, gd, if_pos, if_neg, ite_true, ite_false, or_false, false_or, and_true, true_and, not_true, not_false_iff, true_or, or_true, Nat.not_lt_zero, Nat.add_sub_cancel, hM1, a3, a1, a2, pz]
    have L17 : ∀ p, M1.1 (m + 17) p = M.1 (m + 17) p := fun p => by rw [L1.1 (m + 17) (by omega) (by omega)]
    have IHn := fun h' (hlt : h' < n) st l M => X11_pgRun hfu hG e q n h' st l M hlt
    have IHe := fun e1 (_ : e1 < e) q' h' st l M (hh' : h' < 6) => X11_pgRun hfu hG e1 q' 6 h' st l M hh'
    by_cases ce : e = 0
    · subst ce
      rw [Nat.sub_zero] at hq
      obtain ⟨M2, e2, q1, q2, q3, q4, q5⟩ := X11_layPage (q := q) (h := h) hfu hG hC1 (by rw [hTT]; exact hq) hh (by omega) p4 (by omega) B1 hl
      refine ⟨1, M2, by omega, L1.pf.tr q1, q2, q3, fun p h1 h2 => ?_, fun p hp => ?_, fun f => ?_⟩
      · have : p = q := by omega
        subst this
        exact q4
      · rw [q5 p (by omega)]; exact L17 p
      · have : 2 ^ (T - 0) + q - 2 ^ T = q := by rw [Nat.sub_zero]; omega
        rw [lp_S, beg, if_neg (by omega), this, e2, bm_s]
    · obtain ⟨e, rfl⟩ : ∃ e1, e = e1 + 1 := ⟨e - 1, by omega⟩
      obtain ⟨k1, k2⟩ := nd_k he hq
      have kl := bk_l e q
      have ku := bk_u e q
      have hp1 := pw1 e
      have hpe1 := pwp e
      have i1 : 12 * (2 ^ (T - (e + 1)) + q) + h = 6 * (2 ^ (T - e) + 2 * q) + h := by omega
      have i2 : 6 * (2 * (2 ^ (T - (e + 1)) + q) + 1) + h = 6 * (2 ^ (T - e) + (2 * q + 1)) + h := by omega
      have b1 := X11_both (fu := fu) (M := M1) (m := m) (n1 := 12288) (a1 := m + 11) (node := 2 ^ (T - (e + 1)) + q) (h := h) (x := PF (wi S (S 0)) (S 0) e (2 * q) h) (y := PF (wi S (S 0)) (S 0) e (2 * q + 1) h) (by omega) hh (by omega) (by omega) (by rw [i1]; exact hPV e _ h (by omega) (by omega) hh) (by rw [i2]; exact hPV e _ h (by omega) (by omega) hh) (PF_le _ _ _ _ hh) (PF_le _ _ _ _ hh)
      have hPhd : Ph (wi S (S 0)) (S 0) e q h = min 1048576 (PF (wi S (S 0)) (S 0) e (2 * q) h + PF (wi S (S 0)) (S 0) e (2 * q + 1) h) := rfl
      rw [← hPhd] at b1
      have q0 : ¬ (nI 1 : Int32) = 0 := by decide +kernel
      by_cases heq : Ph (wi S (S 0)) (S 0) e q h = PF (wi S (S 0)) (S 0) (e + 1) q h
      · rw [heq] at b1
        have j1 : 2 * (2 ^ (T - (e + 1)) + q) = 2 ^ (T - e) + 2 * q := k1
        have j2 : 2 * (2 ^ (T - (e + 1)) + q) + 1 = 2 ^ (T - e) + (2 * q + 1) := by omega
        have m1 : 2 * nI (2 ^ (T - (e + 1)) + q) + 1 = nI (2 ^ (T - e) + (2 * q + 1)) := by rw [← j2]; simp (disch := omega) only [zi_li, zi_m, zi_m1, nI_add, zi_sub, zi_mul, zi_addm, zi_m_lt, zi_lt_m, zi_m_le, zi_le_m, zi_eq_m, zi_m_eq, nI_ltI, nI_leI, nI_eq, nI_clamp, zi_div, lt_eq, bm_s, bi_s, bl_s, bw_s, gd]
        have m2 : 2 * nI (2 ^ (T - (e + 1)) + q) = nI (2 ^ (T - e) + 2 * q) := by rw [← j1]; simp (disch := omega) only [zi_li, zi_m, zi_m1, nI_add, zi_sub, zi_mul, zi_addm, zi_m_lt, zi_lt_m, zi_m_le, zi_le_m, zi_eq_m, zi_m_eq, nI_ltI, nI_leI, nI_eq, nI_clamp, zi_div, lt_eq, bm_s, bi_s, bl_s, bw_s, gd]
        obtain ⟨M2, e2, w1, w2, w3⟩ := X11_waits (fu := fu) (a := 2 ^ (T - e) + (2 * q + 1)) (b := h) p4 (by omega)
        obtain ⟨M3, e3, r1, r2, r3⟩ := X11_waits (fu := fu) (a := 2 ^ (T - e) + 2 * q) (b := h) w1 (by rw [List.length_append]; show st.length + 1 < 4200; omega)
        have hlen := PL_len (wi S (S 0)) (S 0) e (2 * q) 6 h hh hh (by omega)
        have hC3 := (hC1.pf w2.pf).pf r2.pf
        have g17 : ∀ p, M3.1 (m + 17) p = M.1 (m + 17) p := fun p => by rw [r2.1 (m + 17) (by omega) (by omega), w2.1 (m + 17) (by omega) (by omega)]; exact L17 p
        obtain ⟨ka, Ma, x1, x2, x3, x4, x5, x6, x7⟩ := IHe e (Nat.lt_succ_self e) (2 * q) h (st ++ [(2 ^ (T - e) + (2 * q + 1), h)]) l M3 hh hC3 (by omega) (by rw [hTT]; omega) hh (by rw [List.length_append]; show st.length + 1 + e + 10 < 4200; omega) (by rw [hTT]; exact r1) (r3 _ (w3 _ B1)) (by omega)
        obtain ⟨kb, Mb, y1, y2, y3, y4, y5, y6, y7⟩ := IHe e (Nat.lt_succ_self e) (2 * q + 1) h st (l ++ PL (wi S (S 0)) (S 0) e (2 * q) h) Ma hh (hC3.pf x2) (by omega) (by rw [hTT]; omega) hh (by omega) (by rw [hTT]; exact x3) x4 (by rw [List.length_append, hlen]; omega)
        obtain ⟨z1, z2⟩ := PL_h heq
        refine ⟨kb + ka + 1, Mb, by omega, (((L1.pf.tr w2.pf).tr r2.pf).tr x2).tr y2, y3, ?_, fun p h1 h2 => ?_, fun p hp => ?_, fun f => ?_⟩
        · rw [z1, ← List.append_assoc]; exact y4
        · rw [z2 p]
          by_cases cp : p < (2 * q + 1) * 2 ^ e
          · rw [if_pos cp, y6 p (by omega)]
            exact x5 p (by omega) (by omega)
          · rw [if_neg cp]
            exact y5 p (by omega) (by omega)
        · rw [y6 p (by omega), x6 p (by omega)]; exact g17 p
        · rw [← Nat.add_assoc, lp_S, beg, if_pos (Nat.succ_pos e)]
          unfold fX11_layBy
          rw [if_neg q0, b1, bi_s, if_pos rfl, m1, e2, bm_s, m2, e3, bm_s, bm_s, ← Nat.add_assoc, x7, y7]
      · have hx := PL_x hh heq
        obtain ⟨f1, f2, f3⟩ := fk_ok hx
        have hm := md_lt h hh _ f1 f2.1
        have hv := f2.2
        have hTe : S 140 - (4 + (e + 1)) = T - (e + 1) := by omega
        obtain ⟨M2, e2, w1, w2, w3⟩ := X11_layItself (n1 := 12288) (a1 := m + 11) (V := PF (wi S (S 0)) (S 0) (e + 1) q) (e := 4 + (e + 1)) (q := q) (h := h) hfu hC1.1 hG (by omega) (by rw [hTe]; exact hq) hh (Nat.le_refl _) (by omega) (fun j hj => by rw [hTe]; exact hPV (e + 1) q j he hq hj) (fun j hj => PF_le _ _ _ _ hj) hx B1 (by omega) p4 (by omega)
        rw [hTe] at e2 w2
        have g17 : ∀ p, M2.1 (m + 17) p = M.1 (m + 17) p := fun p => by rw [w3.1 (m + 17) (by omega) (by omega)]; exact L17 p
        obtain ⟨ka, Ma, x1, x2, x3, x4, x5, x6, x7⟩ := IHn (md h (fk (PF (wi S (S 0)) (S 0) (e + 1) q) h)) (by omega) st (l ++ [(q * 2 ^ (4 + (e + 1)), 2 ^ (4 + (e + 1)), fk (PF (wi S (S 0)) (S 0) (e + 1) q) h)]) M2 (hC1.pf w3.pf) (by omega) (by rw [hTT]; exact hq) (by omega) hs (by rw [hTT]; exact w2) w1 (by rw [List.length_append]; show l.length + 1 + _ < 2100; omega)
        obtain ⟨z1, z2⟩ := PL_i hh heq
        have qn : ¬ nI (Ph (wi S (S 0)) (S 0) e q h) = nI (PF (wi S (S 0)) (S 0) (e + 1) q h) := fun z => heq ((nI_eq (by omega) (by omega)).mp z)
        refine ⟨ka + 1, Ma, by omega, (L1.pf.tr w3.pf).tr x2, x3, ?_, fun p h1 h2 => ?_, fun p hp => ?_, fun f => ?_⟩
        · rw [z1]
          rw [List.append_assoc] at x4
          exact x4
        · rw [z2 p]; exact x5 p h1 h2
        · rw [x6 p hp]; exact g17 p
        · rw [← Nat.add_assoc, lp_S, beg, if_pos (Nat.succ_pos e)]
          unfold fX11_layBy
          rw [if_neg q0, b1, bi_s, if_neg qn, e2, bm_s, x7]
termination_by e _ n => (e, n)
def ppS (S : Sto) : List Bk := PL (wi S (S 0)) (S 0) (S 140 - 4) 0 5
def pgS (S : Sto) (p : Nat) : Nat := PG (wi S (S 0)) (S 0) (S 140 - 4) 0 5 p
theorem X11_layPagedPlan (hfu : 200000 ≤ fu) (hV : VM S M m) (hG : Gd S) : Wp (fX11_layPagedPlan fu m M) (fun M' => MB M' m (ppS S) ∧ (∀ p, p < 2 ^ S 140 / 16 → M'.1 (m + 17) p = nI (pgS S p)) ∧ Sc m M M') := by
  have hd5 := hG.1.2.2.2.2.1
  have hcv := cvS_le hG hd5
  obtain ⟨T, hT, hT6, hpg, hT64, hT1⟩ := pg_T hG
  have hTT : S 140 - 4 = T := by omega
  have hpf : PF (wi S (S 0)) (S 0) T 0 5 ≤ 157 := by
    have h1 := PF_Fw (wi S (S 0)) (S 0) T 0 5 (by omega)
    unfold cvS at hcv
    rw [hT] at hcv
    omega
  unfold fX11_layPagedPlan
  rw [wp_bm]
  refine (X11_layPageFewest hfu hV hG).mono fun M0 h0 => ?_
  obtain ⟨hC, hS⟩ := h0
  simp (disch := omega) only [lt_eq]
  generalize hM1 : wI (wI M0 m 33 0) m 32 0 = M1
  have L1 : Lf m M0 M1 := by rw [← hM1]; exact (Lf.w0 _ _ (Or.inr rfl)).tr (Lf.w0 _ _ (Or.inl rfl))
  have W1 : WT M1 m [] := ⟨by rw [← hM1]; simp (disch := omega) only [wI_ne, wI_eq, wI_nk, wIs_ne, wIs_eq]; rfl, fun i p hp => by simp at hp⟩
  have B1 : MB M1 m [] := ⟨by rw [← hM1]; simp (disch := omega) only [wI_ne, wI_eq, wI_nk, wIs_ne, wIs_eq]; rfl, fun i p hp => by simp at hp⟩
  rw [wp_bm]
  refine (X11_waits (fu := fu) (a := 1) (b := 5) W1 (by decide)).mono fun M2 h2 => ?_
  obtain ⟨q1, q2, q3⟩ := h2
  obtain ⟨k, M3, r1, r2, r3, r4, r5, r6, r7⟩ := X11_pgRun hfu hG T 0 6 5 [] [] M2 (by omega) ((hC.pf L1.pf).pf q2.pf) (by omega) (by rw [hTT, Nat.sub_self]; decide) (by omega) (by show 0 + T + 10 < 4200; omega) (by rw [hTT, Nat.sub_self]; exact q1) (q3 _ B1) (by show 0 + _ < 2100; omega)
  obtain ⟨f, hf⟩ : ∃ f, fu = (f + 1) + k := ⟨fu - k - 1, by omega⟩
  have e1 : fX11_layPagedPlan_l20 fu m M2 = lp (lqF fu m) fu M2 := rfl
  have e2 : lp (lqF fu m) fu M2 = lp (lqF fu m) (f + 1 + k) M2 := by rw [← hf]
  have w0 : M3.1 m 32 = nI 0 := r3.1
  rw [e1, e2, r7, lp_S]
  unfold lqF fX11_layPagedPlan_b20 fX11_layPagedPlan_j104 ppS pgS
  rw [w0, if_pos (show (nI 0 : Int32) ≤ 0 from Int32.le_refl _), wp_some, hTT]
  exact ⟨r4, fun p hp => r5 p (by omega) (by omega), (((hS.tr L1.sc).tr q2.sc).tr r2.sc)⟩
end RQ
