/-! tidy, both sides. -/
section TD
variable {fu a m k u n : Nat} {S : Sto} {M M1 : Mm} {Hs : Nat → Sto} {f : Nat → Nat}
theorem tdR_w {i : Nat} : tdR S (i + 1) 1 = tdR S i 1 + if wS S (ruS S i) = S 0 then 0 else 1 := by
  by_cases d : wS S (ruS S i) = S 0
  · rw [tdR_y d, if_pos d]
    rfl
  · rw [tdR_n d, if_neg d]
    rfl
theorem X10_tidy_l (hfu : 200000 ≤ fu) (hG : Gd S) (hV : VX S M1 (a + 12)) (hP : PV S M1 (a + 198) n f) : fX10_tidy_l9 fu a (a + 198) M1 0 0 = fX10_tidy_j47 fu a (a + 198) (nI (tdR S (rnS S) 1)) M1 := by
  have hR := rn_le hG
  unfold fX10_tidy_l9
  refine lp_ue (fun i => (nI (tdR S i 1), nI i)) (rnS S) (by show _ = (nI (upS S 1 0 1), nI 0); rw [upS_y]; rfl) (by omega) (fun i hi rec => ?_) (fun rec => ?_)
  · have h1 := hP.rk hi
    have s1 := wS_lt hG (ruS S i)
    have s0 := hG.1.2.2.2.2.1
    have t1 := tdR_1 S i
    show fX10_tidy_b9 fu _ a (a + 198) (nI (tdR S i 1)) (nI i) M1 = rec (nI (tdR S (i + 1) 1), nI (i + 1))
    unfold fX10_tidy_b9 fX10_tidy_j39
    rw [hP.rc, if_neg (nI_ge hi (by omega)), if_neg (nI_in (by omega) (by omega)), ix_n (by omega), h1, hV.1.2.2.1, tdR_w]
    by_cases d : wS S (ruS S i) = S 0
    · rw [if_pos (by rw [d]), if_pos d, lt_eq, lt_eq, nI_1]
      show rec (nI (tdR S i 1) + nI 0, _) = _
      rw [nI_add]
    · rw [if_neg (fun z => d ((nI_eq (by omega) (by omega)).mp z)), if_neg d, lt_eq, lt_eq, nI_1, nI_1]
  · show fX10_tidy_b9 fu _ a (a + 198) (nI (tdR S (rnS S) 1)) (nI (rnS S)) M1 = _
    unfold fX10_tidy_b9
    rw [hP.rc, if_pos (Int32.le_refl _)]
theorem X10_tidy_n (hfu : 200000 ≤ fu) (hG : Gd S) (e : fX10_piecesNow fu a M = some M1) (hV : VX S M1 (a + 12)) (hP : PV S M1 (a + 198) n f) (hc : ¬ tdR S (rnS S) 1 ≤ 12) : fX10_tidy fu a M = some (mI, M1) := by
  have hR := rn_le hG
  have t1 := tdR_1 S (rnS S)
  unfold fX10_tidy
  rw [e, bm_s, X10_tidy_l hfu hG hV hP]
  unfold fX10_tidy_j47
  have c12 : ¬ nI (tdR S (rnS S) 1) ≤ (12 : Int32) := fun z => hc ((nI_leI (a := tdR S (rnS S) 1) (b := 12) (by omega) (by omega)).mp z)
  rw [if_neg c12]
  rfl
theorem VX.up1 (hV : VX S M (a + 12)) : VX (upS S 1 0) (wI M (a + 12) 3 (nI 0)) (a + 12) := by
  obtain ⟨⟨a0, a1, a2, a3, a4⟩, a5, a6, a7, a8⟩ := hV
  have e : ∀ j, j ≠ 1 → upS S 1 0 j = S j := fun j hj => upS_n hj
  unfold VX
  rw [e 140 (by omega), e 141 (by omega), e 142 (by omega), e 0 (by omega), upS_y]
  refine ⟨⟨?_, ?_, ?_, ?_, ?_⟩, fun r hr => ?_, fun h p hp => ?_, fun r hr => ?_, fun p hp => ?_⟩
  · simp (disch := omega) only [wI_ne, wI_eq, wI_nk, wIs_ne, wIs_eq, a0]
  · simp (disch := omega) only [wI_ne, wI_eq, wI_nk, wIs_ne, wIs_eq, a1]
  · simp (disch := omega) only [wI_ne, wI_eq, wI_nk, wIs_ne, wIs_eq, a2]
  · simp (disch := omega) only [wI_ne, wI_eq, wI_nk, wIs_ne, wIs_eq]
  · simp (disch := omega) only [wI_ne, wI_eq, wI_nk, wIs_ne, wIs_eq, a4]
  · omega
  · rw [e _ (by omega)]
    simp (disch := omega) only [wI_ne, wI_eq, wI_nk, wIs_ne, wIs_eq]
    exact a6 h p hp
  · rw [e _ (by omega), e _ (by omega), e _ (by omega)]
    simp (disch := omega) only [wI_ne, wI_eq, wI_nk, wIs_ne, wIs_eq]
    exact a7 r hr
  · rw [e _ (by omega)]
    simp (disch := omega) only [wI_ne, wI_eq, wI_nk, wIs_ne, wIs_eq]
    exact a8 p hp
theorem X10_tidy_y (hfu : 200000 ≤ fu) (hG : Gd S) (e : fX10_piecesNow fu a M = some M1) (hV : VX S M1 (a + 12)) (hP : PV S M1 (a + 198) n f) (hH : HX Hs k u M1 (a + 21)) (hc : tdR S (rnS S) 1 ≤ 12) : Wp (fX10_tidy fu a M) (XW a Hs k M1 (tdR S (rnS S)) (nI (tdR S (rnS S) 1))) := by
  have hR := rn_le hG
  have hA := hG.ad
  unfold fX10_tidy
  rw [e, bm_s, X10_tidy_l hfu hG hV hP]
  unfold fX10_tidy_j47
  have c12 : nI (tdR S (rnS S) 1) ≤ (12 : Int32) := nI_le (b := 12) hc (by omega)
  rw [if_pos c12, lt_eq]
  unfold fX10_tidy_l65
  refine lp_ho (fun i z => z.1 = nI i ∧ VX (tdR S i) z.2 (a + 12) ∧ Fr (a + 12) 9 M1 z.2) _ (rnS S) (i := 0) (by omega) (by omega) ⟨rfl, show VX (tdR S 0) (wI M1 (a + 12) 3 0) (a + 12) from hV.up1, Fr.w1 _ _ _ _ (by omega) (by omega)⟩ (fun i z hi hz rec hrec => ?_) (fun z hz rec => ?_)
  · obtain ⟨z1, z2⟩ := z
    obtain ⟨rfl, g1, g2⟩ := hz
    dsimp only at *
    have hm := tdR_m S (i + 1) (rnS S) (by omega)
    have hm1 := tdR_m S i (i + 1) (by omega)
    have Pz : PV S z2 (a + 198) n f := hP.fr fun c k1 k2 _ => g2.at (by omega)
    have e1 := Pz.rs (i := i) (by omega)
    have e2 := Pz.rs (i := i + 1) (by omega)
    have e3 := Pz.rk hi
    have hu := ru_up hi
    have hl := ru_le S (i + 1)
    have s1 := wS_lt hG (ruS S i)
    have s0 := hG.1.2.2.2.2.1
    have e0 : tdR S i 0 = S 0 := tdR_e S i (by omega) _ (by omega)
    have v0 : z2.1 (a + 12) 2 = nI (S 0) := by rw [g1.1.2.2.1, e0]
    have e5 : nI (ruS S (i + 1)) - 1 = nI (ruS S (i + 1) - 1) := zi_sub (a := ruS S (i + 1)) (b := 1) (by omega)
    unfold fX10_tidy_b65 fX10_tidy_j118
    rw [Pz.rc, if_neg (nI_ge hi (by omega)), if_neg (nI_in (by omega) (by omega)), nI_1, if_neg (nI_in (by omega) (by omega)), ix_n (by omega), ix_n (by omega), e1, e2, e3, v0, e5]
    by_cases d : wS S (ruS S i) = S 0
    · rw [if_pos (by rw [d]), lt_eq]
      exact hrec _ ⟨rfl, by rw [tdR_y d]; exact g1, g2⟩
    · rw [if_neg (fun z => d ((nI_eq (by omega) (by omega)).mp z)), wp_bm]
      have h1 : tdR S (i + 1) 1 = tdR S i 1 + 1 := by rw [tdR_w, if_neg d]
      refine (X8_addSpan g1 (hG.td i (by omega) (by omega)) (by omega) _ _ _).mono fun M2 q => ?_
      obtain ⟨q1, q2⟩ := q
      rw [lt_eq]
      exact hrec _ ⟨rfl, by rw [tdR_n d]; exact q1, g2.tr q2⟩
  · obtain ⟨z1, z2⟩ := z
    obtain ⟨rfl, g1, g2⟩ := hz
    dsimp only at *
    have Pz : PV S z2 (a + 198) n f := hP.fr fun c k1 k2 _ => g2.at (by omega)
    unfold fX10_tidy_b65 fX10_tidy_j124
    rw [Pz.rc, if_pos (Int32.le_refl _), wp_bm]
    refine (X10_wantedDone g1 (hG.td _ (by omega) hc) (hH.pre g2)).mono fun M3 p => ?_
    obtain ⟨p1, p2, p3⟩ := p
    rw [wp_some]
    exact ⟨p1.1.2.2.2.1, p1, p2, p3.pre g2⟩
theorem X11_tidy_l (hfu : 200000 ≤ fu) (hV : VM S M m) (hG : Gd S) : fX11_tidy fu m M = fX11_tidy_j45 fu m (nI (tdR S (rnS S) 1)) M := by
  have hR := rn_le hG
  have hA := hG.ad
  have e00 : ix 0 = 0 := by decide +kernel
  unfold fX11_tidy fX11_tidy_l4
  refine lp_ue (fun i => (nI (tdR S i 1), nI (ruS S i))) (rnS S) (by show _ = (nI (upS S 1 0 1), nI (ruS S 0)); rw [upS_y, ru_0]; rfl) (by omega) (fun i hi rec => ?_) (fun rec => ?_)
  · have s1 := wS_lt hG (ruS S i)
    have s0 := hG.1.2.2.2.2.1
    have t1 := tdR_1 S i
    have hu := ru_up hi
    have hl := ru_le S (i + 1)
    obtain ⟨hlt, _, _⟩ := ru_in hi
    have w1 : fX11_wantedAt fu m (nI (ruS S i)) M = some (nI (wS S (ruS S i))) := X11_wantedAt hfu hV hG (by omega)
    have r1 := X11_runEnd hfu hV hG hi
    have e2 : nI (ruS S (i + 1) - 1) + 1 = nI (ruS S (i + 1)) := by rw [nI_1, Nat.sub_add_cancel (by omega)]
    show fX11_tidy_b4 fu _ m (nI (tdR S i 1)) (nI (ruS S i)) M = rec (nI (tdR S (i + 1) 1), nI (ruS S (i + 1)))
    unfold fX11_tidy_b4 fX11_tidy_j32
    rw [X11_addresses hV hG, bi_s, if_neg (nI_ge hlt (by omega)), w1, bi_s, e00, hV.2 0 (by omega), r1, tdR_w]
    by_cases d : wS S (ruS S i) = S 0
    · rw [if_pos (by rw [d]), if_pos d, lt_eq, bi_s, lt_eq, e2]
      show rec (nI (tdR S i 1) + nI 0, _) = _
      rw [nI_add]
    · rw [if_neg (fun z => d ((nI_eq (by omega) (by omega)).mp z)), if_neg d, lt_eq, bi_s, lt_eq, e2, nI_1]
  · show fX11_tidy_b4 fu _ m (nI (tdR S (rnS S) 1)) (nI (ruS S (rnS S))) M = _
    unfold fX11_tidy_b4
    rw [X11_addresses hV hG, bi_s, ru_n, if_pos (Int32.le_refl _)]
theorem X11_tidy_n (hfu : 200000 ≤ fu) (hV : VM S M m) (hG : Gd S) (hc : ¬ tdR S (rnS S) 1 ≤ 12) : fX11_tidy fu m M = some (mI, M) := by
  have hR := rn_le hG
  have t1 := tdR_1 S (rnS S)
  rw [X11_tidy_l hfu hV hG]
  unfold fX11_tidy_j45
  have c12 : ¬ nI (tdR S (rnS S) 1) ≤ (12 : Int32) := fun z => hc ((nI_leI (a := tdR S (rnS S) 1) (b := 12) (by omega) (by omega)).mp z)
  rw [if_neg c12]
  rfl
theorem X11_tidy_y (hfu : 200000 ≤ fu) (hV : VM S M m) (hG : Gd S) (hH : HM Hs k u M m) (hk : Hs k = S) (hc : tdR S (rnS S) 1 ≤ 12) : Wp (fX11_tidy fu m M) (RA m Hs k M (tdR S (rnS S)) (nI (tdR S (rnS S) 1))) := by
  have hR := rn_le hG
  have hA := hG.ad
  have e00 : ix 0 = 0 := by decide +kernel
  have e01 : ix 1 = 1 := by decide +kernel
  rw [X11_tidy_l hfu hV hG]
  unfold fX11_tidy_j45
  have c12 : nI (tdR S (rnS S) 1) ≤ (12 : Int32) := nI_le (b := 12) hc (by omega)
  rw [if_pos c12, wp_bm]
  refine (X11_keepAct hfu hH (hV.hk hk)).mono fun M1 q => ?_
  have V1 := hV.ka q.2
  unfold fX11_tidy_l61
  refine lp_ho (fun i z => z.1 = nI (tdR S i 1) ∧ z.2.1 = nI (ruS S i) ∧ (∀ j, j < 3 * tdR S i 1 → z.2.2.1 (m + 23) j = nI (tdR S i (2 + j))) ∧ O1 (m + 23) M1 z.2.2) _ (rnS S) (i := 0) (by omega) (by omega) ⟨?_, ?_, fun j hj => ?_, ⟨fun _ _ => rfl, rfl⟩⟩ (fun i z hi hz rec hrec => ?_) (fun z hz rec => ?_)
  · show (0 : Int32) = nI (upS S 1 0 1)
    rw [upS_y]
    rfl
  · show (0 : Int32) = nI (ruS S 0)
    rw [ru_0]
    rfl
  · have hj : j < 3 * upS S 1 0 1 := hj
    rw [upS_y] at hj
    omega
  · obtain ⟨z0, z1, z2⟩ := z
    obtain ⟨rfl, rfl, g1, g2⟩ := hz
    dsimp only at *
    have hm := tdR_m S (i + 1) (rnS S) (by omega)
    have hm1 := tdR_m S i (i + 1) (by omega)
    have s1 := wS_lt hG (ruS S i)
    have s0 := hG.1.2.2.2.2.1
    have hu := ru_up hi
    have hl := ru_le S (i + 1)
    obtain ⟨hlt, _, _⟩ := ru_in hi
    have sc : ∀ M2, O1 (m + 23) M1 M2 → VM S M2 m := fun M2 h => V1.sc (Sc.o1 h (by omega) (by omega))
    have w1 : ∀ M2, O1 (m + 23) M1 M2 → fX11_wantedAt fu m (nI (ruS S i)) M2 = some (nI (wS S (ruS S i))) := fun M2 h => X11_wantedAt hfu (sc M2 h) hG (by omega)
    have r1 : ∀ M2, O1 (m + 23) M1 M2 → fX11_runEnd fu m (nI (ruS S i)) M2 = some (nI (ruS S (i + 1) - 1)) := fun M2 h => X11_runEnd hfu (sc M2 h) hG hi
    have e2 : nI (ruS S (i + 1) - 1) + 1 = nI (ruS S (i + 1)) := by rw [nI_1, Nat.sub_add_cancel (by omega)]
    unfold fX11_tidy_b61 fX11_tidy_j128
    rw [X11_addresses (sc z2 g2) hG, bi_s, if_neg (nI_ge hlt (by omega)), w1 z2 g2, bi_s, e00, (sc z2 g2).2 0 (by omega), r1 z2 g2, bi_s, lt_eq, e2]
    by_cases d : wS S (ruS S i) = S 0
    · rw [if_pos (by rw [d])]
      exact hrec _ ⟨by rw [tdR_y d], rfl, by rw [tdR_y d]; exact g1, g2⟩
    · have h1 : tdR S (i + 1) 1 = tdR S i 1 + 1 := by rw [tdR_w, if_neg d]
      have e3 : (3 : Int32) * nI (tdR S i 1) = nI (3 * tdR S i 1) := zi_mul 3 _
      have e4 : nI (3 * tdR S i 1) + 2 = nI (3 * tdR S i 1 + 2) := nI_add _ 2
      have o1 : O1 (m + 23) M1 (wI z2 (m + 23) (3 * tdR S i 1) (nI (ruS S i))) := ⟨fun c hc => by rw [wI_ne hc]; exact g2.1 c hc, g2.2⟩
      have o2 : O1 (m + 23) M1 (wI (wI z2 (m + 23) (3 * tdR S i 1) (nI (ruS S i))) (m + 23) (3 * tdR S i 1 + 1) (nI (ruS S (i + 1) - 1))) := ⟨fun c hc => by rw [wI_ne hc]; exact o1.1 c hc, g2.2⟩
      have o3 : O1 (m + 23) M1 (wI (wI (wI z2 (m + 23) (3 * tdR S i 1) (nI (ruS S i))) (m + 23) (3 * tdR S i 1 + 1) (nI (ruS S (i + 1) - 1))) (m + 23) (3 * tdR S i 1 + 2) (nI (wS S (ruS S i)))) := ⟨fun c hc => by rw [wI_ne hc]; exact o2.1 c hc, g2.2⟩
      rw [if_neg (fun z => d ((nI_eq (by omega) (by omega)).mp z)), e3, nI_1, e4, if_neg (nI_in (by omega) (by omega)), ix_n (by omega), lt_eq, r1 _ o1, bi_s, if_neg (nI_in (by omega) (by omega)), ix_n (by omega), lt_eq, w1 _ o2, bi_s, if_neg (nI_in (by omega) (by omega)), ix_n (by omega), lt_eq, lt_eq, nI_1, r1 _ o3, bi_s, lt_eq, e2]
      refine hrec _ ⟨by rw [h1], rfl, fun j hj => ?_, o3⟩
      rw [h1] at hj
      have hj : j < 3 * (tdR S i 1 + 1) := hj
      rw [tdR_n d]
      unfold adS
      rw [if_neg (by omega)]
      by_cases c0 : j = 3 * tdR S i 1
      · subst c0
        rw [if_pos rfl]
        simp (disch := omega) only [wI_ne, wI_eq, wI_nk, wIs_ne, wIs_eq]
      · rw [if_neg (by omega)]
        by_cases c1 : j = 3 * tdR S i 1 + 1
        · subst c1
          rw [if_pos (by omega)]
          simp (disch := omega) only [wI_ne, wI_eq, wI_nk, wIs_ne, wIs_eq]
        · rw [if_neg (by omega)]
          by_cases c2 : j = 3 * tdR S i 1 + 2
          · subst c2
            rw [if_pos (by omega)]
            simp (disch := omega) only [wI_ne, wI_eq, wI_nk, wIs_ne, wIs_eq]
          · rw [if_neg (by omega)]
            simp (disch := omega) only [wI_ne, wI_eq, wI_nk, wIs_ne, wIs_eq]
            exact g1 j (by omega)
  · obtain ⟨z0, z1, z2⟩ := z
    obtain ⟨rfl, rfl, g1, g2⟩ := hz
    dsimp only at *
    have V2 : VM S z2 m := V1.sc (Sc.o1 g2 (by omega) (by omega))
    unfold fX11_tidy_b61 fX11_tidy_j139 fX11_tidy_l141
    rw [X11_addresses V2 hG, bi_s, ru_n, if_pos (Int32.le_refl _)]
    have e3 : (3 : Int32) * nI (tdR S (rnS S) 1) = nI (3 * tdR S (rnS S) 1) := zi_mul 3 _
    refine lp_ho (fun i z => z.1 = nI i ∧ (∀ j, j < 140 → z.2.1 (m + 1) j = nI (if 2 ≤ j ∧ j < 2 + i then tdR S (rnS S) j else S j)) ∧ O1 (m + 1) z2 z.2) _ (3 * tdR S (rnS S) 1) (i := 0) (by omega) (by omega) ⟨rfl, fun j hj => by rw [if_neg (by omega)]; exact V2.2 j hj, ⟨fun _ _ => rfl, rfl⟩⟩ (fun i z hi hz rec hrec => ?_) (fun z hz rec => ?_)
    · obtain ⟨z1, z3⟩ := z
      obtain ⟨rfl, k1, k2⟩ := hz
      dsimp only at *
      have e4 : (2 : Int32) + nI i = nI (2 + i) := nI_add 2 i
      unfold fX11_tidy_b141
      rw [e3, if_neg (nI_ge hi (by omega)), if_neg (nI_in (by omega) (by omega)), e4, if_neg (nI_in (by omega) (by omega)), ix_n (by omega), ix_n (by omega), k2.1 (m + 23) (by omega), g1 i hi, lt_eq, lt_eq, nI_1]
      refine hrec _ ⟨rfl, fun j hj => ?_, ⟨fun c hc => by rw [wI_ne hc]; exact k2.1 c hc, k2.2⟩⟩
      by_cases c : j = 2 + i
      · subst c
        rw [if_pos (by omega), wI_eq]
      · rw [wI_nk c, k1 j hj]
        by_cases c2 : 2 ≤ j ∧ j < 2 + i
        · rw [if_pos c2, if_pos (by omega)]
        · rw [if_neg c2, if_neg (by omega)]
    · obtain ⟨z1, z3⟩ := z
      obtain ⟨rfl, k1, k2⟩ := hz
      dsimp only at *
      unfold fX11_tidy_b141 fX11_tidy_j168
      rw [e3, if_pos (Int32.le_refl _), lt_eq, e01, wp_some]
      have g0 := tdR_e S (rnS S) hc
      have gg : Gm S (tdR S (rnS S)) := ⟨g0 _ (by omega), g0 _ (by omega), g0 _ (by omega)⟩
      have q' : (∀ S, HM (ntH Hs k S) (ntK k) 0 z2 m) ∧ Sc m M1 z2 := ⟨fun S => (q.1 S).sc (Sc.o1 g2 (by omega) (by omega)), Sc.o1 g2 (by omega) (by omega)⟩
      have o4 : O1 (m + 1) z2 (wI z3 (m + 1) 1 (nI (tdR S (rnS S) 1))) := ⟨fun c hc => by rw [wI_ne hc]; exact k2.1 c hc, k2.2⟩
      refine ⟨rfl, V2.o gg o4 (fun j hj => ?_), (q'.1 _).fr (by rw [o4.1 m (by omega)]) (by rw [o4.1 m (by omega)]) (o4.1 _ (by omega)), ((RD.ka q.2).tr (RD.sc q'.2)).tr (RD.o o4)⟩
      by_cases c : j = 1
      · subst c
        rw [wI_eq]
      · rw [wI_nk c, k1 j hj]
        by_cases c2 : 2 ≤ j ∧ j < 2 + 3 * tdR S (rnS S) 1
        · rw [if_pos c2]
        · rw [if_neg c2]
          by_cases c3 : j = 0
          · subst c3
            rw [g0 0 (by omega)]
          · rw [tdR_o S (rnS S) j (by omega)]
end TD
