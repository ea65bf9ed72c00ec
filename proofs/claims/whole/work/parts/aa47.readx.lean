/-! The class reads a whole text. -/
/-- the reader's flags -/
def GX (g : Nat → Nat) (M : Mm) (c : Nat) : Prop := ∀ j, j < 5 → M.1 c (9 + j) = nI (g j)
/-- the reader and its store -/
def RG (c : Nat) (M M' : Mm) : Prop := (∀ c', c' ≠ c → (c' < c + 2 ∨ c + 11 ≤ c') → M'.1 c' = M.1 c') ∧ (∀ j, (j = 1 ∨ 14 ≤ j) → M'.1 c j = M.1 c j) ∧ M'.2 = M.2
theorem RF.g {c : Nat} {M M' : Mm} (h : RF c M M') : RG c M M' := ⟨h.1, fun j hj => h.2.1 j (by omega), h.2.2⟩
theorem RG.tr {c : Nat} {M M' M'' : Mm} (h : RG c M M') (h' : RG c M' M'') : RG c M M'' := ⟨fun x h1 h2 => (h'.1 x h1 h2).trans (h.1 x h1 h2), fun j a1 => (h'.2.1 j a1).trans (h.2.1 j a1), h'.2.2.trans h.2.2⟩
theorem RG.w {c : Nat} (M : Mm) {j : Nat} (v : Int32) (hj : j ≠ 1 ∧ j < 14) : RG c M (wI M c j v) := ⟨fun c' hc _ => wI_ne hc, fun i _ => wI_nk (by omega), rfl⟩
theorem TpX.rg {t : Nat → Nat} {n c : Nat} {M M' : Mm} (h : TpX t n M c) (hf : RG c M M') : TpX t n M' c := ⟨h.1, by rw [hf.2.1 1 (by omega)]; exact h.2.1, fun j hj => by rw [hf.1 (c + 1) (by omega) (by omega)]; exact h.2.2 j hj⟩
def LY (r : Rs) (g : Nat → Nat) (M : Mm) (c : Nat) (z : Int32 × Mm) : Prop := (r.1 = 0 → z.1 = nI 1 ∧ z.2.1 c 5 = nI r.2.2.1 ∧ VF r.2.2.2 z.2 (c + 2) ∧ z.2.1 c 2 = M.1 c 2 ∧ z.2.1 c 3 = M.1 c 3 ∧ GX g z.2 c) ∧ (¬ r.1 = 0 → z.1 = nI 0 ∧ z.2.1 c 2 = nI r.1 ∧ z.2.1 c 3 = nI r.2.1) ∧ RG c M z.2
theorem LX.y {r : Rs} {g : Nat → Nat} {M M' : Mm} {c : Nat} {z : Int32 × Mm} (h : LX r M' c z) (hg : r.1 = 0 → GX g M' c) (hf : RG c M M') (h2 : M'.1 c 2 = M.1 c 2) (h3 : M'.1 c 3 = M.1 c 3) : LY r g M c z := ⟨fun e => by
  obtain ⟨a1, a2, a3, a4, a5⟩ := h.1 e
  exact ⟨a1, a2, a3, a4.trans h2, a5.trans h3, fun j hj => by rw [h.2.2.2.1 _ (by omega)]; exact hg e j hj⟩, h.2.1, hf.tr h.2.2.g⟩
theorem GX.w {g : Nat → Nat} {M : Mm} {c i : Nat} (h : GX g M c) : GX (upS g i 1) (wI M c (9 + i) 1) c := fun j hj => by
  by_cases e : j = i
  · rw [e, upS_y, wI_eq]
    rfl
  · rw [upS_n e, wI_nk (by omega)]
    exact h j hj
section RL
variable {fu c n p : Nat} {t : Nat → Nat} {M : Mm} {T : Sto} {g : Nat → Nat}
theorem X7_readLine (hfu : 200000 ≤ fu) (hT : TpX t n M c) (hX : TX t n p M c) (hpn : p ≤ n) (hV : VF T M (c + 2)) (hI : PI g T) (hF : GX g M c) : Wp (fX7_readLine fu c M) (LY (lnR t n p g T) (lnF t n p g) M c) := by
  have hG := hI.1.1
  have h12 := hG.1.2.2.2.2.2
  have hen := en_le (t := t) hpn
  have w : ∀ k, k < 12 → fX7_isWord fu c k M = some (bI (kwP t n p (cwN k))) := fun k hk => X7_isWord hfu hT hpn hX hk
  have h6 : M.1 c 6 = nI (stT t n p) := hX.2.1
  have h5 : M.1 c 5 = nI (enT t n p) := hX.1
  have f9 : M.1 c 9 = nI (g 0) := hF 0 (by omega)
  have f10 : M.1 c 10 = nI (g 1) := hF 1 (by omega)
  have f11 : M.1 c 11 = nI (g 2) := hF 2 (by omega)
  have f12 : M.1 c 12 = nI (g 3) := hF 3 (by omega)
  have f13 : M.1 c 13 = nI (g 4) := hF 4 (by omega)
  have g0 := hI.2.1 0 (by omega)
  have g1 := hI.2.1 1 (by omega)
  have g2 := hI.2.1 2 (by omega)
  have g3 := hI.2.1 3 (by omega)
  have g4 := hI.2.1 4 (by omega)
  have R0 : RG c M M := ⟨fun _ _ _ => rfl, fun _ _ => rfl, rfl⟩
  unfold fX7_readLine lnR lnF
  rw [w 0 (by omega), show cwN 0 = 5 from rfl, bi_s]
  by_cases c5 : kwP t n p 5
  · rw [bI_t c5, if_neg (show ¬ nI 1 = (0 : Int32) by decide), if_pos c5, if_pos c5, wp_bw]
    by_cases d : g 0 = 0 ∧ g 4 = 0
    · rw [if_pos d]
      refine (X7_readSpace_y hfu hT h5 hen.2 hV h12 (by rw [f9, d.1]) (by rw [f13, d.2])).mono fun z q => ?_
      rw [gd01 q.g, wp_some]
      exact q.y (fun _ => hF.w (i := 0)) (RG.w _ _ (by omega)) (wI_nk (by omega)) (wI_nk (by omega))
    · rw [if_neg d]
      refine (X7_readSpace_n h6 f9 f13 g0 g4 d).mono fun z q => ?_
      rw [gd01 q.g, wp_some]
      exact q.y (fun z => absurd z (show ¬ (3 : Nat) = 0 by decide)) R0 rfl rfl
  rw [bI_f c5, if_pos (show nI 0 = (0 : Int32) from rfl), if_neg c5, if_neg c5, w 1 (by omega), show cwN 1 = 6 from rfl, bi_s]
  by_cases c6 : kwP t n p 6
  · rw [bI_t c6, if_neg (show ¬ nI 1 = (0 : Int32) by decide), if_pos c6, if_pos c6, wp_bw]
    by_cases d : g 1 = 0 ∧ g 4 = 0
    · rw [if_pos d]
      refine (X7_readRegisters_y hfu hT h5 hen.2 hV h12 (by rw [f10, d.1]) (by rw [f13, d.2])).mono fun z q => ?_
      rw [gd01 q.g, wp_some]
      exact q.y (fun _ => hF.w (i := 1)) (RG.w _ _ (by omega)) (wI_nk (by omega)) (wI_nk (by omega))
    · rw [if_neg d]
      refine (X7_readRegisters_n h6 f10 f13 g1 g4 d).mono fun z q => ?_
      rw [gd01 q.g, wp_some]
      exact q.y (fun z => absurd z (show ¬ (3 : Nat) = 0 by decide)) R0 rfl rfl
  rw [bI_f c6, if_pos (show nI 0 = (0 : Int32) from rfl), if_neg c6, if_neg c6, w 2 (by omega), show cwN 2 = 7 from rfl, bi_s]
  by_cases c7 : kwP t n p 7
  · rw [bI_t c7, if_neg (show ¬ nI 1 = (0 : Int32) by decide), if_pos c7, if_pos c7, wp_bw]
    by_cases d : g 2 = 0 ∧ g 4 = 0
    · rw [if_pos d]
      refine (X7_readDefault_y hfu hT h5 hen.2 hV h12 (by rw [f11, d.1]) (by rw [f13, d.2])).mono fun z q => ?_
      rw [gd01 q.g, wp_some]
      exact q.y (fun _ => hF.w (i := 2)) (RG.w _ _ (by omega)) (wI_nk (by omega)) (wI_nk (by omega))
    · rw [if_neg d]
      refine (X7_readDefault_n h6 f11 f13 g2 g4 d).mono fun z q => ?_
      rw [gd01 q.g, wp_some]
      exact q.y (fun z => absurd z (show ¬ (3 : Nat) = 0 by decide)) R0 rfl rfl
  rw [bI_f c7, if_pos (show nI 0 = (0 : Int32) from rfl), if_neg c7, if_neg c7, lt_eq]
  have T4 : TpX t n (wI M c 13 1) c := hT.rg (RG.w _ _ (by omega))
  have V4 : VF T (wI M c 13 1) (c + 2) := VP.fr hV fun c' k1 k2 => wI_ne (by omega)
  have X4 : TX t n p (wI M c 13 1) c := by
    unfold TX
    rw [wI_nk (by omega), wI_nk (by omega), wI_nk (by omega), wI_nk (by omega)]
    exact hX
  have F4 : GX (upS g 4 1) (wI M c 13 1) c := hF.w (i := 4)
  have R4 : RG c M (wI M c 13 1) := RG.w _ _ (by omega)
  have k2 : (wI M c 13 1).1 c 2 = M.1 c 2 := wI_nk (by omega)
  have k3 : (wI M c 13 1).1 c 3 = M.1 c 3 := wI_nk (by omega)
  have f12 : (wI M c 13 1).1 c 12 = nI (g 3) := by rw [wI_nk (by omega)]; exact f12
  generalize wI M c 13 1 = M4 at T4 V4 X4 F4 R4 k2 k3 f12 ⊢
  have w : ∀ k, k < 12 → fX7_isWord fu c k M4 = some (bI (kwP t n p (cwN k))) := fun k hk => X7_isWord hfu T4 hpn X4 hk
  have h6 : M4.1 c 6 = nI (stT t n p) := X4.2.1
  have h5 : M4.1 c 5 = nI (enT t n p) := X4.1
  rw [w 8 (by omega), show cwN 8 = 8 from rfl, bi_s]
  by_cases c8 : kwP t n p 8
  · rw [bI_t c8, if_neg (show ¬ nI 1 = (0 : Int32) by decide), if_pos c8, if_pos c8, wp_bw]
    by_cases d : g 3 = 0
    · rw [if_pos d]
      refine (X7_readFixed_y hfu T4 h5 hen.2 V4 hG (by rw [f12, d])).mono fun z q => ?_
      rw [gd01 q.g, wp_some]
      refine q.y (fun _ => fun j hj => ?_) (R4.tr (RG.w _ _ (by omega))) ((wI_nk (by omega)).trans k2) ((wI_nk (by omega)).trans k3)
      have := F4.w (i := 3) j hj
      rw [show (9 + 3 : Nat) = 12 from rfl] at this
      rw [this]
      unfold upS
      by_cases e3 : j = 3
      · rw [if_pos e3, if_neg (by omega), if_pos e3]
      · rw [if_neg e3]
        by_cases e4 : j = 4
        · rw [if_pos e4, if_pos e4]
        · rw [if_neg e4, if_neg e4, if_neg e3]
    · rw [if_neg d]
      refine (X7_readFixed_n h6 (by rw [f12, show g 3 = 1 by omega])).mono fun z q => ?_
      rw [gd01 q.g, wp_some]
      exact q.y (fun z => absurd z (show ¬ (3 : Nat) = 0 by decide)) R4 k2 k3
  rw [bI_f c8, if_pos (show nI 0 = (0 : Int32) from rfl), if_neg c8, if_neg c8, w 9 (by omega), show cwN 9 = 9 from rfl, bi_s]
  by_cases c9 : kwP t n p 9
  · rw [bI_t c9, if_neg (show ¬ nI 1 = (0 : Int32) by decide), if_pos c9, wp_bw]
    refine (X7_readSpan hfu T4 h6 h5 hen.2 V4 hG).mono fun z q => ?_
    rw [gd01 q.g, wp_some]
    exact q.y (fun _ => F4) R4 k2 k3
  rw [bI_f c9, if_pos (show nI 0 = (0 : Int32) from rfl), if_neg c9, w 10 (by omega), show cwN 10 = 10 from rfl, bi_s]
  by_cases c10 : kwP t n p 10
  · rw [bI_t c10, if_neg (show ¬ nI 1 = (0 : Int32) by decide), if_pos c10, wp_bw]
    refine (X7_readRegister hfu T4 h6 h5 hen.2 V4 hG).mono fun z q => ?_
    rw [gd01 q.g, wp_some]
    exact q.y (fun _ => F4) R4 k2 k3
  rw [bI_f c10, if_pos (show nI 0 = (0 : Int32) from rfl), if_neg c10, w 11 (by omega), show cwN 11 = 11 from rfl, bi_s]
  by_cases c11 : kwP t n p 11
  · rw [bI_t c11, if_neg (show ¬ nI 1 = (0 : Int32) by decide), if_pos c11, wp_bw]
    refine (X7_readPage hfu T4 h5 hen.2 V4 hG).mono fun z q => ?_
    unfold fX7_readLine_j110
    rw [gd01 q.g, wp_some]
    exact q.y (fun _ => F4) R4 k2 k3
  rw [bI_f c11, if_pos (show nI 0 = (0 : Int32) from rfl), if_neg c11]
  obtain ⟨M3, e1, e2, e3, e4⟩ := X7_failed (fu := fu) 1 (stT t n p) h6
  have e1 : fX7_failed fu c 1 M4 = some (nI 0, M3) := e1
  rw [e1, bw_s]
  unfold fX7_readLine_j110
  rw [gd01 (Or.inl rfl), wp_some]
  exact (LX.fl (k := 1) (by omega) e2 e3 e4.rf).y (fun z => absurd z (show ¬ (1 : Nat) = 0 by decide)) R4 k2 k3
theorem X8_wipe {b : Nat} (hfu : 200000 ≤ fu) : Wp (fX8_wipe fu b M) (fun M' => VF tzS M' b ∧ Fr b 9 M M' ∧ M'.2 = M.2) := by
  have z : ∀ j, j ≠ 140 → j ≠ 141 → ¬ (76 ≤ j ∧ j < 140) → tzS j = 0 := fun j h1 h2 h3 => by
    unfold tzS
    rw [if_neg h1, if_neg h2, if_neg h3]
  have f : ∀ p, p < 64 → tzS (76 + p) = 5 := fun p hp => by
    unfold tzS
    rw [if_neg (by omega), if_neg (by omega), if_pos (by omega)]
  unfold fX8_wipe
  rw [lt_eq, lt_eq, lt_eq, lt_eq, lt_eq]
  have A1 : ∀ M', M' = wI (wI (wI (wI (wI M b 0 256) b 1 8) b 2 0) b 3 0) b 4 0 → M'.1 b 0 = nI 256 ∧ M'.1 b 1 = nI 8 ∧ M'.1 b 2 = nI 0 ∧ M'.1 b 3 = nI 0 ∧ M'.1 b 4 = nI 0 ∧ Fr b 9 M M' ∧ M'.2 = M.2 := fun M' e => by
    subst e
    refine ⟨?_, ?_, ?_, ?_, wI_eq, (((((Fr.w1 _ _ _ _ (by omega) (by omega)).tr (Fr.w1 _ _ _ _ (by omega) (by omega))).tr (Fr.w1 _ _ _ _ (by omega) (by omega))).tr (Fr.w1 _ _ _ _ (by omega) (by omega)))).tr (Fr.w1 _ _ _ _ (by omega) (by omega)), rfl⟩
    · simp (disch := omega) only [wI_ne, wI_eq, wI_nk, wIs_ne, wIs_eq]
      rfl
    · simp (disch := omega) only [wI_ne, wI_eq, wI_nk, wIs_ne, wIs_eq]
      rfl
    · simp (disch := omega) only [wI_ne, wI_eq, wI_nk, wIs_ne, wIs_eq]
      rfl
    · simp (disch := omega) only [wI_ne, wI_eq, wI_nk, wIs_ne, wIs_eq]
      rfl
  generalize wI (wI (wI (wI (wI M b 0 256) b 1 8) b 2 0) b 3 0) b 4 0 = M1 at A1 ⊢
  obtain ⟨a0, a1, a2, a3, a4, a5, a6⟩ := A1 M1 rfl
  unfold fX8_wipe_l30
  have main := lp_ho (F := fun (rec : (Int32 × Mm) → Option Mm) (s : Int32 × Mm) => fX8_wipe_b30 fu (fun x1 M => rec (x1, M)) b s.1 s.2) (fun i (s : Int32 × Mm) => s.1 = nI i ∧ s.2.1 b = M1.1 b ∧ (∀ r, r < i → s.2.1 (b + 5) r = nI 0 ∧ s.2.1 (b + 6) r = nI 0 ∧ s.2.1 (b + 7) r = nI 0) ∧ Fr b 9 M s.2 ∧ s.2.2 = M.2) (fun M' => VF tzS M' b ∧ Fr b 9 M M' ∧ M'.2 = M.2) 10 (fu := fu) (i := 0) (z := (0, M1)) (by omega) (by omega) ⟨rfl, rfl, fun r hr => absurd hr (by omega), a5, a6⟩ ?_ ?_
  · exact main
  · intro i s hi hs rec hrec
    obtain ⟨x, M2⟩ := s
    obtain ⟨s1, s2, s3, s4, s5⟩ := hs
    dsimp only at *
    subst s1
    unfold fX8_wipe_b30
    rw [if_neg (show ¬ (10 : Int32) ≤ nI i from nI_ge (a := i) (b := 10) hi (by omega)), X8_put hi, bm_s, lt_eq, nI_1]
    refine hrec _ ⟨rfl, ?_, fun r hr => ?_, s4.tr (((Fr.w1 _ _ _ _ (by omega) (by omega)).tr (Fr.w1 _ _ _ _ (by omega) (by omega))).tr (Fr.w1 _ _ _ _ (by omega) (by omega))), s5⟩
    · dsimp only
      rw [wI_ne (by omega), wI_ne (by omega), wI_ne (by omega)]
      exact s2
    · dsimp only
      by_cases e : r = i
      · subst e
        simp (disch := omega) only [wI_ne, wI_eq, wI_nk, wIs_ne, wIs_eq]
        exact ⟨rfl, rfl, rfl⟩
      · simp (disch := omega) only [wI_ne, wI_eq, wI_nk, wIs_ne, wIs_eq]
        exact s3 r (by omega)
  · intro s hs rec
    obtain ⟨x, M2⟩ := s
    obtain ⟨s1, s2, s3, s4, s5⟩ := hs
    dsimp only at *
    subst s1
    unfold fX8_wipe_b30
    rw [if_pos (show (10 : Int32) ≤ nI 10 by decide)]
    unfold fX8_wipe_j50 fX8_wipe_l52
    have main := lp_ho (F := fun (rec : (Int32 × Mm) → Option Mm) (s : Int32 × Mm) => fX8_wipe_b52 fu (fun x1 M => rec (x1, M)) b s.1 s.2) (fun i (s : Int32 × Mm) => s.1 = nI i ∧ s.2.1 b = M1.1 b ∧ (∀ c, c ≠ b + 8 → s.2.1 c = M2.1 c) ∧ (∀ r, r < i → s.2.1 (b + 8) r = nI 5) ∧ Fr b 9 M s.2 ∧ s.2.2 = M.2) (fun M' => VF tzS M' b ∧ Fr b 9 M M' ∧ M'.2 = M.2) 64 (fu := fu) (i := 0) (z := (0, M2)) (by omega) (by omega) ⟨rfl, s2, fun _ _ => rfl, fun r hr => absurd hr (by omega), s4, s5⟩ ?_ ?_
    · exact main
    · intro i s hi hs rec hrec
      obtain ⟨x, M3⟩ := s
      obtain ⟨v1, v2, v3, v4, v5, v6⟩ := hs
      dsimp only at *
      subst v1
      unfold fX8_wipe_b52
      rw [if_neg (show ¬ (64 : Int32) ≤ nI i from nI_ge (a := i) (b := 64) hi (by omega)), if_neg (nI_in hi (by omega)), ix_n (by omega), lt_eq, lt_eq, nI_1]
      refine hrec _ ⟨rfl, ?_, fun c hc => ?_, fun r hr => ?_, v5.tr (Fr.w1 _ _ _ _ (by omega) (by omega)), v6⟩
      · dsimp only
        rw [wI_ne (by omega)]
        exact v2
      · dsimp only
        rw [wI_ne hc]
        exact v3 c hc
      · dsimp only
        by_cases e : r = i
        · subst e
          rw [wI_eq]
          rfl
        · rw [wI_nk (by omega)]
          exact v4 r (by omega)
    · intro s hs rec
      obtain ⟨x, M3⟩ := s
      obtain ⟨v1, v2, v3, v4, v5, v6⟩ := hs
      dsimp only at *
      subst v1
      unfold fX8_wipe_b52
      rw [if_pos (show (64 : Int32) ≤ nI 64 by decide)]
      unfold fX8_wipe_j71
      rw [wp_some]
      refine ⟨?_, v5, v6⟩
      unfold VF VP
      rw [v2, show tzS 140 = 8 from rfl, show tzS 141 = 8 from rfl, z 0 (by omega) (by omega) (by omega), z 1 (by omega) (by omega) (by omega), z 142 (by omega) (by omega) (by omega)]
      refine ⟨⟨a0, a1, a2, a3, a4⟩, fun i hi => absurd hi (by omega), fun h => absurd h (by omega), fun r hr => ?_, fun p hp => ?_⟩
      · rw [v3 _ (by omega), v3 _ (by omega), v3 _ (by omega), z _ (by omega) (by omega) (by omega), z _ (by omega) (by omega) (by omega), z _ (by omega) (by omega) (by omega)]
        exact s3 r hr
      · rw [f p hp]
        exact v4 p hp
/-- what the reading of all left -/
def LZ (r : Rs) (M : Mm) (c : Nat) (z : Int32 × Mm) : Prop := (r.1 = 0 → z.1 = nI 1 ∧ VF r.2.2.2 z.2 (c + 2) ∧ z.2.1 c 2 = nI 0 ∧ z.2.1 c 3 = mI) ∧ (¬ r.1 = 0 → z.1 = nI 0 ∧ z.2.1 c 2 = nI r.1 ∧ z.2.1 c 3 = nI r.2.1) ∧ z.2.1 c 1 = nI 0 ∧ (∀ c', c' ≠ c → (c' < c + 2 ∨ c + 11 ≤ c') → z.2.1 c' = M.1 c') ∧ z.2.2 = M.2
theorem X7_readAll (hfu : 200000 ≤ fu) (hT : TpX t n M c) : Wp (fX7_readAll fu c M) (LZ (prS t n) M c) := by
  have hn := hT.1
  unfold fX7_readAll fX7_begin
  rw [wp_bm, wp_bm]
  refine (X8_wipe hfu).mono fun M1 q => ?_
  obtain ⟨V1, F1, E1⟩ := q
  rw [lt_eq, lt_eq, lt_eq, lt_eq, lt_eq, lt_eq, lt_eq, lt_eq, wp_some]
  have A : ∀ M', M' = wI (wI (wI (wI (wI (wI (wI (wI M1 c 2 0) c 3 (-1)) c 5 0) c 9 0) c 10 0) c 11 0) c 12 0) c 13 0 → M'.1 c 2 = nI 0 ∧ M'.1 c 3 = mI ∧ M'.1 c 5 = nI 0 ∧ GX (fun _ => 0) M' c ∧ RG c M1 M' ∧ ∀ c', c' ≠ c → M'.1 c' = M1.1 c' := fun M' e => by
    subst e
    refine ⟨?_, ?_, ?_, fun j hj => ?_, ?_, fun c' hc => ?_⟩
    · simp (disch := omega) only [wI_ne, wI_eq, wI_nk, wIs_ne, wIs_eq]
      rfl
    · simp (disch := omega) only [wI_ne, wI_eq, wI_nk, wIs_ne, wIs_eq]
      rfl
    · simp (disch := omega) only [wI_ne, wI_eq, wI_nk, wIs_ne, wIs_eq]
      rfl
    · have : j = 0 ∨ j = 1 ∨ j = 2 ∨ j = 3 ∨ j = 4 := by omega
      rcases this with rfl | rfl | rfl | rfl | rfl
      all_goals
        simp (disch := omega) only [wI_ne, wI_eq, wI_nk, wIs_ne, wIs_eq]
        rfl
    · exact (((((((RG.w _ _ (by omega)).tr (RG.w _ _ (by omega))).tr (RG.w _ _ (by omega))).tr (RG.w _ _ (by omega))).tr (RG.w _ _ (by omega))).tr (RG.w _ _ (by omega))).tr (RG.w _ _ (by omega))).tr (RG.w _ _ (by omega))
    · simp (disch := omega) only [wI_ne, wI_eq, wI_nk, wIs_ne, wIs_eq]
  generalize wI (wI (wI (wI (wI (wI (wI (wI M1 c 2 0) c 3 (-1)) c 5 0) c 9 0) c 10 0) c 11 0) c 12 0) c 13 0 = M2 at A ⊢
  obtain ⟨k2, k3, k5, kG, kR, kA⟩ := A M2 rfl
  have R2 : RG c M M2 := (RF.of F1 E1).g.tr kR
  have T2 := hT.rg R2
  have V2 : VF tzS M2 (c + 2) := VP.fr V1 fun c' h1 h2 => kA c' (by omega)
  unfold fX7_readAll_l10
  obtain ⟨R, hR⟩ : ∃ R, R = prS t n := ⟨_, rfl⟩
  rw [← hR]
  have main := lp_me (F := fun (rec : (Int32 × Int32 × Int32 × Mm) → Option (Int32 × Mm)) (s : Int32 × Int32 × Int32 × Mm) => fX7_readAll_b10 fu (fun x1 x2 x3 M => rec (x1, x2, x3, M)) c s.1 s.2.1 s.2.2.1 s.2.2.2) (fun (z : Int32 × Int32 × Int32 × Mm) => RG c M z.2.2.2 ∧ ((z.1 = nI 1 ∧ z.2.1 = nI 1 ∧ ∃ i p g T, z.2.2.1 = nI i ∧ i ≤ p ∧ p ≤ n ∧ z.2.2.2.1 c 5 = nI p ∧ VF T z.2.2.2 (c + 2) ∧ PI g T ∧ GX g z.2.2.2 c ∧ z.2.2.2.1 c 2 = nI 0 ∧ z.2.2.2.1 c 3 = mI ∧ prN t n (801 - i) p g T = R) ∨ (z.1 = nI 0 ∧ ¬ R.1 = 0 ∧ z.2.2.2.1 c 2 = nI R.1 ∧ z.2.2.2.1 c 3 = nI R.2.1) ∨ (z.1 = nI 1 ∧ z.2.1 = nI 0 ∧ R.1 = 0 ∧ VF R.2.2.2 z.2.2.2 (c + 2) ∧ z.2.2.2.1 c 2 = nI 0 ∧ z.2.2.2.1 c 3 = mI))) (fun z => if z.1 = 0 ∨ z.2.1 = 0 then 0 else 802 - ix z.2.2.1) (LZ R M c) ?_ (fu := fu) (z := (1, 1, 0, M2)) ?_ ?_
  · exact main
  · intro z hz rec hrec
    obtain ⟨x1, x2, x3, M3⟩ := z
    obtain ⟨R3, hz⟩ := hz
    dsimp only at *
    have out : ∀ x, x = nI 0 ∨ x = nI 1 → (x = nI 1 → R.1 = 0 ∧ VF R.2.2.2 M3 (c + 2) ∧ M3.1 c 2 = nI 0 ∧ M3.1 c 3 = mI) → (x = nI 0 → ¬ R.1 = 0 ∧ M3.1 c 2 = nI R.1 ∧ M3.1 c 3 = nI R.2.1) → Wp (fX7_readAll_j66 fu c x M3) (LZ R M c) := fun x hx h1 h0 => by
      unfold fX7_readAll_j66
      rw [lt_eq, gd01 hx, wp_some]
      refine ⟨fun e => ?_, fun e => ?_, wI_eq, fun c' a1 a2 => (wI_ne a1).trans (R3.1 c' a1 a2), R3.2.2⟩
      · rcases hx with hx | hx
        · exact absurd e (h0 hx).1
        · obtain ⟨_, b1, b2, b3⟩ := h1 hx
          exact ⟨hx, VP.fr b1 fun c' k1 k2 => wI_ne (by omega), (wI_nk (by omega)).trans b2, (wI_nk (by omega)).trans b3⟩
      · rcases hx with hx | hx
        · obtain ⟨_, b1, b2⟩ := h0 hx
          exact ⟨hx, (wI_nk (by omega)).trans b1, (wI_nk (by omega)).trans b2⟩
        · exact absurd (h1 hx).1 e
    unfold fX7_readAll_b10
    rcases hz with ⟨z1, z2, i, p, g, T, z3, z4, z5, z6, z7, z8, z9, z10, z11, z12⟩ | ⟨z1, z2, z3, z4⟩ | ⟨z1, z2, z3, z4, z5, z6⟩
    · subst z1 z2 z3
      rw [if_neg (show ¬ nI 1 = (0 : Int32) by decide), if_neg (show ¬ nI 1 = (0 : Int32) by decide), if_neg (show ¬ (800 : Int32) < nI i from nI_nlt (a := 800) (by omega) (by omega)), wp_bm]
      have hmu : (if nI 1 = 0 ∨ nI 1 = 0 then 0 else 802 - ix (nI i)) = 802 - i := by
        rw [if_neg (by decide), ix_n (by omega)]
      rw [hmu] at hrec
      have hty := ty_le t n p
      have T3 := hT.rg R3
      have e801 : 801 - i = (800 - i) + 1 := by omega
      rw [e801] at z12
      unfold prN at z12
      refine (X7_next hfu T3 z6 z5).mono fun M4 q => ?_
      obtain ⟨q1, q2⟩ := q
      have R4 : RG c M M4 := R3.tr q2.fg.rf.g
      have V4 : VF T M4 (c + 2) := VP.fr z7 fun c' h1 h2 => q2.1 c' (by omega)
      have G4 : GX g M4 c := fun j hj => by rw [q2.2.1 _ (by omega) (by omega) (by omega) (by omega)]; exact z9 j hj
      have j2 : M4.1 c 2 = nI 0 := (q2.2.1 2 (by omega) (by omega) (by omega) (by omega)).trans z10
      have j3 : M4.1 c 3 = mI := (q2.2.1 3 (by omega) (by omega) (by omega) (by omega)).trans z11
      rw [q1.2.2.1]
      by_cases c4 : tyT t n p = 4
      · rw [if_pos c4] at z12
        rw [if_pos (show nI (tyT t n p) = (4 : Int32) by rw [c4]; rfl)]
        unfold fX7_readAll_j42
        rw [if_pos rfl]
        unfold fX7_readAll_j54 fX7_readAll_j59
        rw [lt_eq]
        refine hrec _ ⟨R4, Or.inr (Or.inr ⟨rfl, rfl, ?_, ?_, j2, j3⟩)⟩ ?_
        · rw [← z12]
        · rw [← z12]
          exact V4
        · dsimp only
          rw [if_pos (Or.inr rfl)]
          omega
      · rw [if_neg c4] at z12
        rw [if_neg (show ¬ nI (tyT t n p) = (4 : Int32) from fun z => c4 ((nI_eq (a := tyT t n p) (b := 4) (by omega) (by omega)).mp z))]
        unfold fX7_readAll_j42
        rw [if_neg (show ¬ (1 : Int32) = 0 by decide), wp_bw]
        have hok := lnR_ok (t := t) z5 z8
        refine (X7_readLine hfu (hT.rg R4) q1 z5 V4 z8 G4).mono fun s w => ?_
        obtain ⟨r0, M5⟩ := s
        obtain ⟨w1, w2, w3⟩ := w
        dsimp only at *
        have R5 := R4.tr w3
        by_cases e : (lnR t n p g T).1 = 0
        · obtain ⟨y1, y2, y3, y4, y5, y6⟩ := w1 e
          rw [if_pos e] at z12
          obtain ⟨o1, o2, o3⟩ := hok e
          rw [y1, if_neg (show ¬ nI 1 = (0 : Int32) by decide)]
          unfold fX7_readAll_j54 fX7_readAll_j59
          rw [lt_eq, nI_1]
          refine hrec _ ⟨R5, Or.inl ⟨rfl, rfl, i + 1, _, _, _, rfl, by omega, o3, y2, y3, o1, y6, y4.trans j2, y5.trans j3, ?_⟩⟩ ?_
          · rw [show 801 - (i + 1) = 800 - i by omega]
            exact z12
          · dsimp only
            rw [if_neg (by decide), ix_n (by omega)]
            omega
        · obtain ⟨y1, y2, y3⟩ := w2 e
          rw [if_neg e] at z12
          rw [y1, if_pos (show nI 0 = (0 : Int32) from rfl)]
          unfold fX7_readAll_j59
          rw [lt_eq]
          refine hrec _ ⟨R5, Or.inr (Or.inl ⟨rfl, ?_, ?_, ?_⟩)⟩ ?_
          · rw [← z12]; exact e
          · rw [← z12]; exact y2
          · rw [← z12]; exact y3
          · dsimp only
            rw [if_pos (Or.inl rfl)]
            omega
    · rw [z1, if_pos (show nI 0 = (0 : Int32) from rfl)]
      exact out _ (Or.inl rfl) (fun h => absurd h (by decide)) (fun _ => ⟨z2, z3, z4⟩)
    · rw [z1, z2, if_neg (show ¬ nI 1 = (0 : Int32) by decide), if_pos (show nI 0 = (0 : Int32) from rfl)]
      exact out _ (Or.inr rfl) (fun _ => ⟨z3, z4, z5, z6⟩) (fun h => absurd h (by decide))
  · dsimp only
    split <;> omega
  · exact ⟨R2, Or.inl ⟨rfl, rfl, 0, 0, _, _, rfl, Nat.le_refl _, Nat.zero_le _, k5, V2, tzS_pi, kG, k2, k3, hR.symm⟩⟩
end RL
