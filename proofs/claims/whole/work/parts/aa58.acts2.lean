/-! The law's acts: lay, mend, tidy, undo, boxes, the tape, store. -/
section AD
variable {fu a m k u n : Nat} {M M1 M2 : Mm} {S S' : Sto} {Hs B : Nat → Sto} {bx t : Nat → Nat} {f1 f2 r : Int32} {L : Lay} {o : Option Nat}
theorem paR_low {l : List Bk} {i : Nat} (hi : i ≤ 10) : Low S (paR S l i) := ⟨paR_g S l hi, fun j hj => paR_e S l i hi j (by omega)⟩
theorem o10 (hfu : 200000 ≤ fu) (ha : atB L (a + 220) (T0 160) = true) (h : JJ o M a) : ∃ r M1 M2, fX10_lay fu L a M = some (r, M1) ∧ fX11_lay fu (a + 241) M1 = some (r, M2) ∧ JJ o M2 a := by
  obtain ⟨S, Hs, k, u, B, bx, t, n, f1, f2, hg, hx, hm⟩ := h
  have h10 := hg.1.1.2.2.2.1
  obtain ⟨M1, e, p1, p2, p3⟩ := JX_plan hfu ha hx hg.1
  by_cases c : (plS S).length ≤ S 141
  · exact act (G := fun M1 => fX11_lay fu (a + 241) M1) hg hx hm (hg.1.pa (plS_Lb hg.1)) (paR_g _ _ h10) ((X10_lay_y hfu hg.1 e p2.1.1 p1 p2.2.1 c).mono fun z w => ⟨(p2.xk hg.1 (paR_low h10) w).1, (p2.xk hg.1 (paR_low h10) w).2.1, p3.tr (p2.xk hg.1 (paR_low h10) w).2.2⟩) (fun M1 hM => X11_lay_y hfu hM.1 hg.1 hM.2.1 hg.2.1 c)
  · obtain ⟨⟨r2, M2⟩, e2, q1, q2⟩ := X11_lay_n hfu (hm.cf p3).1 hg.1 c
    dsimp only at *
    subst q1
    exact ⟨_, M1, M2, X10_lay_n hg.1 e p2.1.1 p1 c, e2, J_2 hg p2 hm p3 q2⟩
theorem laS_low (hG : Gd S) : Low S (laS S) := by
  have h10 := hG.1.2.2.2.1
  have hA := hG.ad
  refine ⟨laS_g hG, fun j hj => ?_⟩
  unfold laS
  rw [paR_e _ _ _ h10 j (by omega), pgU_e (by omega)]
theorem o13 (hfu : 200000 ≤ fu) (ha : atB L (a + 224) (T0 160) = true) (hR : L.contains (a + 228, (0, 64)) = true) (h : JJ o M a) : ∃ r M1 M2, fX10_layAll fu L a M = some (r, M1) ∧ fX11_layAll fu (a + 241) M1 = some (r, M2) ∧ JJ o M2 a := by
  obtain ⟨S, Hs, k, u, B, bx, t, n, f1, f2, hg, hx, hm⟩ := h
  obtain ⟨M1, e, p1, p2, p3⟩ := JX_paged hfu ha hR hx hg.1
  by_cases c : (ppS S).length ≤ S 141
  · exact act (G := fun M1 => fX11_layAll fu (a + 241) M1) hg hx hm hg.1.la (laS_g hg.1) ((X10_layAll_y hfu hg.1 e p2.1.1 p1.1 p1.2 p2.2.1 c).mono fun z w => ⟨(p2.xk hg.1 (laS_low hg.1) w).1, (p2.xk hg.1 (laS_low hg.1) w).2.1, p3.tr (p2.xk hg.1 (laS_low hg.1) w).2.2⟩) (fun M1 hM => X11_layAll_y hfu hM.1 hg.1 hM.2.1 hg.2.1 c)
  · obtain ⟨⟨r2, M2⟩, e2, q1, q2⟩ := X11_layAll_n hfu (hm.cf p3).1 hg.1 c
    dsimp only at *
    subst q1
    exact ⟨_, M1, M2, X10_layAll_n hg.1 e p2.1.1 p1.1 c, e2, J_2 hg p2 hm p3 q2⟩
theorem mnR_low {i : Nat} (hi : i ≤ 64) : Low S (mnR S i).1 := ⟨mnR_g S hi, fun j hj => mnR_e S i j (by omega)⟩
theorem o12 (hfu : 200000 ≤ fu) (h : JJ o M a) : ∃ r M1 M2, fX10_mend fu a M = some (r, M1) ∧ fX11_mend fu (a + 241) M1 = some (r, M2) ∧ JJ o M2 a := by
  obtain ⟨S, Hs, k, u, B, bx, t, n, f1, f2, hg, hx, hm⟩ := h
  have hA := hg.1.ad
  have h64 : 2 ^ S 140 / 16 ≤ 64 := by omega
  obtain ⟨M1, q, f, e, p1, p2, p3⟩ := JX_pieces hfu hx hg.1
  exact act (G := fun M1 => fX11_mend fu (a + 241) M1) hg hx hm (hg.1.mn _ h64) (mnR_g S h64) ((X10_mend hfu hg.1 e p2.1.1 p1 p2.2.1).mono fun z w => ⟨(p2.xk hg.1 (mnR_low h64) w).1, (p2.xk hg.1 (mnR_low h64) w).2.1, p3.tr (p2.xk hg.1 (mnR_low h64) w).2.2⟩) (fun M1 hM => X11_mend hfu hM.1 hg.1 hM.2.1 hg.2.1)
theorem o14 (hfu : 200000 ≤ fu) (h : JJ o M a) : ∃ r M1 M2, fX10_tidy fu a M = some (r, M1) ∧ fX11_tidy fu (a + 241) M1 = some (r, M2) ∧ JJ o M2 a := by
  obtain ⟨S, Hs, k, u, B, bx, t, n, f1, f2, hg, hx, hm⟩ := h
  obtain ⟨M1, q, f, e, p1, p2, p3⟩ := JX_pieces hfu hx hg.1
  by_cases c : tdR S (rnS S) 1 ≤ 12
  · have ee := tdR_e S (rnS S) c
    exact act (G := fun M1 => fX11_tidy fu (a + 241) M1) hg hx hm (hg.1.td _ (Nat.le_refl _) c) ⟨ee _ (by omega), ee _ (by omega), ee _ (by omega)⟩ ((X10_tidy_y hfu hg.1 e p2.1.1 p1 p2.2.1 c).mono fun z w => ⟨(p2.xw w).1, (p2.xw w).2.1, p3.tr (p2.xw w).2.2⟩) (fun M1 hM => X11_tidy_y hfu hM.1 hg.1 hM.2.1 hg.2.1 c)
  · exact ⟨_, M1, M1, X10_tidy_n hfu hg.1 e p2.1.1 p1 c, X11_tidy_n hfu (hm.cf p3).1 hg.1 c, J_1 hg p2 hm p3⟩
/-- undo, redo at the reference -/
theorem JM.ua {Hs' : Nat → Sto} {k' u' : Nat} (h : JM S Hs k u B bx t n f1 f2 M m) (hg : Gm S S') (hc : ∀ j, j < 140 → M1.1 (m + 1) j = nI (S' j)) (hH : HM Hs' k' u' M1 m) (hw : UA m M M1) : JM S' Hs' k' u' B bx t n f1 f2 M1 m ∧ RFr m M M1 := by
  obtain ⟨h1, h2, h3, h4, h5, h6⟩ := h
  obtain ⟨w1, w2, w3⟩ := hw
  exact ⟨⟨h1.ch hg (w2 5 (by omega) (by omega)) (w1 _ (by omega) (by omega) (by omega)) (w1 _ (by omega) (by omega) (by omega)) (w1 _ (by omega) (by omega) (by omega)) hc, hH, h3.fr (w1 _ (by omega) (by omega) (by omega)) (w1 _ (by omega) (by omega) (by omega)), h4.fc (w2 7 (by omega) (by omega)) (w1 _ (by omega) (by omega) (by omega)) (w1 _ (by omega) (by omega) (by omega)), (w2 16 (by omega) (by omega)).trans h5, (w2 17 (by omega) (by omega)).trans h6⟩, fun c hc => w1 c (by omega) (by omega) (by omega), w3⟩
theorem JG.mv {k' u' : Nat} (h : JG S Hs k u B bx) (he : k' + u' = k + u) : JG (Hs k') Hs k' u' B bx := by
  obtain ⟨h1, h2, h3, h4⟩ := h
  have hm := (h3 k' (by omega)).2
  exact ⟨(h3 k' (by omega)).1, rfl, fun i hi => ⟨(h3 i (by omega)).1, hm.sw (h3 i (by omega)).2⟩, fun j hj hb => ⟨(h4 j hj hb).1, hm.sw (h4 j hj hb).2⟩⟩
theorem o15 (hfu : 200000 ≤ fu) (h : JJ o M a) : ∃ r M1 M2, fX10_undo fu a M = some (r, M1) ∧ fX11_undo fu (a + 241) M1 = some (r, M2) ∧ JJ o M2 a := by
  obtain ⟨S, Hs, k, u, B, bx, t, n, f1, f2, hg, hx, hm⟩ := id h
  obtain ⟨⟨r1, M1⟩, e1, w⟩ := X10_undo (fu := fu) hx.2.1 (hg.2.2.1 (k - 1) (by omega)).1
  rcases w with ⟨w0, w1⟩ | ⟨w0, w1, w2, w3, w4⟩
  · cases w1
    obtain ⟨⟨r2, M2⟩, e2, q⟩ := X11_undo hfu hm.2.1 (hm.1.hk hg.2.1)
    rcases q with ⟨q0, q1⟩ | ⟨q0, _⟩
    · cases q1
      exact ⟨_, _, _, e1, e2, h⟩
    · omega
  · dsimp only at w1 w2 w3 w4
    subst w1
    obtain ⟨j1, j2⟩ := hx.wd w2 w3 w4
    have hm1 := hm.cf j2
    obtain ⟨⟨r2, M2⟩, e2, q⟩ := X11_undo hfu hm1.2.1 (hm1.1.hk hg.2.1)
    rcases q with ⟨q0, q1⟩ | ⟨q0, q1, q2, q3, q4⟩
    · omega
    · dsimp only at q1 q2 q3 q4
      subst q1
      obtain ⟨y1, y2⟩ := hm1.ua (hg.2.2.1 (k - 1) (by omega)).2 q2 q3 q4
      exact ⟨_, M1, M2, e1, e2, _, _, _, _, _, _, _, _, _, _, hg.mv (by omega), j1.rf y2, y1⟩
theorem o16 (hfu : 200000 ≤ fu) (h : JJ o M a) : ∃ r M1 M2, fX10_redo fu a M = some (r, M1) ∧ fX11_redo fu (a + 241) M1 = some (r, M2) ∧ JJ o M2 a := by
  obtain ⟨S, Hs, k, u, B, bx, t, n, f1, f2, hg, hx, hm⟩ := id h
  have hgd : Gd (Hs (k + 1)) ∨ u = 0 := by
    by_cases c : u = 0
    · exact Or.inr c
    · exact Or.inl (hg.2.2.1 (k + 1) (by omega)).1
  obtain ⟨⟨r1, M1⟩, e1, w⟩ := X10_redo (fu := fu) hx.2.1 hgd
  rcases w with ⟨w0, w1⟩ | ⟨w0, w1, w2, w3, w4⟩
  · cases w1
    obtain ⟨⟨r2, M2⟩, e2, q⟩ := X11_redo hfu hm.2.1 (hm.1.hk hg.2.1)
    rcases q with ⟨q0, q1⟩ | ⟨q0, _⟩
    · cases q1
      exact ⟨_, _, _, e1, e2, h⟩
    · omega
  · dsimp only at w1 w2 w3 w4
    subst w1
    obtain ⟨j1, j2⟩ := hx.wd w2 w3 w4
    have hm1 := hm.cf j2
    obtain ⟨⟨r2, M2⟩, e2, q⟩ := X11_redo hfu hm1.2.1 (hm1.1.hk hg.2.1)
    rcases q with ⟨q0, q1⟩ | ⟨q0, q1, q2, q3, q4⟩
    · omega
    · dsimp only at q1 q2 q3 q4
      subst q1
      obtain ⟨y1, y2⟩ := hm1.ua (hg.2.2.1 (k + 1) (by omega)).2 q2 q3 q4
      exact ⟨_, M1, M2, e1, e2, _, _, _, _, _, _, _, _, _, _, hg.mv (by omega), j1.rf y2, y1⟩
/-- the class's tape has changed -/
theorem JX.ft {t' : Nat → Nat} {n' : Nat} (h : JX o S Hs k u B bx t n f1 f2 M a) (hT : TpX t' n' M1 (a + 1)) (hf : FTx (a + 1) M M1) : JX o S Hs k u B bx t' n' f1 f2 M1 a ∧ CFr a M M1 := by
  obtain ⟨⟨n1, n2, n3, n4, n5, n6, n7⟩, h2, h3, h4, h5, h6⟩ := h
  have cc : ∀ c, c ≠ a + 1 → c ≠ a + 2 → M1.1 c = M.1 c := fun c k1 k2 => hf.1 c k1 (by omega)
  have ca : M1.1 a = M.1 a := cc a (by omega) (by omega)
  exact ⟨⟨⟨n1.fr fun c h1 h2 => cc c (by omega) (by omega), n2.fr (by rw [ca]) (fun c h1 h2 h3 => cc c (by omega) (by omega)), n3.fr (by rw [ca]) (fun c h1 h2 => cc c (by omega) (by omega)), n4.fr (by rw [ca]) (fun c h1 h2 => cc c (by omega) (by omega)), n5.fr (by rw [ca]) (fun c h1 h2 => cc c (by omega) (by omega)), n6.fr (by rw [ca]) (fun c h1 h2 => cc c (by omega) (by omega)), NX.fill n7 (by rw [ca]) (by rw [hf.2.2]) (fun c hc => ⟨cc c (by omega) (by omega), by rw [hf.2.2], by rw [hf.2.2]⟩)⟩, h2.fr fun c k1 k2 => cc c (by omega) (by omega), h3.fr fun c k1 k2 => cc c (by omega) (by omega), hT, (hf.2.1 2 (by omega)).trans h5, (hf.2.1 3 (by omega)).trans h6⟩, fun c k1 k2 => cc c (by omega) (by omega)⟩
theorem JM.tp {t' : Nat → Nat} {n' : Nat} (h : JM S Hs k u B bx t n f1 f2 M m) (hT : TqM t' n' M1 m) (hf : FU m M M1) : JM S Hs k u B bx t' n' f1 f2 M1 m ∧ RFr m M M1 := by
  obtain ⟨h1, h2, h3, h4, h5, h6⟩ := h
  obtain ⟨w1, w2, w3⟩ := hf
  exact ⟨⟨h1.ch ⟨rfl, rfl, rfl⟩ (w2 5 (by omega)) (w1 _ (by omega) (by omega)) (w1 _ (by omega) (by omega)) (w1 _ (by omega) (by omega)) (fun k hk => by rw [w1 _ (by omega) (by omega)]; exact h1.2 k hk), h2.fr (w2 50 (by omega)) (w2 51 (by omega)) (w1 _ (by omega) (by omega)), h3.fr (w1 _ (by omega) (by omega)) (w1 _ (by omega) (by omega)), hT, (w2 16 (by omega)).trans h5, (w2 17 (by omega)).trans h6⟩, fun c hc => w1 c (by omega) (by omega), w3⟩
theorem o0 (hfu : 200000 ≤ fu) (h : JJ o M a) (x1 x2 x3 x4 x5 : Int32) : ∃ r M1 M2, fX10_feed fu a x1 x2 x3 x4 x5 M = some (r, M1) ∧ fX11_feed fu (a + 241) x1 x2 x3 x4 x5 M1 = some (r, M2) ∧ JJ o M2 a := by
  obtain ⟨S, Hs, k, u, B, bx, t, n, f1, f2, hg, hx, hm⟩ := id h
  obtain ⟨⟨r1, M1⟩, e1, w⟩ := X10_feed hfu hx.2.2.2.1 x1 x2 x3 x4 x5
  rcases w with ⟨w0, w1, w2, w3⟩ | ⟨w0, w1⟩
  · dsimp only at w1 w2 w3
    subst w1
    obtain ⟨j1, j2⟩ := hx.ft w2 w3
    have hm1 := hm.cf j2
    obtain ⟨⟨r2, M2⟩, e2, q⟩ := X11_feed hfu hm1.2.2.2.1 x1 x2 x3 x4 x5
    rcases q with ⟨q0, q1, q2, q3⟩ | ⟨q0, q1⟩
    · dsimp only at q1 q2 q3
      subst q1
      obtain ⟨y1, y2⟩ := hm1.tp q2 q3
      exact ⟨_, M1, M2, e1, e2, _, _, _, _, _, _, _, _, _, _, hg, j1.rf y2, y1⟩
    · exact absurd w0 q0
  · cases w1
    obtain ⟨⟨r2, M2⟩, e2, q⟩ := X11_feed hfu hm.2.2.2.1 x1 x2 x3 x4 x5
    rcases q with ⟨q0, _⟩ | ⟨q0, q1⟩
    · exact absurd q0 w0
    · cases q1
      exact ⟨_, _, _, e1, e2, h⟩
theorem o1 (h : JJ o M a) (x : Int32) : ∃ r M1 M2, fX10_end fu a x M = some (r, M1) ∧ fX11_end fu (a + 241) x M1 = some (r, M2) ∧ JJ o M2 a := by
  obtain ⟨S, Hs, k, u, B, bx, t, n, f1, f2, hg, hx, hm⟩ := id h
  obtain ⟨⟨r1, M1⟩, e1, w⟩ := X10_end (fu := fu) hx.2.2.2.1 x
  rcases w with ⟨i, w0, rfl, w1, w2, w3⟩ | ⟨w0, w1⟩
  · dsimp only at w1 w2 w3
    subst w1
    obtain ⟨j1, j2⟩ := hx.ft w2 w3
    have hm1 := hm.cf j2
    have hn := hx.2.2.2.1.1
    obtain ⟨⟨r2, M2⟩, e2, q⟩ := X11_end (fu := fu) hm1.2.2.2.1 (nI i)
    rcases q with ⟨i', q0, q', q1, q2, q3⟩ | ⟨q0, q1⟩
    · dsimp only at q1 q2 q3
      have : i = i' := (nI_eq (by omega) (by omega)).mp q'
      subst this
      subst q1
      obtain ⟨y1, y2⟩ := hm1.tp q2 q3
      exact ⟨_, M1, M2, e1, e2, _, _, _, _, _, _, _, _, _, _, hg, j1.rf y2, y1⟩
    · exact absurd rfl (q0 i w0)
  · cases w1
    obtain ⟨⟨r2, M2⟩, e2, q⟩ := X11_end (fu := fu) hm.2.2.2.1 x
    rcases q with ⟨i', q0, q', _⟩ | ⟨q0, q1⟩
    · exact absurd q' (w0 i' q0)
    · cases q1
      exact ⟨_, _, _, e1, e2, h⟩
theorem o45 (hfu : 200000 ≤ fu) (h : JJ o M a) (x : Int32) : ∃ r M1 M2, fX10_image fu a x M = some (r, M1) ∧ fX11_image fu (a + 241) x M1 = some (r, M2) ∧ JJ o M2 a := by
  obtain ⟨S, Hs, k, u, B, bx, t, n, f1, f2, hg, hx, hm⟩ := id h
  obtain ⟨⟨r1, M1⟩, e1, w⟩ := X10_image (fu := fu) hx.1.1 hg.1 hx.2.2.1 x
  rcases w with ⟨i, w0, rfl, w1, w2, w3⟩ | ⟨w0, w1⟩
  · dsimp only at w1 w2 w3
    subst w1
    have cc : ∀ c, (c < a + 177 ∨ a + 196 ≤ c) → M1.1 c = M.1 c := fun c hc => (w3 c hc).1
    have ca : M1.1 a = M.1 a := cc a (by omega)
    have j2 : CFr a M M1 := fun c k1 k2 => cc c (by omega)
    have j1 : JX o S Hs k u (upB B i S) (upS bx i 1) t n f1 f2 M1 a := by
      obtain ⟨⟨n1, n2, n3, n4, n5, n6, n7⟩, h2, h3, h4, h5, h6⟩ := hx
      exact ⟨⟨n1.fr fun c h1 h2 => cc c (by omega), n2.fr (by rw [ca]) (fun c h1 h2 h3 => cc c (by omega)), n3.fr (by rw [ca]) (fun c h1 h2 => cc c (by omega)), n4.fr (by rw [ca]) (fun c h1 h2 => cc c (by omega)), n5.fr (by rw [ca]) (fun c h1 h2 => cc c (by omega)), n6.fr (by rw [ca]) (fun c h1 h2 => cc c (by omega)), NX.fill n7 (by rw [ca]) (w3 a (by omega)).2.2 (fun c hc => w3 c (by omega))⟩, h2.fr fun c k1 k2 => cc c (by omega), w2, h4.fc (cc _ (by omega)) (cc _ (by omega)), by rw [cc _ (by omega)]; exact h5, by rw [cc _ (by omega)]; exact h6⟩
    have hm1 := hm.cf j2
    obtain ⟨⟨r2, M2⟩, e2, q⟩ := X11_image hfu hm1.1 hm1.2.2.1 (nI i)
    rcases q with ⟨i', q0, q', q1, q2, q3⟩ | ⟨q0, q1⟩
    · dsimp only at q1 q2 q3
      have : i = i' := (nI_eq (by omega) (by omega)).mp q'
      subst this
      subst q1
      obtain ⟨v1, v2⟩ := q3
      obtain ⟨h1, h2, h3, h4, h5, h6⟩ := hm1
      have c0 := v1 (a + 241) (by omega) (by omega)
      have y1 : JM S Hs k u (upB B i S) (upS bx i 1) t n f1 f2 M2 (a + 241) := ⟨h1.ch ⟨rfl, rfl, rfl⟩ (by rw [c0]) (v1 _ (by omega) (by omega)) (v1 _ (by omega) (by omega)) (v1 _ (by omega) (by omega)) (fun k hk => by rw [v1 _ (by omega) (by omega)]; exact h1.2 k hk), h2.fr (by rw [c0]) (by rw [c0]) (v1 _ (by omega) (by omega)), q2, h4.fc (by rw [c0]) (v1 _ (by omega) (by omega)) (v1 _ (by omega) (by omega)), by rw [c0]; exact h5, by rw [c0]; exact h6⟩
      have y2 : RFr (a + 241) M1 M2 := ⟨fun c hc => v1 c (by omega) (by omega), v2⟩
      refine ⟨_, M1, M2, e1, e2, S, Hs, k, u, upB B i S, upS bx i 1, t, n, f1, f2, ⟨hg.1, hg.2.1, hg.2.2.1, fun j hj hb => ?_⟩, j1.rf y2, y1⟩
      by_cases e : j = i
      · have : upB B i S j = S := if_pos e
        rw [this]
        exact ⟨hg.1, rfl, rfl, rfl⟩
      · have : upB B i S j = B j := if_neg e
        rw [this]
        rw [upS_n e] at hb
        exact hg.2.2.2 j hj hb
    · exact absurd rfl (q0 i w0)
  · cases w1
    obtain ⟨⟨r2, M2⟩, e2, q⟩ := X11_image hfu hm.1 hm.2.2.1 x
    rcases q with ⟨i', q0, q', _⟩ | ⟨q0, q1⟩
    · exact absurd q' (w0 i' q0)
    · cases q1
      exact ⟨_, _, _, e1, e2, h⟩
theorem o47 (hfu : 200000 ≤ fu) (h : JJ o M a) (x : Int32) : ∃ r M1 M2, fX10_back fu a x M = some (r, M1) ∧ fX11_back fu (a + 241) x M1 = some (r, M2) ∧ JJ o M2 a := by
  obtain ⟨S, Hs, k, u, B, bx, t, n, f1, f2, hg, hx, hm⟩ := id h
  obtain ⟨⟨r1, M1⟩, e1, w⟩ := X10_back (fu := fu) hx.1.1 hx.2.1 hx.2.2.1 (fun j hj hb => (hg.2.2.2 j hj hb).1) x
  rcases w with ⟨i, w0, rfl, wb, w1, w2, w3, w4⟩ | ⟨w0, w1⟩
  · dsimp only at w1 w2 w3 w4
    subst w1
    obtain ⟨j1, j2⟩ := hx.wd w2 w3 w4
    have hm1 := hm.cf j2
    obtain ⟨g1, g2⟩ := hg.2.2.2 i w0 wb
    obtain ⟨⟨r2, M2⟩, e2, q⟩ := X11_back hfu hm1.1 hm1.2.2.1 (fun j hj hb => (hg.2.2.2 j hj hb).2) (nI i)
    rcases q with ⟨i', q0, q', qb, q1, q2, q3, q4⟩ | ⟨q0, q1⟩
    · dsimp only at q1 q2 q3 q4
      have : i = i' := (nI_eq (by omega) (by omega)).mp q'
      subst this
      subst q1
      obtain ⟨v1, v2, v3⟩ := q4
      obtain ⟨h1, h2, h3, h4, h5, h6⟩ := hm1
      have y1 : JM (B i) (fun _ => B i) 0 0 B bx t n f1 f2 M2 (a + 241) := ⟨q2, q3, h3.fr (v1 _ (by omega) (by omega)) (v1 _ (by omega) (by omega)), h4.fc (v2 7 (by omega) (by omega)) (v1 _ (by omega) (by omega)) (v1 _ (by omega) (by omega)), (v2 16 (by omega) (by omega)).trans h5, (v2 17 (by omega) (by omega)).trans h6⟩
      have y2 : RFr (a + 241) M1 M2 := ⟨fun c hc => v1 c (by omega) (by omega), v3⟩
      exact ⟨_, M1, M2, e1, e2, B i, fun _ => B i, 0, 0, B, bx, t, n, f1, f2, ⟨g1, rfl, fun _ _ => ⟨g1, rfl, rfl, rfl⟩, fun j hj hb => ⟨(hg.2.2.2 j hj hb).1, g2.sw (hg.2.2.2 j hj hb).2⟩⟩, j1.rf y2, y1⟩
    · have := q0 i w0 rfl
      omega
  · cases w1
    obtain ⟨⟨r2, M2⟩, e2, q⟩ := X11_back hfu hm.1 hm.2.2.1 (fun j hj hb => (hg.2.2.2 j hj hb).2) x
    rcases q with ⟨i', q0, q', qb, _⟩ | ⟨q0, q1⟩
    · have := w0 i' q0 q'
      omega
    · cases q1
      exact ⟨_, _, _, e1, e2, h⟩
theorem o2 (hfu : 200000 ≤ fu) (h : JJ o M a) : ∃ r M1 M2, fX10_store fu a M = some (r, M1) ∧ fX11_store fu (a + 241) M1 = some (r, M2) ∧ JJ o M2 a := by
  obtain ⟨S, Hs, k, u, B, bx, t, n, f1, f2, hg, hx, hm⟩ := id h
  obtain ⟨⟨r1, M1⟩, e1, w, w1, w2, w3⟩ := X10_store hfu hx.2.2.2.1 hx.2.1
  have nil : ∀ M', M'.1 (a + 1) 1 = nI 0 → TpX t 0 M' (a + 1) := fun M' h => ⟨by omega, h, fun j hj => absurd hj (by omega)⟩
  rcases w with ⟨v0, v1, v2, v3, v4, v5, v6, ⟨v7, v8, v9, v10, v11⟩, v12, v13⟩ | ⟨v0, v1, v2, v3, v4, v5⟩
  · dsimp only at *
    subst v1
    have hG := prS_ok v0
    have j2 : CFr a M M1 := fun c k1 k2 => v12 c (by omega)
    have j1 : JX o (prS t n).2.2.2 (fun _ => (prS t n).2.2.2) 0 0 B (fun _ => 0) t 0 (nI 0) mI M1 a := by
      refine ⟨⟨v2, Or.inl v7, Or.inl v8, Or.inl v9, Or.inl v10, Or.inl v11, ?_⟩, v3, fun j hj => Or.inl ⟨rfl, v4 j hj⟩, nil M1 w1, v5, v6⟩
      rw [(v13 a (by omega)).2]
      obtain ⟨x0, xx⟩ := hx.1.2.2.2.2.2.2
      rcases xx with ⟨x1, x2, x3⟩ | x1
      · exact ⟨x0, Or.inl ⟨x1, v10, x3.fr fun c hc => ⟨v12 c (by omega), v13 c (by omega)⟩⟩⟩
      · exact ⟨x0, Or.inr x1⟩
    have hm1 := hm.cf j2
    obtain ⟨⟨r2, M2⟩, e2, q, q'⟩ := X11_store hfu hm1.1 hm1.2.1 hm1.2.2.2.1
    rcases q with ⟨q0, q1, q2, q3, q4, q5, q6⟩ | ⟨q0, _⟩
    · dsimp only at *
      subst q1
      obtain ⟨s1, s2, s3, s4, s5⟩ := q'
      have y1 : JM (prS t n).2.2.2 (fun _ => (prS t n).2.2.2) 0 0 B (fun _ => 0) t 0 (nI 0) mI M2 (a + 241) := ⟨q2, q3, fun j hj => Or.inl ⟨rfl, q4 j hj⟩, ⟨by omega, s5, fun j hj => absurd hj (by omega), fun j hj => by rw [s4]; exact hm1.2.2.2.1.2.2.2 j hj⟩, q5, q6⟩
      exact ⟨_, M1, M2, e1, e2, _, _, _, _, _, _, _, _, _, _, ⟨hG, rfl, fun _ _ => ⟨hG, rfl, rfl, rfl⟩, fun j hj hb => absurd hb (by omega)⟩, j1.rf ⟨s1, s2⟩, y1⟩
    · exact absurd v0 q0
  · dsimp only at *
    subst v1
    have j2 : CFr a M M1 := fun c k1 k2 => v4 c (by omega)
    have ca : M1.1 a = M.1 a := v4 a (by omega)
    have j1 : JX o S Hs k u B bx t 0 (nI (prS t n).1) (nI (prS t n).2.1) M1 a := by
      obtain ⟨⟨n1, n2, n3, n4, n5, n6, n7⟩, h2, h3, h4, h5, h6⟩ := hx
      exact ⟨⟨n1.fr fun c h1 h2 => v4 c (by omega), n2.fr (by rw [ca]) (fun c h1 h2 h3 => v4 c (by omega)), n3.fr (by rw [ca]) (fun c h1 h2 => v4 c (by omega)), n4.fr (by rw [ca]) (fun c h1 h2 => v4 c (by omega)), n5.fr (by rw [ca]) (fun c h1 h2 => v4 c (by omega)), n6.fr (by rw [ca]) (fun c h1 h2 => v4 c (by omega)), NX.fill n7 (by rw [ca]) (by rw [v5]) (fun c hc => ⟨v4 c (by omega), by rw [v5], by rw [v5]⟩)⟩, h2.fr fun c k1 k2 => v4 c (by omega), h3.fr fun c k1 k2 => v4 c (by omega), nil M1 w1, v2, v3⟩
    have hm1 := hm.cf j2
    obtain ⟨⟨r2, M2⟩, e2, q, q'⟩ := X11_store hfu hm1.1 hm1.2.1 hm1.2.2.2.1
    rcases q with ⟨q0, _⟩ | ⟨q0, q1, q2, q3, q4, q5, q6, q7⟩
    · exact absurd q0 v0
    · dsimp only at *
      subst q1
      obtain ⟨s1, s2, s3, s4, s5⟩ := q'
      have y1 : JM S Hs k u B bx t 0 (nI (prS t n).1) (nI (prS t n).2.1) M2 (a + 241) := ⟨q2, q3, hm1.2.2.1.fr q4 q5, ⟨by omega, s5, fun j hj => absurd hj (by omega), fun j hj => by rw [s4]; exact hm1.2.2.2.1.2.2.2 j hj⟩, q6, q7⟩
      exact ⟨_, M1, M2, e1, e2, _, _, _, _, _, _, _, _, _, _, hg, j1.rf ⟨s1, s2⟩, y1⟩
end AD
