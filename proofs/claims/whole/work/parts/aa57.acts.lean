/-! The law's acts: both sides do alike. -/
section AC
variable {fu a m k u n : Nat} {M M1 M2 : Mm} {S S' : Sto} {Hs B : Nat → Sto} {bx t : Nat → Nat} {f1 f2 r : Int32} {L : Lay} {o : Option Nat}
theorem Gm.sw {S S' X : Sto} (h : Gm S S') (h' : Gm S X) : Gm S' X := ⟨h'.1.trans h.1.symm, h'.2.1.trans h.2.1.symm, h'.2.2.trans h.2.2.symm⟩
theorem JG.nt (h : JG S Hs k u B bx) (hk : k ≤ 16) (hG : Gd S') (hm : Gm S S') : JG S' (ntH Hs k S') (ntK k) 0 B bx := by
  obtain ⟨h1, h2, h3, h4⟩ := h
  refine ⟨hG, ntH_e _ _ _, fun i hi => ?_, fun j hj hb => ⟨(h4 j hj hb).1, hm.sw (h4 j hj hb).2⟩⟩
  by_cases e : i = ntK k
  · rw [e, ntH_e]
    exact ⟨hG, rfl, rfl, rfl⟩
  · by_cases c : k < 16
    · rw [ntK_1 c] at hi e
      rw [ntH_1 Hs S' c e]
      exact ⟨(h3 i (by omega)).1, hm.sw (h3 i (by omega)).2⟩
    · rw [ntK_2 c] at hi e
      rw [ntH_2 Hs S' c e]
      exact ⟨(h3 (i + 1) (by omega)).1, hm.sw (h3 (i + 1) (by omega)).2⟩
theorem JX.wd {Hs' : Nat → Sto} {k' u' : Nat} (h : JX o S Hs k u B bx t n f1 f2 M a) (hV : VX S' M1 (a + 12)) (hH : HX Hs' k' u' M1 (a + 21)) (hw : WD a M M1) : JX o S' Hs' k' u' B bx t n f1 f2 M1 a ∧ CFr a M M1 := by
  obtain ⟨h1, h2, h3, h4, h5, h6⟩ := h
  obtain ⟨w1, ⟨w2, w3, w4, w5, w6⟩, w7⟩ := hw
  have cc : ∀ c, c ≠ a → (c < a + 12 ∨ a + 176 ≤ c) → M1.1 c = M.1 c := w1
  refine ⟨⟨⟨hV, Or.inl w2, Or.inl w3, Or.inl w4, Or.inl w5, Or.inl w6, ?_⟩, hH, h3.fr fun c k1 k2 => cc c (by omega) (by omega), h4.fc (cc _ (by omega) (by omega)) (cc _ (by omega) (by omega)), by rw [cc _ (by omega) (by omega)]; exact h5, by rw [cc _ (by omega) (by omega)]; exact h6⟩, fun c k1 k2 => cc c (by omega) (by omega)⟩
  rw [(w7 a (by omega)).2]
  obtain ⟨x0, xx⟩ := h1.2.2.2.2.2.2
  rcases xx with ⟨x1, x2, x3⟩ | x1
  · exact ⟨x0, Or.inl ⟨x1, w5, x3.fr fun c hc => ⟨cc c (by omega) (by omega), w7 c (by omega)⟩⟩⟩
  · exact ⟨x0, Or.inr x1⟩
theorem JX.xw {z : Int32 × Mm} (h : JX o S Hs k u B bx t n f1 f2 M a) (hw : XW a Hs k M S' r z) : z.1 = r ∧ JX o S' (ntH Hs k S') (ntK k) 0 B bx t n f1 f2 z.2 a ∧ CFr a M z.2 := ⟨hw.1, h.wd hw.2.1 hw.2.2.1 hw.2.2.2⟩
theorem JX.xk {z : Int32 × Mm} (h : JX o S Hs k u B bx t n f1 f2 M a) (hG : Gd S) (hl : Low S S') (hw : XK a Hs k M S' r z) : z.1 = r ∧ JX o S' (ntH Hs k S') (ntK k) 0 B bx t n f1 f2 z.2 a ∧ CFr a M z.2 := by
  obtain ⟨h1, h2, h3, h4, h5, h6⟩ := h
  obtain ⟨n1, n2, n3, n4, n5, n6, n7⟩ := h1
  obtain ⟨hr, hV, hH, w1, ⟨w2, w3⟩, w4, w7⟩ := hw
  have cc : ∀ c, c ≠ a → (c < a + 12 ∨ a + 176 ≤ c) → z.2.1 c = M.1 c := w1
  refine ⟨hr, ⟨⟨hV, Or.inl w2, ?_, ?_, ?_, Or.inl w3, NX.fill n7 (w4 17 (by omega) (by omega)) (w7 a (by omega)).2 (fun c hc => ⟨cc c (by omega) (by omega), w7 c (by omega)⟩)⟩, hH, h3.fr fun c k1 k2 => cc c (by omega) (by omega), h4.fc (cc _ (by omega) (by omega)) (cc _ (by omega) (by omega)), by rw [cc _ (by omega) (by omega)]; exact h5, by rw [cc _ (by omega) (by omega)]; exact h6⟩, fun c k1 k2 => cc c (by omega) (by omega)⟩
  · have := n3.fr (M' := z.2) (w4 15 (by omega) (by omega)) (fun c k1 k2 => cc c (by omega) (by omega))
    unfold Lk at this ⊢
    rw [plS_cg hG hl]
    exact this
  · have := n4.fr (M' := z.2) (w4 16 (by omega) (by omega)) (fun c k1 k2 => cc c (by omega) (by omega))
    unfold Gk at this ⊢
    rw [ppS_cg hG hl, pgS_cg hG hl, hl.1.1]
    exact this
  · have := n5.fr (M' := z.2) (w4 17 (by omega) (by omega)) (fun c k1 k2 => cc c (by omega) (by omega))
    unfold Fk at this ⊢
    rcases this with q | ⟨q, q'⟩
    · exact Or.inl q
    · exact Or.inr ⟨q, FiV_cg hG hl q'⟩
theorem JM.ra {z : Int32 × Mm} (h : JM S Hs k u B bx t n f1 f2 M m) (hw : RA m Hs k M S' r z) : z.1 = r ∧ JM S' (ntH Hs k S') (ntK k) 0 B bx t n f1 f2 z.2 m ∧ RFr m M z.2 := by
  obtain ⟨h1, h2, h3, h4, h5, h6⟩ := h
  obtain ⟨hr, hV, hH, w1, w2, w3⟩ := hw
  have s : ∀ j, (j < 25 ∨ 52 ≤ j) → z.2.1 m j = M.1 m j := fun j hj => w2 j (by omega) (by omega) (by omega) (by omega) (by omega) (by omega) (by omega) (by omega) (by omega)
  have cc : ∀ c, c ≠ m → c ≠ m + 1 → (c < m + 8 ∨ m + 28 ≤ c) → z.2.1 c = M.1 c := w1
  exact ⟨hr, ⟨hV, hH, h3.fr (cc _ (by omega) (by omega) (by omega)) (cc _ (by omega) (by omega) (by omega)), h4.fc (s 7 (by omega)) (cc _ (by omega) (by omega) (by omega)) (cc _ (by omega) (by omega) (by omega)), (s 16 (by omega)).trans h5, (s 17 (by omega)).trans h6⟩, fun c hc => cc c (by omega) (by omega) (by omega), w3⟩
/-- an act done -/
theorem act {F : Option (Int32 × Mm)} {G : Mm → Option (Int32 × Mm)} (hg : JG S Hs k u B bx) (hx : JX o S Hs k u B bx t n f1 f2 M a) (hm : JM S Hs k u B bx t n f1 f2 M (a + 241)) (hG : Gd S') (hgm : Gm S S') (hF : Wp F (fun z => z.1 = r ∧ JX o S' (ntH Hs k S') (ntK k) 0 B bx t n f1 f2 z.2 a ∧ CFr a M z.2)) (hM : ∀ M1, JM S Hs k u B bx t n f1 f2 M1 (a + 241) → Wp (G M1) (RA (a + 241) Hs k M1 S' r)) : ∃ r M1 M2, F = some (r, M1) ∧ G M1 = some (r, M2) ∧ JJ o M2 a := by
  obtain ⟨⟨r1, M1⟩, e1, p1, p2, p3⟩ := hF
  obtain ⟨⟨r2, M2⟩, e2, q⟩ := hM M1 (hm.cf p3)
  obtain ⟨q1, q2, q3⟩ := (hm.cf p3).ra q
  dsimp only at *
  subst p1 q1
  have hk : k ≤ 16 := by have := hx.2.1.1; omega
  exact ⟨_, M1, M2, e1, e2, S', _, _, _, B, bx, t, n, f1, f2, hg.nt hk hG hgm, p2.rf q3, q2⟩
/-- nothing done -/
theorem idl {F : Option (Int32 × Mm)} {G : Mm → Option (Int32 × Mm)} (h : JJ o M a) (e1 : F = some (r, M)) (e2 : G M = some (r, M)) : ∃ r M1 M2, F = some (r, M1) ∧ G M1 = some (r, M2) ∧ JJ o M2 a := ⟨r, M, M, e1, e2, h⟩
theorem o4 (hfu : 200000 ≤ fu) (h : JJ o M a) (x1 x2 x3 : Int32) : ∃ r M1 M2, fX10_span fu a x1 x2 x3 M = some (r, M1) ∧ fX11_span fu (a + 241) x1 x2 x3 M1 = some (r, M2) ∧ JJ o M2 a := by
  obtain ⟨S, Hs, k, u, B, bx, t, n, f1, f2, hg, hx, hm⟩ := id h
  by_cases c : ∃ i j v, x1 = nI i ∧ x2 = nI j ∧ x3 = nI v ∧ i ≤ j ∧ j < 2 ^ S 140 ∧ v < 5 ∧ S 1 < 12
  · obtain ⟨i, j, v, rfl, rfl, rfl, c1, c2, c3, c4⟩ := c
    exact act (G := fun M1 => fX11_span fu (a + 241) (nI i) (nI j) (nI v) M1) hg hx hm (hg.1.ads c4 c1 c2 c3) (adS_g c4 _ _ _) ((X10_span_y hx.1.1 hg.1 hx.2.1 c4 c1 c2 c3).mono fun z w => hx.xw w) (fun M1 hM => X11_span_y hfu hM.1 hg.1 hM.2.1 hg.2.1 c4 c1 c2 c3)
  · exact idl h (X10_span_n hx.1.1 hg.1 c) (X11_span_n hm.1 hg.1 c)
theorem o5 (hfu : 200000 ≤ fu) (h : JJ o M a) (x : Int32) : ∃ r M1 M2, fX10_drop fu a x M = some (r, M1) ∧ fX11_drop fu (a + 241) x M1 = some (r, M2) ∧ JJ o M2 a := by
  obtain ⟨S, Hs, k, u, B, bx, t, n, f1, f2, hg, hx, hm⟩ := id h
  by_cases c : ∃ i, x = nI i ∧ i < S 1
  · obtain ⟨i, rfl, c1⟩ := c
    exact act (G := fun M1 => fX11_drop fu (a + 241) (nI i) M1) hg hx hm (hg.1.drs c1) (drS_g hg.1 _) ((X10_drop_y hfu hx.1.1 hg.1 hx.2.1 c1).mono fun z w => hx.xw w) (fun M1 hM => X11_drop_y hfu hM.1 hg.1 hM.2.1 hg.2.1 c1)
  · exact idl h (X10_drop_n hx.1.1 hg.1 c) (X11_drop_n hm.1 hg.1 c)
theorem o6 (hfu : 200000 ≤ fu) (h : JJ o M a) (x : Int32) : ∃ r M1 M2, fX10_prefer fu a x M = some (r, M1) ∧ fX11_prefer fu (a + 241) x M1 = some (r, M2) ∧ JJ o M2 a := by
  obtain ⟨S, Hs, k, u, B, bx, t, n, f1, f2, hg, hx, hm⟩ := id h
  by_cases c : ∃ v, x = nI v ∧ v < 5
  · obtain ⟨v, rfl, c1⟩ := c
    exact act (G := fun M1 => fX11_prefer fu (a + 241) (nI v) M1) hg hx hm (hg.1.upd0 c1) (upS_g (by omega)) ((X10_prefer_y hx.1.1 hg.1 hx.2.1 c1).mono fun z w => hx.xw w) (fun M1 hM => X11_prefer_y hfu hM.1 hM.2.1 hg.2.1 c1)
  · exact idl h (X10_prefer_n c) (X11_prefer_n c)
theorem upS_low {i v : Nat} (hi : 38 ≤ i) (h2 : i < 140) : Low S (upS S i v) := ⟨upS_g h2, fun j hj => upS_n (by omega)⟩
theorem o7 (hfu : 200000 ≤ fu) (h : JJ o M a) (x1 x2 : Int32) : ∃ r M1 M2, fX10_fix fu a x1 x2 M = some (r, M1) ∧ fX11_fix fu (a + 241) x1 x2 M1 = some (r, M2) ∧ JJ o M2 a := by
  obtain ⟨S, Hs, k, u, B, bx, t, n, f1, f2, hg, hx, hm⟩ := id h
  by_cases c : 0 < S 142 ∧ ∃ i v, x1 = nI i ∧ x2 = nI v ∧ i < 8 ∧ v < 5
  · obtain ⟨c0, i, v, rfl, rfl, c1, c2⟩ := c
    exact act (G := fun M1 => fX11_fix fu (a + 241) (nI i) (nI v) M1) hg hx hm (hg.1.up68 c1 c2) (upS_g (by omega)) ((X10_fix_y hx.1.1 hg.1 hx.2.1 c0 c1 c2).mono fun z w => hx.xk hg.1 (upS_low (by omega) (by omega)) w) (fun M1 hM => X11_fix_y hfu hM.1 hg.1 hM.2.1 hg.2.1 c0 c1 c2)
  · exact idl h (X10_fix_n hx.1.1 hg.1 c) (X11_fix_n hm.1 hg.1 c)
theorem o11 (hfu : 200000 ≤ fu) (h : JJ o M a) (x1 x2 : Int32) : ∃ r M1 M2, fX10_page fu a x1 x2 M = some (r, M1) ∧ fX11_page fu (a + 241) x1 x2 M1 = some (r, M2) ∧ JJ o M2 a := by
  obtain ⟨S, Hs, k, u, B, bx, t, n, f1, f2, hg, hx, hm⟩ := id h
  have hA := hg.1.ad
  by_cases c : ∃ i v, x1 = nI i ∧ x2 = nI v ∧ i < 2 ^ S 140 / 16 ∧ v ≤ 5
  · obtain ⟨i, v, rfl, rfl, c1, c2⟩ := c
    exact act (G := fun M1 => fX11_page fu (a + 241) (nI i) (nI v) M1) hg hx hm (hg.1.up76 (by omega) c2) (upS_g (by omega)) ((X10_page_y hx.1.1 hg.1 hx.2.1 c1 c2).mono fun z w => hx.xk hg.1 (upS_low (by omega) (by omega)) w) (fun M1 hM => X11_page_y hfu hM.1 hg.1 hM.2.1 hg.2.1 c1 c2)
  · exact idl h (X10_page_n hx.1.1 hg.1 c) (X11_page_n hm.1 hg.1 c)
theorem putS_low {r b s v : Nat} (hr : r < 10) : Low S (putS S r b s v) := ⟨putS_g hr, fun j hj => putS_e hr j (by omega)⟩
theorem o8 (hfu : 200000 ≤ fu) (h : JJ o M a) (x1 x2 x3 x4 : Int32) : ∃ r M1 M2, fX10_set fu a x1 x2 x3 x4 M = some (r, M1) ∧ fX11_set fu (a + 241) x1 x2 x3 x4 M1 = some (r, M2) ∧ JJ o M2 a := by
  obtain ⟨S, Hs, k, u, B, bx, t, n, f1, f2, hg, hx, hm⟩ := id h
  have h10 := hg.1.1.2.2.2.1
  by_cases c : ∃ r b s v, stP S x1 x2 x3 x4 r b s v
  · obtain ⟨r, b, s, v, c⟩ := c
    have c1 := c.2.1
    exact act (G := fun M1 => fX11_set fu (a + 241) x1 x2 x3 x4 M1) hg hx hm (hg.1.put c1 c.2.2.1 (fun _ => c.2.2.2.2)) (putS_g (by omega)) ((X10_set_y hfu hx.1.1 hg.1 hx.2.1 c).mono fun z w => hx.xk hg.1 (putS_low (by omega)) w) (fun M1 hM => X11_set_y hfu hM.1 hg.1 hM.2.1 hg.2.1 c)
  · exact idl h (X10_set_n hfu hx.1.1 hg.1 c) (X11_set_n hfu hm.1 hg.1 c)
theorem o9 (hfu : 200000 ≤ fu) (h : JJ o M a) (x : Int32) : ∃ r M1 M2, fX10_clear fu a x M = some (r, M1) ∧ fX11_clear fu (a + 241) x M1 = some (r, M2) ∧ JJ o M2 a := by
  obtain ⟨S, Hs, k, u, B, bx, t, n, f1, f2, hg, hx, hm⟩ := id h
  have h10 := hg.1.1.2.2.2.1
  by_cases c : ∃ r, x = nI r ∧ r < S 141 ∧ 0 < S (39 + 3 * r)
  · obtain ⟨r, rfl, c1, c2⟩ := c
    exact act (G := fun M1 => fX11_clear fu (a + 241) (nI r) M1) hg hx hm (hg.1.put c1 (Or.inl ⟨rfl, rfl, rfl⟩) (fun z => absurd z (by omega))) (putS_g (by omega)) ((X10_clear_y hx.1.1 hg.1 hx.2.1 c1 c2).mono fun z w => hx.xk hg.1 (putS_low (by omega)) w) (fun M1 hM => X11_clear_y hfu hM.1 hg.1 hM.2.1 hg.2.1 c1 c2)
  · exact idl h (X10_clear_n hx.1.1 hg.1 c) (X11_clear_n hm.1 hg.1 c)
end AC
