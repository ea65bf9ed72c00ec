/-! The law's questions: both sides answer alike. -/
def JJ (o : Option Nat) (M : Mm) (a : Nat) : Prop := ∃ S Hs k u B bx t n f1 f2, JG S Hs k u B bx ∧ JX o S Hs k u B bx t n f1 f2 M a ∧ JM S Hs k u B bx t n f1 f2 M (a + 241)
section AK
variable {fu a k u n : Nat} {M M1 M2 : Mm} {S : Sto} {Hs B : Nat → Sto} {bx t : Nat → Nat} {f1 f2 : Int32} {L : Lay} {o : Option Nat}
theorem J_1 (hg : JG S Hs k u B bx) (hx : JX o S Hs k u B bx t n f1 f2 M1 a) (hm : JM S Hs k u B bx t n f1 f2 M (a + 241)) (hc : CFr a M M1) : JJ o M1 a := ⟨S, Hs, k, u, B, bx, t, n, f1, f2, hg, hx, hm.cf hc⟩
theorem J_2 (hg : JG S Hs k u B bx) (hx : JX o S Hs k u B bx t n f1 f2 M1 a) (hm : JM S Hs k u B bx t n f1 f2 M (a + 241)) (hc : CFr a M M1) (hs : Sc (a + 241) M1 M2) : JJ o M2 a := ⟨S, Hs, k, u, B, bx, t, n, f1, f2, hg, hx.rf ((hm.cf hc).sc hs).2, ((hm.cf hc).sc hs).1⟩
theorem CFr.rf (a : Nat) (M : Mm) : CFr a M M := fun _ _ _ => rfl
theorem CFr.tr {M'' : Mm} (h : CFr a M M1) (h' : CFr a M1 M'') : CFr a M M'' := fun c h1 h2 => (h' c h1 h2).trans (h c h1 h2)
theorem o3 (h : JJ o M a) (x : Int32) : ∃ r, fX10_fault fu a x M = some r ∧ fX11_fault fu (a + 241) x M = some r := by
  obtain ⟨S, Hs, k, u, B, bx, t, n, f1, f2, hg, hx, hm⟩ := h
  unfold fX10_fault fX11_fault fX11_fault_j24
  rw [hx.2.2.2.2.1, hx.2.2.2.2.2, hm.2.2.2.2.1, hm.2.2.2.2.2]
  exact ⟨if x = 0 then f1 else if x = 1 then f2 else -1, by simp only [ite_s], by simp only [ite_s]⟩
theorem o17 (h : JJ o M a) (x1 x2 : Int32) : ∃ r, fX10_told fu a x1 x2 M = some r ∧ fX11_told fu (a + 241) x1 x2 M = some r := by
  obtain ⟨S, Hs, k, u, B, bx, t, n, f1, f2, hg, hx, hm⟩ := h
  exact ⟨_, X10_told hx.1.1 hg.1 x1 x2, X11_told hm.1 hg.1 x1 x2⟩
theorem o18 (h : JJ o M a) (x1 x2 : Int32) : ∃ r, fX10_register fu a x1 x2 M = some r ∧ fX11_register fu (a + 241) x1 x2 M = some r := by
  obtain ⟨S, Hs, k, u, B, bx, t, n, f1, f2, hg, hx, hm⟩ := h
  exact ⟨_, X10_register hx.1.1 hg.1 x1 x2, X11_register hm.1 hg.1 x1 x2⟩
theorem o19 (h : JJ o M a) (x : Int32) : ∃ r, fX10_part fu a x M = some r ∧ fX11_part fu (a + 241) x M = some r := by
  obtain ⟨S, Hs, k, u, B, bx, t, n, f1, f2, hg, hx, hm⟩ := h
  exact ⟨_, X10_part hx.1.1 hg.1 x, X11_part hm.1 hg.1 x⟩
theorem o20 (hfu : 200000 ≤ fu) (h : JJ o M a) (x : Int32) : ∃ r, fX10_wanted fu a x M = some r ∧ fX11_wanted fu (a + 241) x M = some r := by
  obtain ⟨S, Hs, k, u, B, bx, t, n, f1, f2, hg, hx, hm⟩ := h
  exact ⟨_, X10_wanted hfu hx.1.1 hg.1 x, X11_wanted hfu hm.1 hg.1 x⟩
theorem o21 (hfu : 200000 ≤ fu) (h : JJ o M a) (x : Int32) : ∃ r, fX10_kind fu a x M = some r ∧ fX11_kind fu (a + 241) x M = some r := by
  obtain ⟨S, Hs, k, u, B, bx, t, n, f1, f2, hg, hx, hm⟩ := h
  exact ⟨_, X10_kind hfu hx.1.1 hg.1 x, X11_kind hfu hm.1 hg.1 x⟩
theorem o23 (h : JJ o M a) (x : Int32) : ∃ r, fX10_paged fu a x M = some r ∧ fX11_paged fu (a + 241) x M = some r := by
  obtain ⟨S, Hs, k, u, B, bx, t, n, f1, f2, hg, hx, hm⟩ := h
  exact ⟨_, X10_paged hx.1.1 hg.1 x, X11_paged hm.1 hg.1 x⟩
theorem o24 (hfu : 200000 ≤ fu) (h : JJ o M a) (x : Int32) : ∃ r, fX10_seen fu a x M = some r ∧ fX11_seen fu (a + 241) x M = some r := by
  obtain ⟨S, Hs, k, u, B, bx, t, n, f1, f2, hg, hx, hm⟩ := h
  exact ⟨_, X10_seen hfu hx.1.1 hg.1 x, X11_seen hfu hm.1 hg.1 x⟩
-- by the pieces
theorem o22 (hfu : 200000 ≤ fu) (h : JJ o M a) (x1 x2 : Int32) : ∃ r M1, fX10_run fu a x1 x2 M = some (r, M1) ∧ fX11_run fu (a + 241) x1 x2 M1 = some r ∧ JJ o M1 a := by
  obtain ⟨S, Hs, k, u, B, bx, t, n, f1, f2, hg, hx, hm⟩ := h
  obtain ⟨M1, q, f, e, p1, p2, p3⟩ := JX_pieces hfu hx hg.1
  exact ⟨_, M1, X10_run p1 hg.1 e x1 x2, X11_run hfu (hm.cf p3).1 hg.1 x1 x2, J_1 hg p2 hm p3⟩
theorem o25 (hfu : 200000 ≤ fu) (h : JJ o M a) (x1 : Int32) : ∃ r M1, fX10_strange fu a x1 M = some (r, M1) ∧ fX11_strange fu (a + 241) x1 M1 = some r ∧ JJ o M1 a := by
  obtain ⟨S, Hs, k, u, B, bx, t, n, f1, f2, hg, hx, hm⟩ := h
  obtain ⟨M1, q, f, e, p1, p2, p3⟩ := JX_pieces hfu hx hg.1
  exact ⟨_, M1, X10_strange hfu p1 p2.1.1 hg.1 e x1, X11_strange hfu (hm.cf p3).1 hg.1 x1, J_1 hg p2 hm p3⟩
theorem o30 (hfu : 200000 ≤ fu) (h : JJ o M a) (x1 : Int32) : ∃ r M1, fX10_wrong fu a x1 M = some (r, M1) ∧ fX11_wrong fu (a + 241) x1 M1 = some r ∧ JJ o M1 a := by
  obtain ⟨S, Hs, k, u, B, bx, t, n, f1, f2, hg, hx, hm⟩ := h
  obtain ⟨M1, q, f, e, p1, p2, p3⟩ := JX_pieces hfu hx hg.1
  exact ⟨_, M1, X10_wrong hfu p1 p2.1.1 hg.1 e x1, X11_wrong hfu (hm.cf p3).1 hg.1 x1, J_1 hg p2 hm p3⟩
/-- the memory is the one before, or the one with the pieces -/
theorem J_or {M3 : Mm} (hg : JG S Hs k u B bx) (hx : JX o S Hs k u B bx t n f1 f2 M a) (hx1 : JX o S Hs k u B bx t n f1 f2 M1 a) (hm : JM S Hs k u B bx t n f1 f2 M (a + 241)) (hc : CFr a M M1) (ho : M3 = M ∨ M3 = M1) : JX o S Hs k u B bx t n f1 f2 M3 a ∧ CFr a M M3 := by
  rcases ho with rfl | rfl
  · exact ⟨hx, CFr.rf _ _⟩
  · exact ⟨hx1, hc⟩
theorem o26 (hfu : 200000 ≤ fu) (h : JJ o M a) (x : Int32) : ∃ r M1, fX10_mendable fu a x M = some (r, M1) ∧ fX11_mendable fu (a + 241) x M1 = some r ∧ JJ o M1 a := by
  obtain ⟨S, Hs, k, u, B, bx, t, n, f1, f2, hg, hx, hm⟩ := h
  obtain ⟨M1, q, f, e, p1, p2, p3⟩ := JX_pieces hfu hx hg.1
  obtain ⟨M3, e3, ho⟩ := X10_mendable hfu hx.1.1 p1 hg.1 e x
  obtain ⟨j1, j2⟩ := J_or hg hx p2 hm p3 ho
  exact ⟨_, M3, e3, X11_mendable_x hfu (hm.cf j2).1 hg.1 x, J_1 hg j1 hm j2⟩
theorem o37 (hfu : 200000 ≤ fu) (h : JJ o M a) (x : Int32) : ∃ r M1, fX10_idle fu a x M = some (r, M1) ∧ fX11_idle fu (a + 241) x M1 = some r ∧ JJ o M1 a := by
  obtain ⟨S, Hs, k, u, B, bx, t, n, f1, f2, hg, hx, hm⟩ := h
  obtain ⟨M1, q, f, e, p1, p2, p3⟩ := JX_pieces hfu hx hg.1
  obtain ⟨M3, e3, ho⟩ := X10_idle hfu hx.1.1 p1 p2.1.1 hg.1 e x
  obtain ⟨j1, j2⟩ := J_or hg hx p2 hm p3 ho
  exact ⟨_, M3, e3, X11_idle hfu (hm.cf j2).1 hg.1 x, J_1 hg j1 hm j2⟩
theorem o38 (hfu : 200000 ≤ fu) (h : JJ o M a) (x : Int32) : ∃ r M1, fX10_without fu a x M = some (r, M1) ∧ fX11_without fu (a + 241) x M1 = some r ∧ JJ o M1 a := by
  obtain ⟨S, Hs, k, u, B, bx, t, n, f1, f2, hg, hx, hm⟩ := h
  obtain ⟨M1, q, f, e, p1, p2, p3⟩ := JX_pieces hfu hx hg.1
  obtain ⟨M3, e3, ho⟩ := X10_without hfu hx.1.1 p1 p2.1.1 hg.1 e x
  obtain ⟨j1, j2⟩ := J_or hg hx p2 hm p3 ho
  exact ⟨_, M3, e3, X11_without hfu (hm.cf j2).1 hg.1 x, J_1 hg j1 hm j2⟩
theorem o39 (hfu : 200000 ≤ fu) (h : JJ o M a) (x1 x2 x3 : Int32) : ∃ r M1, fX10_besides fu a x1 x2 x3 M = some (r, M1) ∧ fX11_besides fu (a + 241) x1 x2 x3 M1 = some r ∧ JJ o M1 a := by
  obtain ⟨S, Hs, k, u, B, bx, t, n, f1, f2, hg, hx, hm⟩ := h
  obtain ⟨M1, q, f, e, p1, p2, p3⟩ := JX_pieces hfu hx hg.1
  obtain ⟨M3, e3, ho⟩ := X10_besides hfu hx.1.1 p1 p2.1.1 hg.1 e x1 x2 x3
  rcases ho with rfl | ho
  · exact ⟨_, _, e3, X11_besides hfu hm.1 hg.1 x1 x2 x3, J_1 hg hx hm (CFr.rf _ _)⟩
  · obtain ⟨j1, j2⟩ := JX_o1 p2 ho
    exact ⟨_, M3, e3, X11_besides hfu (hm.cf (p3.tr j2)).1 hg.1 x1 x2 x3, J_1 hg j1 hm (p3.tr j2)⟩
theorem o43 (hfu : 200000 ≤ fu) (h : JJ o M a) (x1 x2 : Int32) : ∃ r M1, fX10_block fu a x1 x2 M = some (r, M1) ∧ fX11_block fu (a + 241) x1 x2 M1 = some r ∧ JJ o M1 a := by
  obtain ⟨S, Hs, k, u, B, bx, t, n, f1, f2, hg, hx, hm⟩ := h
  obtain ⟨M1, q, f, e, p1, p2, p3⟩ := JX_pieces hfu hx hg.1
  exact ⟨_, M1, X10_block hfu p1 p2.1.1 hg.1 e x1 x2, X11_block hfu (hm.cf p3).1 hg.1 x1 x2, J_1 hg p2 hm p3⟩
theorem o44 (hfu : 200000 ≤ fu) (h : JJ o M a) (x : Int32) : ∃ r M1, fX10_bits fu a x M = some (r, M1) ∧ fX11_bits fu (a + 241) x M1 = some r ∧ JJ o M1 a := by
  obtain ⟨S, Hs, k, u, B, bx, t, n, f1, f2, hg, hx, hm⟩ := h
  obtain ⟨M1, q, f, e, p1, p2, p3⟩ := JX_pieces hfu hx hg.1
  obtain ⟨M3, e3, ho⟩ := X10_bits hfu p1 hg.1 e x
  obtain ⟨j1, j2⟩ := J_or hg hx p2 hm p3 ho
  exact ⟨_, M3, e3, X11_bits hfu (hm.cf j2).1 hg.1 x, J_1 hg j1 hm j2⟩
theorem o48 (hfu : 200000 ≤ fu) (h : JJ o M a) (x : Int32) : ∃ r M1, fX10_about fu a x M = some (r, M1) ∧ fX11_about fu (a + 241) x M1 = some r ∧ JJ o M1 a := by
  obtain ⟨S, Hs, k, u, B, bx, t, n, f1, f2, hg, hx, hm⟩ := h
  obtain ⟨M1, q, f, e, p1, p2, p3⟩ := JX_pieces hfu hx hg.1
  obtain ⟨M3, e3, ho⟩ := X10_about hfu hx.1.1 hg.1 hx.2.1 hx.2.2.2.1.2.1 e p1 x
  obtain ⟨j1, j2⟩ := J_or hg hx p2 hm p3 ho
  exact ⟨_, M3, e3, X11_about hfu (hm.cf j2).1 hg.1 (hm.cf j2).2.1 (hm.cf j2).2.2.2.1.2.1 x, J_1 hg j1 hm j2⟩
-- by the plans
theorem o32 (hfu : 200000 ≤ fu) (ha : atB L (a + 220) (T0 160) = true) (h : JJ o M a) (x1 x2 : Int32) : ∃ r M1 M2, fX10_plan fu L a x1 x2 M = some (r, M1) ∧ fX11_plan fu (a + 241) x1 x2 M1 = some (r, M2) ∧ JJ o M2 a := by
  obtain ⟨S, Hs, k, u, B, bx, t, n, f1, f2, hg, hx, hm⟩ := h
  obtain ⟨M1, e, p1, p2, p3⟩ := JX_plan hfu ha hx hg.1
  obtain ⟨⟨r, M2⟩, e2, q1, q2⟩ := X11_plan hfu (hm.cf p3).1 hg.1 (by rw [plS_len hg.1]; have := cvS_le hg.1 hg.1.1.2.2.2.2.1; omega) x1 x2
  dsimp only at q1 q2
  subst q1
  exact ⟨_, M1, M2, X10_plan hg.1 p1 e x1 x2, e2, J_2 hg p2 hm p3 q2⟩
theorem o31 (hfu : 200000 ≤ fu) (ha : atB L (a + 220) (T0 160) = true) (h : JJ o M a) (x1 : Int32) : ∃ r M1 M2, fX10_cost fu L a x1 M = some (r, M1) ∧ fX11_cost fu (a + 241) x1 M1 = some (r, M2) ∧ JJ o M2 a := by
  obtain ⟨S, Hs, k, u, B, bx, t, n, f1, f2, hg, hx, hm⟩ := h
  obtain ⟨M1, e, p1, p2, p3⟩ := JX_plan hfu ha hx hg.1
  obtain ⟨⟨r, M3⟩, e3, w1, w2⟩ := X10_cost hfu hx.1.1 hg.1 p1 e x1
  dsimp only at w1 w2
  subst w1
  have j : JX o S Hs k u B bx t n f1 f2 M3 a ∧ CFr a M M3 := by
    rcases w2 with rfl | w2
    · exact ⟨p2, p3⟩
    · exact JX_f hx w2 (Or.inl ⟨rfl, rfl⟩)
  obtain ⟨⟨r, M2⟩, e2, q1, q2⟩ := X11_cost hfu (hm.cf j.2).1 hg.1 x1
  dsimp only at q1 q2
  subst q1
  exact ⟨_, M3, M2, e3, e2, J_2 hg j.1 hm j.2 q2⟩
theorem o33 (hfu : 200000 ≤ fu) (h : JJ o M a) (x : Int32) : ∃ r M1 M2, fX10_byDefault fu a x M = some (r, M1) ∧ fX11_byDefault fu (a + 241) x M1 = some (r, M2) ∧ JJ o M2 a := by
  obtain ⟨S, Hs, k, u, B, bx, t, n, f1, f2, hg, hx, hm⟩ := h
  obtain ⟨M1, e, w⟩ := X10_byDefault hfu hx.1.1 hg.1 x
  obtain ⟨j1, j2⟩ := JX_f hx w (Or.inl ⟨rfl, rfl⟩)
  obtain ⟨M2, e2, q2⟩ := X11_byDefault hfu (hm.cf j2).1 hg.1 x
  exact ⟨_, M1, M2, e, e2, J_2 hg j1 hm j2 q2⟩
theorem o34 (hfu : 200000 ≤ fu) (h : JJ o M a) : ∃ r M1 M2, fX10_bestDefault fu a M = some (r, M1) ∧ fX11_bestDefault fu (a + 241) M1 = some (r, M2) ∧ JJ o M2 a := by
  obtain ⟨S, Hs, k, u, B, bx, t, n, f1, f2, hg, hx, hm⟩ := h
  obtain ⟨⟨r, M1⟩, e, w1, w⟩ := X10_bestDefault hfu hx.1.1 hg.1
  obtain ⟨j1, j2⟩ := JX_f hx w (Or.inl ⟨rfl, rfl⟩)
  obtain ⟨⟨r2, M2⟩, e2, q1, q2⟩ := X11_bestDefault hfu (hm.cf j2).1 hg.1
  dsimp only at *
  subst w1 q1
  exact ⟨_, M1, M2, e, e2, J_2 hg j1 hm j2 q2⟩
theorem o27 (hfu : 200000 ≤ fu) (ha : atB L (a + 224) (T0 160) = true) (hR : L.contains (a + 228, (0, 64)) = true) (h : JJ o M a) (x : Int32) : ∃ r M1 M2, fX10_withPages fu L a x M = some (r, M1) ∧ fX11_withPages fu (a + 241) x M1 = some (r, M2) ∧ JJ o M2 a := by
  obtain ⟨S, Hs, k, u, B, bx, t, n, f1, f2, hg, hx, hm⟩ := h
  obtain ⟨M1, e, p1, p2, p3⟩ := JX_paged hfu ha hR hx hg.1
  obtain ⟨⟨r2, M2⟩, e2, q1, q2⟩ := X11_withPages hfu (hm.cf p3).1 hg.1 x
  dsimp only at *
  subst q1
  exact ⟨_, M1, M2, X10_withPages hfu hg.1 e p2.1.1 p1.1 p1.2 x, e2, J_2 hg p2 hm p3 q2⟩
theorem o28 (hfu : 200000 ≤ fu) (ha : atB L (a + 224) (T0 160) = true) (hR : L.contains (a + 228, (0, 64)) = true) (h : JJ o M a) (x1 x2 : Int32) : ∃ r M1 M2, fX10_pagedPlan fu L a x1 x2 M = some (r, M1) ∧ fX11_pagedPlan fu (a + 241) x1 x2 M1 = some (r, M2) ∧ JJ o M2 a := by
  obtain ⟨S, Hs, k, u, B, bx, t, n, f1, f2, hg, hx, hm⟩ := h
  obtain ⟨M1, e, p1, p2, p3⟩ := JX_paged hfu ha hR hx hg.1
  obtain ⟨⟨r2, M2⟩, e2, q1, q2⟩ := X11_pagedPlan hfu (hm.cf p3).1 hg.1 x1 x2
  dsimp only at *
  subst q1
  exact ⟨_, M1, M2, X10_pagedPlan hg.1 e p1.1 x1 x2, e2, J_2 hg p2 hm p3 q2⟩
theorem o29 (hfu : 200000 ≤ fu) (ha : atB L (a + 224) (T0 160) = true) (hR : L.contains (a + 228, (0, 64)) = true) (h : JJ o M a) (x : Int32) : ∃ r M1 M2, fX10_pageFor fu L a x M = some (r, M1) ∧ fX11_pageFor fu (a + 241) x M1 = some (r, M2) ∧ JJ o M2 a := by
  obtain ⟨S, Hs, k, u, B, bx, t, n, f1, f2, hg, hx, hm⟩ := h
  obtain ⟨M1, e, p1, p2, p3⟩ := JX_paged hfu ha hR hx hg.1
  obtain ⟨M3, e3, ho⟩ := X10_pageFor hg.1 hx.1.1 e p1.2 x
  obtain ⟨j1, j2⟩ := J_or hg hx p2 hm p3 ho
  obtain ⟨⟨r2, M2⟩, e2, q1, q2⟩ := X11_pageFor hfu (hm.cf j2).1 hg.1 x
  dsimp only at *
  subst q1
  exact ⟨_, M3, M2, e3, e2, J_2 hg j1 hm j2 q2⟩
theorem o40 (hfu : 200000 ≤ fu) (ha : atB L (a + 220) (T0 160) = true) (h : JJ o M a) (x : Int32) : ∃ r M1 M2, fX10_change fu L a x M = some (r, M1) ∧ fX11_change fu (a + 241) x M1 = some (r, M2) ∧ JJ o M2 a := by
  obtain ⟨S, Hs, k, u, B, bx, t, n, f1, f2, hg, hx, hm⟩ := h
  obtain ⟨M1, e, p1, p2, p3⟩ := JX_change hfu ha hx hg.1
  obtain ⟨⟨r2, M2⟩, e2, q1, q2⟩ := X11_change hfu (hm.cf p3).1 hg.1 x
  dsimp only at *
  subst q1
  exact ⟨_, M1, M2, X10_change hg.1 e p1 x, e2, J_2 hg p2 hm p3 q2⟩
theorem o41 (hfu : 200000 ≤ fu) (ha : atB L (a + 220) (T0 160) = true) (h : JJ o M a) (x : Int32) : ∃ r M1 M2, fX10_order fu L a x M = some (r, M1) ∧ fX11_order fu (a + 241) x M1 = some (r, M2) ∧ JJ o M2 a := by
  obtain ⟨S, Hs, k, u, B, bx, t, n, f1, f2, hg, hx, hm⟩ := h
  obtain ⟨M1, e, p1, p2, p3⟩ := JX_change hfu ha hx hg.1
  obtain ⟨⟨r2, M2⟩, e2, q1, q2⟩ := X11_order hfu (hm.cf p3).1 hg.1 x
  dsimp only at *
  subst q1
  exact ⟨_, M1, M2, X10_order hg.1 e p1 x, e2, J_2 hg p2 hm p3 q2⟩
theorem o42 (hfu : 200000 ≤ fu) (ha : atB L (a + 220) (T0 160) = true) (h : JJ o M a) (x : Int32) : ∃ r M1 M2, fX10_stir fu L a x M = some (r, M1) ∧ fX11_stir fu (a + 241) x M1 = some (r, M2) ∧ JJ o M2 a := by
  obtain ⟨S, Hs, k, u, B, bx, t, n, f1, f2, hg, hx, hm⟩ := h
  obtain ⟨M1, e, p1, p2, p3⟩ := JX_change hfu ha hx hg.1
  obtain ⟨⟨r2, M2⟩, e2, q1, q2⟩ := X11_stir hfu (hm.cf p3).1 hg.1 x
  dsimp only at *
  subst q1
  exact ⟨_, M1, M2, X10_stir hfu hg.1 e p1 x, e2, J_2 hg p2 hm p3 q2⟩
theorem o46 (hfu : 200000 ≤ fu) (h : JJ o M a) (x1 x2 : Int32) : ∃ r M1 M2, fX10_differs fu a x1 x2 M = some (r, M1) ∧ fX11_differs fu (a + 241) x1 x2 M1 = some (r, M2) ∧ JJ o M2 a := by
  obtain ⟨S, Hs, k, u, B, bx, t, n, f1, f2, hg, hx, hm⟩ := h
  by_cases c : ∃ j, j < 2 ∧ x1 = nI j ∧ bx j = 1
  · obtain ⟨j, hj, rfl, hb⟩ := c
    obtain ⟨g1, g2⟩ := hg.2.2.2 j hj hb
    obtain ⟨⟨r, M1⟩, e, w1, w⟩ := X10_differs_y hfu hx.1.1 hg.1 hx.2.2.1 hj hb g1 g2 x2
    obtain ⟨j1, j2⟩ := JX_f hx w (Or.inr ⟨rfl, rfl⟩)
    obtain ⟨⟨r2, M2⟩, e2, q1, q2⟩ := X11_differs_y hfu (hm.cf j2).1 hg.1 (hm.cf j2).2.2.1 hj hb g1 g2 x2
    dsimp only at *
    subst w1 q1
    exact ⟨_, M1, M2, e, e2, J_2 hg j1 hm j2 q2⟩
  · exact ⟨_, M, M, X10_differs_n hx.2.2.1 c x2, X11_differs_n hm.2.2.1 c x2, J_1 hg hx hm (CFr.rf _ _)⟩
end AK
