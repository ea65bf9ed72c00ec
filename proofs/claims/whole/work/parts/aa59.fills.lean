/-! most, bestSet: with the filler, and where it comes. -/
theorem iC3_ok {fu q : Nat} {M : Mm} (hZ : Zr q M) : ∃ M1, iC3 fu q M = some M1 ∧ (∀ c, M1.1 c = M.1 c) ∧ M1.2.1 = M.2.1 ∧ ∀ c, M1.2.2 c = M.2.2 c := by
  refine ⟨pt q (fun _ => 0) (pt (q + 1) (fun _ => 0) (pt (q + 1 + 6) (fun _ => 0) M)), rfl, fun c => ?_, rfl, fun c => ?_⟩
  · show (if c = q then _ else if c = q + 1 then _ else if c = q + 1 + 6 then _ else M.1 c) = M.1 c
    by_cases c0 : c = q
    · rw [if_pos c0]; exact (hZ c (by omega)).1.symm
    rw [if_neg c0]
    by_cases c1 : c = q + 1
    · rw [if_pos c1]; exact (hZ c (by omega)).1.symm
    rw [if_neg c1]
    by_cases c2 : c = q + 1 + 6
    · rw [if_pos c2]; exact (hZ c (by omega)).1.symm
    rw [if_neg c2]
  · show (if c = q then _ else if c = q + 1 then _ else if c = q + 1 + 6 then _ else M.2.2 c) = M.2.2 c
    by_cases c0 : c = q
    · rw [if_pos c0]; exact (hZ c (by omega)).2.2.symm
    rw [if_neg c0]
    by_cases c1 : c = q + 1
    · rw [if_pos c1]; exact (hZ c (by omega)).2.2.symm
    rw [if_neg c1]
    by_cases c2 : c = q + 1 + 6
    · rw [if_pos c2]; exact (hZ c (by omega)).2.2.symm
    rw [if_neg c2]
section FL
variable {fu a m k u n : Nat} {M M1 M2 : Mm} {S S' : Sto} {Hs B : Nat → Sto} {bx t : Nat → Nat} {f1 f2 r : Int32} {L : Lay} {o : Option Nat}
theorem JX_fill (hfu : 200000 ≤ fu) (h : JX (some (a + 271)) S Hs k u B bx t n f1 f2 M a) (hG : Gd S) : ∃ M1, fnow fu a (a + 271) M = some M1 ∧ FiV S M1 (a + 271) ∧ JX (some (a + 271)) S Hs k u B bx t n f1 f2 M1 a ∧ CFr a M M1 := by
  obtain ⟨n1, n2, n3, n4, n5, n6, n7, n8⟩ := h.1
  obtain ⟨M1, e, p1, p2, p3⟩ := fnow_ok hfu n1 hG n7 n5
  have cc : ∀ c, c < a + 271 → c ≠ a → M1.1 c = M.1 c := fun c h1 h2 => (p3.1 c (by omega)).1 h2
  refine ⟨M1, e, p1, h.of ⟨n1.fr fun c h1 h2 => cc c (by omega) (by omega), n2.fr (p3.2 14 (by omega)) (fun c h1 h2 h3 => cc c (by omega) (by omega)), n3.fr (p3.2 15 (by omega)) (fun c h1 h2 => cc c (by omega) (by omega)), n4.fr (p3.2 16 (by omega)) (fun c h1 h2 => cc c (by omega) (by omega)), Or.inr ⟨p2, p1⟩, n6.fr (p3.2 18 (by omega)) (fun c h1 h2 => cc c (by omega) (by omega)), by rw [(p3.1 a (by omega)).2.2]; exact n7, Or.inr rfl⟩ (fun c h1 h2 => cc c (by omega) (by omega)), fun c h1 h2 => cc c (by omega) (by omega)⟩
/-- the filler comes -/
theorem JX_come (h : JX none S Hs k u B bx t n f1 f2 M a) : ∃ M1, iC3 fu (a + 271) M = some M1 ∧ JX (some (a + 271)) S Hs k u B bx t n f1 f2 (wR M1 a 13 (some (a + 271))) a ∧ CFr a M (wR M1 a 13 (some (a + 271))) := by
  obtain ⟨n1, n2, n3, n4, n5, n6, n7, n8⟩ := h.1
  have hz : M.1 a 17 = nI 0 ∧ Zr (a + 271) M := by
    rcases n8 with ⟨_, x2, x3⟩ | x1
    · exact ⟨x2, x3⟩
    · exact absurd x1 (by simp)
  obtain ⟨M1, e, q1, q2, q3⟩ := iC3_ok (fu := fu) hz.2
  have cc : ∀ c, (wR M1 a 13 (some (a + 271))).1 c = M.1 c := q1
  have ca : (wR M1 a 13 (some (a + 271))).1 a = M.1 a := cc a
  have hr : (wR M1 a 13 (some (a + 271))).2.2 a 13 = some (a + 271) := by
    show (if a = a then va_up (M1.2.2 a) 13 (some (a + 271)) else M1.2.2 a) 13 = _
    rw [if_pos rfl, va_up_self]
  refine ⟨M1, e, h.of ⟨n1.fr fun c _ _ => cc c, n2.fr (by rw [ca]) (fun c _ _ _ => cc c), n3.fr (by rw [ca]) (fun c _ _ => cc c), n4.fr (by rw [ca]) (fun c _ _ => cc c), Or.inl (by rw [ca]; exact hz.1), n6.fr (by rw [ca]) (fun c _ _ => cc c), hr, Or.inr rfl⟩ (fun c _ _ => cc c), fun c _ _ => cc c⟩
theorem el11 (x : Int32) : (x < 0 ∨ ¬ x ≤ 10) ∨ ∃ j, j < 11 ∧ x = nI j := by
  rcases i32_cases x with h | ⟨j, hj, rfl⟩
  · exact Or.inl (Or.inl h)
  · by_cases c : j < 11
    · exact Or.inr ⟨j, c, rfl⟩
    · exact Or.inl (Or.inr (nI_ge (a := 10) (b := j) (by omega) (by omega)))
theorem nin11 {x : Int32} (h : x < 0 ∨ ¬ x ≤ 10) : ¬ inB x 11 := fun z => by
  rcases h with h | h
  · exact z.1 h
  · rcases i32_cases x with h' | ⟨j, hj, rfl⟩
    · exact z.1 h'
    · have z2 := z.2
      rw [ix_n hj] at z2
      exact h (nI_le (b := 10) (by omega) (by omega))
theorem in11r {j : Nat} (hj : j < 11) : (¬ nI j < (0 : Int32) ∧ nI j ≤ (10 : Int32)) ∧ inB (nI j) 11 := ⟨⟨nI_pos (by omega), nI_le (b := 10) (by omega) (by omega)⟩, nI_pos (by omega), by rw [ix_n (by omega)]; exact hj⟩
theorem o35 {l : Launch} {E : Ge} (hfu : 200000 ≤ fu) (h : JJ o M a) (x : Int32) (h0 : At L a T10) (hQ : o = some (a + 271) → At L (a + 271) T3) (hl : o = none → ∃ p ∈ L, p.1 + 1 = a + 271) : (∃ d r M1 M2, d ≤ 100 ∧ Ct l E L yX10_most cX10_most 2 (some .int) d [.ref a, .int x] M (some (.int r)) M1 ∧ fX11_most fu (a + 241) x M1 = some (r, M2) ∧ JJ o M2 a) ∨ (o = none ∧ Zr (a + 271) M ∧ ∃ d r M1 M2, d ≤ 100 ∧ CtA l E L yX10_most cX10_most 2 (some .int) d 12 22822 [.ref a, .int x] M (a + 271) (some (.int r)) (nL3 (a + 271) L) M1 ∧ fX11_most fu (a + 241) x M1 = some (r, M2) ∧ JJ (some (a + 271)) M2 a) := by
  obtain ⟨S, Hs, k, u, B, bx, t, n, f1, f2, hg, hx, hm⟩ := h
  rcases el11 x with c | ⟨j, hj, rfl⟩
  · obtain ⟨⟨r2, M2⟩, e2, q1, q2⟩ := X11_most hfu hm.1 hg.1 x
    dsimp only at q1 q2
    have : moA S x = -1 := if_neg (nin11 c)
    rw [this] at q1
    subst q1
    exact Or.inl ⟨0, _, M, M2, by omega, mX10_most_O 0 c, e2, J_2 hg hx hm (CFr.rf _ _) q2⟩
  · obtain ⟨hi, hb⟩ := in11r hj
    have hmo : moA S (nI j) = nI (moS S j) := by
      unfold moA
      rw [if_pos hb, ix_n (by omega)]
    obtain ⟨n7, n8⟩ := hx.1.2.2.2.2.2.2
    rcases n8 with ⟨x1, x2, x3⟩ | x1
    · subst x1
      obtain ⟨M1, i1, i2, i3⟩ := JX_come (fu := fu) hx
      obtain ⟨M3, e3, p1, p2, p3⟩ := JX_fill hfu i2 hg.1
      have hc := i3.tr p3
      obtain ⟨⟨r2, M2⟩, e2, q1, q2⟩ := X11_most hfu (hm.cf hc).1 hg.1 (nI j)
      dsimp only at q1 q2
      rw [hmo] at q1
      subst q1
      exact Or.inr ⟨rfl, x3, 20, _, M3, M2, by omega, mX10_most_B fu 0 h0 x3 (hl rfl) hi n7 i1 e3 (X3_mostRight p1 hj), e2, J_2 hg p2 hm hc q2⟩
    · subst x1
      obtain ⟨M3, e3, p1, p2, p3⟩ := JX_fill hfu hx hg.1
      obtain ⟨⟨r2, M2⟩, e2, q1, q2⟩ := X11_most hfu (hm.cf p3).1 hg.1 (nI j)
      dsimp only at q1 q2
      rw [hmo] at q1
      subst q1
      exact Or.inl ⟨20, _, M3, M2, by omega, mX10_most_A fu 0 h0 hi n7 (hQ rfl) e3 (X3_mostRight p1 hj), e2, J_2 hg p2 hm p3 q2⟩
theorem JX_best {L' : Lay} {j : Nat} (hfu : 200000 ≤ fu) (h : JX (some (a + 271)) S Hs k u B bx t n f1 f2 M a) (hG : Gd S) (hF : FiV S M (a + 271)) (ha : atB L' (a + 229) (T0 10) = true) (hj : j < 11) : ∃ M1, fX3_layBest fu L' (a + 271) (nI j) (a + 229) M = some M1 ∧ BV M1 (a + 229) (bsS S j) ∧ JX (some (a + 271)) S Hs k u B bx t n f1 f2 M1 a ∧ CFr a M M1 := by
  obtain ⟨n1, n2, n3, n4, n5, n6, n7, n8⟩ := h.1
  obtain ⟨M1, e, p1, p2, p3, p4⟩ := X3_layBest hfu hG hF ha (Or.inl (by omega)) hj
  have cc : ∀ c, (c < a + 229 ∨ a + 233 ≤ c) → M1.1 c = M.1 c := fun c hc => p4 c (by omega)
  have ca : M1.1 a = M.1 a := cc a (by omega)
  refine ⟨M1, e, p1, h.of ⟨n1.fr fun c h1 h2 => cc c (by omega), n2.fr (by rw [ca]) (fun c h1 h2 h3 => cc c (by omega)), n3.fr (by rw [ca]) (fun c h1 h2 => cc c (by omega)), n4.fr (by rw [ca]) (fun c h1 h2 => cc c (by omega)), n5.fr (by rw [ca]) (fun c h1 h2 => cc c (by omega)), n6.fr (by rw [ca]) (fun c h1 h2 => cc c (by omega)), by rw [(p3 a (by omega) (by omega)).2.2]; exact n7, Or.inr rfl⟩ (fun c h1 h2 => cc c (by omega)), fun c h1 h2 => cc c (by omega)⟩
theorem o36 {l : Launch} {E : Ge} (hfu : 200000 ≤ fu) (h : JJ o M a) (x x2 x3 : Int32) (h0 : At L a T10) (hQ : o = some (a + 271) → At L (a + 271) T3) (hl : o = none → ∃ p ∈ L, p.1 + 1 = a + 271) (hb1 : atB L (a + 229) (T0 10) = true) (hb2 : atB (nL3 (a + 271) L) (a + 229) (T0 10) = true) : (∃ d r M1 M2, d ≤ 100 ∧ Ct l E L yX10_bestSet cX10_bestSet 4 (some .int) d [.ref a, .int x, .int x2, .int x3] M (some (.int r)) M1 ∧ fX11_bestSet fu (a + 241) x x2 x3 M1 = some (r, M2) ∧ JJ o M2 a) ∨ (o = none ∧ Zr (a + 271) M ∧ ∃ d r M1 M2, d ≤ 100 ∧ CtA l E L yX10_bestSet cX10_bestSet 4 (some .int) d 12 22822 [.ref a, .int x, .int x2, .int x3] M (a + 271) (some (.int r)) (nL3 (a + 271) L) M1 ∧ fX11_bestSet fu (a + 241) x x2 x3 M1 = some (r, M2) ∧ JJ (some (a + 271)) M2 a) := by
  obtain ⟨S, Hs, k, u, B, bx, t, n, f1, f2, hg, hx, hm⟩ := h
  rcases el11 x with c | ⟨j, hj, rfl⟩
  · obtain ⟨⟨r2, M2⟩, e2, q1, q2⟩ := X11_bestSet hfu hm.1 hg.1 x x2 x3
    dsimp only at q1 q2
    have : bbA S x x2 x3 = -1 := if_neg (nin11 c)
    rw [this] at q1
    subst q1
    exact Or.inl ⟨0, _, M, M2, by omega, mX10_bestSet_O 0 c, e2, J_2 hg hx hm (CFr.rf _ _) q2⟩
  · obtain ⟨hi, hb⟩ := in11r hj
    have hmo : bbA S (nI j) x2 x3 = bkA (bsS S j) x2 x3 := by
      unfold bbA
      rw [if_pos hb, ix_n (by omega)]
    have hlen : (bsS S j).length ≤ 10 := by have := bsS_len S j; omega
    obtain ⟨n7, n8⟩ := hx.1.2.2.2.2.2.2
    rcases n8 with ⟨y1, y2, y3⟩ | y1
    · subst y1
      obtain ⟨M1, i1, i2, i3⟩ := JX_come (fu := fu) hx
      obtain ⟨M3, e3, p1, p2, p3⟩ := JX_fill hfu i2 hg.1
      obtain ⟨M4, e4, s1, s2, s3⟩ := JX_best (L' := nL3 (a + 271) L) hfu p2 hg.1 p1 hb2 hj
      have hc := (i3.tr p3).tr s3
      obtain ⟨⟨r2, M2⟩, e2, q1, q2⟩ := X11_bestSet hfu (hm.cf hc).1 hg.1 (nI j) x2 x3
      dsimp only at q1 q2
      rw [hmo] at q1
      subst q1
      exact Or.inr ⟨rfl, y3, 37, _, M4, M2, by omega, mX10_bestSet_B fu 0 h0 y3 (hl rfl) hi n7 i1 e3 e4 (X0_tell s1 hlen (by omega) x2 x3), e2, J_2 hg s2 hm hc q2⟩
    · subst y1
      obtain ⟨M3, e3, p1, p2, p3⟩ := JX_fill hfu hx hg.1
      obtain ⟨M4, e4, s1, s2, s3⟩ := JX_best (L' := L) hfu p2 hg.1 p1 hb1 hj
      have hc := p3.tr s3
      obtain ⟨⟨r2, M2⟩, e2, q1, q2⟩ := X11_bestSet hfu (hm.cf hc).1 hg.1 (nI j) x2 x3
      dsimp only at q1 q2
      rw [hmo] at q1
      subst q1
      exact Or.inl ⟨37, _, M4, M2, by omega, mX10_bestSet_A fu 0 h0 hi n7 (hQ rfl) e3 e4 (X0_tell s1 hlen (by omega) x2 x3), e2, J_2 hg s2 hm hc q2⟩
end FL
