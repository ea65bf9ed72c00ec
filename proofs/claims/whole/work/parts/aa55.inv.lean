/-! The invariant of the law. -/
/-- what is told of wants stays -/
def Low (S S' : Sto) : Prop := Gm S S' ∧ ∀ j, j < 38 → S' j = S j
theorem wi_cg {S S' : Sto} (hG : Gd S) (h : Low S S') : wi S' (S' 0) = wi S (S 0) := by
  funext x
  unfold wi
  rw [h.1.2.2, h.2 0 (by omega), wtS_cg hG h.2]
theorem plS_cg {S S' : Sto} (hG : Gd S) (h : Low S S') : plS S' = plS S := by
  unfold plS
  rw [wi_cg hG h, h.2 0 (by omega), h.1.1]
theorem ppS_cg {S S' : Sto} (hG : Gd S) (h : Low S S') : ppS S' = ppS S := by
  unfold ppS
  rw [wi_cg hG h, h.2 0 (by omega), h.1.1]
theorem pgS_cg {S S' : Sto} (hG : Gd S) (h : Low S S') : pgS S' = pgS S := by
  funext p
  unfold pgS
  rw [wi_cg hG h, h.2 0 (by omega), h.1.1]
theorem FiV_cg {S S' : Sto} (hG : Gd S) (h : Low S S') {M : Mm} {g : Nat} (hF : FiV S M g) : FiV S' M g := by
  unfold FiV
  rw [wi_cg hG h, h.2 0 (by omega), h.1.1, h.1.2.2]
  exact hF
def NX (o : Option Nat) (S : Sto) (M : Mm) (a : Nat) : Prop := VX S M (a + 12) ∧ Pk S M a ∧ Lk S M a ∧ Gk S M a ∧ Fk S M a ∧ Hk S M a ∧ M.2.2 a 13 = o ∧ ((o = none ∧ M.1 a 17 = nI 0 ∧ Zr (a + 271) M) ∨ o = some (a + 271))
/-- the class's object stands so -/
def JX (o : Option Nat) (S : Sto) (Hs : Nat → Sto) (k u : Nat) (B : Nat → Sto) (bx : Nat → Nat) (t : Nat → Nat) (n : Nat) (f1 f2 : Int32) (M : Mm) (a : Nat) : Prop := NX o S M a ∧ HX Hs k u M (a + 21) ∧ BX B bx M a ∧ TpX t n M (a + 1) ∧ M.1 (a + 1) 2 = f1 ∧ M.1 (a + 1) 3 = f2
/-- the reference stands so -/
def JM (S : Sto) (Hs : Nat → Sto) (k u : Nat) (B : Nat → Sto) (bx : Nat → Nat) (t : Nat → Nat) (n : Nat) (f1 f2 : Int32) (M : Mm) (m : Nat) : Prop := VM S M m ∧ HM Hs k u M m ∧ BM B bx M m ∧ TqM t n M m ∧ M.1 m 16 = f1 ∧ M.1 m 17 = f2
def JG (S : Sto) (Hs : Nat → Sto) (k u : Nat) (B : Nat → Sto) (bx : Nat → Nat) : Prop := Gd S ∧ Hs k = S ∧ (∀ i, i ≤ k + u → Gd (Hs i) ∧ Gm S (Hs i)) ∧ ∀ j, j < 2 → bx j = 1 → Gd (B j) ∧ Gm S (B j)
/-- the class's step leaves the reference -/
def CFr (a : Nat) (M M' : Mm) : Prop := ∀ c, a + 241 ≤ c → c < a + 271 → M'.1 c = M.1 c
/-- the reference's step leaves the class -/
def RFr (m : Nat) (M M' : Mm) : Prop := (∀ c, (c < m ∨ m + 30 ≤ c) → M'.1 c = M.1 c) ∧ M'.2 = M.2
section IV
variable {fu a m k u n : Nat} {M M' : Mm} {S : Sto} {Hs B : Nat → Sto} {bx t : Nat → Nat} {f1 f2 : Int32} {L : Lay} {o : Option Nat}
theorem Pk.fr (h : Pk S M a) (h14 : M'.1 a 14 = M.1 a 14) (hf : ∀ c, a + 198 ≤ c → c < a + 206 → c ≠ a + 203 → M'.1 c = M.1 c) : Pk S M' a := by
  unfold Pk
  rw [h14]
  rcases h with h | ⟨h, n, f, hP⟩
  · exact Or.inl h
  · exact Or.inr ⟨h, n, f, hP.fr fun c h1 h2 h3 => hf c h1 (by omega) (by omega)⟩
theorem Lk.fr (h : Lk S M a) (h15 : M'.1 a 15 = M.1 a 15) (hf : ∀ c, a + 220 ≤ c → c < a + 224 → M'.1 c = M.1 c) : Lk S M' a := by
  unfold Lk
  rw [h15]
  rcases h with h | ⟨h, hP⟩
  · exact Or.inl h
  · exact Or.inr ⟨h, hP.fr fun c h1 h2 => hf c h1 (by omega)⟩
theorem Gk.fr (h : Gk S M a) (h16 : M'.1 a 16 = M.1 a 16) (hf : ∀ c, a + 224 ≤ c → c < a + 229 → M'.1 c = M.1 c) : Gk S M' a := by
  unfold Gk
  rw [h16]
  rcases h with h | ⟨h, hP, hQ⟩
  · exact Or.inl h
  · exact Or.inr ⟨h, hP.fr fun c h1 h2 => hf c h1 (by omega), fun p hp => by rw [hf _ (by omega) (by omega)]; exact hQ p hp⟩
theorem Fk.fr (h : Fk S M a) (h17 : M'.1 a 17 = M.1 a 17) (hf : ∀ c, a + 272 ≤ c → c < a + 283 → M'.1 c = M.1 c) : Fk S M' a := by
  unfold Fk
  rw [h17]
  rcases h with h | ⟨h, hP⟩
  · exact Or.inl h
  · exact Or.inr ⟨h, hP.fr fun c h1 h2 => hf c (by omega) (by omega)⟩
theorem Hk.fr (h : Hk S M a) (h18 : M'.1 a 18 = M.1 a 18) (hf : ∀ c, a + 233 ≤ c → c < a + 241 → M'.1 c = M.1 c) : Hk S M' a := by
  unfold Hk
  rw [h18]
  rcases h with h | ⟨h, hP⟩
  · exact Or.inl h
  · exact Or.inr ⟨h, hP.fr fun c h1 h2 => hf c h1 (by omega)⟩
theorem Zr.fr {q : Nat} (h : Zr q M) (hf : ∀ c, q ≤ c → M'.1 c = M.1 c ∧ M'.2.1 c = M.2.1 c ∧ M'.2.2 c = M.2.2 c) : Zr q M' := fun c hc => by
  obtain ⟨a1, a2, a3⟩ := hf c hc
  rw [a1, a2, a3]
  exact h c hc
theorem BX.fr (h : BX B bx M a) (hf : ∀ c, a + 177 ≤ c → c < a + 196 → M'.1 c = M.1 c) : BX B bx M' a := fun j hj => by
  rw [hf _ (by omega) (by omega)]
  rcases h j hj with ⟨b1, b2⟩ | ⟨b1, b2, b3⟩
  · exact Or.inl ⟨b1, b2⟩
  · exact Or.inr ⟨b1, b2, b3.fr fun c h1 h2 => hf c (by omega) (by omega)⟩
theorem BM.fr (h : BM B bx M m) (h1 : M'.1 (m + 28) = M.1 (m + 28)) (h2 : M'.1 (m + 29) = M.1 (m + 29)) : BM B bx M' m := fun j hj => by
  rw [h1, h2]
  exact h j hj
theorem TpX.fc {c : Nat} (h : TpX t n M c) (h1 : M'.1 c = M.1 c) (h2 : M'.1 (c + 1) = M.1 (c + 1)) : TpX t n M' c := by
  unfold TpX
  rw [h1, h2]
  exact h
theorem TqM.fc (h : TqM t n M m) (h1 : M'.1 m 7 = M.1 m 7) (h2 : M'.1 (m + 6) = M.1 (m + 6)) (h3 : M'.1 (m + 7) = M.1 (m + 7)) : TqM t n M' m := by
  unfold TqM
  rw [h1, h2, h3]
  exact h
/-- the class has asked itself something -/
theorem JX.of {o' : Option Nat} (h : JX o S Hs k u B bx t n f1 f2 M a) (hN : NX o' S M' a) (hf : ∀ c, a < c → c < a + 196 → M'.1 c = M.1 c) : JX o' S Hs k u B bx t n f1 f2 M' a := by
  obtain ⟨h1, h2, h3, h4, h5, h6⟩ := h
  exact ⟨hN, h2.fr fun c k1 k2 => hf c (by omega) (by omega), h3.fr fun c k1 k2 => hf c (by omega) k2, h4.fc (hf _ (by omega) (by omega)) (hf _ (by omega) (by omega)), by rw [hf _ (by omega) (by omega)]; exact h5, by rw [hf _ (by omega) (by omega)]; exact h6⟩
theorem NX.fill (h : M.2.2 a 13 = o ∧ ((o = none ∧ M.1 a 17 = nI 0 ∧ Zr (a + 271) M) ∨ o = some (a + 271))) (h17 : M'.1 a 17 = M.1 a 17) (h13 : M'.2.2 a = M.2.2 a) (hf : ∀ c, a + 271 ≤ c → M'.1 c = M.1 c ∧ M'.2.1 c = M.2.1 c ∧ M'.2.2 c = M.2.2 c) : M'.2.2 a 13 = o ∧ ((o = none ∧ M'.1 a 17 = nI 0 ∧ Zr (a + 271) M') ∨ o = some (a + 271)) := by
  rw [h13, h17]
  obtain ⟨h0, h⟩ := h
  rcases h with ⟨x1, x2, x3⟩ | x1
  · exact ⟨h0, Or.inl ⟨x1, x2, x3.fr hf⟩⟩
  · exact ⟨h0, Or.inr x1⟩
theorem JX_pieces (hfu : 200000 ≤ fu) (h : JX o S Hs k u B bx t n f1 f2 M a) (hG : Gd S) : ∃ M1 n1 f, fX10_piecesNow fu a M = some M1 ∧ PV S M1 (a + 198) n1 f ∧ JX o S Hs k u B bx t n f1 f2 M1 a ∧ CFr a M M1 := by
  obtain ⟨n1, n2, n3, n4, n5, n6, n7⟩ := h.1
  obtain ⟨M1, q, f, e, p1, p2, p3, p4⟩ := X10_piecesNow hfu n1 hG n2
  have cc : ∀ c, (c < a + 198 ∨ a + 206 ≤ c) → c ≠ a → M1.1 c = M.1 c := fun c h1 h2 => (p3.1 c h1).1 h2
  refine ⟨M1, q, f, e, p1, h.of ⟨p4, Or.inr ⟨p2, q, f, p1⟩, n3.fr (p3.2 15 (by omega)) (fun c h1 h2 => cc c (by omega) (by omega)), n4.fr (p3.2 16 (by omega)) (fun c h1 h2 => cc c (by omega) (by omega)), n5.fr (p3.2 17 (by omega)) (fun c h1 h2 => cc c (by omega) (by omega)), n6.fr (p3.2 18 (by omega)) (fun c h1 h2 => cc c (by omega) (by omega)), NX.fill n7 (p3.2 17 (by omega)) (p3.1 a (by omega)).2.2 (fun c hc => ⟨cc c (by omega) (by omega), (p3.1 c (by omega)).2⟩)⟩ (fun c h1 h2 => cc c (by omega) (by omega)), fun c h1 h2 => cc c (by omega) (by omega)⟩
theorem JX_o1 {M1 : Mm} (h : JX o S Hs k u B bx t n f1 f2 M a) (ho : O1 (a + 203) M M1) : JX o S Hs k u B bx t n f1 f2 M1 a ∧ CFr a M M1 := by
  obtain ⟨n1, n2, n3, n4, n5, n6, n7⟩ := h.1
  have cc : ∀ c, c ≠ a + 203 → M1.1 c = M.1 c := ho.1
  have ca : M1.1 a = M.1 a := cc a (by omega)
  refine ⟨h.of ⟨n1.fr fun c h1 h2 => cc c (by omega), n2.fr (by rw [ca]) (fun c h1 h2 h3 => cc c h3), n3.fr (by rw [ca]) (fun c h1 h2 => cc c (by omega)), n4.fr (by rw [ca]) (fun c h1 h2 => cc c (by omega)), n5.fr (by rw [ca]) (fun c h1 h2 => cc c (by omega)), n6.fr (by rw [ca]) (fun c h1 h2 => cc c (by omega)), NX.fill n7 (by rw [ca]) (by rw [ho.2]) (fun c hc => ⟨cc c (by omega), by rw [ho.2], by rw [ho.2]⟩)⟩ (fun c h1 h2 => cc c (by omega)), fun c h1 h2 => cc c (by omega)⟩
/-- a frame that no cell of the caches lies in -/
theorem JX_f {lo w : Nat} {M1 : Mm} (h : JX o S Hs k u B bx t n f1 f2 M a) (hf : Fr lo w M M1) (hl : (lo = a + 206 ∧ w = 14) ∨ (lo = a + 196 ∧ w = 2)) : JX o S Hs k u B bx t n f1 f2 M1 a ∧ CFr a M M1 := by
  obtain ⟨n1, n2, n3, n4, n5, n6, n7⟩ := h.1
  have cc : ∀ c, (c < a + 196 ∨ a + 220 ≤ c) ∨ (a + 198 ≤ c ∧ c < a + 206) → M1.1 c = M.1 c := fun c hc => hf.at (by omega)
  have ca : M1.1 a = M.1 a := cc a (by omega)
  refine ⟨h.of ⟨n1.fr fun c h1 h2 => cc c (by omega), n2.fr (by rw [ca]) (fun c h1 h2 h3 => cc c (by omega)), n3.fr (by rw [ca]) (fun c h1 h2 => cc c (by omega)), n4.fr (by rw [ca]) (fun c h1 h2 => cc c (by omega)), n5.fr (by rw [ca]) (fun c h1 h2 => cc c (by omega)), n6.fr (by rw [ca]) (fun c h1 h2 => cc c (by omega)), NX.fill n7 (by rw [ca]) (hf a (by omega)).2.2 (fun c hc => hf c (by omega))⟩ (fun c h1 h2 => cc c (by omega)), fun c h1 h2 => cc c (by omega)⟩
theorem JX_plan (hfu : 200000 ≤ fu) (ha : atB L (a + 220) (T0 160) = true) (h : JX o S Hs k u B bx t n f1 f2 M a) (hG : Gd S) : ∃ M1, fX10_planNow fu L a M = some M1 ∧ BV M1 (a + 220) (plS S) ∧ JX o S Hs k u B bx t n f1 f2 M1 a ∧ CFr a M M1 := by
  obtain ⟨n1, n2, n3, n4, n5, n6, n7⟩ := h.1
  obtain ⟨M1, e, p1, p2, p3⟩ := X10_planNow hfu n1 hG ha n3
  have cc : ∀ c, (c < a + 206 ∨ a + 224 ≤ c) → c ≠ a → M1.1 c = M.1 c := fun c h1 h2 => (p3.1 c h1).1 h2
  refine ⟨M1, e, p1, h.of ⟨n1.fr fun c h1 h2 => cc c (by omega) (by omega), n2.fr (p3.2 14 (by omega)) (fun c h1 h2 h3 => cc c (by omega) (by omega)), Or.inr ⟨p2, p1⟩, n4.fr (p3.2 16 (by omega)) (fun c h1 h2 => cc c (by omega) (by omega)), n5.fr (p3.2 17 (by omega)) (fun c h1 h2 => cc c (by omega) (by omega)), n6.fr (p3.2 18 (by omega)) (fun c h1 h2 => cc c (by omega) (by omega)), NX.fill n7 (p3.2 17 (by omega)) (p3.1 a (by omega)).2.2 (fun c hc => ⟨cc c (by omega) (by omega), (p3.1 c (by omega)).2⟩)⟩ (fun c h1 h2 => cc c (by omega) (by omega)), fun c h1 h2 => cc c (by omega) (by omega)⟩
theorem JX_paged (hfu : 200000 ≤ fu) (ha : atB L (a + 224) (T0 160) = true) (hR : L.contains (a + 228, (0, 64)) = true) (h : JX o S Hs k u B bx t n f1 f2 M a) (hG : Gd S) : ∃ M1, fX10_pagedNow fu L a M = some M1 ∧ (BV M1 (a + 224) (ppS S) ∧ ∀ p, p < 2 ^ S 140 / 16 → M1.1 (a + 228) p = nI (pgS S p)) ∧ JX o S Hs k u B bx t n f1 f2 M1 a ∧ CFr a M M1 := by
  obtain ⟨n1, n2, n3, n4, n5, n6, n7⟩ := h.1
  obtain ⟨M1, e, p1, p2, p3⟩ := X10_pagedNow hfu n1 hG ha hR n4
  have cc : ∀ c, (c < a + 206 ∨ a + 220 ≤ c) → (c < a + 224 ∨ a + 229 ≤ c) → c ≠ a → M1.1 c = M.1 c := fun c h1 h2 h3 => (p3.1 c h1 h2).1 h3
  refine ⟨M1, e, p1, h.of ⟨n1.fr fun c h1 h2 => cc c (by omega) (by omega) (by omega), n2.fr (p3.2 14 (by omega)) (fun c h1 h2 h3 => cc c (by omega) (by omega) (by omega)), n3.fr (p3.2 15 (by omega)) (fun c h1 h2 => cc c (by omega) (by omega) (by omega)), Or.inr ⟨p2, p1⟩, n5.fr (p3.2 17 (by omega)) (fun c h1 h2 => cc c (by omega) (by omega) (by omega)), n6.fr (p3.2 18 (by omega)) (fun c h1 h2 => cc c (by omega) (by omega) (by omega)), NX.fill n7 (p3.2 17 (by omega)) (p3.1 a (by omega) (by omega)).2.2 (fun c hc => ⟨cc c (by omega) (by omega) (by omega), (p3.1 c (by omega) (by omega)).2⟩)⟩ (fun c h1 h2 => cc c (by omega) (by omega) (by omega)), fun c h1 h2 => cc c (by omega) (by omega) (by omega)⟩
theorem JX_change (hfu : 200000 ≤ fu) (ha : atB L (a + 220) (T0 160) = true) (h : JX o S Hs k u B bx t n f1 f2 M a) (hG : Gd S) : ∃ M1, fX10_changeNow fu L a M = some M1 ∧ CW S M1 (a + 233) ∧ JX o S Hs k u B bx t n f1 f2 M1 a ∧ CFr a M M1 := by
  obtain ⟨n1, n2, n3, n4, n5, n6, n7⟩ := h.1
  obtain ⟨M1, e, p1, p2, p4, p3⟩ := X10_changeNow hfu n1 hG ha n3 n6
  have cc : ∀ c, (c < a + 206 ∨ a + 224 ≤ c) → (c < a + 233 ∨ a + 241 ≤ c) → c ≠ a → M1.1 c = M.1 c := fun c h1 h2 h3 => (p3.1 c h1 h2).1 h3
  refine ⟨M1, e, p1, h.of ⟨n1.fr fun c h1 h2 => cc c (by omega) (by omega) (by omega), n2.fr (p3.2 14 (by omega) (by omega)) (fun c h1 h2 h3 => cc c (by omega) (by omega) (by omega)), p4, n4.fr (p3.2 16 (by omega) (by omega)) (fun c h1 h2 => cc c (by omega) (by omega) (by omega)), n5.fr (p3.2 17 (by omega) (by omega)) (fun c h1 h2 => cc c (by omega) (by omega) (by omega)), Or.inr ⟨p2, p1⟩, NX.fill n7 (p3.2 17 (by omega) (by omega)) (p3.1 a (by omega) (by omega)).2.2 (fun c hc => ⟨cc c (by omega) (by omega) (by omega), (p3.1 c (by omega) (by omega)).2⟩)⟩ (fun c h1 h2 => cc c (by omega) (by omega) (by omega)), fun c h1 h2 => cc c (by omega) (by omega) (by omega)⟩
/-- the class's side is left by the reference -/
theorem JX.rf (h : JX o S Hs k u B bx t n f1 f2 M a) (hf : RFr (a + 241) M M') : JX o S Hs k u B bx t n f1 f2 M' a := by
  obtain ⟨n1, n2, n3, n4, n5, n6, n7⟩ := h.1
  have cc : ∀ c, (c < a + 241 ∨ a + 271 ≤ c) → M'.1 c = M.1 c := fun c hc => hf.1 c (by omega)
  have ca : M'.1 a = M.1 a := cc a (by omega)
  exact h.of ⟨n1.fr fun c h1 h2 => cc c (by omega), n2.fr (by rw [ca]) (fun c h1 h2 h3 => cc c (by omega)), n3.fr (by rw [ca]) (fun c h1 h2 => cc c (by omega)), n4.fr (by rw [ca]) (fun c h1 h2 => cc c (by omega)), n5.fr (by rw [ca]) (fun c h1 h2 => cc c (by omega)), n6.fr (by rw [ca]) (fun c h1 h2 => cc c (by omega)), NX.fill n7 (by rw [ca]) (by rw [hf.2]) (fun c hc => ⟨cc c (by omega), by rw [hf.2], by rw [hf.2]⟩)⟩ (fun c h1 h2 => cc c (by omega))
/-- the reference's side is left by the class -/
theorem JM.cf (h : JM S Hs k u B bx t n f1 f2 M (a + 241)) (hf : CFr a M M') : JM S Hs k u B bx t n f1 f2 M' (a + 241) := by
  obtain ⟨h1, h2, h3, h4, h5, h6⟩ := h
  have c0 : M'.1 (a + 241) = M.1 (a + 241) := hf _ (by omega) (by omega)
  refine ⟨h1.ch ⟨rfl, rfl, rfl⟩ (by rw [c0]) (hf _ (by omega) (by omega)) (hf _ (by omega) (by omega)) (hf _ (by omega) (by omega)) (fun k hk => by rw [hf _ (by omega) (by omega)]; exact h1.2 k hk), h2.fr (by rw [c0]) (by rw [c0]) (hf _ (by omega) (by omega)), h3.fr (hf _ (by omega) (by omega)) (hf _ (by omega) (by omega)), h4.fc (by rw [c0]) (hf _ (by omega) (by omega)) (hf _ (by omega) (by omega)), by rw [c0]; exact h5, by rw [c0]; exact h6⟩
/-- the reference has used its scratch -/
theorem JM.sc (h : JM S Hs k u B bx t n f1 f2 M m) (hf : Sc m M M') : JM S Hs k u B bx t n f1 f2 M' m ∧ RFr m M M' := by
  obtain ⟨h1, h2, h3, h4, h5, h6⟩ := h
  have s : ∀ j, (j < 25 ∨ 43 ≤ j) → M'.1 m j = M.1 m j := fun j hj => hf.2.1 j (by omega) (by omega) (by omega) (by omega) (by omega) (by omega) (by omega)
  have cc : ∀ c, c ≠ m → (c < m + 8 ∨ m + 27 ≤ c) → M'.1 c = M.1 c := fun c hc hd => hf.1 c hc (by omega)
  exact ⟨⟨h1.sk hf, h2.sc hf, h3.fr (cc _ (by omega) (by omega)) (cc _ (by omega) (by omega)), h4.fc (s 7 (by omega)) (cc _ (by omega) (by omega)) (cc _ (by omega) (by omega)), (s 16 (by omega)).trans h5, (s 17 (by omega)).trans h6⟩, fun c hc => cc c (by omega) (by omega), hf.2.2⟩
end IV
