/-! store, both sides. -/
theorem prN_ok {t : Nat → Nat} {n : Nat} : ∀ f p g T, p ≤ n → PI g T → (prN t n f p g T).1 = 0 → QI (prN t n f p g T).2.2.2
  | 0, _, _, _, _, _, h => absurd h (show ¬ (1 : Nat) = 0 by decide)
  | f + 1, p, g, T, hp, hI, h => by
    have hok := lnR_ok (t := t) hp hI
    have IH := prN_ok (t := t) (n := n) f
    unfold prN at h ⊢
    by_cases c4 : tyT t n p = 4
    · rw [if_pos c4]
      exact hI.1
    · rw [if_neg c4] at h ⊢
      by_cases e : (lnR t n p g T).1 = 0
      · rw [if_pos e] at h ⊢
        obtain ⟨o1, o2, o3⟩ := hok e
        exact IH _ _ _ o3 o1 h
      · rw [if_neg e] at h
        exact absurd h e
theorem prS_ok {t : Nat → Nat} {n : Nat} (h : (prS t n).1 = 0) : Gd (prS t n).2.2.2 := (prN_ok _ _ _ _ (Nat.zero_le _) tzS_pi h).1
/-- the tape while it is fed, at the reference -/
def TqM (t : Nat → Nat) (n : Nat) (M : Mm) (m : Nat) : Prop := n ≤ 800 ∧ M.1 m 7 = nI n ∧ (∀ j, j < n → t j < 256 ∧ M.1 (m + 6) j = sB (t j)) ∧ ∀ j, j < 69 → M.1 (m + 7) j = nI (ltA.getD j 0)
def SvR (m : Nat) (M M' : Mm) : Prop := (∀ c, (c < m ∨ m + 30 ≤ c) → M'.1 c = M.1 c) ∧ M'.2 = M.2 ∧ M'.1 (m + 6) = M.1 (m + 6) ∧ M'.1 (m + 7) = M.1 (m + 7) ∧ M'.1 m 7 = nI 0
section ST
variable {fu a m n k u : Nat} {t : Nat → Nat} {M : Mm} {S : Sto} {Hs : Nat → Sto}
def StoM (R : Rs) (S : Sto) (Hs : Nat → Sto) (k u : Nat) (M : Mm) (m : Nat) (z : Int32 × Mm) : Prop := ((R.1 = 0 ∧ z.1 = nI (R.2.2.2 1) ∧ VM R.2.2.2 z.2 m ∧ HM (fun _ => R.2.2.2) 0 0 z.2 m ∧ (∀ j, j < 2 → z.2.1 (m + 29) j = nI 0) ∧ z.2.1 m 16 = nI 0 ∧ z.2.1 m 17 = mI) ∨ (¬ R.1 = 0 ∧ z.1 = mI ∧ VM S z.2 m ∧ HM Hs k u z.2 m ∧ z.2.1 (m + 28) = M.1 (m + 28) ∧ z.2.1 (m + 29) = M.1 (m + 29) ∧ z.2.1 m 16 = nI R.1 ∧ z.2.1 m 17 = nI R.2.1)) ∧ SvR m M z.2
theorem X11_store (hfu : 200000 ≤ fu) (hV : VM S M m) (hH : HM Hs k u M m) (hT : TqM t n M m) : Wp (fX11_store fu m M) (StoM (prS t n) S Hs k u M m) := by
  obtain ⟨⟨b, hb, v1, v2, v3, v4⟩, v5⟩ := hV
  obtain ⟨t1, t2, t3, t4⟩ := hT
  have e1 : (1 : Int32) - nI b = nI (1 - b) := zi_sub (a := 1) (by omega)
  unfold fX11_store
  rw [v1, e1, t2]
  simp only [lt_eq]
  have A : ∀ M', M' = wI (wI (wI (wI (wI (wI (wI M m 8 (nI n)) m 7 0) m 9 0) m 14 0) m 15 (-1)) m 19 0) m 20 0 → (∀ c, c ≠ m → M'.1 c = M.1 c) ∧ M'.1 m 8 = nI n ∧ M'.1 m 7 = nI 0 ∧ M'.1 m 9 = nI 0 ∧ M'.1 m 14 = nI 0 ∧ M'.1 m 15 = mI ∧ M'.1 m 19 = nI 0 ∧ M'.1 m 20 = nI 0 ∧ (∀ j, (j < 7 ∨ 21 ≤ j) → M'.1 m j = M.1 m j) ∧ M'.2 = M.2 := fun M' e => by
    subst e
    refine ⟨fun c hc => ?_, ?_, ?_, ?_, ?_, ?_, ?_, wI_eq, fun j hj => ?_, rfl⟩
    · simp (disch := omega) only [wI_ne, wI_eq, wI_nk, wIs_ne, wIs_eq]
    · simp (disch := omega) only [wI_ne, wI_eq, wI_nk, wIs_ne, wIs_eq]
    · simp (disch := omega) only [wI_ne, wI_eq, wI_nk, wIs_ne, wIs_eq]
      rfl
    · simp (disch := omega) only [wI_ne, wI_eq, wI_nk, wIs_ne, wIs_eq]
      rfl
    · simp (disch := omega) only [wI_ne, wI_eq, wI_nk, wIs_ne, wIs_eq]
      rfl
    · simp (disch := omega) only [wI_ne, wI_eq, wI_nk, wIs_ne, wIs_eq]
      rfl
    · simp (disch := omega) only [wI_ne, wI_eq, wI_nk, wIs_ne, wIs_eq]
      rfl
    · simp (disch := omega) only [wI_ne, wI_eq, wI_nk, wIs_ne, wIs_eq]
  generalize wI (wI (wI (wI (wI (wI (wI M m 8 (nI n)) m 7 0) m 9 0) m 14 0) m 15 (-1)) m 19 0) m 20 0 = M1 at A ⊢
  obtain ⟨a1, a2, a3, a4, a5, a6, a7, a8, a9, a10⟩ := A M1 rfl
  have hb' : 1 - b < 2 := by omega
  rw [wp_bm]
  refine (X11_clearBank hfu hb').mono fun M2 q => ?_
  obtain ⟨S2, B2, E2⟩ := q
  rw [wp_bm]
  have T2 : TpM t n M2 m := ⟨t1, by rw [E2]; exact a2, fun j hj => by rw [B2.1 _ (by omega) (by omega), a1 _ (by omega)]; exact t3 j hj, fun j hj => by rw [B2.1 _ (by omega) (by omega), a1 _ (by omega)]; exact t4 j hj⟩
  have G2 : GM (fun _ => 0) M2 m := ⟨by rw [E2, a7]; rfl, by rw [E2]; exact a8, by rw [E2]; exact a6⟩
  refine (X11_readAll hfu hb' T2 (by rw [E2]; exact a4) (by rw [E2]; exact a5) S2 G2).mono fun M3 q => ?_
  obtain ⟨q1, q2, B3⟩ := q
  have B := B2.tr B3
  have s5 : ∀ j, (j < 7 ∨ 21 ≤ j) → M3.1 m j = M.1 m j := fun j hj => (B.2.2.2.1 j (by omega) (by omega) (by omega)).trans (a9 j hj)
  have s7 : M3.1 m 7 = nI 0 := (B.2.2.2.1 7 (by omega) (by omega) (by omega)).trans a3
  have cs : ∀ c, c ≠ m → (c < m + 2 ∨ m + 6 ≤ c) → M3.1 c = M.1 c := fun c h1 h2 => (B.1 c h1 h2).trans (a1 c h1)
  have e3 : M3.2 = M.2 := B.2.2.2.2.trans a10
  rw [show (wI M3 m 16 (M3.1 m 14)).1 m 15 = M3.1 m 15 from wI_nk (by omega)]
  by_cases e : (prS t n).1 = 0
  · obtain ⟨r1, r2, r3⟩ := q1 e
    rw [r1, r2]
    have C : ∀ M', M' = wI (wI M3 m 16 (nI 0)) m 17 mI → (∀ c, c ≠ m → M'.1 c = M3.1 c) ∧ M'.1 m 16 = nI 0 ∧ M'.1 m 17 = mI ∧ (∀ j, j ≠ 16 → j ≠ 17 → M'.1 m j = M3.1 m j) ∧ M'.2 = M3.2 := fun M' e => by
      subst e
      refine ⟨fun c hc => ?_, ?_, wI_eq, fun j h1 h2 => ?_, rfl⟩
      · simp (disch := omega) only [wI_ne, wI_eq, wI_nk, wIs_ne, wIs_eq]
      · simp (disch := omega) only [wI_ne, wI_eq, wI_nk, wIs_ne, wIs_eq]
      · rw [wI_nk h2, wI_nk h1]
    generalize wI (wI M3 m 16 (nI 0)) m 17 mI = M4 at C ⊢
    obtain ⟨c1, c2, c3, c4, c5⟩ := C M4 rfl
    rw [c2, if_pos (show nI 0 ≤ (0 : Int32) by decide), wp_bm]
    have D : ∀ M', M' = wI M4 m 5 (nI (1 - b)) → (∀ c, c ≠ m → M'.1 c = M3.1 c) ∧ M'.1 m 5 = nI (1 - b) ∧ M'.1 m 16 = nI 0 ∧ M'.1 m 17 = mI ∧ M'.1 m 7 = nI 0 ∧ M'.2 = M3.2 := fun M' e => by
      subst e
      exact ⟨fun c hc => (wI_ne hc).trans (c1 c hc), wI_eq, (wI_nk (by omega)).trans c2, (wI_nk (by omega)).trans c3, (wI_nk (by omega)).trans ((c4 7 (by omega) (by omega)).trans s7), c5⟩
    generalize wI M4 m 5 (nI (1 - b)) = M5 at D ⊢
    obtain ⟨d1, d2, d3, d4, d5, d6⟩ := D M5 rfl
    have S5 : RS (prS t n).2.2.2 M5 m (1 - b) := by
      unfold RS
      rw [d1 _ (by omega), d1 _ (by omega), d1 _ (by omega), d1 _ (by omega)]
      exact r3
    refine (X11_startAnew hfu hb' d2 S5).mono fun M6 q => ?_
    obtain ⟨f1, f2, f3, f4, f5, f6, f7⟩ := q
    rw [wp_some]
    refine ⟨Or.inl ⟨e, ?_, ⟨⟨1 - b, hb', ?_, ?_, ?_, ?_⟩, f1⟩, ⟨by omega, f2, f3, fun i hi => absurd hi (by omega), fun i h1 h2 => absurd h2 (by omega)⟩, f4, (f6 16 (by omega) (by omega)).trans d3, (f6 17 (by omega) (by omega)).trans d4⟩, fun c hc => ?_, f7.trans (d6.trans e3), ?_, ?_, (f6 7 (by omega) (by omega)).trans d5⟩
    · exact f1 1 (by omega)
    · exact (f6 5 (by omega) (by omega)).trans d2
    · dsimp only
      rw [f5 _ (by omega) (by omega) (by omega)]
      exact S5.1.1
    · dsimp only
      rw [f5 _ (by omega) (by omega) (by omega)]
      exact S5.1.2.1
    · dsimp only
      rw [f5 _ (by omega) (by omega) (by omega)]
      exact S5.1.2.2
    · exact (f5 c (by omega) (by omega) (by omega)).trans ((d1 c (by omega)).trans (cs c (by omega) (by omega)))
    · exact (f5 _ (by omega) (by omega) (by omega)).trans ((d1 _ (by omega)).trans (cs _ (by omega) (by omega)))
    · exact (f5 _ (by omega) (by omega) (by omega)).trans ((d1 _ (by omega)).trans (cs _ (by omega) (by omega)))
  · obtain ⟨r0, r1, r2⟩ := q2 e
    rw [r1, r2]
    have C : ∀ M', M' = wI (wI M3 m 16 (nI (prS t n).1)) m 17 (nI (prS t n).2.1) → (∀ c, c ≠ m → M'.1 c = M3.1 c) ∧ M'.1 m 16 = nI (prS t n).1 ∧ M'.1 m 17 = nI (prS t n).2.1 ∧ (∀ j, j ≠ 16 → j ≠ 17 → M'.1 m j = M3.1 m j) ∧ M'.2 = M3.2 := fun M' e => by
      subst e
      refine ⟨fun c hc => ?_, ?_, wI_eq, fun j h1 h2 => ?_, rfl⟩
      · simp (disch := omega) only [wI_ne, wI_eq, wI_nk, wIs_ne, wIs_eq]
      · simp (disch := omega) only [wI_ne, wI_eq, wI_nk, wIs_ne, wIs_eq]
      · rw [wI_nk h2, wI_nk h1]
    generalize wI (wI M3 m 16 (nI (prS t n).1)) m 17 (nI (prS t n).2.1) = M4 at C ⊢
    obtain ⟨c1, c2, c3, c4, c5⟩ := C M4 rfl
    rw [c2, if_neg (np0 (by omega) r0).1, wp_some]
    have bk : ∀ c, m + 2 ≤ c → c < m + 5 → M4.1 c b = M.1 c b := fun c h1 h2 => by
      rw [c1 c (by omega), B.2.1 c h1 h2 b (by omega), a1 c (by omega)]
    refine ⟨Or.inr ⟨e, rfl, ⟨⟨b, hb, ?_, ?_, ?_, ?_⟩, fun k hk => ?_⟩, hH.fr ?_ ?_ ?_, ?_, ?_, c2, c3⟩, fun c hc => ?_, c5.trans e3, ?_, ?_, (c4 7 (by omega) (by omega)).trans s7⟩
    · exact (c4 5 (by omega) (by omega)).trans ((s5 5 (by omega)).trans v1)
    · exact (bk _ (by omega) (by omega)).trans v2
    · exact (bk _ (by omega) (by omega)).trans v3
    · exact (bk _ (by omega) (by omega)).trans v4
    · dsimp only
      rw [c1 _ (by omega), cs _ (by omega) (by omega)]
      exact v5 k hk
    · exact (c4 50 (by omega) (by omega)).trans (s5 50 (by omega))
    · exact (c4 51 (by omega) (by omega)).trans (s5 51 (by omega))
    · exact (c1 _ (by omega)).trans (cs _ (by omega) (by omega))
    · exact (c1 _ (by omega)).trans (cs _ (by omega) (by omega))
    · exact (c1 _ (by omega)).trans (cs _ (by omega) (by omega))
    · exact (c1 c (by omega)).trans (cs c (by omega) (by omega))
    · exact (c1 _ (by omega)).trans (cs _ (by omega) (by omega))
    · exact (c1 _ (by omega)).trans (cs _ (by omega) (by omega))
/-- store, at the class -/
def StoX (R : Rs) (M : Mm) (a : Nat) (z : Int32 × Mm) : Prop := ((R.1 = 0 ∧ z.1 = nI (R.2.2.2 1) ∧ VX R.2.2.2 z.2 (a + 12) ∧ HX (fun _ => R.2.2.2) 0 0 z.2 (a + 21) ∧ (∀ j, j < 2 → z.2.1 (a + 195) j = nI 0) ∧ z.2.1 (a + 1) 2 = nI 0 ∧ z.2.1 (a + 1) 3 = mI ∧ (z.2.1 a 14 = nI 0 ∧ z.2.1 a 15 = nI 0 ∧ z.2.1 a 16 = nI 0 ∧ z.2.1 a 17 = nI 0 ∧ z.2.1 a 18 = nI 0) ∧ (∀ c, a + 196 ≤ c → z.2.1 c = M.1 c) ∧ ∀ c, (c < a + 12 ∨ a + 176 ≤ c) → z.2.2.1 c = M.2.1 c ∧ z.2.2.2 c = M.2.2 c) ∨ (¬ R.1 = 0 ∧ z.1 = mI ∧ z.2.1 (a + 1) 2 = nI R.1 ∧ z.2.1 (a + 1) 3 = nI R.2.1 ∧ (∀ c, (c ≤ a ∨ a + 12 ≤ c) → z.2.1 c = M.1 c) ∧ z.2.2 = M.2)) ∧ z.2.1 (a + 1) 1 = nI 0 ∧ z.2.1 (a + 2) = M.1 (a + 2) ∧ ∀ c, c < a → z.2.1 c = M.1 c
theorem X10_store (hfu : 200000 ≤ fu) (hT : TpX t n M (a + 1)) (hH : HX Hs k u M (a + 21)) : Wp (fX10_store fu a M) (StoX (prS t n) M a) := by
  have v0 : vp_nar .boolean 0 = nI 0 := by decide +kernel
  unfold fX10_store
  rw [wp_bw]
  refine (X7_readAll hfu hT).mono fun z q => ?_
  obtain ⟨x, M1⟩ := z
  obtain ⟨q1, q2, q3, q4, q5⟩ := q
  dsimp only at *
  by_cases e : (prS t n).1 = 0
  · obtain ⟨r1, r2, r3, r4⟩ := q1 e
    have hG := prS_ok e
    rw [r1, if_neg (show ¬ nI 1 = (0 : Int32) by decide), wp_bm]
    have V1 : VX (prS t n).2.2.2 M1 (a + 1 + 2) := VF.vx r2 hG
    refine (X8_copyFrom V1 hG (by omega)).mono fun M2 q => ?_
    obtain ⟨V2, F2⟩ := q
    have cs : ∀ c, (c < a + 12 ∨ a + 21 ≤ c) → M2.1 c = M1.1 c := fun c hc => F2.at (by omega)
    obtain ⟨h1, h2, h3, o, ho, ho2, h4⟩ := hH
    unfold fX10_store_l28
    refine lp_ho (F := fun (rec : (Int32 × Mm) → Option (Int32 × Mm)) (s : Int32 × Mm) => fX10_store_b28 fu (fun x1 M => rec (x1, M)) a s.1 s.2) (fun i (s : Int32 × Mm) => s.1 = nI i ∧ (∀ c, c ≠ a + 195 → s.2.1 c = M2.1 c) ∧ s.2.2 = M2.2 ∧ ∀ j, j < i → s.2.1 (a + 195) j = nI 0) _ 2 (i := 0) (by omega) (by omega) ⟨rfl, fun _ _ => rfl, rfl, fun j hj => absurd hj (by omega)⟩ (fun i s hi hs rec hrec => ?_) (fun s hs rec => ?_)
    · obtain ⟨x, M3⟩ := s
      obtain ⟨s1, s2, s3, s4⟩ := hs
      dsimp only at *
      subst s1
      unfold fX10_store_b28
      rw [if_neg (show ¬ (2 : Int32) ≤ nI i from nI_ge (a := i) (b := 2) hi (by omega)), if_neg (nI_in hi (by omega)), ix_n (by omega), v0, lt_eq, lt_eq, nI_1]
      refine hrec _ ⟨rfl, fun c hc => (wI_ne hc).trans (s2 c hc), s3, fun j hj => ?_⟩
      dsimp only
      by_cases e : j = i
      · rw [e, wI_eq]
      · rw [wI_nk (by omega)]
        exact s4 j (by omega)
    · obtain ⟨x, M3⟩ := s
      obtain ⟨s1, s2, s3, s4⟩ := hs
      dsimp only at *
      subst s1
      unfold fX10_store_b28
      rw [if_pos (show (2 : Int32) ≤ nI 2 by decide)]
      unfold fX10_store_j46
      rw [wp_bm]
      have V3 : VX (prS t n).2.2.2 M3 (a + 12) := V2.fr fun c k1 k2 => s2 c (by omega)
      refine (X10_startAnew (o := o) (by rw [s2 _ (by omega), cs _ (by omega), q4 _ (by omega) (by omega)]; exact ho2) ho V3 hG).mono fun M4 w => ?_
      obtain ⟨w1, w2, w3, w4, w5⟩ := w
      rw [wp_some]
      have k1 : M4.1 (a + 1) = M1.1 (a + 1) := (w3 _ (by omega) (by omega)).trans ((s2 _ (by omega)).trans (cs _ (by omega)))
      refine ⟨Or.inl ⟨e, w1.1.2.2.2.1, w1, w2, fun j hj => ?_, ?_, ?_, w4, fun c hc => ?_, fun c hc => ?_⟩, ?_, ?_, fun c hc => ?_⟩
      · dsimp only
        rw [w3 _ (by omega) (by omega)]
        exact s4 j hj
      · dsimp only
        rw [k1]; exact r3
      · dsimp only
        rw [k1]; exact r4
      · exact (w3 c (by omega) (by omega)).trans ((s2 c (by omega)).trans ((cs c (by omega)).trans (q4 c (by omega) (by omega))))
      · obtain ⟨y1, y2⟩ := w5 c hc
        obtain ⟨_, y3, y4⟩ := F2 c (by omega)
        have y5 : M3.2.1 c = M2.2.1 c := by rw [s3]
        have y6 : M3.2.2 c = M2.2.2 c := by rw [s3]
        have y7 : M1.2.1 c = M.2.1 c := by rw [q5]
        have y8 : M1.2.2 c = M.2.2 c := by rw [q5]
        exact ⟨y1.trans (y5.trans (y3.trans y7)), y2.trans (y6.trans (y4.trans y8))⟩
      · dsimp only
        rw [k1]; exact q3
      · exact (w3 _ (by omega) (by omega)).trans ((s2 _ (by omega)).trans ((cs _ (by omega)).trans (q4 _ (by omega) (by omega))))
      · exact (w3 c (by omega) (by omega)).trans ((s2 c (by omega)).trans ((cs c (by omega)).trans (q4 c (by omega) (by omega))))
  · obtain ⟨r1, r2, r3⟩ := q2 e
    rw [r1, if_pos (show nI 0 = (0 : Int32) from rfl), wp_some]
    exact ⟨Or.inr ⟨e, rfl, r2, r3, fun c hc => q4 c (by omega) (by omega), q5⟩, q3, q4 _ (by omega) (by omega), fun c hc => q4 c (by omega) (by omega)⟩
end ST
