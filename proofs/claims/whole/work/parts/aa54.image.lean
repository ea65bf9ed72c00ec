/-! image, back, about; both sides. -/
def upB (B : Nat → Sto) (j : Nat) (S : Sto) : Nat → Sto := fun i => if i = j then S else B i
section IM
variable {fu a m k u n : Nat} {M : Mm} {S : Sto} {B Hs : Nat → Sto} {bx : Nat → Nat}
/-- only the boxes, at the class -/
def FB (a : Nat) (M M' : Mm) : Prop := ∀ c, (c < a + 177 ∨ a + 196 ≤ c) → M'.1 c = M.1 c ∧ M'.2.1 c = M.2.1 c ∧ M'.2.2 c = M.2.2 c
theorem X10_image (hV : VX S M (a + 12)) (hG : Gd S) (hB : BX B bx M a) (x : Int32) : Wp (fX10_image fu a x M) (fun z => (∃ j, j < 2 ∧ x = nI j ∧ z.1 = nI (S 1) ∧ BX (upB B j S) (upS bx j 1) z.2 a ∧ FB a M z.2) ∨ ((∀ j, j < 2 → ¬ x = nI j) ∧ z = (mI, M))) := by
  have v1 : vp_nar .boolean 1 = nI 1 := by decide +kernel
  unfold fX10_image fX10_image_j9
  rcases i32_cases x with h | ⟨j, hj, rfl⟩
  · rw [if_pos h, wp_some]
    exact Or.inr ⟨fun k hk e => neg_ne h (by omega) e, rfl⟩
  · rw [if_neg (nI_pos hj)]
    by_cases c : j < 2
    · rw [if_pos (show nI j < (2 : Int32) from nI_lt (b := 2) c (by omega)), if_neg (nI_in c (by omega)), ix_n (by omega), wp_bm]
      refine (X8_copyFrom hV hG (by omega)).mono fun M1 q => ?_
      obtain ⟨q1, q2⟩ := q
      rw [v1, lt_eq, wp_some]
      refine Or.inl ⟨j, c, rfl, ?_, fun i hi => ?_, fun c' hc => ?_⟩
      · dsimp only
        rw [wI_ne (by omega), q2.at (by omega)]
        exact hV.1.2.2.2.1
      · by_cases e : i = j
        · subst e
          refine Or.inr ⟨upS_y, wI_eq, ?_⟩
          have : upB B i S i = S := if_pos rfl
          rw [this]
          exact q1.fr fun c' h1 h2 => wI_ne (by omega)
        · have e2 : upB B j S i = B i := if_neg e
          dsimp only
          rw [upS_n e, e2, wI_nk e, q2.at (by omega)]
          rcases hB i hi with ⟨b1, b2⟩ | ⟨b1, b2, b3⟩
          · exact Or.inl ⟨b1, b2⟩
          · exact Or.inr ⟨b1, b2, b3.fr fun c' h1 h2 => (wI_ne (by omega)).trans (q2.at (by omega))⟩
      · obtain ⟨y1, y2, y3⟩ := q2 c' (by omega)
        exact ⟨(wI_ne (by omega)).trans y1, y2, y3⟩
    · rw [if_neg (show ¬ nI j < (2 : Int32) from nI_nlt (a := j) (b := 2) (by omega) (by omega)), wp_some]
      exact Or.inr ⟨fun k hk e => by rw [nI_eq (by omega) (by omega)] at e; omega, rfl⟩
theorem isIn2 (x : Int32) : (nI 0 ≤ x ∧ x ≤ nI 1) ↔ ∃ j, j < 2 ∧ x = nI j := by
  rw [isIn_c (by omega)]
  exact ⟨fun ⟨j, h1, h2⟩ => ⟨j, by omega, h2⟩, fun ⟨j, h1, h2⟩ => ⟨j, by omega, h2⟩⟩
/-- only the boxes, at the reference -/
def FVb (m : Nat) (M M' : Mm) : Prop := (∀ c, c ≠ m + 28 → c ≠ m + 29 → M'.1 c = M.1 c) ∧ M'.2 = M.2
theorem X11_image (hfu : 200000 ≤ fu) (hV : VM S M m) (hB : BM B bx M m) (x : Int32) : Wp (fX11_image fu m x M) (fun z => (∃ j, j < 2 ∧ x = nI j ∧ z.1 = nI (S 1) ∧ BM (upB B j S) (upS bx j 1) z.2 m ∧ FVb m M z.2) ∨ ((∀ j, j < 2 → ¬ x = nI j) ∧ z = (mI, M))) := by
  have v1 : vp_nar .boolean 1 = nI 1 := by decide +kernel
  unfold fX11_image
  show Wp (bi (fX11_isIn fu x (nI 0) (nI 1)) _) _
  rw [X11_isIn, bi_s]
  by_cases c : ∃ j, j < 2 ∧ x = nI j
  · rw [bI_t ((isIn2 x).mpr c), if_neg (show ¬ nI 1 = (0 : Int32) by decide)]
    obtain ⟨j, hj, rfl⟩ := c
    unfold fX11_image_l13
    refine lp_ho (F := fun (rec : (Int32 × Mm) → Option (Int32 × Mm)) (s : Int32 × Mm) => fX11_image_b13 fu (fun x2 M => rec (x2, M)) m (nI j) s.1 s.2) (fun i (s : Int32 × Mm) => s.1 = nI i ∧ (∀ c, c ≠ m + 28 → s.2.1 c = M.1 c) ∧ s.2.2 = M.2 ∧ (∀ k, k < i → s.2.1 (m + 28) (140 * j + k) = nI (S k)) ∧ ∀ k, (k < 140 * j ∨ 140 * j + 140 ≤ k) → s.2.1 (m + 28) k = M.1 (m + 28) k) _ 140 (i := 0) (by omega) (by omega) ⟨rfl, fun _ _ => rfl, rfl, fun k hk => absurd hk (by omega), fun _ _ => rfl⟩ (fun i s hi hs rec hrec => ?_) (fun s hs rec => ?_)
    · obtain ⟨y, M1⟩ := s
      obtain ⟨s1, s2, s3, s4, s5⟩ := hs
      dsimp only at *
      subst s1
      unfold fX11_image_b13
      rw [if_neg (show ¬ (140 : Int32) ≤ nI i from nI_ge (a := i) (b := 140) hi (by omega)), bix, if_neg (nI_in hi (by omega)), if_neg (nI_in (by omega) (by omega)), ix_n (by omega), ix_n (by omega), s2 (m + 1) (by omega), hV.2 i hi, lt_eq, lt_eq, nI_1]
      refine hrec _ ⟨rfl, fun c hc => (wI_ne hc).trans (s2 c hc), s3, fun k hk => ?_, fun k hk => ?_⟩
      · dsimp only
        by_cases e : k = i
        · rw [e, wI_eq]
        · rw [wI_nk (by omega)]
          exact s4 k (by omega)
      · dsimp only
        rw [wI_nk (by omega)]
        exact s5 k hk
    · obtain ⟨y, M1⟩ := s
      obtain ⟨s1, s2, s3, s4, s5⟩ := hs
      dsimp only at *
      subst s1
      unfold fX11_image_b13
      rw [if_pos (show (140 : Int32) ≤ nI 140 by decide)]
      unfold fX11_image_j44
      rw [if_neg (nI_in hj (by omega)), ix_n (by omega), v1, lt_eq, wp_some]
      refine Or.inl ⟨j, hj, rfl, ?_, fun i hi => ?_, fun c h1 h2 => (wI_ne h2).trans (s2 c h1), s3⟩
      · show (wI M1 (m + 29) j (nI 1)).1 (m + 1) 1 = _
        rw [wI_ne (by omega), s2 _ (by omega)]
        exact hV.2 1 (by omega)
      · by_cases e : i = j
        · subst e
          refine Or.inr ⟨upS_y, wI_eq, fun r hr => ?_⟩
          have : upB B i S i = S := if_pos rfl
          dsimp only
          rw [this, wI_ne (by omega)]
          exact s4 r hr
        · have e2 : upB B j S i = B i := if_neg e
          dsimp only
          rw [upS_n e, e2, wI_nk e, s2 _ (by omega)]
          rcases hB i hi with ⟨b1, b2⟩ | ⟨b1, b2, b3⟩
          · exact Or.inl ⟨b1, b2⟩
          · exact Or.inr ⟨b1, b2, fun r hr => by rw [wI_ne (by omega), s5 _ (by omega)]; exact b3 r hr⟩
  · rw [bI_f (fun z => c ((isIn2 x).mp z)), if_pos (show nI 0 = (0 : Int32) from rfl), wp_some]
    exact Or.inr ⟨fun j hj e => c ⟨j, hj, e⟩, rfl⟩
theorem X10_back (hV : VX S M (a + 12)) (hH : HX Hs k u M (a + 21)) (hB : BX B bx M a) (hG : ∀ j, j < 2 → bx j = 1 → Gd (B j)) (x : Int32) : Wp (fX10_back fu a x M) (fun z => (∃ j, j < 2 ∧ x = nI j ∧ bx j = 1 ∧ z.1 = nI (B j 1) ∧ VX (B j) z.2 (a + 12) ∧ HX (fun _ => B j) 0 0 z.2 (a + 21) ∧ WD a M z.2) ∨ ((∀ j, j < 2 → x = nI j → bx j = 0) ∧ z = (mI, M))) := by
  obtain ⟨v, ev, hv⟩ := X10_hasKept (fu := fu) hB x
  unfold fX10_back
  rw [ev, bi_s]
  rcases hv with ⟨rfl, j, hj, rfl, hb⟩ | ⟨rfl, hv⟩
  · rw [if_neg (show ¬ nI 1 = (0 : Int32) by decide), if_neg (nI_in hj (by omega)), ix_n (by omega), wp_bm]
    rcases hB j hj with ⟨b1, b2⟩ | ⟨b1, b2, b3⟩
    · omega
    · refine (X8_copyFrom b3 (hG j hj hb) (by omega)).mono fun M1 q => ?_
      obtain ⟨q1, q2⟩ := q
      obtain ⟨h1, h2, h3, o, ho, ho2, h4⟩ := hH
      rw [wp_bm]
      refine (X10_startAnew (o := o) (by rw [q2.at (by omega)]; exact ho2) ho q1 (hG j hj hb)).mono fun M2 w => ?_
      obtain ⟨w1, w2, w3⟩ := w
      rw [wp_some]
      exact Or.inl ⟨j, hj, rfl, hb, w1.1.2.2.2.1, w1, w2, w3.pre q2⟩
  · rw [if_pos (show nI 0 = (0 : Int32) from rfl), wp_some]
    exact Or.inr ⟨hv, rfl⟩
/-- the store and the acts, at the reference -/
def FW (m : Nat) (M M' : Mm) : Prop := (∀ c, c ≠ m → c ≠ m + 1 → M'.1 c = M.1 c) ∧ (∀ j, j ≠ 50 → j ≠ 51 → M'.1 m j = M.1 m j) ∧ M'.2 = M.2
theorem X11_back (hfu : 200000 ≤ fu) (hV : VM S M m) (hB : BM B bx M m) (hG : ∀ j, j < 2 → bx j = 1 → Gm S (B j)) (x : Int32) : Wp (fX11_back fu m x M) (fun z => (∃ j, j < 2 ∧ x = nI j ∧ bx j = 1 ∧ z.1 = nI (B j 1) ∧ VM (B j) z.2 m ∧ HM (fun _ => B j) 0 0 z.2 m ∧ FW m M z.2) ∨ ((∀ j, j < 2 → x = nI j → bx j = 0) ∧ z = (mI, M))) := by
  unfold fX11_back
  show Wp (bi (fX11_isIn fu x (nI 0) (nI 1)) _) _
  rw [X11_isIn, bi_s]
  by_cases c : ∃ j, j < 2 ∧ x = nI j
  · rw [bI_t ((isIn2 x).mpr c), if_neg (show ¬ nI 1 = (0 : Int32) by decide)]
    obtain ⟨j, hj, rfl⟩ := c
    rw [if_neg (nI_in hj (by omega)), ix_n (by omega)]
    rcases hB j hj with ⟨b1, b2⟩ | ⟨b1, b2, b3⟩
    · rw [b2, if_pos (show nI 0 = (0 : Int32) from rfl)]
      unfold fX11_back_j18
      rw [wp_some]
      refine Or.inr ⟨fun i hi e => ?_, rfl⟩
      rw [nI_eq (by omega) (by omega)] at e
      rw [← e]
      exact b1
    · rw [b2, if_neg (show ¬ nI 1 = (0 : Int32) by decide)]
      unfold fX11_back_l22
      refine lp_ho (F := fun (rec : (Int32 × Mm) → Option (Int32 × Mm)) (s : Int32 × Mm) => fX11_back_b22 fu (fun x2 M => rec (x2, M)) m (nI j) s.1 s.2) (fun i (s : Int32 × Mm) => s.1 = nI i ∧ (∀ c, c ≠ m + 1 → s.2.1 c = M.1 c) ∧ s.2.2 = M.2 ∧ (∀ k, k < i → s.2.1 (m + 1) k = nI (B j k))) _ 140 (i := 0) (by omega) (by omega) ⟨rfl, fun _ _ => rfl, rfl, fun k hk => absurd hk (by omega)⟩ (fun i s hi hs rec hrec => ?_) (fun s hs rec => ?_)
      · obtain ⟨y, M1⟩ := s
        obtain ⟨s1, s2, s3, s4⟩ := hs
        dsimp only at *
        subst s1
        unfold fX11_back_b22
        rw [if_neg (show ¬ (140 : Int32) ≤ nI i from nI_ge (a := i) (b := 140) hi (by omega)), bix, if_neg (nI_in (by omega) (by omega)), if_neg (nI_in hi (by omega)), ix_n (by omega), ix_n (by omega), s2 (m + 28) (by omega), b3 i hi, lt_eq, lt_eq, nI_1]
        refine hrec _ ⟨rfl, fun c hc => (wI_ne hc).trans (s2 c hc), s3, fun k hk => ?_⟩
        dsimp only
        by_cases e : k = i
        · rw [e, wI_eq]
        · rw [wI_nk (by omega)]
          exact s4 k (by omega)
      · obtain ⟨y, M1⟩ := s
        obtain ⟨s1, s2, s3, s4⟩ := hs
        dsimp only at *
        subst s1
        unfold fX11_back_b22
        rw [if_pos (show (140 : Int32) ≤ nI 140 by decide)]
        unfold fX11_back_j53
        rw [lt_eq, lt_eq, wp_some]
        have D : ∀ M', M' = wI (wI M1 m 50 0) m 51 0 → (∀ c, c ≠ m → M'.1 c = M1.1 c) ∧ M'.1 m 50 = nI 0 ∧ M'.1 m 51 = nI 0 ∧ (∀ i, i ≠ 50 → i ≠ 51 → M'.1 m i = M.1 m i) ∧ M'.2 = M.2 := fun M' e => by
          subst e
          refine ⟨fun c hc => ?_, ?_, wI_eq, fun i h1 h2 => ?_, s3⟩
          · rw [wI_ne hc, wI_ne hc]
          · rw [wI_nk (by omega), wI_eq]
            rfl
          · rw [wI_nk h2, wI_nk h1, s2 m (by omega)]
        generalize wI (wI M1 m 50 0) m 51 0 = M2 at D ⊢
        obtain ⟨d1, d2, d3, d4, d5⟩ := D M2 rfl
        have c1 : ∀ k, k < 140 → M2.1 (m + 1) k = nI (B j k) := fun k hk => by rw [d1 _ (by omega)]; exact s4 k hk
        refine Or.inl ⟨j, hj, rfl, b1, c1 1 (by omega), hV.ch (hG j hj b1) (d4 5 (by omega) (by omega)) ?_ ?_ ?_ c1, ⟨by omega, d2, d3, fun i hi => absurd hi (by omega), fun i h1 h2 => absurd h2 (by omega)⟩, fun c h1 h2 => (d1 c h1).trans (s2 c h2), d4, d5⟩
        · exact (d1 _ (by omega)).trans (s2 _ (by omega))
        · exact (d1 _ (by omega)).trans (s2 _ (by omega))
        · exact (d1 _ (by omega)).trans (s2 _ (by omega))
  · rw [bI_f (fun z => c ((isIn2 x).mp z)), if_pos (show nI 0 = (0 : Int32) from rfl)]
    unfold fX11_back_j18
    rw [wp_some]
    exact Or.inr ⟨fun j hj e => absurd ⟨j, hj, e⟩ c, rfl⟩
theorem ite_s {c : Prop} [Decidable c] {α : Type} {x y : α} : (if c then some x else some y) = some (if c then x else y) := by
  split <;> rfl
theorem ite_p {c : Prop} [Decidable c] {α β : Type} {x y : α} {z : β} : (if c then some (x, z) else some (y, z)) = some (if c then x else y, z) := by
  split <;> rfl
def aboA (S : Sto) (k u n : Nat) (x : Int32) : Int32 := if x = nI 0 then nI (2 ^ S 140) else if x = nI 1 then nI (S 141) else if x = nI 2 then nI (csN S (S 141)) else if x = nI 3 then nI (S 0) else if x = nI 4 then nI (S 1) else if x = nI 5 then nI (S 142) else if x = nI 6 then nI (rnS S) else if x = nI 7 then nI k else if x = nI 8 then nI u else if x = nI 9 then nI n else if x = nI 10 then nI (2 ^ S 140 / 16) else if x = nI 11 then nI (owN (fun p => S (76 + p)) (2 ^ S 140 / 16)) else mI
theorem X11_about (hfu : 200000 ≤ fu) (hV : VM S M m) (hG : Gd S) (hH : HM Hs k u M m) (hT : M.1 m 7 = nI n) (x : Int32) : fX11_about fu m x M = some (aboA S k u n x) := by
  obtain ⟨⟨b, hb, v1, v2, v3, v4⟩, v5⟩ := id hV
  unfold fX11_about aboA
  rw [X11_addresses hV hG, X11_registersNow hV, X11_setMany hfu hV hG, X11_runMany hfu hV hG, X11_pages hV hG, X11_pagesSet hfu hV hG, hH.2.1, hH.2.2.1, hT, v1, if_neg (nI_in hb (by omega)), ix_n (show b < 2 ^ 31 by omega), v4]
  simp only [bi_s]
  rw [show M.1 (m + 1) (ix 0) = nI (S 0) from v5 0 (by omega), show M.1 (m + 1) (ix 1) = nI (S 1) from v5 1 (by omega)]
  show (if x = nI 0 then some _ else if x = nI 1 then some _ else if x = nI 2 then some _ else if x = nI 3 then some _ else if x = nI 4 then some _ else if x = nI 5 then some _ else if x = nI 6 then some _ else if x = nI 7 then some _ else if x = nI 8 then some _ else if x = nI 9 then some _ else if x = nI 10 then some _ else if x = nI 11 then some _ else some mI) = _
  simp only [ite_s]
theorem X10_about {n1 : Nat} {f : Nat → Nat} {M1 : Mm} (hfu : 200000 ≤ fu) (hV : VX S M (a + 12)) (hG : Gd S) (hH : HX Hs k u M (a + 21)) (hT : M.1 (a + 1) 1 = nI n) (e : fX10_piecesNow fu a M = some M1) (hP : PV S M1 (a + 198) n1 f) (x : Int32) : ∃ M', fX10_about fu a x M = some (aboA S k u n x, M') ∧ (M' = M ∨ M' = M1) := by
  have hA := hG.ad
  have o1 : fX10_owned fu 64 (a + 12 + 8) (nI (2 ^ S 140 / 16)) M = some (nI (owN (fun p => S (76 + p)) (2 ^ S 140 / 16))) := X10_owned hfu (by omega) (fun p hp => hV.2.2.2.2 p hp) (fun p hp => hG.2.1 _)
  refine ⟨if x = nI 6 then M1 else M, ?_, ?_⟩
  · unfold fX10_about aboA
    rw [hV.1.1, hV.1.2.1, hV.1.2.2.1, hV.1.2.2.2.1, hV.1.2.2.2.2, X8_countSet hfu hV hG, X8_pages hV hG, hH.2.1, hH.2.2.1, hT, e]
    simp only [bi_s, bm_s]
    rw [o1, hP.rc]
    simp only [bi_s]
    show (if x = nI 0 then some _ else if x = nI 1 then some _ else if x = nI 2 then some _ else if x = nI 3 then some _ else if x = nI 4 then some _ else if x = nI 5 then some _ else if x = nI 6 then some _ else if x = nI 7 then some _ else if x = nI 8 then some _ else if x = nI 9 then some _ else if x = nI 10 then some _ else if x = nI 11 then some _ else some (mI, M)) = _
    by_cases c6 : x = nI 6
    · subst c6
      rfl
    · rw [if_neg c6, if_neg c6, if_neg c6]
      simp only [ite_p]
  · split
    · exact Or.inr rfl
    · exact Or.inl rfl
end IM
