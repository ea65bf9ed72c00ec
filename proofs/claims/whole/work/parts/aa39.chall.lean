/-! Changes as asked of the reference. -/
section RC
variable {fu m : Nat} {S : Sto} {M : Mm}
theorem TE.fr {l : List Bk} {M' : Mm} {D0 : Nat} (h : TE S l M m D0) (hf : M'.1 (m + 22) = M.1 (m + 22)) : TE S l M' m D0 := fun D h1 h2 => by
  rw [hf]
  exact h D h1 h2
theorem MB.o {l : List Bk} {M' : Mm} (hB : MB M m l) (h : O1 (m + 22) M M') : MB M' m l := by
  unfold MB at hB ⊢
  rw [h.1 m (by omega), h.1 (m + 14) (by omega), h.1 (m + 15) (by omega), h.1 (m + 16) (by omega)]
  exact hB
theorem StM.o {l : List Bk} {M' : Mm} (hB : StM S l M m) (h : O1 (m + 22) M M') : StM S l M' m := by
  unfold StM at hB ⊢
  rw [h.1 m (by omega), h.1 (m + 20) (by omega)]
  exact hB
theorem EM.o {M' : Mm} {ne A : Nat} {e : Nat → Nat} (hB : EM M m ne A e) (h : O1 (m + 22) M M') : EM M' m ne A e := by
  unfold EM at hB ⊢
  rw [h.1 m (by omega), h.1 (m + 21) (by omega)]
  exact hB
theorem X11_layTable {l : List Bk} (hfu : 200000 ≤ fu) (hV : VM S M m) (hG : Gd S) (hB : MB M m l) (hL : Lb (S 140) l) (hl : l.length ≤ 10) (hS : StM S l M m) (hN : nnS S l ≤ 12) {ne : Nat} {e : Nat → Nat} (hne : ne < 100) (hE : EM M m ne (2 ^ S 140) e) (hA' : EA S l ne e (S 141) l.length) : Wp (fX11_layChange_l41 fu m (nI (2 ^ nnS S l - 1)) (nI (2 ^ nnS S l - 1)) M) (fun z => z.1 = nI 1 ∧ TE S l z.2 m 0 ∧ O1 (m + 22) M z.2) := by
  have hp : 2 ^ nnS S l ≤ 2 ^ 12 := Nat.pow_le_pow_right (by decide) hN
  have hp0 : 0 < 2 ^ nnS S l := Nat.two_pow_pos _
  have v0 : vp_nar .boolean 0 = nI 0 := by decide +kernel
  have v1 : vp_nar .boolean 1 = nI 1 := by decide +kernel
  have es : nI (2 ^ nnS S l - 1) = nI (2 ^ nnS S l - 0) + mI := by rw [Nat.sub_zero, zi_addm (by omega)]
  unfold fX11_layChange_l41
  refine lp_ho (fun t z => z.1 = nI (2 ^ nnS S l - t) + mI ∧ TE S l z.2 m (2 ^ nnS S l - t) ∧ O1 (m + 22) M z.2) _ (2 ^ nnS S l) (i := 0) (by omega) (by omega) ⟨es, fun D h1 h2 => absurd h2 (by omega), ⟨fun _ _ => rfl, rfl⟩⟩ (fun t z ht hz rec hrec => ?_) (fun z hz rec => ?_)
  · obtain ⟨z1, z2⟩ := z
    obtain ⟨rfl, g1, g2⟩ := hz
    dsimp only at *
    have sc : Sc m M z2 := Sc.o1 g2 (by omega) (by omega)
    have Vz := hV.sc sc
    have Bz := hB.o g2
    have Sz := hS.o g2
    have Ez := hE.o g2
    rw [zi_addm (show 1 ≤ 2 ^ nnS S l - t by omega)]
    obtain ⟨D, hD⟩ : ∃ D, 2 ^ nnS S l - t - 1 = D := ⟨_, rfl⟩
    have hDl : D < 2 ^ nnS S l := by omega
    have hDt : 2 ^ nnS S l - t = D + 1 := by omega
    have hDt2 : 2 ^ nnS S l - (t + 1) = D := by omega
    rw [hD]
    rw [hDt] at g1
    have hfe := FE_eq (S := S) (l := l) (D := D) hN
    have put : ∀ v : Int32, v = bI (ceP S l D) → ∀ t2 : Int32, vp_nar .boolean t2 = v → Wp (fX11_layChange_j112 fu (fun x2 M => rec (x2, M)) m (nI (2 ^ nnS S l - 1)) (nI D) (m + 22) (nI D) t2 z2) (fun z => z.1 = nI 1 ∧ TE S l z.2 m 0 ∧ O1 (m + 22) M z.2) := fun v hv t2 ht2 => by
      unfold fX11_layChange_j112
      rw [if_neg (nI_in (by omega) (by omega)), ix_n (by omega), ht2, lt_eq, lt_eq]
      refine hrec _ ⟨?_, fun D' h1 h2 => ?_, ⟨fun c hc => by rw [wI_ne hc]; exact g2.1 c hc, g2.2⟩⟩
      · rw [hDt2]
        rfl
      · rw [hDt2] at h1
        by_cases eD : D' = D
        · subst eD
          rw [wI_eq]
          exact hv
        · rw [wI_nk eD]
          exact g1 D' (by omega) h2
    have fin : ∀ x3 : Int32, x3 = bI (FE S l D = true) → Wp (fX11_layChange_j86 fu (fun x2 M => rec (x2, M)) m (nI (2 ^ nnS S l - 1)) (nI D) x3 z2) (fun z => z.1 = nI 1 ∧ TE S l z.2 m 0 ∧ O1 (m + 22) M z.2) := fun x3 hx => by
      subst hx
      unfold fX11_layChange_j86 fX11_layChange_j111 fX11_layChange_j107
      by_cases cf : FE S l D = true
      · rw [bI_t cf, if_neg (by decide)]
        by_cases c0 : D = 0
        · rw [if_pos (show nI D = (0 : Int32) by rw [c0]; rfl)]
          exact put (nI 1) (by rw [bI_t ⟨cf, Or.inl c0⟩]) 1 v1
        · rw [if_neg (show ¬ nI D = (0 : Int32) from nI_ne0 (by omega) (by omega)), X11_isSafe hfu Vz hG Bz hL hl Sz hN hne Ez hA' hDl, bi_s]
          by_cases cs : usS S l D = 0
          · rw [bI_t cs, if_neg (by decide)]
            exact put (nI 1) (by rw [bI_t ⟨cf, Or.inr cs⟩]) 1 v1
          · rw [bI_f cs, if_pos (by decide)]
            exact put (nI 0) (by rw [bI_f (fun z => z.2.elim c0 cs)]) 0 v0
      · rw [bI_f cf, if_pos (by decide)]
        exact put (nI 0) (by rw [bI_f (fun z => cf z.1)]) 0 v0
    have inner : ∀ t0 : Int32, (t0 = nI 0 ∧ ¬ D = 2 ^ nnS S l - 1) ∨ (t0 = nI 1 ∧ FE S l D = true) → Wp (fX11_layChange_j55 fu (fun x2 M => rec (x2, M)) m (nI (2 ^ nnS S l - 1)) (nI D) t0 z2) (fun z => z.1 = nI 1 ∧ TE S l z.2 m 0 ∧ O1 (m + 22) M z.2) := fun t0 h0 => by
      unfold fX11_layChange_j55 fX11_layChange_l59
      refine lp_ho (fun k z => z.2 = nI k ∧ ((z.1 = nI 0 ∧ ¬ D = 2 ^ nnS S l - 1 ∧ ∀ j, j < k → stp S l D j = false) ∨ (z.1 = nI 1 ∧ FE S l D = true))) _ (nnS S l) (i := 0) (by omega) (by omega) ⟨rfl, h0.elim (fun h => Or.inl ⟨h.1, h.2, fun j hj => absurd hj (by omega)⟩) Or.inr⟩ (fun k z hk hz rec2 hrec2 => ?_) (fun z hz rec2 => ?_)
      · obtain ⟨y1, y2⟩ := z
        obtain ⟨rfl, hz⟩ := hz
        dsimp only at *
        unfold fX11_layChange_b59
        rw [Sz.1, if_neg (nI_ge hk (by omega))]
        rcases hz with ⟨rfl, h1, h2⟩ | ⟨rfl, h1⟩
        · rw [if_pos (show nI 0 = (0 : Int32) from rfl), X11_canStep hfu Vz hG Sz hN hDl hk g1, bi_s, lt_eq, nI_1]
          by_cases cs : stp S l D k = true
          · rw [bI_t cs]
            exact hrec2 _ ⟨rfl, Or.inr ⟨rfl, by rw [hfe, exB_y hk cs, Bool.or_true]⟩⟩
          · rw [bI_f cs]
            refine hrec2 _ ⟨rfl, Or.inl ⟨rfl, h1, fun j hj => ?_⟩⟩
            by_cases ej : j = k
            · subst ej
              cases hx : stp S l D j with
              | false => rfl
              | true => exact absurd hx cs
            · exact h2 j (by omega)
        · rw [if_neg (by decide)]
          exact fin _ (by rw [bI_t h1])
      · obtain ⟨y1, y2⟩ := z
        obtain ⟨rfl, hz⟩ := hz
        dsimp only at *
        unfold fX11_layChange_b59
        rw [Sz.1, if_pos (Int32.le_refl _)]
        refine fin y1 ?_
        rcases hz with ⟨rfl, h1, h2⟩ | ⟨rfl, h1⟩
        · rw [hfe, decide_eq_false h1, exB_n h2, bI_f (by decide)]
        · rw [bI_t h1]
    unfold fX11_layChange_b41
    rw [if_neg (nI_pos (by omega))]
    by_cases cl : D = 2 ^ nnS S l - 1
    · rw [if_pos (by rw [cl])]
      exact inner 1 (Or.inr ⟨rfl, by rw [hfe, decide_eq_true cl, Bool.true_or]⟩)
    · rw [if_neg (fun z => cl ((nI_eq (by omega) (by omega)).mp z))]
      exact inner 0 (Or.inl ⟨rfl, cl⟩)
  · obtain ⟨z1, z2⟩ := z
    obtain ⟨rfl, g1, g2⟩ := hz
    dsimp only at *
    rw [Nat.sub_self] at g1 ⊢
    unfold fX11_layChange_b41 fX11_layChange_j119
    rw [if_pos (show nI 0 + mI < 0 by decide +kernel), wp_some]
    exact ⟨rfl, g1, g2⟩
theorem X11_layChange (hfu : 200000 ≤ fu) (hV : VM S M m) (hG : Gd S) : Wp (fX11_layChange fu m M) (fun z => MB z.2 m (plS S) ∧ StM S (plS S) z.2 m ∧ Sc m M z.2 ∧ ((z.1 = nI 0 ∧ ¬ wkS S) ∨ (z.1 = nI 1 ∧ wkS S ∧ TE S (plS S) z.2 m 0))) := by
  have hL := plS_Lb hG
  have hlen := plS_len hG
  have hcv := cvS_le hG hG.1.2.2.2.2.1
  have h10 := hG.1.2.2.2.1
  have hnl := nn_le hG
  unfold fX11_layChange
  rw [wp_bm]
  refine (X11_laySteps hfu hV hG).mono fun M1 q => ?_
  obtain ⟨q1, q2, q3⟩ := q
  have V1 := hV.sc q3
  have n24 : fX11_layChange_j24 fu M1 = some (nI 0, M1) := rfl
  rw [X11_registersNow V1, bi_s, q1.1, n24, q2.1]
  by_cases c1 : S 141 < (plS S).length
  · rw [if_pos (nI_lt c1 (by omega)), wp_some]
    exact ⟨q1, q2, q3, Or.inl ⟨rfl, fun z => absurd z.1 (by omega)⟩⟩
  rw [if_neg (nI_nlt (by omega) (by omega))]
  by_cases c2 : nnS S (plS S) ≤ 12
  · have c2' : nI (nnS S (plS S)) ≤ (12 : Int32) := nI_le (b := 12) c2 (by omega)
    have hp : 2 ^ nnS S (plS S) ≤ 2 ^ 12 := Nat.pow_le_pow_right (by decide) c2
    have hp0 : 0 < 2 ^ nnS S (plS S) := Nat.two_pow_pos _
    have esh : (1 : Int32) <<< (nI (nnS S (plS S)) &&& 31) = nI (2 ^ nnS S (plS S)) := by
      have := zi_shl (n := 1) (k := nnS S (plS S)) (by omega) (by omega)
      rw [Nat.one_mul] at this
      exact this
    rw [if_pos c2', wp_bm]
    refine (X11_layEdges hfu V1 hG q1 hL (by omega)).mono fun M2 r => ?_
    obtain ⟨⟨ne, e, r1, r2, r3⟩, r4⟩ := r
    have S2 := q2.le r4
    have B2 := q1.le r4
    rw [S2.1, esh, show nI (2 ^ nnS S (plS S)) - 1 = nI (2 ^ nnS S (plS S) - 1) from zi_sub (b := 1) (by omega), lt_eq]
    refine (X11_layTable hfu (V1.sc r4.sc) hG B2 hL (by omega) S2 c2 r1 r2 r3).mono fun z w => ?_
    obtain ⟨w1, w2, w3⟩ := w
    exact ⟨B2.o w3, S2.o w3, (q3.tr r4.sc).tr (Sc.o1 w3 (by omega) (by omega)), Or.inr ⟨w1, ⟨by omega, c2⟩, w2⟩⟩
  · have c2' : ¬ nI (nnS S (plS S)) ≤ (12 : Int32) := nI_ge (a := 12) (by omega) (by omega)
    rw [if_neg c2', wp_some]
    exact ⟨q1, q2, q3, Or.inl ⟨rfl, fun z => c2 z.2⟩⟩
theorem ce_0 (S : Sto) (l : List Bk) : ceP S l 0 ↔ FE S l 0 = true := ⟨fun h => h.1, fun h => ⟨h, Or.inl rfl⟩⟩
theorem X11_change (hfu : 200000 ≤ fu) (hV : VM S M m) (hG : Gd S) (x : Int32) : Wp (fX11_change fu m x M) (fun z => z.1 = chA S x ∧ Sc m M z.2) := by
  have e00 : ix 0 = 0 := by decide +kernel
  unfold fX11_change fX11_change_j61 chA
  show Wp (bi (fX11_isIn fu x (nI 0) (nI 2)) _) _
  rw [X11_isIn, bi_s]
  by_cases c : nI 0 ≤ x ∧ x ≤ nI 2
  · obtain ⟨w, hw, rfl⟩ := (isIn_c (by omega)).mp c
    rw [bI_t c, if_neg (by decide), wp_bw]
    refine (X11_layChange hfu hV hG).mono fun z q => ?_
    obtain ⟨r0, M1⟩ := z
    obtain ⟨q1, q2, q3, q4⟩ := q
    dsimp only at *
    rw [q2.1, q2.2.1, e00]
    have : w = 0 ∨ w = 1 ∨ w = 2 := by omega
    rcases this with rfl | rfl | rfl
    · exact ⟨(_, M1), rfl, rfl, q3⟩
    · exact ⟨(_, M1), rfl, rfl, q3⟩
    · rw [if_neg (show ¬ nI 2 = (0 : Int32) by decide), if_neg (show ¬ nI 2 = (1 : Int32) by decide), if_neg (show ¬ nI 2 = nI 0 by decide), if_neg (show ¬ nI 2 = nI 1 by decide), if_pos (show nI 2 = nI 2 from rfl)]
      rcases q4 with ⟨rfl, q5⟩ | ⟨rfl, q5, q6⟩
      · rw [if_pos (show nI 0 = (0 : Int32) from rfl), if_neg q5]
        exact ⟨(_, M1), rfl, rfl, q3⟩
      · rw [if_neg (by decide), if_pos q5, q6 0 (Nat.le_refl _) (Nat.two_pow_pos _)]
        by_cases cf : FE S (plS S) 0 = true
        · rw [bI_t ((ce_0 S _).mpr cf), if_neg (by decide), bI_t cf]
          exact ⟨(_, M1), rfl, rfl, q3⟩
        · rw [bI_f (fun z => cf z.1), if_pos (by decide), bI_f cf]
          exact ⟨(_, M1), rfl, rfl, q3⟩
  · rw [bI_f c, if_pos (by decide), if_neg (fun q => c (isIn_y (j := 0) (by omega) q (by omega))), if_neg (fun q => c (isIn_y (j := 1) (by omega) q (by omega))), if_neg (fun q => c (isIn_y (j := 2) (by omega) q (by omega)))]
    exact ⟨(_, M), rfl, rfl, Sc.rf m M⟩
/-- the order's step, and what is done ahead of it -/
theorem X11_orderAt (hfu : 200000 ≤ fu) (hV : VM S M m) (hG : Gd S) (x : Int32) : Wp (fX11_orderAt fu m x M) (fun z => z.1 = orA S x ∧ MB z.2 m (plS S) ∧ StM S (plS S) z.2 m ∧ Sc m M z.2 ∧ (hsP S x → z.2.1 m 42 = nI (dnN S (plS S) (ix x)))) := by
  have e00 : ix 0 = 0 := by decide +kernel
  have hnl := nn_le hG
  unfold fX11_orderAt orA
  rw [wp_bw]
  refine (X11_layChange hfu hV hG).mono fun z q => ?_
  obtain ⟨r0, M1⟩ := z
  obtain ⟨q1, q2, q3, q4⟩ := q
  dsimp only at *
  have n30 : fX11_orderAt_j30 fu M1 = some (mI, M1) := rfl
  rw [n30]
  rcases q4 with ⟨rfl, q5⟩ | ⟨rfl, q5, q6⟩
  · rw [if_pos (show nI 0 = (0 : Int32) from rfl), if_neg (fun z => q5 z.1.1), wp_some]
    exact ⟨rfl, q1, q2, q3, fun z => absurd z.1.1 q5⟩
  rw [if_neg (by decide), e00, q6 0 (Nat.le_refl _) (Nat.two_pow_pos _)]
  by_cases cf : FE S (plS S) 0 = true
  · rw [bI_t ((ce_0 S _).mpr cf), if_neg (by decide), q2.1]
    show Wp (bi (fX11_isIn fu x (nI 0) (nI (nnS S (plS S)) - 1)) _) _
    rw [X11_isIn, bi_s]
    by_cases c : nI 0 ≤ x ∧ x ≤ nI (nnS S (plS S)) - 1
    · have c' := (isIn_l (by omega)).mp c
      have hh : hsP S x := ⟨⟨q5, cf⟩, c'⟩
      obtain ⟨i, hi, h31, rfl⟩ := inB_of c'
      have hN := q5.2
      have hp : 2 ^ nnS S (plS S) ≤ 2 ^ 12 := Nat.pow_le_pow_right (by decide) hN
      rw [bI_t c, if_neg (by decide), if_pos hh, ix_n h31]
      unfold fX11_orderAt_l39
      refine lp_ho (fun t z => z.1 = nI (dnN S (plS S) t) ∧ z.2.2.1 = nI t ∧ (∀ t', t = t' + 1 → z.2.1 = nI (fst S (plS S) (dnN S (plS S) t')) ∧ z.2.2.2.1 m 42 = nI (dnN S (plS S) t')) ∧ ((∀ c, c ≠ m → z.2.2.2.1 c = M1.1 c) ∧ (∀ j, j ≠ 42 → z.2.2.2.1 m j = M1.1 m j) ∧ z.2.2.2.2 = M1.2)) _ (i + 1) (i := 0) (by omega) (by omega) ⟨rfl, rfl, fun t' ht => by omega, ⟨fun _ _ => rfl, fun _ _ => rfl, rfl⟩⟩ (fun t z ht hz rec hrec => ?_) (fun z hz rec => ?_)
      · obtain ⟨y0, y1, y2, y3⟩ := z
        obtain ⟨rfl, rfl, k1, k2, k3, k4⟩ := hz
        dsimp only at *
        have sc : Sc m M1 y3 := ⟨fun c h1 _ => k2 c h1, fun j _ _ _ _ _ _ h => k3 j h, k4⟩
        have Vy := (hV.sc q3).sc sc
        have Sy : StM S (plS S) y3 m := by
          unfold StM at q2 ⊢
          rw [k3 39 (by omega), k3 40 (by omega), k2 (m + 20) (by omega)]
          exact q2
        have Ty : TE S (plS S) y3 m 0 := q6.fr (k2 _ (by omega))
        have hDl := (dn_ok hN cf t (by omega)).1
        obtain ⟨f1, f2, f3⟩ := fsB_ok (dn_st hN cf (j := t) (by omega))
        have hfl : fst S (plS S) (dnN S (plS S) t) < nnS S (plS S) := f1
        have hpk : 2 ^ fst S (plS S) (dnN S (plS S) t) < 2 ^ 12 := Nat.pow_lt_pow_right (by decide) (by omega)
        have esh : (1 : Int32) <<< (nI (fst S (plS S) (dnN S (plS S) t)) &&& 31) = nI (2 ^ fst S (plS S) (dnN S (plS S) t)) := by
          have := zi_shl (n := 1) (k := fst S (plS S) (dnN S (plS S) t)) (by omega) (by omega)
          rw [Nat.one_mul] at this
          exact this
        unfold fX11_orderAt_b39 fX11_orderAt_l47
        rw [if_neg (nI_nlt (by omega) (by omega))]
        refine lp_ho (fun k z => z = nI k) _ (fst S (plS S) (dnN S (plS S) t)) (i := 0) (by omega) (by omega) rfl (fun k z hk hz rec2 hrec2 => ?_) (fun z hz rec2 => ?_)
        · subst hz
          unfold fX11_orderAt_b47
          have h0 : stp S (plS S) (dnN S (plS S) t) k = false := f3 k hk
          rw [X11_canStep hfu Vy hG Sy hN hDl (by omega) (fun D h1 h2 => Ty D (by omega) h2), bi_s, h0, bI_f (by decide), if_pos (by decide), lt_eq, nI_1]
          exact hrec2 _ rfl
        · subst hz
          unfold fX11_orderAt_b47 fX11_orderAt_j62
          have h1 : stp S (plS S) (dnN S (plS S) t) (fst S (plS S) (dnN S (plS S) t)) = true := f2
          rw [X11_canStep hfu Vy hG Sy hN hDl hfl (fun D h1 h2 => Ty D (by omega) h2), bi_s, h1, bI_t rfl, if_neg (by decide), lt_eq, esh, zi_or (by omega) (by omega), lt_eq, lt_eq, nI_1]
          refine hrec _ ⟨rfl, rfl, fun t' ht' => ?_, ⟨fun c hc => by rw [wI_ne hc]; exact k2 c hc, fun j hj => by rw [wI_nk hj]; exact k3 j hj, k4⟩⟩
          have : t = t' := by omega
          subst this
          exact ⟨rfl, wI_eq⟩
      · obtain ⟨y0, y1, y2, y3⟩ := z
        obtain ⟨rfl, rfl, k1, k2, k3, k4⟩ := hz
        dsimp only at *
        obtain ⟨k5, k6⟩ := k1 i rfl
        have sc : Sc m M1 y3 := ⟨fun c h1 _ => k2 c h1, fun j _ _ _ _ _ _ h => k3 j h, k4⟩
        unfold fX11_orderAt_b39 fX11_orderAt_j79
        rw [if_pos (nI_lt (by omega) (by omega)), wp_some]
        refine ⟨k5, ?_, ?_, q3.tr sc, fun _ => k6⟩
        · unfold MB at q1 ⊢
          rw [k3 33 (by omega), k2 (m + 14) (by omega), k2 (m + 15) (by omega), k2 (m + 16) (by omega)]
          exact q1
        · unfold StM at q2 ⊢
          rw [k3 39 (by omega), k3 40 (by omega), k2 (m + 20) (by omega)]
          exact q2
    · rw [bI_f c, if_pos (by decide), if_neg (fun z => c ((isIn_l (by omega)).mpr z.2)), wp_some]
      exact ⟨rfl, q1, q2, q3, fun z => absurd ((isIn_l (by omega)).mpr z.2) c⟩
  · rw [bI_f (fun z => cf z.1), if_pos (by decide), if_neg (fun z => cf z.1.2), wp_some]
    exact ⟨rfl, q1, q2, q3, fun z => absurd z.1.2 cf⟩
theorem X11_order (hfu : 200000 ≤ fu) (hV : VM S M m) (hG : Gd S) (x : Int32) : Wp (fX11_order fu m x M) (fun z => z.1 = orA S x ∧ Sc m M z.2) := by
  unfold fX11_order
  rw [wp_bw]
  refine (X11_orderAt hfu hV hG x).mono fun z q => ?_
  exact ⟨_, rfl, q.1, q.2.2.2.1⟩
theorem X11_stir (hfu : 200000 ≤ fu) (hV : VM S M m) (hG : Gd S) (x : Int32) : Wp (fX11_stir fu m x M) (fun z => z.1 = srA S x ∧ Sc m M z.2) := by
  have hL := plS_Lb hG
  have hA := hG.ad
  have h10 := hG.1.2.2.2.1
  have hnl := nn_le hG
  unfold fX11_stir
  rw [wp_bw]
  refine (X11_orderAt hfu hV hG x).mono fun z q => ?_
  obtain ⟨r0, M1⟩ := z
  obtain ⟨q1, q2, q3, q4, q5⟩ := q
  dsimp only at *
  subst q1
  unfold orA srA
  by_cases ch : hsP S x
  · obtain ⟨i, hi, h31, rfl⟩ := inB_of ch.2
    have q6 := q5 ch
    rw [ix_n h31] at q6
    have hw := ch.1.1
    have hf := ch.1.2
    have hN := hw.2
    have hp : 2 ^ nnS S (plS S) ≤ 2 ^ 12 := Nat.pow_le_pow_right (by decide) hN
    have hD := (dn_ok hN hf i (by omega)).1
    have hD' := (dn_ok hN hf (i + 1) (by omega)).1
    have hfl := fst_lt hw hf hi
    have hpk : 2 ^ fst S (plS S) (dnN S (plS S) i) < 2 ^ 12 := Nat.pow_lt_pow_right (by decide) (by omega)
    have esh : (1 : Int32) <<< (nI (fst S (plS S) (dnN S (plS S) i)) &&& 31) = nI (2 ^ fst S (plS S) (dnN S (plS S) i)) := by
      have := zi_shl (n := 1) (k := fst S (plS S) (dnN S (plS S) i)) (by omega) (by omega)
      rw [Nat.one_mul] at this
      exact this
    have eD : dnN S (plS S) i ||| 2 ^ fst S (plS S) (dnN S (plS S) i) = dnN S (plS S) (i + 1) := rfl
    have V1 := hV.sc q4
    have hres : fX11_stir_l17 fu m (nI (fst S (plS S) (dnN S (plS S) i))) M1 0 0 = some (nI (smN (stD S (dnN S (plS S) i) (dnN S (plS S) (i + 1))) (2 ^ S 140)), M1) := by
      unfold fX11_stir_l17
      refine lp_ue (fun x => (nI (smN (stD S (dnN S (plS S) i) (dnN S (plS S) (i + 1))) x), nI x)) (2 ^ S 140) rfl (by omega) (fun y hy rec => ?_) (fun rec => ?_)
      · have b1 := kB_le (l := plS S) hG (dnN S (plS S) i) y
        have b2 := kB_le (l := plS S) hG (dnN S (plS S) (i + 1)) y
        have e0 : smN (stD S (dnN S (plS S) i) (dnN S (plS S) (i + 1))) (y + 1) = smN (stD S (dnN S (plS S) i) (dnN S (plS S) (i + 1))) y + stD S (dnN S (plS S) i) (dnN S (plS S) (i + 1)) y := rfl
        show fX11_stir_b17 fu _ m (nI (fst S (plS S) (dnN S (plS S) i))) (nI (smN (stD S (dnN S (plS S) i) (dnN S (plS S) (i + 1))) y)) (nI y) M1 = rec (nI (smN (stD S (dnN S (plS S) i) (dnN S (plS S) (i + 1))) (y + 1)), nI (y + 1))
        unfold fX11_stir_b17 fX11_stir_j67 fX11_stir_j68
        rw [X11_addresses V1 hG, bi_s, if_neg (nI_ge hy (by omega)), X11_isFixed V1 hG (by omega), bi_s, q6, esh, zi_or (by omega) (by omega), eD, X11_kindBehind hfu V1 hG q2 hL (by omega) q3 hN hD (by omega), bi_s, X11_kindBehind hfu V1 hG q2 hL (by omega) q3 hN hD' (by omega), bi_s, lt_eq, lt_eq, lt_eq, lt_eq, nI_1, nI_1, e0]
        by_cases c1 : y < S 142
        · have : stD S (dnN S (plS S) i) (dnN S (plS S) (i + 1)) y = 0 := if_neg (fun z => absurd z.1 (by omega))
          rw [bI_t c1, if_neg (by decide), this]
          show rec (nI _ + nI 0, _) = _
          rw [nI_add]
        rw [bI_f c1, if_pos (by decide)]
        by_cases c2 : kB S (plS S) (dnN S (plS S) i) y = kB S (plS S) (dnN S (plS S) (i + 1)) y
        · have : stD S (dnN S (plS S) i) (dnN S (plS S) (i + 1)) y = 0 := if_neg (fun z => z.2 c2)
          rw [if_pos (by rw [c2]), this]
          show rec (nI _ + nI 0, _) = _
          rw [nI_add]
        · have : stD S (dnN S (plS S) i) (dnN S (plS S) (i + 1)) y = 1 := if_pos ⟨by omega, c2⟩
          rw [if_neg (fun z => c2 ((nI_eq (by omega) (by omega)).mp z)), this]
      · show fX11_stir_b17 fu _ m (nI (fst S (plS S) (dnN S (plS S) i))) (nI (smN (stD S (dnN S (plS S) i) (dnN S (plS S) (i + 1))) (2 ^ S 140))) (nI (2 ^ S 140)) M1 = _
        unfold fX11_stir_b17
        rw [X11_addresses V1 hG, bi_s, if_pos (Int32.le_refl _)]
        rfl
    rw [if_pos ch, if_pos ch, ix_n h31]
    have c0 : (0 : Int32) ≤ nI (fst S (plS S) (dnN S (plS S) i)) := nI_pos' (by omega)
    rw [if_pos c0, hres]
    exact ⟨(_, M1), rfl, rfl, q4⟩
  · rw [if_neg ch, if_neg ch, if_neg (show ¬ (0 : Int32) ≤ mI by decide +kernel)]
    exact ⟨(_, M1), rfl, rfl, q4⟩
end RC
