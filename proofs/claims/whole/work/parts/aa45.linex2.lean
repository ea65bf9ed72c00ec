/-! The class reads lines: fixed, reg. -/
theorem ntz_ok : ∀ k, k < 11 → fJ6_numberOfTrailingZeros_0f7a4 0 (nI (2 ^ k)) = some (nI k) := by decide +kernel
theorem ntz_k {fu k : Nat} (hk : k ≤ 10) : fJ6_numberOfTrailingZeros_0f7a4 fu (nI (2 ^ k)) = some (nI k) := ntz_ok k (by omega)
section XF
variable {fu c n p : Nat} {t : Nat → Nat} {M : Mm} {T : Sto}
theorem X7_fixedStops {i : Nat} (hi : i ≤ 8) (hX : TX t n p M c) (hV : VP i T M (c + 2)) : Wp (fX7_fixedStops fu c (nI i) M) (LX (if tyT t n p = 2 ∧ ¬ i = 0 then (if i = 8 then (0, 0, enT t n p, T) else Fl 4 (stT t n p)) else Fl 1 (stT t n p)) M c) := by
  have hty := ty_le t n p
  obtain ⟨M1, f1, f2, f3, f4⟩ := X7_failed (fu := fu) 1 (stT t n p) hX.2.1
  have f1 : fX7_failed fu c 1 M = some (nI 0, M1) := f1
  have n12 : fX7_fixedStops_j12 fu c M = some (nI 0, M1) := by
    unfold fX7_fixedStops_j12
    rw [f1, bw_s]
    exact gd01 (Or.inl rfl) _
  obtain ⟨M4, g1, g2, g3, g4⟩ := X7_failed (fu := fu) 4 (stT t n p) hX.2.1
  have g1 : fX7_failed fu c 4 M = some (nI 0, M4) := g1
  have n37 : ∀ x M', x = nI 0 ∨ x = nI 1 → fX7_fixedStops_j37 fu x M' = some (x, M') := fun x M' hx => gd01 hx _
  unfold fX7_fixedStops
  rw [n12, hX.2.2.1]
  by_cases c2 : tyT t n p = 2
  · rw [if_pos (show nI (tyT t n p) = (2 : Int32) by rw [c2]; rfl)]
    by_cases c0 : i = 0
    · rw [if_pos (show nI i = (0 : Int32) by rw [c0]; rfl), if_neg (by omega), wp_some]
      exact LX.fl (by omega) f2 f3 f4.rf
    · rw [if_neg (show ¬ nI i = (0 : Int32) from nI_ne0 (by omega) (by omega)), if_pos (show tyT t n p = 2 ∧ ¬ i = 0 from ⟨c2, c0⟩)]
      by_cases c8 : i = 8
      · rw [if_pos (show nI i = (8 : Int32) by rw [c8]; rfl), if_pos c8]
        unfold fX7_fixedStops_j32
        rw [n37 1 M (Or.inr rfl), wp_some]
        subst c8
        exact ⟨fun _ => ⟨rfl, hX.1, hV, rfl, rfl⟩, fun z => absurd rfl z, ⟨fun _ _ _ => rfl, fun _ _ => rfl, rfl⟩⟩
      · rw [if_neg (show ¬ nI i = (8 : Int32) from fun z => c8 ((nI_eq (a := i) (b := 8) (by omega) (by omega)).mp z)), if_neg c8, g1, bw_s, if_pos (show nI 0 = (0 : Int32) from rfl), n37 0 M4 (Or.inl rfl), wp_some]
        exact LX.fl (by omega) g2 g3 g4.rf
  · rw [if_neg (show ¬ nI (tyT t n p) = (2 : Int32) from fun z => c2 ((nI_eq (a := tyT t n p) (b := 2) (by omega) (by omega)).mp z)), if_neg (by omega), wp_some]
    exact LX.fl (by omega) f2 f3 f4.rf
theorem X7_readFixed_l (hfu : 200000 ≤ fu) (hT : TpX t n M c) (hp : M.1 c 5 = nI p) (hpn : p ≤ n) (hV : VP 0 T M (c + 2)) (h12 : T 1 ≤ 12) : Wp (fX7_readFixed_l53 fu c 0 M) (LX (fxN t n 9 0 p T) M c) := by
  unfold fX7_readFixed_l53
  obtain ⟨R, hR⟩ : ∃ R, R = fxN t n 9 0 p T := ⟨_, rfl⟩
  rw [← hR]
  have main := lp_ho (F := fun (rec : (Int32 × Mm) → Option (Int32 × Mm)) (s : Int32 × Mm) => fX7_readFixed_b53 fu (fun x1 M => rec (x1, M)) c s.1 s.2) (fun i (z : Int32 × Mm) => i ≤ 8 ∧ z.1 = nI i ∧ ∃ p' T', p' ≤ n ∧ z.2.1 c 5 = nI p' ∧ VP i T' z.2 (c + 2) ∧ T' 1 ≤ 12 ∧ RF c M z.2 ∧ z.2.1 c 2 = M.1 c 2 ∧ z.2.1 c 3 = M.1 c 3 ∧ fxN t n (9 - i) i p' T' = R) (LX R M c) 9 (fu := fu) (i := 0) (z := (0, M)) (by omega) (by omega) ⟨by omega, rfl, p, T, hpn, hp, hV, h12, ⟨fun _ _ _ => rfl, fun _ _ => rfl, rfl⟩, rfl, rfl, hR.symm⟩ ?_ ?_
  · exact main
  · intro i z hi9 hz rec hrec
    obtain ⟨x, M1⟩ := z
    obtain ⟨hi, h1, p', T', hp', h5, hV', h12', hF, k2, k3, hN⟩ := hz
    dsimp only at *
    subst h1
    have e9 : 9 - i = (8 - i) + 1 := by omega
    rw [e9] at hN
    unfold fxN at hN
    have hen := en_le (t := t) hp'
    have hk5 := kiT_le t n p'
    have T1 := hT.rf hF
    unfold fX7_readFixed_b53
    rw [if_neg (show ¬ (8 : Int32) < nI i from nI_nlt (a := 8) (by omega) (by omega)), wp_bm]
    refine (X7_next hfu T1 h5 hp').mono fun M2 q => ?_
    obtain ⟨q1, q2⟩ := q
    have V2 : VP i T' M2 (c + 2) := VP.fr hV' fun c' k1 k2 => q2.1 c' (by omega)
    have F2 := hF.tr q2.fg.rf
    have j2 : M2.1 c 2 = M.1 c 2 := (q2.2.1 2 (by omega) (by omega) (by omega) (by omega)).trans k2
    have j3 : M2.1 c 3 = M.1 c 3 := (q2.2.1 3 (by omega) (by omega) (by omega) (by omega)).trans k3
    rw [X7_kindHere hfu (T1.fn q2) hp' q1, bi_s]
    by_cases ck : kiT t n p' = 5
    · rw [if_pos ck] at hN
      rw [if_pos (kiI_m.mpr ck), ← hN]
      unfold fX7_readFixed_j73
      rw [wp_bw]
      refine (X7_fixedStops hi q1 V2).mono fun z w => ?_
      obtain ⟨r0, M3⟩ := z
      rw [gd01 w.g, wp_some]
      exact w.pre F2 j2 j3
    · rw [if_neg ck] at hN
      rw [if_neg (fun z => ck (kiI_m.mp z))]
      by_cases c8 : i = 8
      · rw [if_pos c8] at hN
        rw [if_pos (show nI i = (8 : Int32) by rw [c8]; rfl), ← hN]
        unfold fX7_readFixed_j85
        exact X7_bad (k := 4) (by omega) q1.2.1 F2
      · rw [if_neg c8] at hN
        rw [if_neg (show ¬ nI i = (8 : Int32) from fun z => c8 ((nI_eq (a := i) (b := 8) (by omega) (by omega)).mp z)), if_neg (nI_in (by omega) (by omega)), ix_n (by omega), kiI_n ck, lt_eq, lt_eq, nI_1]
        have V3 := VP.wp V2 h12' (by omega) (kiT t n p')
        refine hrec _ ⟨by omega, rfl, enT t n p', upS T' (68 + i) (kiT t n p'), hen.2, ?_, V3, ?_, ?_, ?_, ?_, ?_⟩
        · dsimp only
          rw [wI_ne (by omega)]
          exact q1.1
        · rw [upS_n (by omega)]
          exact h12'
        · exact F2.tr (RF.of (Fr.w1 _ _ _ _ (by omega) (by omega)) rfl)
        · dsimp only
          rw [wI_ne (by omega)]
          exact j2
        · dsimp only
          rw [wI_ne (by omega)]
          exact j3
        · rw [← hN, show 9 - (i + 1) = 8 - i by omega]
  · intro z hz
    exact absurd hz.1 (by omega)
theorem X7_readFixed_y (hfu : 200000 ≤ fu) (hT : TpX t n M c) (hp : M.1 c 5 = nI p) (hpn : p ≤ n) (hV : VF T M (c + 2)) (hG : Gd T) (h12 : M.1 c 12 = nI 0) : Wp (fX7_readFixed fu c M) (LX (l8 t n p T) (wI M c 12 1) c) := by
  have hg := hG.1
  have hen := en_le (t := t) hpn
  unfold fX7_readFixed l8
  rw [h12, if_pos (show nI 0 = (0 : Int32) from rfl), lt_eq]
  have T1 : TpX t n (wI M c 12 1) c := ⟨hT.1, by rw [wI_nk (by omega)]; exact hT.2.1, fun j hj => by rw [wI_ne (by omega)]; exact hT.2.2 j hj⟩
  have V1 : VF T (wI M c 12 1) (c + 2) := VP.fr hV fun c' k1 k2 => wI_ne (by omega)
  generalize hM1 : wI M c 12 1 = M1 at *
  have p1 : M1.1 c 5 = nI p := by rw [← hM1, wI_nk (by omega)]; exact hp
  rw [V1.1.1, ntz_k (by omega), bi_s, wp_bw]
  refine (X7_readNumber (lo := 3) (hi := T 140) hfu T1 p1 hpn (by omega) (by omega)).mono fun z q => ?_
  obtain ⟨r0, M2⟩ := z
  rcases q with ⟨q1, q2, q3, q4, q5⟩ | ⟨q1, q2, q3, q4, q5⟩
  · dsimp only at *
    subst q2
    obtain ⟨u1, u2, u3⟩ := nuC_0.mp q1
    rw [if_neg (by decide), if_pos q1, q4]
    have hp2 : 2 ^ vaT t n p ≤ 2 ^ 10 := Nat.pow_le_pow_right (by decide) (by omega)
    have esh : (1 : Int32) <<< (nI (vaT t n p) &&& 31) = nI (2 ^ vaT t n p) := by
      have := zi_shl (n := 1) (k := vaT t n p) (by omega) (by omega)
      rw [Nat.one_mul] at this
      exact this
    rw [esh, lt_eq]
    have V2 : VF T M2 (c + 2) := VP.fr V1 fun c' k1 k2 => q5.1 c' (by omega)
    have V3 := VP.w4 V2 (by omega) (2 ^ vaT t n p)
    generalize hM3 : wI M2 (c + 2) 4 (nI (2 ^ vaT t n p)) = M3 at V3 ⊢
    have F2 : RF c M1 M3 := by rw [← hM3]; exact q5.fg.rf.tr (RF.of (Fr.w1 _ _ _ _ (by omega) (by omega)) rfl)
    have p3 : M3.1 c 5 = nI (enT t n p) := by rw [← hM3, wI_ne (by omega)]; exact q3.1
    have k2 : M3.1 c 2 = M1.1 c 2 := by rw [← hM3, wI_ne (by omega)]; exact q5.2.1 2 (by omega) (by omega) (by omega) (by omega)
    have k3 : M3.1 c 3 = M1.1 c 3 := by rw [← hM3, wI_ne (by omega)]; exact q5.2.1 3 (by omega) (by omega) (by omega) (by omega)
    refine (X7_readFixed_l hfu (T1.rf F2) p3 hen.2 V3 (by rw [upS_n (by omega)]; omega)).mono fun z q => ?_
    exact q.pre F2 k2 k3
  · dsimp only at *
    subst q2
    rw [if_pos (show nI 0 = (0 : Int32) from rfl), if_neg q1, wp_some]
    exact LX.fl q1 q3 q4 q5.rf
theorem X7_readFixed_n (h6 : M.1 c 6 = nI p) (h12 : M.1 c 12 = nI 1) : Wp (fX7_readFixed fu c M) (LX (Fl 3 p) M c) := by
  unfold fX7_readFixed
  rw [h12, if_neg (show ¬ nI 1 = (0 : Int32) by decide)]
  exact X7_bad (k := 3) (by omega) h6 ⟨fun _ _ _ => rfl, fun _ _ => rfl, rfl⟩
theorem X7_readRegister (hfu : 200000 ≤ fu) {q0 : Nat} (hT : TpX t n M c) (h6 : M.1 c 6 = nI q0) (hp : M.1 c 5 = nI p) (hpn : p ≤ n) (hV : VF T M (c + 2)) (hG : Gd T) : Wp (fX7_readRegister fu c M) (LX (l10 t n q0 p T) M c) := by
  have hg := hG.1
  have hA := hG.ad
  have e1 := en_le (t := t) hpn
  have e2 := en_le (t := t) e1.2
  have e3 := en_le (t := t) e2.2
  have hcs := csN_le T (T 141)
  unfold fX7_readRegister l10
  have h1 : M.1 (c + 2) 1 = nI (T 141) := hV.1.2.1
  have h0 : M.1 (c + 2) 0 = nI (2 ^ T 140) := hV.1.1
  have es : nI (2 ^ T 140) - 1 = nI (2 ^ T 140 - 1) := zi_sub (b := 1) (by omega)
  rw [X8_countSet hfu (hV.vx hG) hG, bi_s, h1]
  by_cases cc : T 141 ≤ csN T (T 141)
  · rw [if_neg (nI_nlt cc (by omega)), if_pos cc]
    exact X7_bad (k := 4) (by omega) h6 ⟨fun _ _ _ => rfl, fun _ _ => rfl, rfl⟩
  rw [if_pos (nI_lt (by omega) (by omega)), if_neg cc, h0, es, wp_bw]
  refine (X7_readNumber (lo := 0) (hi := 2 ^ T 140 - 1) hfu hT hp hpn (by omega) (by omega)).mono fun z q => ?_
  obtain ⟨r0, M2⟩ := z
  rcases q with ⟨q1, q2, q3, q4, q5⟩ | ⟨q1, q2, q3, q4, q5⟩
  · dsimp only at *
    subst q2
    obtain ⟨u1, u2, u3⟩ := nuC_0.mp q1
    have T2 := hT.fn q5
    have h02 : M2.1 (c + 2) 0 = nI (2 ^ T 140) := by rw [q5.1 _ (by omega)]; exact h0
    rw [if_neg (by decide), if_pos q1, q4, lt_eq, h02, wp_bw]
    refine (X7_readNumber (lo := 1) (hi := 2 ^ T 140) hfu T2 q3.1 e1.2 (by omega) (by omega)).mono fun z w => ?_
    obtain ⟨r1, M3⟩ := z
    rcases w with ⟨w1, w2, w3, w4, w5⟩ | ⟨w1, w2, w3, w4, w5⟩
    · dsimp only at *
      subst w2
      obtain ⟨x1, x2, x3⟩ := nuC_0.mp w1
      have T3 := T2.fn w5
      have F3 := q5.tr w5
      have V3 : VF T M3 (c + 2) := VP.fr hV fun c' k1 k2 => F3.1 c' (by omega)
      rw [if_neg (by decide), w4, lt_eq, X8_fits (V3.vx hG) hG, bi_s]
      by_cases cf : fP (T 140) (nI (vaT t n p)) (nI (vaT t n (enT t n p)))
      · rw [bI_t cf, if_neg (show ¬ nI 1 = (0 : Int32) by decide), show (bi (fX8_holderOf fu (c + 2) (nI (vaT t n p)) (nI (vaT t n (enT t n p))) M3) _ : Option (Int32 × Mm)) = _ from rfl]
        obtain ⟨v, ev, hv⟩ := X8_holderOf hfu (V3.vx hG) hG (x := vaT t n p) (y := vaT t n (enT t n p)) (by omega) (by omega)
        rw [ev, bi_s]
        rcases hv with ⟨rfl, hv⟩ | ⟨r, hr, rfl, hr1, hr2⟩
        · have ct := tnS_0.mpr hv
          have hb : blC t n (enT t n p) (vaT t n p) T = 0 := by
            unfold blC
            rw [if_pos x1, if_pos ⟨by omega, cf⟩, if_pos ct]
          rw [if_pos (show mI = (-1 : Int32) from rfl), if_pos hb, wp_bm]
          refine (X7_next hfu T3 w3.1 e2.2).mono fun M4 y => ?_
          obtain ⟨y1, y2⟩ := y
          have T4 := T3.fn y2
          have F4 := F3.tr y2
          have V4 : VF T M4 (c + 2) := VP.fr hV fun c' k1 k2 => F4.1 c' (by omega)
          rw [X7_kindHere hfu T4 e2.2 y1, bi_s]
          by_cases ck : kiT t n (enT t n (enT t n p)) = 5
          · rw [if_pos (kiI_m.mpr ck), if_pos ck]
            exact X7_bad (k := 1) (by omega) y1.2.1 F4.fg.rf
          · rw [if_neg (fun z => ck (kiI_m.mp z)), if_neg ck, kiI_n ck, X8_put (by omega), bm_s]
            have V5 := VP.wr V4 (by omega) (r := csN T (T 141)) (by omega) (vaT t n p) (vaT t n (enT t n p)) (kiT t n (enT t n (enT t n p)))
            generalize hM5 : wI (wI (wI M4 (c + 2 + 5) (csN T (T 141)) (nI (vaT t n p))) (c + 2 + 6) (csN T (T 141)) (nI (vaT t n (enT t n p)))) (c + 2 + 7) (csN T (T 141)) (nI (kiT t n (enT t n (enT t n p)))) = M5 at V5 ⊢
            have a2 : Fr (c + 2) 9 M4 M5 := by rw [← hM5]; exact ((Fr.w1 _ _ _ _ (by omega) (by omega)).tr (Fr.w1 _ _ _ _ (by omega) (by omega))).tr (Fr.w1 _ _ _ _ (by omega) (by omega))
            have F5 : RF c M M5 := F4.fg.rf.tr (RF.of a2 (by rw [← hM5]; rfl))
            exact X7_fin hfu (hT.rf F5) (by rw [a2.at (by omega)]; exact y1.1) e3.2 V5 F5 (by rw [a2.at (by omega)]; exact F4.2.1 2 (by omega) (by omega) (by omega) (by omega)) (by rw [a2.at (by omega)]; exact F4.2.1 3 (by omega) (by omega) (by omega) (by omega))
        · have ct : ¬ tnS T (vaT t n p) (vaT t n (enT t n p)) = 0 := fun z => tnS_0.mp z r hr ⟨hr1, hr2⟩
          have hb : blC t n (enT t n p) (vaT t n p) T = 3 := by
            unfold blC
            rw [if_pos x1, if_pos ⟨by omega, cf⟩, if_neg ct]
          rw [if_neg (show ¬ nI r = (-1 : Int32) by rw [zi_m1, zi_eq_m (by omega)]; exact id), hb, if_neg (by omega)]
          exact X7_bad (k := 3) (by omega) w3.2.1 F3.fg.rf
      · have hb : blC t n (enT t n p) (vaT t n p) T = 2 := by
          unfold blC
          rw [if_pos x1, if_neg (fun z => cf z.2)]
        rw [bI_f cf, if_pos (show nI 0 = (0 : Int32) from rfl), hb, if_neg (by omega)]
        exact X7_bad (k := 2) (by omega) w3.2.1 F3.fg.rf
    · dsimp only at *
      subst w2
      have hb : blC t n (enT t n p) (vaT t n p) T = nuC t n (enT t n p) 1 (2 ^ T 140) := by
        unfold blC
        by_cases x1 : tyT t n (enT t n p) = 1
        · rw [if_pos x1]
          unfold nuC at w1 ⊢
          rw [if_pos x1] at w1 ⊢
          by_cases x2 : 1 ≤ vaT t n (enT t n p) ∧ vaT t n (enT t n p) ≤ 2 ^ T 140
          · exact absurd (if_pos x2) w1
          · rw [if_neg x2, if_neg]
            intro z
            apply x2
            obtain ⟨z1, z2, z3, z4⟩ := z
            refine ⟨?_, ?_⟩
            · refine Decidable.not_not.mp fun w => ?_
              exact nI_nlt (a := 0) (b := vaT t n (enT t n p)) (by omega) (by omega) z2
            · refine Decidable.not_not.mp fun w => ?_
              exact nI_ge (b := vaT t n (enT t n p)) (by omega) (by omega) z3
        · rw [if_neg x1]
          unfold nuC
          rw [if_neg x1]
      rw [if_pos (show nI 0 = (0 : Int32) from rfl), hb, if_neg w1, wp_some]
      exact LX.fl w1 w3 w4 (q5.fg.tr w5).rf
  · dsimp only at *
    subst q2
    rw [if_pos (show nI 0 = (0 : Int32) from rfl), if_neg q1, wp_some]
    exact LX.fl q1 q3 q4 q5.rf
end XF
