/-! The reference reads a whole text. -/
section RA
variable {fu m n p b : Nat} {t : Nat → Nat} {M : Mm} {T : Sto} {g : Nat → Nat}
theorem X11_readLine (hfu : 200000 ≤ fu) (hb : b < 2) (hT : TpM t n M m) (hX : TM t n p M m) (hpn : p ≤ n) (h0 : M.1 m 14 = nI 0) (hS : RS T M m b) (hF : GM g M m) (hI : PI g T) : Wp (fX11_readLine fu m (nI b) M) (LM t n (lnR t n p g T) (lnF t n p g) M m b) := by
  have hQ := hI.1
  have hG := hQ.1
  have hen := en_le (t := t) hpn
  have w : ∀ k, k < 12 → fX11_isWord fu m (nI k) M = some (bI (kwP t n p k)) := fun k hk => X11_isWord hX h0 hk
  have w5 : fX11_isWord fu m 5 M = _ := w 5 (by omega)
  have w6 : fX11_isWord fu m 6 M = _ := w 6 (by omega)
  have w7 : fX11_isWord fu m 7 M = _ := w 7 (by omega)
  have w8 : fX11_isWord fu m 8 M = _ := w 8 (by omega)
  have w9 : fX11_isWord fu m 9 M = _ := w 9 (by omega)
  have w10 : fX11_isWord fu m 10 M = _ := w 10 (by omega)
  have w11 : fX11_isWord fu m 11 M = _ := w 11 (by omega)
  have keep : ∀ M', (∀ c, c ≠ m → M'.1 c = M.1 c) → RS T M' m b := fun M' hc => by
    unfold RS
    rw [hc _ (by omega), hc _ (by omega), hc _ (by omega), hc _ (by omega)]
    exact hS
  have once : ∀ i (r : Rs) (K : Int32 → Mm → Option Mm), i < 4 → ((g i = 0 ∧ (i = 3 ∨ g 4 = 0)) → ∀ M', TpM t n M' m → TM t n (enT t n p) M' m → M'.1 m 14 = nI 0 → GM (if i = 3 then upS (upS g 3 1) 4 1 else upS g i 1) M' m → RS T M' m b → Wp (K (nI 1) M') (LM t n r (if i = 3 then upS (upS g 3 1) 4 1 else upS g i 1) M' m b)) → (¬ (g i = 0 ∧ (i = 3 ∨ g 4 = 0)) → r = Fl 3 (stT t n p)) → (∀ M', K (nI 0) M' = some M') → Wp (bw (fX11_isOnce fu m (nI (5 + i)) M) K) (LM t n r (if i = 3 then upS (upS g 3 1) 4 1 else upS g i 1) M m b) := fun i r K hi hy hn hz => by
    rw [wp_bw]
    refine (X11_isOnce hfu hT hX hpn h0 hI.2.1 hF hi).mono fun z q => ?_
    obtain ⟨x, M1⟩ := z
    dsimp only at *
    rcases q with ⟨q1, q2, q3, q4, q5, q6, q7⟩ | ⟨q1, q2, q3, q4⟩
    · subst q2
      exact (hy q1 M1 (hT.rb (q6 b)) q3 (q4.symm.trans h0) q5 (keep M1 q7)).mono fun M2 h => h.pre (q6 b)
    · subst q2
      rw [hz, wp_some, hn q1]
      exact LM.fl (by omega) (by omega) q3 (q4 b)
  unfold fX11_readLine lnR lnF
  rw [w5, bi_s]
  by_cases c5 : kwP t n p 5
  · rw [bI_t c5, if_neg (show ¬ nI 1 = (0 : Int32) by decide), if_pos c5, if_pos c5]
    refine once 0 _ _ (by omega) (fun hc M' a1 a2 a3 a4 a5 => ?_) (fun hc => ?_) (fun M' => ?_)
    · rw [if_neg (show ¬ nI 1 = (0 : Int32) by decide), if_pos ⟨hc.1, by omega⟩]
      exact M_l5 hfu hb a1 a2 hen.2 a3 a5 a4
    · rw [if_neg (fun z => hc ⟨z.1, Or.inr z.2⟩)]
    · rw [if_pos (show nI 0 = (0 : Int32) from rfl)]
      rfl
  rw [bI_f c5, if_pos (show nI 0 = (0 : Int32) from rfl), if_neg c5, if_neg c5, w6, bi_s]
  by_cases c6 : kwP t n p 6
  · rw [bI_t c6, if_neg (show ¬ nI 1 = (0 : Int32) by decide), if_pos c6, if_pos c6]
    refine once 1 _ _ (by omega) (fun hc M' a1 a2 a3 a4 a5 => ?_) (fun hc => ?_) (fun M' => ?_)
    · rw [if_neg (show ¬ nI 1 = (0 : Int32) by decide), if_pos ⟨hc.1, by omega⟩]
      exact M_l6 hfu hb a1 a2 hen.2 a3 a5 a4
    · rw [if_neg (fun z => hc ⟨z.1, Or.inr z.2⟩)]
    · rw [if_pos (show nI 0 = (0 : Int32) from rfl)]
      rfl
  rw [bI_f c6, if_pos (show nI 0 = (0 : Int32) from rfl), if_neg c6, if_neg c6, w7, bi_s]
  by_cases c7 : kwP t n p 7
  · rw [bI_t c7, if_neg (show ¬ nI 1 = (0 : Int32) by decide), if_pos c7, if_pos c7]
    refine once 2 _ _ (by omega) (fun hc M' a1 a2 a3 a4 a5 => ?_) (fun hc => ?_) (fun M' => ?_)
    · rw [if_neg (show ¬ nI 1 = (0 : Int32) by decide), if_pos ⟨hc.1, by omega⟩]
      exact M_l7 hfu hb a1 a2 hen.2 a3 a5 a4
    · rw [if_neg (fun z => hc ⟨z.1, Or.inr z.2⟩)]
    · rw [if_pos (show nI 0 = (0 : Int32) from rfl)]
      rfl
  rw [bI_f c7, if_pos (show nI 0 = (0 : Int32) from rfl), if_neg c7, if_neg c7, w8, bi_s]
  by_cases c8 : kwP t n p 8
  · rw [bI_t c8, if_neg (show ¬ nI 1 = (0 : Int32) by decide), if_pos c8, if_pos c8]
    refine once 3 _ _ (by omega) (fun hc M' a1 a2 a3 a4 a5 => ?_) (fun hc => ?_) (fun M' => ?_)
    · rw [if_neg (show ¬ nI 1 = (0 : Int32) by decide), if_pos hc.1, wp_bm]
      refine (X11_readFixed hfu hb a1 a2 hen.2 a3 a5 a4 hG).mono fun M2 h => ?_
      unfold fX11_readLine_j200
      rw [wp_some]
      exact h
    · rw [if_neg (fun z => hc ⟨z, Or.inl rfl⟩)]
    · rw [if_pos (show nI 0 = (0 : Int32) from rfl)]
      rfl
  have W : RB m b M (wI M m 20 1) := ⟨fun c h1 _ => wI_ne h1, fun c h1 h2 j _ => by rw [wI_ne (by omega)], fun j _ => by rw [wI_ne (by omega)], fun j h1 h2 h3 => wI_nk h3, rfl⟩
  have XW : TM t n p (wI M m 20 1) m := by
    unfold TM
    rw [wI_nk (by omega), wI_nk (by omega), wI_nk (by omega), wI_nk (by omega), wI_nk (by omega)]
    exact hX
  have zW : (wI M m 20 1).1 m 14 = nI 0 := (wI_nk (by omega)).trans h0
  have SW : RS T (wI M m 20 1) m b := keep _ fun c hc => wI_ne hc
  have FW : GM (upS g 4 1) (wI M m 20 1) m := ⟨by rw [wI_nk (by omega)]; exact hF.1, by rw [wI_eq, upS_y]; rfl, by rw [wI_nk (by omega)]; exact hF.2.2⟩
  rw [bI_f c8, if_pos (show nI 0 = (0 : Int32) from rfl), if_neg c8, if_neg c8, w9, bi_s]
  by_cases c9 : kwP t n p 9
  · rw [bI_t c9, if_neg (show ¬ nI 1 = (0 : Int32) by decide), if_pos c9, lt_eq, wp_bm]
    refine (X11_readSpan hfu hb (hT.rb W) XW hpn zW SW FW hG).mono fun M2 h => ?_
    unfold fX11_readLine_j200
    rw [wp_some]
    exact h.pre W
  rw [bI_f c9, if_pos (show nI 0 = (0 : Int32) from rfl), if_neg c9, w10, bi_s]
  by_cases c10 : kwP t n p 10
  · rw [bI_t c10, if_neg (show ¬ nI 1 = (0 : Int32) by decide), if_pos c10, lt_eq, wp_bm]
    refine (X11_readRegister hfu hb (hT.rb W) XW hpn zW SW FW hQ).mono fun M2 h => ?_
    unfold fX11_readLine_j200
    rw [wp_some]
    exact h.pre W
  rw [bI_f c10, if_pos (show nI 0 = (0 : Int32) from rfl), if_neg c10, w11, bi_s]
  by_cases c11 : kwP t n p 11
  · rw [bI_t c11, if_neg (show ¬ nI 1 = (0 : Int32) by decide), if_pos c11, lt_eq, wp_bm]
    refine (X11_readPage hfu hb (hT.rb W) XW hpn zW SW FW hG).mono fun M2 h => ?_
    unfold fX11_readLine_j200
    rw [wp_some]
    exact h.pre W
  rw [bI_f c11, if_pos (show nI 0 = (0 : Int32) from rfl), if_neg c11]
  obtain ⟨M', f1, f2, f3, _⟩ := X11_fail_y (fu := fu) (m := m) 1 h0 hX.2.1
  have f1 : fX11_fail fu m 1 M = some M' := f1
  rw [f1, bm_s]
  unfold fX11_readLine_j200
  rw [wp_some]
  exact LM.fl (by omega) (by omega) f2 f3.rb
/-- what the reading of all left, at the reference -/
def LN (r : Rs) (M : Mm) (m b : Nat) (M' : Mm) : Prop := (r.1 = 0 → M'.1 m 14 = nI 0 ∧ M'.1 m 15 = mI ∧ RS r.2.2.2 M' m b) ∧ (¬ r.1 = 0 → r.1 < 5 ∧ M'.1 m 14 = nI r.1 ∧ M'.1 m 15 = nI r.2.1) ∧ RB m b M M'
theorem X11_readAll (hfu : 200000 ≤ fu) (hb : b < 2) (hT : TpM t n M m) (h9 : M.1 m 9 = nI 0) (h0 : M.1 m 14 = nI 0) (hS : RS tzS M m b) (hF : GM (fun _ => 0) M m) : Wp (fX11_readAll fu m (nI b) M) (LN (prS t n) M m b) := by
  have hn := hT.1
  unfold fX11_readAll
  rw [wp_bm]
  refine (X11_scan hfu hT h9 (Nat.zero_le _)).mono fun M1 q => ?_
  obtain ⟨X1, F1⟩ := q
  unfold fX11_readAll_l4
  obtain ⟨R, hR⟩ : ∃ R, R = prS t n := ⟨_, rfl⟩
  rw [← hR]
  refine lp_ho (F := fun (rec : Mm → Option Mm) (s : Mm) => fX11_readAll_b4 fu (fun M => rec M) m (nI b) s) (fun i (z : Mm) => RB m b M z ∧ ((z.1 m 14 = nI 0 ∧ ∃ p g T, i ≤ p ∧ p ≤ n ∧ TM t n p z m ∧ PI g T ∧ RS T z m b ∧ GM g z m ∧ prN t n (801 - i) p g T = R) ∨ (¬ R.1 = 0 ∧ R.1 < 5 ∧ Dn R.1 R.2.1 z m))) _ 802 (i := 0) (by omega) (by omega) ⟨F1.fq.rb, Or.inl ⟨F1.f14.trans h0, 0, _, _, Nat.le_refl _, Nat.zero_le _, X1, tzS_pi, hS.fq F1.fq, hF.fm F1, hR.symm⟩⟩ (fun i z hi hz rec hrec => ?_) (fun z hz rec => ?_)
  · obtain ⟨B, hz⟩ := hz
    unfold fX11_readAll_b4
    rcases hz with ⟨z1, p, g, T, z2, z3, z4, z5, z6, z7, z8⟩ | ⟨z1, z2, z3⟩
    · rw [z1, if_pos (show nI 0 = (0 : Int32) from rfl), z4.2.2.1]
      have e801 : 801 - i = (800 - i) + 1 := by omega
      rw [e801] at z8
      unfold prN at z8
      by_cases c4 : tyT t n p = 4
      · rw [if_pos c4] at z8
        rw [if_pos (tk0.mpr c4)]
        unfold fX11_readAll_j45
        rw [wp_some, ← z8]
        exact ⟨fun _ => ⟨z1, z7.2.2, z6⟩, fun h => absurd rfl h, B⟩
      · rw [if_neg c4] at z8
        rw [if_neg (fun h => c4 (tk0.mp h)), wp_bm]
        have hok := lnR_ok (t := t) z3 z5
        have TB := hT.rb B
        refine (X11_readLine hfu hb TB z4 z3 z1 z6 z7 z5).mono fun M2 w => ?_
        obtain ⟨w, B2⟩ := w
        have B3 := B.tr B2
        rcases w with ⟨w1, w2, p', T', w3, w4, w5, w6⟩ | ⟨w1, w2, w3⟩
        · rw [X11_isStop_y w1 w4, bi_s]
          rw [w6] at hok z8
          unfold spL at hok z8
          by_cases c2 : tyT t n p' = 2
          · rw [if_pos c2] at hok z8
            rw [if_pos rfl] at z8
            obtain ⟨o1, o2, o3⟩ := hok rfl
            dsimp only at o1 o2 o3 z8
            rw [bI_t c2, if_neg (show ¬ nI 1 = (0 : Int32) by decide), wp_bm]
            refine (X11_scan hfu (hT.rb B3) w4.1 o3).mono fun M3 y => ?_
            obtain ⟨Y1, Y2⟩ := y
            refine hrec _ ⟨B3.tr Y2.fq.rb, Or.inl ⟨Y2.f14.trans w1, enT t n p', _, T', by omega, o3, Y1, o1, w5.fq Y2.fq, w2.fm Y2, ?_⟩⟩
            rw [show 801 - (i + 1) = 800 - i by omega]
            exact z8
          · rw [if_neg c2] at z8
            rw [if_neg (show ¬ (Fl 1 (stT t n p')).1 = 0 from fun h => absurd h (show ¬ (1 : Nat) = 0 by decide))] at z8
            obtain ⟨M', f1, f2, f3, _⟩ := X11_fail_y (fu := fu) (m := m) 1 w1 w4.2.1
            have f1 : fX11_fail fu m 1 M2 = some M' := f1
            rw [bI_f c2, if_pos (show nI 0 = (0 : Int32) from rfl), f1, bm_s]
            refine hrec _ ⟨B3.tr f3.rb, Or.inr ?_⟩
            rw [← z8]
            exact ⟨show ¬ (1 : Nat) = 0 by decide, show (1 : Nat) < 5 by decide, f2⟩
        · rw [if_neg w1] at z8
          rw [X11_isStop_n w3.1 (by omega) w2, bi_s, if_pos (show nI 0 = (0 : Int32) from rfl), X11_fail_n 1 w3.1 (by omega) w2, bm_s]
          refine hrec _ ⟨B3, Or.inr ?_⟩
          rw [← z8]
          exact ⟨w1, w2, w3⟩
    · rw [z3.1, if_neg (np0 (by omega) z2).2]
      unfold fX11_readAll_j45
      rw [wp_some]
      exact ⟨fun h => absurd h z1, fun _ => ⟨z2, z3⟩, B⟩
  · obtain ⟨B, hz⟩ := hz
    unfold fX11_readAll_b4
    rcases hz with ⟨z1, p, g, T, z2, z3, _⟩ | ⟨z1, z2, z3⟩
    · omega
    · rw [z3.1, if_neg (np0 (by omega) z2).2]
      unfold fX11_readAll_j45
      rw [wp_some]
      exact ⟨fun h => absurd h z1, fun _ => ⟨z2, z3⟩, B⟩
theorem X11_clearBank (hfu : 200000 ≤ fu) (hb : b < 2) : Wp (fX11_clearBank fu m (nI b) M) (fun M' => RS tzS M' m b ∧ RB m b M M' ∧ M'.1 m = M.1 m) := by
  have z : ∀ j, j ≠ 140 → j ≠ 141 → ¬ (76 ≤ j ∧ j < 140) → tzS j = 0 := fun j h1 h2 h3 => by
    unfold tzS
    rw [if_neg h1, if_neg h2, if_neg h3]
  have f : ∀ j, 76 ≤ j → j < 140 → tzS j = 5 := fun j h1 h2 => by
    unfold tzS
    rw [if_neg (by omega), if_neg (by omega), if_pos (by omega)]
  unfold fX11_clearBank
  rw [if_neg (nI_in hb (by omega)), ix_n (by omega), lt_eq, lt_eq, lt_eq]
  have A : ∀ M', M' = wI (wI (wI M (m + 2) b 8) (m + 3) b 8) (m + 4) b 0 → (M'.1 (m + 2) b = nI 8 ∧ M'.1 (m + 3) b = nI 8 ∧ M'.1 (m + 4) b = nI 0) ∧ RB m b M M' ∧ M'.1 m = M.1 m := fun M' e => by
    subst e
    refine ⟨⟨?_, ?_, wI_eq⟩, ((RB.wb _ (Or.inl ⟨by omega, by omega, rfl⟩)).tr (RB.wb _ (Or.inl ⟨by omega, by omega, rfl⟩))).tr (RB.wb _ (Or.inl ⟨by omega, by omega, rfl⟩)), by rw [wI_ne (by omega), wI_ne (by omega), wI_ne (by omega)]⟩
    · simp (disch := omega) only [wI_ne, wI_eq, wI_nk, wIs_ne, wIs_eq]
      rfl
    · simp (disch := omega) only [wI_ne, wI_eq, wI_nk, wIs_ne, wIs_eq]
      rfl
  generalize wI (wI (wI M (m + 2) b 8) (m + 3) b 8) (m + 4) b 0 = M1 at A ⊢
  obtain ⟨a1, a2, a3⟩ := A M1 rfl
  unfold fX11_clearBank_l25
  refine lp_ho (F := fun (rec : (Int32 × Mm) → Option Mm) (s : Int32 × Mm) => fX11_clearBank_b25 fu (fun x2 M => rec (x2, M)) m (nI b) s.1 s.2) (fun i (s : Int32 × Mm) => s.1 = nI i ∧ (s.2.1 (m + 2) b = nI 8 ∧ s.2.1 (m + 3) b = nI 8 ∧ s.2.1 (m + 4) b = nI 0) ∧ RB m b M s.2 ∧ s.2.1 m = M.1 m ∧ ∀ k, k < i → s.2.1 (m + 5) (140 * b + k) = nI (tzS k)) _ 140 (i := 0) (by omega) (by omega) ⟨rfl, a1, a2, a3, fun k hk => absurd hk (by omega)⟩ (fun i s hi hs rec hrec => ?_) (fun s hs rec => ?_)
  · obtain ⟨x, M2⟩ := s
    obtain ⟨s1, s2, s3, s4, s5⟩ := hs
    dsimp only at *
    subst s1
    have put : ∀ v : Nat, tzS i = v → Wp (fX11_clearBank_j54 fu (fun x2 M => rec (x2, M)) m (nI b) (nI i) (m + 5) (140 * nI b + nI i) (nI v) M2) (fun M' => RS tzS M' m b ∧ RB m b M M' ∧ M'.1 m = M.1 m) := fun v hv => by
      unfold fX11_clearBank_j54
      rw [bix, if_neg (nI_in (by omega) (by omega)), ix_n (by omega), lt_eq, lt_eq, nI_1]
      refine hrec _ ⟨rfl, ?_, s3.tr (RB.wb _ (Or.inr ⟨rfl, by omega, by omega⟩)), ?_, fun k hk => ?_⟩
      · dsimp only
        rw [wI_ne (by omega), wI_ne (by omega), wI_ne (by omega)]
        exact s2
      · dsimp only
        rw [wI_ne (by omega)]
        exact s4
      · dsimp only
        by_cases e : k = i
        · rw [e, wI_eq, hv]
        · rw [wI_nk (by omega)]
          exact s5 k (by omega)
    unfold fX11_clearBank_b25
    rw [if_neg (show ¬ (140 : Int32) ≤ nI i from nI_ge (a := i) (b := 140) hi (by omega))]
    by_cases c : i < 76
    · rw [if_pos (show nI i < (76 : Int32) from nI_lt (b := 76) c (by omega))]
      exact put 0 (z i (by omega) (by omega) (by omega))
    · rw [if_neg (show ¬ nI i < (76 : Int32) from nI_nlt (a := i) (b := 76) (by omega) (by omega))]
      exact put 5 (f i (by omega) hi)
  · obtain ⟨x, M2⟩ := s
    obtain ⟨s1, s2, s3, s4, s5⟩ := hs
    dsimp only at *
    subst s1
    unfold fX11_clearBank_b25
    rw [if_pos (show (140 : Int32) ≤ nI 140 by decide)]
    unfold fX11_clearBank_j61
    rw [wp_some]
    exact ⟨⟨⟨s2.1, s2.2.1, by rw [z 142 (by omega) (by omega) (by omega)]; exact s2.2.2⟩, s5⟩, s3, s4⟩
/-- the reference begins anew -/
def SA (m : Nat) (M M' : Mm) : Prop := (∀ c, c ≠ m → c ≠ m + 1 → c ≠ m + 29 → M'.1 c = M.1 c) ∧ (∀ j, j ≠ 50 → j ≠ 51 → M'.1 m j = M.1 m j) ∧ M'.2 = M.2
theorem X11_startAnew (hfu : 200000 ≤ fu) (hb : b < 2) (h5 : M.1 m 5 = nI b) (hS : RS T M m b) : Wp (fX11_startAnew fu m M) (fun M' => (∀ k, k < 140 → M'.1 (m + 1) k = nI (T k)) ∧ M'.1 m 50 = nI 0 ∧ M'.1 m 51 = nI 0 ∧ (∀ j, j < 2 → M'.1 (m + 29) j = nI 0) ∧ SA m M M') := by
  unfold fX11_startAnew fX11_startAnew_l2
  refine lp_ho (F := fun (rec : (Int32 × Mm) → Option Mm) (s : Int32 × Mm) => fX11_startAnew_b2 fu (fun x1 M => rec (x1, M)) m s.1 s.2) (fun i (s : Int32 × Mm) => s.1 = nI i ∧ (∀ c, c ≠ m + 1 → s.2.1 c = M.1 c) ∧ s.2.2 = M.2 ∧ ∀ k, k < i → s.2.1 (m + 1) k = nI (T k)) _ 140 (i := 0) (by omega) (by omega) ⟨rfl, fun _ _ => rfl, rfl, fun k hk => absurd hk (by omega)⟩ (fun i s hi hs rec hrec => ?_) (fun s hs rec => ?_)
  · obtain ⟨x, M2⟩ := s
    obtain ⟨s1, s2, s3, s4⟩ := hs
    dsimp only at *
    subst s1
    unfold fX11_startAnew_b2
    rw [if_neg (show ¬ (140 : Int32) ≤ nI i from nI_ge (a := i) (b := 140) hi (by omega)), s2 m (by omega), h5, bix, if_neg (nI_in (by omega) (by omega)), if_neg (nI_in (by omega) (by omega)), ix_n (by omega), ix_n (by omega), s2 (m + 5) (by omega), hS.2 i hi, lt_eq, lt_eq, nI_1]
    refine hrec _ ⟨rfl, fun c hc => (wI_ne hc).trans (s2 c hc), s3, fun k hk => ?_⟩
    dsimp only
    by_cases e : k = i
    · rw [e, wI_eq]
    · rw [wI_nk (by omega)]
      exact s4 k (by omega)
  · obtain ⟨x, M2⟩ := s
    obtain ⟨s1, s2, s3, s4⟩ := hs
    dsimp only at *
    subst s1
    unfold fX11_startAnew_b2
    rw [if_pos (show (140 : Int32) ≤ nI 140 by decide)]
    unfold fX11_startAnew_j36 fX11_startAnew_l48
    rw [lt_eq, lt_eq]
    refine lp_ho (F := fun (rec : (Int32 × Mm) → Option Mm) (s : Int32 × Mm) => fX11_startAnew_b48 fu (fun x1 M => rec (x1, M)) m s.1 s.2) (fun i (s : Int32 × Mm) => s.1 = nI i ∧ (∀ c, c ≠ m → c ≠ m + 29 → s.2.1 c = M2.1 c) ∧ s.2.1 m 50 = nI 0 ∧ s.2.1 m 51 = nI 0 ∧ (∀ j, j ≠ 50 → j ≠ 51 → s.2.1 m j = M.1 m j) ∧ s.2.2 = M.2 ∧ ∀ k, k < i → s.2.1 (m + 29) k = nI 0) _ 2 (i := 0) (by omega) (by omega) ⟨rfl, fun c h1 h2 => ?_, ?_, ?_, fun j h1 h2 => ?_, s3, fun k hk => absurd hk (by omega)⟩ (fun i s hi hs rec hrec => ?_) (fun s hs rec => ?_)
    · dsimp only
      rw [wI_ne h1, wI_ne h1]
    · dsimp only
      rw [wI_nk (by omega), wI_eq]
      rfl
    · dsimp only
      rw [wI_eq]
      rfl
    · dsimp only
      rw [wI_nk h2, wI_nk h1, s2 m (by omega)]
    · obtain ⟨x, M3⟩ := s
      obtain ⟨v1, v2, v3, v4, v5, v6, v7⟩ := hs
      dsimp only at *
      subst v1
      unfold fX11_startAnew_b48
      rw [if_neg (show ¬ (2 : Int32) ≤ nI i from nI_ge (a := i) (b := 2) hi (by omega)), if_neg (nI_in (by omega) (by omega)), ix_n (by omega), lt_eq, lt_eq, nI_1]
      refine hrec _ ⟨rfl, fun c h1 h2 => (wI_ne h2).trans (v2 c h1 h2), ?_, ?_, fun j h1 h2 => ?_, v6, fun k hk => ?_⟩
      · dsimp only
        rw [wI_ne (by omega)]
        exact v3
      · dsimp only
        rw [wI_ne (by omega)]
        exact v4
      · dsimp only
        rw [wI_ne (by omega)]
        exact v5 j h1 h2
      · dsimp only
        by_cases e : k = i
        · rw [e, wI_eq]
          rfl
        · rw [wI_nk (by omega)]
          exact v7 k (by omega)
    · obtain ⟨x, M3⟩ := s
      obtain ⟨v1, v2, v3, v4, v5, v6, v7⟩ := hs
      dsimp only at *
      subst v1
      unfold fX11_startAnew_b48
      rw [if_pos (show (2 : Int32) ≤ nI 2 by decide)]
      unfold fX11_startAnew_j66
      rw [wp_some]
      exact ⟨fun k hk => by rw [v2 _ (by omega) (by omega)]; exact s4 k hk, v3, v4, v7, ⟨fun c h1 h2 h3 => (v2 c h1 h3).trans (s2 c h2), v5, v6⟩⟩
end RA
