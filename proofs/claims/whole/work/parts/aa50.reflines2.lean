/-! The reference reads lines: fixed, reg. -/
def RQ (T : Sto) (M : Mm) (m b : Nat) : Prop := M.1 (m + 2) b = nI (T 140) ∧ M.1 (m + 3) b = nI (T 141) ∧ ∀ k, k < 140 → M.1 (m + 5) (140 * b + k) = nI (T k)
theorem RQ.fq {T : Sto} {M M' : Mm} {m b : Nat} (h : RQ T M m b) (hf : FQ m M M') : RQ T M' m b := by
  unfold RQ
  rw [hf.1 (m + 2) (by omega), hf.1 (m + 3) (by omega), hf.1 (m + 5) (by omega)]
  exact h
theorem RQ.wk {T : Sto} {M : Mm} {m b : Nat} (h : RQ T M m b) {k : Nat} (hk : k < 140) (v : Nat) : RQ (upS T k v) (wI M (m + 5) (140 * b + k) (nI v)) m b := by
  refine ⟨?_, ?_, fun j hj => ?_⟩
  · rw [upS_n (by omega), wI_ne (by omega)]; exact h.1
  · rw [upS_n (by omega), wI_ne (by omega)]; exact h.2.1
  · by_cases e : j = k
    · rw [e, upS_y, wI_eq]
    · rw [upS_n e, wI_nk (by omega)]; exact h.2.2 j hj
section FX
variable {fu m n p b : Nat} {t : Nat → Nat} {M : Mm} {T : Sto} {g : Nat → Nat}
theorem X11_readFixed_l (hfu : 200000 ≤ fu) (hb : b < 2) (hT : TpM t n M m) (hX : TM t n p M m) (hpn : p ≤ n) (h0 : M.1 m 14 = nI 0) {v : Nat} (hv : v ≤ 10) (hS : RQ T M m b) (h142 : T 142 = 2 ^ v) (hF : GM g M m) : Wp (fX11_readFixed_l14 fu m (nI b) (nI v) 0 M) (LM t n (fxN t n 9 0 p T) g M m b) := by
  have hp2 : 2 ^ v ≤ 2 ^ 10 := Nat.pow_le_pow_right (by decide) hv
  have esh : (1 : Int32) <<< (nI v &&& 31) = nI (2 ^ v) := by
    have := zi_shl (n := 1) (k := v) (by omega) (by omega)
    rw [Nat.one_mul] at this
    exact this
  unfold fX11_readFixed_l14
  obtain ⟨R, hR⟩ : ∃ R, R = fxN t n 9 0 p T := ⟨_, rfl⟩
  rw [← hR]
  have main := lp_ho (F := fun (rec : (Int32 × Mm) → Option Mm) (s : Int32 × Mm) => fX11_readFixed_b14 fu (fun x3 M => rec (x3, M)) m (nI b) (nI v) s.1 s.2) (fun i (z : Int32 × Mm) => i ≤ 8 ∧ z.1 = nI i ∧ ∃ p' T', p' ≤ n ∧ TM t n p' z.2 m ∧ z.2.1 m 14 = nI 0 ∧ RQ T' z.2 m b ∧ T' 142 = 2 ^ v ∧ GM g z.2 m ∧ RB m b M z.2 ∧ fxN t n (9 - i) i p' T' = R) (LM t n R g M m b) 9 (fu := fu) (i := 0) (z := (0, M)) (by omega) (by omega) ⟨by omega, rfl, p, T, hpn, hX, h0, hS, h142, hF, RB.rf _ _ _, hR.symm⟩ ?_ ?_
  · exact main
  · intro i z hi9 hz rec hrec
    obtain ⟨x, M1⟩ := z
    obtain ⟨hi, h1, p', T', hp', X1, z1, S1, h142', F1, B1, hN⟩ := hz
    dsimp only at *
    subst h1
    have e9 : 9 - i = (8 - i) + 1 := by omega
    rw [e9] at hN
    unfold fxN at hN
    have hen := en_le (t := t) hp'
    have hk5 := kiT_le t n p'
    have T1 := hT.rb B1
    have ni0 : nI i = (0 : Int32) ↔ i = 0 := nI_eq (a := i) (b := 0) (by omega) (by omega)
    have ni8 : nI i = (8 : Int32) ↔ i = 8 := nI_eq (a := i) (b := 8) (by omega) (by omega)
    obtain ⟨w1, w2⟩ := X11_isKindWord (fu := fu) X1 z1
    unfold fX11_readFixed_b14
    rw [w1, bi_s]
    -- a fault stands
    have j96n : ∀ k q M', ¬ k = 0 → k < 5 → Dn k q M' m → RB m b M M' → R = Fl k q → Wp (fX11_readFixed_j96 fu m (nI b) (nI v) M') (LM t n R g M m b) := fun k q M' hk hk5 hd hf hR => by
      unfold fX11_readFixed_j96
      rw [hd.1, if_neg (np0 (by omega) hk5).2]
      unfold fX11_readFixed_j112
      rw [wp_some, hR]
      exact LM.fl hk hk5 hd hf
    have j96y : R = spL t n p' T' → Wp (fX11_readFixed_j96 fu m (nI b) (nI v) M1) (LM t n R g M m b) := fun hR => by
      unfold fX11_readFixed_j96
      rw [z1, if_pos (show nI 0 = (0 : Int32) from rfl), if_neg (nI_in hb (by omega)), ix_n (by omega), esh, lt_eq]
      unfold fX11_readFixed_j112
      rw [wp_some]
      refine ⟨Or.inl ⟨by rw [wI_ne (by omega)]; exact z1, F1.wb (by omega), p', T', hp', X1.wb (by omega), ⟨⟨?_, ?_, ?_⟩, fun k hk => ?_⟩, hR⟩, B1.tr (RB.wb _ (Or.inl ⟨by omega, by omega, rfl⟩))⟩
      · rw [wI_ne (by omega)]; exact S1.1
      · rw [wI_ne (by omega)]; exact S1.2.1
      · rw [wI_eq, h142']
      · rw [wI_ne (by omega)]; exact S1.2.2 k hk
    by_cases ck : kiT t n p' = 5
    · rw [if_pos ck] at hN
      rw [bI_f (by omega), if_pos (show nI 0 = (0 : Int32) from rfl)]
      unfold fX11_readFixed_j65
      rw [X11_isStop_y z1 X1, bi_s]
      by_cases c0 : i = 0
      · rw [if_neg (fun z => z.2 c0)] at hN
        have hj : fX11_readFixed_j87 fu m (nI b) (nI v) (nI i) M1 = bm (fX11_fail fu m 1 M1) fun M_93 => fX11_readFixed_j96 fu m (nI b) (nI v) M_93 := by
          unfold fX11_readFixed_j87
          rw [if_pos (ni0.mpr c0)]
        have hle : nI i ≤ (0 : Int32) := by rw [c0]; decide
        rw [if_pos hle, ite_self, hj]
        obtain ⟨M', f1, f2, f3, _⟩ := X11_fail_y (fu := fu) (m := m) 1 z1 X1.2.1
        have f1 : fX11_fail fu m 1 M1 = some M' := f1
        rw [f1, bm_s]
        exact j96n 1 _ M' (by omega) (by omega) f2 (B1.tr f3.rb) hN.symm
      · have hj : ∀ M', fX11_readFixed_j87 fu m (nI b) (nI v) (nI i) M' = fX11_readFixed_j96 fu m (nI b) (nI v) M' := fun M' => by
          unfold fX11_readFixed_j87
          rw [if_neg (fun z => c0 (ni0.mp z))]
        have hle : ¬ nI i ≤ (0 : Int32) := nI_ge (b := i) (a := 0) (by omega) (by omega)
        by_cases c2 : tyT t n p' = 2
        · rw [if_pos ⟨c2, c0⟩] at hN
          rw [bI_t c2, if_neg (show ¬ nI 1 = (0 : Int32) by decide), if_neg hle]
          by_cases c8 : i = 8
          · rw [if_pos c8] at hN
            rw [if_pos (show (8 : Int32) ≤ nI i by rw [c8]; decide), hj]
            refine j96y ?_
            rw [← hN]
            unfold spL
            rw [if_pos c2]
          · rw [if_neg c8] at hN
            rw [if_neg (show ¬ (8 : Int32) ≤ nI i from nI_ge (a := i) (b := 8) (by omega) (by omega))]
            obtain ⟨M', f1, f2, f3, _⟩ := X11_fail_y (fu := fu) (m := m) 4 z1 X1.2.1
            have f1 : fX11_fail fu m 4 M1 = some M' := f1
            rw [f1, bm_s, hj]
            exact j96n 4 _ M' (by omega) (by omega) f2 (B1.tr f3.rb) hN.symm
        · rw [if_neg (fun z => c2 z.1)] at hN
          rw [bI_f c2, if_pos (show nI 0 = (0 : Int32) from rfl), hj]
          refine j96y ?_
          rw [← hN]
          unfold spL
          rw [if_neg c2]
    · rw [if_neg ck] at hN
      rw [bI_t (by omega), if_neg (show ¬ nI 1 = (0 : Int32) by decide)]
      by_cases c8 : i = 8
      · rw [if_pos c8] at hN
        rw [if_pos (ni8.mpr c8)]
        obtain ⟨M', f1, f2, f3, _⟩ := X11_fail_y (fu := fu) (m := m) 4 z1 X1.2.1
        have f1 : fX11_fail fu m 4 M1 = some M' := f1
        rw [f1, bm_s]
        unfold fX11_readFixed_j32
        rw [f2.1, if_neg (np0 (k := 4) (by omega) (by omega)).1]
        unfold fX11_readFixed_j39
        rw [wp_some, ← hN]
        exact LM.fl (by omega) (by omega) f2 (B1.tr f3.rb)
      · rw [if_neg c8] at hN
        rw [if_neg (fun z => c8 (ni8.mp z))]
        unfold fX11_readFixed_j32
        have i1 : (140 : Int32) * nI b + 68 + nI i = nI (140 * b + (68 + i)) := by
          rw [show (140 : Int32) * nI b + 68 = nI (140 * b + 68) from bix b 68, nI_add, show 140 * b + 68 + i = 140 * b + (68 + i) by omega]
        rw [z1, if_pos (show nI 0 ≤ (0 : Int32) by decide), wp_bw, i1]
        refine (X11_kindTold_y hfu T1 X1 hp' z1).mono fun z y => ?_
        obtain ⟨r3, M4⟩ := z
        dsimp only at *
        rcases y with ⟨y1, y2, y3, y4⟩ | ⟨y1, y2, y3⟩
        · subst y2
          rw [if_neg (nI_in (by omega) (by omega)), ix_n (by omega), lt_eq, lt_eq, nI_1]
          refine hrec _ ⟨by omega, rfl, enT t n p', upS T' (68 + i) (kiT t n p'), hen.2, y3.wb (by omega), ?_, (S1.fq y4.fq).wk (by omega) _, ?_, (F1.fm y4).wb (by omega), (B1.tr y4.fq.rb).tr (RB.wb _ (Or.inr ⟨rfl, by omega, by omega⟩)), ?_⟩
          · dsimp only
            rw [wI_ne (by omega), y4.f14]
            exact z1
          · rw [upS_n (by omega)]
            exact h142'
          · rw [← hN, show 9 - (i + 1) = 8 - i by omega]
        · exact absurd y1 ck
  · intro z hz
    exact absurd hz.1 (by omega)
theorem X11_readFixed (hfu : 200000 ≤ fu) (hb : b < 2) (hT : TpM t n M m) (hX : TM t n p M m) (hpn : p ≤ n) (h0 : M.1 m 14 = nI 0) (hS : RS T M m b) (hF : GM g M m) (hG : Gd T) : Wp (fX11_readFixed fu m (nI b) M) (LM t n (l8 t n p T) g M m b) := by
  have hg := hG.1
  have hen := en_le (t := t) hpn
  have hle := nuC_le (t := t) (n := n) (p := p) 3 (T 140)
  unfold fX11_readFixed l8
  rw [if_neg (nI_in hb (by omega)), ix_n (by omega), hS.1.1, wp_bw]
  refine (X11_numeral_y (lo := 3) (hi := T 140) hfu hT hX hpn h0 (by omega) (by omega)).mono fun z q => ?_
  obtain ⟨r, M1⟩ := z
  dsimp only at *
  rcases q with ⟨q1, q2, q3, q4⟩ | ⟨q1, q2, q3⟩
  · subst q2
    obtain ⟨u1, u2, u3⟩ := nuC_0.mp q1
    rw [if_pos q1]
    have S1 := hS.fq q4.fq
    refine (X11_readFixed_l hfu hb (hT.fm q4) q3 hen.2 (q4.f14.trans h0) (v := vaT t n p) (by omega) (T := upS T 142 (2 ^ vaT t n p)) ⟨?_, ?_, fun k hk => ?_⟩ upS_y (hF.fm q4)).mono fun z w => w.pre q4.fq.rb
    · rw [upS_n (by omega)]; exact S1.1.1
    · rw [upS_n (by omega)]; exact S1.1.2.1
    · rw [upS_n (by omega)]; exact S1.2 k hk
  · rw [if_neg q1]
    unfold fX11_readFixed_l14
    obtain ⟨f, rfl⟩ : ∃ f, fu = f + 1 := ⟨fu - 1, by omega⟩
    rw [lp_S]
    dsimp only
    unfold fX11_readFixed_b14
    rw [X11_isKindWord_n q2.1 (by omega) hle, bi_s, if_pos (show nI 0 = (0 : Int32) from rfl)]
    unfold fX11_readFixed_j65
    rw [X11_isStop_n q2.1 (by omega) hle, bi_s, if_pos (show nI 0 = (0 : Int32) from rfl)]
    unfold fX11_readFixed_j87
    rw [if_pos rfl, X11_fail_n 1 q2.1 (by omega) hle, bm_s]
    unfold fX11_readFixed_j96
    rw [q2.1, if_neg (np0 (by omega) hle).2]
    unfold fX11_readFixed_j112
    rw [wp_some]
    exact LM.fl q1 hle q2 q3.rb
theorem X11_emptyIn (hfu : 200000 ≤ fu) (hb : b < 2) (hS : RS T M m b) (hQ : QI T) : fX11_emptyIn fu m (nI b) M = some (if csN T (T 141) < T 141 then nI (csN T (T 141)) else mI) := by
  have h10 := hQ.1.1.2.2.2.1
  have hl := csN_le T (T 141)
  have hf := hQ.fst
  have hi : ∀ i, (140 : Int32) * nI b + 38 + 3 * nI i + 1 = nI (140 * b + (39 + 3 * i)) := fun i => by
    rw [show (140 : Int32) * nI b + 38 = nI (140 * b + 38) from bix b 38, show (3 : Int32) * nI i = nI (3 * i) from zi_mul 3 i, nI_add, nI_1, show 140 * b + 38 + 3 * i + 1 = 140 * b + (39 + 3 * i) by omega]
  have st : ∀ i, i < csN T (T 141) → ∀ rec : Int32 → Option Int32, fX11_emptyIn_b2 fu (fun x2 => rec x2) m (nI b) (nI i) M = rec (nI (i + 1)) := fun i hi1 rec => by
    have hs := hf i hi1
    have hsl := hQ.1.2.1 (39 + 3 * i)
    unfold fX11_emptyIn_b2
    rw [if_neg (nI_in hb (by omega)), ix_n (by omega), hS.1.2.1, if_neg (nI_ge (by omega) (by omega)), hi, if_neg (nI_in (by omega) (by omega)), ix_n (by omega), hS.2 _ (by omega), if_neg (nI_ne0 (by omega) (by omega)), lt_eq, nI_1]
  unfold fX11_emptyIn fX11_emptyIn_l2
  refine lp_ue (fun i => nI i) (csN T (T 141)) rfl (by omega) (fun i hi1 rec => st i hi1 rec) (fun rec => ?_)
  unfold fX11_emptyIn_b2
  by_cases c : csN T (T 141) < T 141
  · rw [if_pos c, if_neg (nI_in hb (by omega)), ix_n (by omega), hS.1.2.1, if_neg (nI_ge (by omega) (by omega)), hi, if_neg (nI_in (by omega) (by omega)), ix_n (by omega), hS.2 _ (by omega), (hQ.2.2 _ (Nat.le_refl _) (by omega)).2.1, if_pos (show nI 0 = (0 : Int32) from rfl)]
    rfl
  · rw [if_neg c, if_neg (nI_in hb (by omega)), ix_n (by omega), hS.1.2.1, if_pos (nI_le (by omega) (by omega))]
    rfl
theorem blC_le {q : Nat} : blC t n p q T < 5 := by
  unfold blC
  repeat' split
  all_goals omega
theorem X11_readRegister (hfu : 200000 ≤ fu) (hb : b < 2) (hT : TpM t n M m) (hX : TM t n p M m) (hpn : p ≤ n) (h0 : M.1 m 14 = nI 0) (hS : RS T M m b) (hF : GM g M m) (hQ : QI T) : Wp (fX11_readRegister fu m (nI b) M) (LM t n (l10 t n (stT t n p) (enT t n p) T) g M m b) := by
  have hG := hQ.1
  have hg := hG.1
  have hA := hG.ad
  have hcs := csN_le T (T 141)
  have e0 := en_le (t := t) hpn
  have e1 := en_le (t := t) e0.2
  have e2 := en_le (t := t) e1.2
  have e3 := en_le (t := t) e2.2
  have es : nI (2 ^ T 140) - 1 = nI (2 ^ T 140 - 1) := zi_sub (b := 1) (by omega)
  unfold fX11_readRegister l10
  rw [X11_emptyIn hfu hb hS hQ, bi_s]
  by_cases cc : T 141 ≤ csN T (T 141)
  · obtain ⟨M', f1, f2, f3, _⟩ := X11_fail_y (fu := fu) (m := m) 4 h0 hX.2.1
    have f1 : fX11_fail fu m 4 M = some M' := f1
    rw [if_neg (show ¬ csN T (T 141) < T 141 by omega), if_pos cc, if_neg (show ¬ (0 : Int32) ≤ mI by decide), f1, bm_s]
    unfold fX11_readRegister_j15
    rw [f2.1, if_neg (np0 (k := 4) (by omega) (by omega)).1, wp_some]
    exact LM.fl (by omega) (by omega) f2 f3.rb
  rw [if_pos (show csN T (T 141) < T 141 by omega), if_neg cc, if_pos (show (0 : Int32) ≤ nI (csN T (T 141)) from nI_le (a := 0) (by omega) (by omega))]
  generalize hc0 : csN T (T 141) = c0 at *
  unfold fX11_readRegister_j15
  rw [h0, if_pos (show nI 0 ≤ (0 : Int32) by decide), wp_bm]
  refine (X11_scan hfu hT hX.1 e0.2).mono fun M1 q => ?_
  obtain ⟨X1, F1⟩ := q
  have T1 := hT.fm F1
  have S1 := hS.fq F1.fq
  have z1 : M1.1 m 14 = nI 0 := F1.f14.trans h0
  rw [X11_spaceOf hb S1 (by omega), bi_s, es, wp_bw]
  have hle := nuC_le (t := t) (n := n) (p := enT t n p) 0 (2 ^ T 140 - 1)
  -- a fault stands
  have bad : ∀ k q M' x y, ¬ k = 0 → k < 5 → Dn k q M' m → FQ m M1 M' → Wp (fX11_readRegister_l93 fu m (nI b) (nI c0) x y 0 M') (LM t n (Fl k q) g M m b) := fun k q M' x y hk hk5 hd hf => by
    have n169 : fX11_readRegister_j169 fu m (nI b) (nI c0) x y M' = some M' := by
      unfold fX11_readRegister_j169
      rw [hd.1, if_neg (np0 (by omega) hk5).1]
    unfold fX11_readRegister_l93
    obtain ⟨f, rfl⟩ : ∃ f, fu = f + 1 := ⟨fu - 1, by omega⟩
    rw [lp_S]
    dsimp only
    unfold fX11_readRegister_b93
    rw [if_neg (nI_in hb (by omega)), hd.1, if_neg (np0 (by omega) hk5).2, n169, ite_self, wp_some]
    exact LM.fl hk hk5 hd (F1.fq.tr hf).rb
  refine (X11_numeral_y (lo := 0) (hi := 2 ^ T 140 - 1) hfu T1 X1 e0.2 z1 (by omega) (by omega)).mono fun z q => ?_
  obtain ⟨r1, M2⟩ := z
  dsimp only at *
  rcases q with ⟨q1, q2, q3, q4⟩ | ⟨q1, q2, q3⟩
  · subst q2
    obtain ⟨u1, u2, u3⟩ := nuC_0.mp q1
    have T2 := T1.fm q4
    have S2 := S1.fq q4.fq
    have z2 : M2.1 m 14 = nI 0 := q4.f14.trans z1
    rw [if_pos q1, z2, if_pos (show nI 0 = (0 : Int32) from rfl), q3.2.2.1]
    by_cases c1 : tyT t n (enT t n (enT t n p)) = 1
    · rw [if_pos (tk3.mpr c1)]
      unfold fX11_readRegister_j63
      rw [X11_spaceOf hb S2 (by omega), bi_s, X11_isBlock (by omega), bi_s]
      have hfp : fP (T 140) (nI (vaT t n (enT t n p))) (M2.1 m 12) → M2.1 m 12 = nI (vaT t n (enT t n (enT t n p))) ∧ vaT t n (enT t n (enT t n p)) ≤ 1024 := fun z => by
        rcases q3.2.2.2.1 c1 with ⟨v1, v2⟩ | ⟨v1, y, v2, v3, v4⟩
        · refine ⟨v2, Decidable.not_not.mp fun w => ?_⟩
          rw [v2] at z
          exact nI_ge (b := vaT t n (enT t n (enT t n p))) (a := 2 ^ T 140) (by omega) (by omega) z.2.1
        · rw [v4] at z
          exact absurd z.2.1 (nI_ge (by omega) (by omega))
      by_cases cf : fP (T 140) (nI (vaT t n (enT t n p))) (M2.1 m 12)
      · obtain ⟨v1, v2⟩ := hfp cf
        rw [bI_t cf, if_neg (show ¬ nI 1 = (0 : Int32) by decide)]
        rw [v1] at cf
        unfold fX11_readRegister_j84
        rw [lt_eq, v1]
        have hx : vaT t n (enT t n p) < 2 ^ 31 := by omega
        generalize hvb : vaT t n (enT t n p) = vb at *
        generalize hvs : vaT t n (enT t n (enT t n p)) = vs at *
        have hi0 : ∀ i, (140 : Int32) * nI b + 38 + 3 * nI i = nI (140 * b + (38 + 3 * i)) := fun i => by
          rw [show (140 : Int32) * nI b + 38 = nI (140 * b + 38) from bix b 38, show (3 : Int32) * nI i = nI (3 * i) from zi_mul 3 i, nI_add, show 140 * b + 38 + 3 * i = 140 * b + (38 + 3 * i) by omega]
        have hi1 : ∀ i, nI (140 * b + (38 + 3 * i)) + 1 = nI (140 * b + (39 + 3 * i)) := fun i => by
          rw [nI_1, show 140 * b + (38 + 3 * i) + 1 = 140 * b + (39 + 3 * i) by omega]
        have hi2 : ∀ i, nI (140 * b + (38 + 3 * i)) + 2 = nI (140 * b + (40 + 3 * i)) := fun i => by
          rw [show nI (140 * b + (38 + 3 * i)) + 2 = nI (140 * b + (38 + 3 * i) + 2) from nI_add _ 2, show 140 * b + (38 + 3 * i) + 2 = 140 * b + (40 + 3 * i) by omega]
        -- the loop over the registers
        unfold fX11_readRegister_l93
        refine lp_ho (F := fun (rec : (Int32 × Mm) → Option Mm) (s : Int32 × Mm) => fX11_readRegister_b93 fu (fun x5 M => rec (x5, M)) m (nI b) (nI c0) (nI vb) (nI vs) s.1 s.2) (fun i (z : Int32 × Mm) => z.1 = nI i ∧ ((z.2 = M2 ∧ ∀ r, r < i → ¬ (T (38 + 3 * r) = vb ∧ T (39 + 3 * r) = vs)) ∨ (blC t n (enT t n (enT t n p)) vb T = 3 ∧ Dn 3 (stT t n (enT t n (enT t n p))) z.2 m ∧ FQ m M2 z.2))) _ (T 141) (i := 0) (by omega) (by omega) ⟨rfl, Or.inl ⟨rfl, fun r hr => absurd hr (by omega)⟩⟩ (fun i z hi hz rec hrec => ?_) (fun z hz rec => ?_)
        · obtain ⟨x, M3⟩ := z
          obtain ⟨h1, hz⟩ := hz
          dsimp only at *
          subst h1
          have g1 := hG.2.1 (38 + 3 * i)
          have g2 := hG.2.1 (39 + 3 * i)
          unfold fX11_readRegister_b93 fX11_readRegister_j163
          rcases hz with ⟨rfl, hz⟩ | ⟨w1, w2, w3⟩
          · rw [if_neg (nI_in hb (by omega)), ix_n (by omega), S2.1.2.1, if_neg (nI_ge hi (by omega)), z2, if_pos (show nI 0 = (0 : Int32) from rfl), hi0, if_neg (nI_in (by omega) (by omega)), ix_n (by omega), S2.2 _ (by omega), hi1, if_neg (nI_in (by omega) (by omega)), ix_n (by omega), S2.2 _ (by omega), lt_eq, nI_1]
            by_cases d1 : T (38 + 3 * i) = vb
            · rw [if_pos (by rw [d1])]
              by_cases d2 : T (39 + 3 * i) = vs
              · obtain ⟨M', f1, f2, f3, _⟩ := X11_fail_y (fu := fu) (m := m) 3 z2 q3.2.1
                have f1 : fX11_fail fu m 3 M3 = some M' := f1
                rw [if_pos (by rw [d2]), f1, bm_s, lt_eq]
                refine hrec _ ⟨rfl, Or.inr ⟨?_, f2, f3⟩⟩
                have ct : ¬ tnS T vb vs = 0 := fun z => tnS_0.mp z i hi ⟨d1, d2⟩
                unfold blC
                rw [if_pos c1, hvs, if_pos ⟨v2, cf⟩, if_neg ct]
              · rw [if_neg (fun z => d2 ((nI_eq (by omega) (by omega)).mp z))]
                refine hrec _ ⟨rfl, Or.inl ⟨rfl, fun r hr => ?_⟩⟩
                by_cases e : r = i
                · rw [e]; exact fun z => d2 z.2
                · exact hz r (by omega)
            · rw [if_neg (fun z => d1 ((nI_eq (by omega) (by omega)).mp z))]
              refine hrec _ ⟨rfl, Or.inl ⟨rfl, fun r hr => ?_⟩⟩
              by_cases e : r = i
              · rw [e]; exact fun z => d1 z.1
              · exact hz r (by omega)
          · have n169 : fX11_readRegister_j169 fu m (nI b) (nI c0) (nI vb) (nI vs) M3 = some M3 := by
              unfold fX11_readRegister_j169
              rw [w2.1, if_neg (np0 (k := 3) (by omega) (by omega)).1]
            rw [if_neg (nI_in hb (by omega)), w2.1, if_neg (np0 (k := 3) (by omega) (by omega)).2, n169, ite_self, wp_some, w1, if_neg (by omega)]
            exact LM.fl (by omega) (by omega) w2 ((F1.fq.tr q4.fq).tr w3).rb
        · obtain ⟨x, M3⟩ := z
          obtain ⟨h1, hz⟩ := hz
          dsimp only at *
          subst h1
          unfold fX11_readRegister_b93
          rcases hz with ⟨rfl, hz⟩ | ⟨w1, w2, w3⟩
          · have hbl : blC t n (enT t n (enT t n p)) vb T = 0 := by
              unfold blC
              rw [if_pos c1, hvs, if_pos ⟨v2, cf⟩, if_pos (tnS_0.mpr hz)]
            rw [if_pos hbl, if_neg (nI_in hb (by omega)), ix_n (by omega), S2.1.2.1, if_pos (nI_le (Nat.le_refl _) (by omega))]
            unfold fX11_readRegister_j169
            rw [z2, if_pos (show nI 0 ≤ (0 : Int32) by decide), wp_bm]
            refine (X11_scan hfu T2 q3.1 e2.2).mono fun M4 w => ?_
            obtain ⟨X4, F4⟩ := w
            have T4 := T2.fm F4
            have S4 := S2.fq F4.fq
            have z4 : M4.1 m 14 = nI 0 := F4.f14.trans z2
            rw [wp_bw]
            refine (X11_kindTold_y hfu T4 X4 e2.2 z4).mono fun z y => ?_
            obtain ⟨r5, M5⟩ := z
            dsimp only at *
            rcases y with ⟨y1, y2, y3, y4⟩ | ⟨y1, y2, y3⟩
            · subst y2
              have S5 := S4.fq y4.fq
              have z5 : M5.1 m 14 = nI 0 := y4.f14.trans z4
              rw [if_neg y1, z5, if_pos (show nI 0 ≤ (0 : Int32) by decide), hi0, hi1, hi2, if_neg (nI_in (by omega) (by omega)), lt_eq, if_neg (nI_in (by omega) (by omega)), lt_eq, if_neg (nI_in (by omega) (by omega)), lt_eq, ix_n (by omega), ix_n (by omega), ix_n (by omega), wp_some]
              refine ⟨Or.inl ⟨?_, ?_, enT t n (enT t n (enT t n (enT t n p))), putS T c0 vb vs (kiT t n (enT t n (enT t n (enT t n p)))), e3.2, ((y3.wb (by omega)).wb (by omega)).wb (by omega), ?_, rfl⟩, ?_⟩
              · simp (disch := omega) only [wI_ne, wI_eq, wI_nk, wIs_ne, wIs_eq]
                exact z5
              · exact ((((((hF.fm F1).fm q4).fm F4).fm y4).wb (by omega)).wb (by omega)).wb (by omega)
              · refine (((S5.wk (k := 38 + 3 * c0) (by omega) vb).wk (k := 39 + 3 * c0) (by omega) vs).wk (k := 40 + 3 * c0) (by omega) (kiT t n (enT t n (enT t n (enT t n p))))).cg fun k hk => ?_
                unfold putS upS
                by_cases k1 : k = 38 + 3 * c0
                · rw [if_pos k1, if_neg (by omega), if_neg (by omega), if_pos k1]
                rw [if_neg k1]
                by_cases k2 : k = 39 + 3 * c0
                · rw [if_pos k2, if_neg (by omega), if_pos k2]
                rw [if_neg k2]
                by_cases k3 : k = 40 + 3 * c0
                · rw [if_pos k3, if_pos k3]
                rw [if_neg k3, if_neg k3, if_neg k2, if_neg k1]
              · exact ((((((F1.fq.tr q4.fq).tr F4.fq).tr y4.fq).rb.tr (RB.wb _ (Or.inr ⟨rfl, by omega, by omega⟩))).tr (RB.wb _ (Or.inr ⟨rfl, by omega, by omega⟩))).tr (RB.wb _ (Or.inr ⟨rfl, by omega, by omega⟩)))
            · rw [if_pos y1, y2.1, if_neg (np0 (k := 1) (by omega) (by omega)).1, wp_some]
              exact LM.fl (by omega) (by omega) y2 (((F1.fq.tr q4.fq).tr F4.fq).tr y3).rb
          · have n169 : fX11_readRegister_j169 fu m (nI b) (nI c0) (nI vb) (nI vs) M3 = some M3 := by
              unfold fX11_readRegister_j169
              rw [w2.1, if_neg (np0 (k := 3) (by omega) (by omega)).1]
            rw [if_neg (nI_in hb (by omega)), w2.1, if_neg (np0 (k := 3) (by omega) (by omega)).2, n169, ite_self, wp_some, w1, if_neg (by omega)]
            exact LM.fl (by omega) (by omega) w2 ((F1.fq.tr q4.fq).tr w3).rb
      · have hbl : blC t n (enT t n (enT t n p)) (vaT t n (enT t n p)) T = 2 := by
          unfold blC
          rw [if_pos c1, if_neg]
          intro z
          apply cf
          rcases q3.2.2.2.1 c1 with ⟨v1, v2⟩ | ⟨v1, y, v2, v3, v4⟩
          · rw [v2]; exact z.2
          · omega
        obtain ⟨M', f1, f2, f3, _⟩ := X11_fail_y (fu := fu) (m := m) 2 z2 q3.2.1
        have f1 : fX11_fail fu m 2 M2 = some M' := f1
        rw [bI_f cf, if_pos (show nI 0 = (0 : Int32) from rfl), f1, bm_s, hbl, if_neg (by omega)]
        unfold fX11_readRegister_j84
        rw [lt_eq]
        exact bad 2 _ M' _ _ (by omega) (by omega) f2 (q4.fq.tr f3)
    · have hbl : blC t n (enT t n (enT t n p)) (vaT t n (enT t n p)) T = 1 := if_neg c1
      obtain ⟨M', f1, f2, f3, _⟩ := X11_fail_y (fu := fu) (m := m) 1 z2 q3.2.1
      have f1 : fX11_fail fu m 1 M2 = some M' := f1
      rw [if_neg (fun z => c1 (tk3.mp z)), f1, bm_s, hbl, if_neg (by omega)]
      unfold fX11_readRegister_j84
      rw [lt_eq]
      exact bad 1 _ M' _ _ (by omega) (by omega) f2 (q4.fq.tr f3)
  · have S2 := S1.fq q3
    rw [if_neg q1, q2.1, if_neg (np0 (by omega) hle).2]
    unfold fX11_readRegister_j63
    rw [X11_spaceOf hb S2 (by omega), bi_s, X11_isBlock (by omega), bi_s, X11_fail_n 2 q2.1 (by omega) hle, bm_s, ite_self]
    unfold fX11_readRegister_j84
    rw [lt_eq]
    exact bad _ _ M2 _ _ q1 hle q2 q3
end FX
