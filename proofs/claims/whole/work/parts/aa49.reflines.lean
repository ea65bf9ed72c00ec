/-! The reference reads lines. -/
def LM (t : Nat → Nat) (n : Nat) (r : Rs) (g : Nat → Nat) (M : Mm) (m b : Nat) (M' : Mm) : Prop := ((M'.1 m 14 = nI 0 ∧ GM g M' m ∧ ∃ p' T', p' ≤ n ∧ TM t n p' M' m ∧ RS T' M' m b ∧ r = spL t n p' T') ∨ (¬ r.1 = 0 ∧ r.1 < 5 ∧ Dn r.1 r.2.1 M' m)) ∧ RB m b M M'
theorem LM.fl {t : Nat → Nat} {n k q m b : Nat} {g : Nat → Nat} {M M' : Mm} (hk : ¬ k = 0) (hk5 : k < 5) (h : Dn k q M' m) (hf : RB m b M M') : LM t n (Fl k q) g M m b M' := ⟨Or.inr ⟨hk, hk5, h⟩, hf⟩
theorem LM.pre {t : Nat → Nat} {n m b : Nat} {r : Rs} {g : Nat → Nat} {M M' M'' : Mm} (h : LM t n r g M' m b M'') (hf : RB m b M M') : LM t n r g M m b M'' := ⟨h.1, hf.tr h.2⟩
theorem GM.fm {g : Nat → Nat} {M M' : Mm} {m : Nat} (h : GM g M m) (hf : FM m M M') : GM g M' m := ⟨by rw [hf.2.1 19 (by omega) (by omega) (by omega) (by omega) (by omega)]; exact h.1, by rw [hf.2.1 20 (by omega) (by omega) (by omega) (by omega) (by omega)]; exact h.2.1, by rw [hf.2.1 15 (by omega) (by omega) (by omega) (by omega) (by omega)]; exact h.2.2⟩
section BW
variable {m b : Nat} {M : Mm} {T : Sto}
theorem RB.wb {c j : Nat} (v : Int32) (h : (m + 2 ≤ c ∧ c < m + 5 ∧ j = b) ∨ (c = m + 5 ∧ 140 * b ≤ j ∧ j < 140 * b + 140)) : RB m b M (wI M c j v) := by
  refine ⟨fun c' h1 h2 => wI_ne (by omega), fun c' h1 h2 j' hj => ?_, fun j' hj => ?_, fun j' _ _ _ => by rw [wI_ne (by omega)], rfl⟩
  · by_cases e : c' = c
    · rw [e, wI_nk (by omega)]
    · rw [wI_ne e]
  · by_cases e : c = m + 5
    · rw [e, wI_nk (by omega)]
    · rw [wI_ne (by omega)]
theorem TM.wb {t : Nat → Nat} {n p c j : Nat} {v : Int32} (h : TM t n p M m) (hc : c ≠ m) : TM t n p (wI M c j v) m := by
  unfold TM
  rw [wI_ne (Ne.symm hc)]
  exact h
theorem GM.wb {g : Nat → Nat} {c j : Nat} {v : Int32} (h : GM g M m) (hc : c ≠ m) : GM g (wI M c j v) m := by
  unfold GM
  rw [wI_ne (Ne.symm hc)]
  exact h
theorem Dn.wb {k q c j : Nat} {v : Int32} (h : Dn k q M m) (hc : c ≠ m) : Dn k q (wI M c j v) m := by
  unfold Dn
  rw [wI_ne (Ne.symm hc)]
  exact h
theorem RS.w0 (h : RS T M m b) (v : Nat) : RS (upS T 140 v) (wI M (m + 2) b (nI v)) m b := by
  refine ⟨⟨by rw [upS_y, wI_eq], ?_, ?_⟩, fun k hk => ?_⟩
  · rw [upS_n (by omega), wI_ne (by omega)]; exact h.1.2.1
  · rw [upS_n (by omega), wI_ne (by omega)]; exact h.1.2.2
  · rw [upS_n (by omega), wI_ne (by omega)]; exact h.2 k hk
theorem RS.w1 (h : RS T M m b) (v : Nat) : RS (upS T 141 v) (wI M (m + 3) b (nI v)) m b := by
  refine ⟨⟨?_, by rw [upS_y, wI_eq], ?_⟩, fun k hk => ?_⟩
  · rw [upS_n (by omega), wI_ne (by omega)]; exact h.1.1
  · rw [upS_n (by omega), wI_ne (by omega)]; exact h.1.2.2
  · rw [upS_n (by omega), wI_ne (by omega)]; exact h.2 k hk
theorem RS.wk (h : RS T M m b) {k : Nat} (hk : k < 140) (v : Nat) : RS (upS T k v) (wI M (m + 5) (140 * b + k) (nI v)) m b := by
  refine ⟨⟨?_, ?_, ?_⟩, fun j hj => ?_⟩
  · rw [upS_n (by omega), wI_ne (by omega)]; exact h.1.1
  · rw [upS_n (by omega), wI_ne (by omega)]; exact h.1.2.1
  · rw [upS_n (by omega), wI_ne (by omega)]; exact h.1.2.2
  · by_cases e : j = k
    · rw [e, upS_y, wI_eq]
    · rw [upS_n e, wI_nk (by omega)]; exact h.2 j hj
theorem RS.cg {T' : Sto} (h : RS T M m b) (e : ∀ k, k < 143 → T' k = T k) : RS T' M m b := by
  refine ⟨⟨?_, ?_, ?_⟩, fun j hj => ?_⟩
  · rw [e _ (by omega)]; exact h.1.1
  · rw [e _ (by omega)]; exact h.1.2.1
  · rw [e _ (by omega)]; exact h.1.2.2
  · rw [e _ (by omega)]; exact h.2 j hj
theorem bix (b k : Nat) : (140 : Int32) * nI b + nI k = nI (140 * b + k) := by
  show nI 140 * nI b + nI k = _
  rw [zi_mul, nI_add]
end BW
section BL
variable {fu m n p b : Nat} {t : Nat → Nat} {M : Mm} {T : Sto} {g : Nat → Nat}
theorem M_l5 (hfu : 200000 ≤ fu) (hb : b < 2) (hT : TpM t n M m) (hX : TM t n p M m) (hpn : p ≤ n) (h0 : M.1 m 14 = nI 0) (hS : RS T M m b) (hF : GM g M m) : Wp (bw (fX11_numeral fu m 4 10 M) fun r_25 M_25 => if nI b < 0 ∨ 2 ≤ ix (nI b) then none else lt (wI M_25 (m + 2) (ix (nI b)) r_25) fun M_28 => fX11_readLine_j200 fu M_28) (LM t n (l5 t n p T) g M m b) := by
  have hen := en_le (t := t) hpn
  have hle := nuC_le (t := t) (n := n) (p := p) 4 10
  unfold l5
  rw [wp_bw]
  refine (X11_numeral_y (lo := 4) (hi := 10) hfu hT hX hpn h0 (by omega) (by omega)).mono fun z q => ?_
  obtain ⟨r, M1⟩ := z
  dsimp only at *
  rw [if_neg (nI_in hb (by omega)), ix_n (by omega), lt_eq]
  unfold fX11_readLine_j200
  rw [wp_some]
  rcases q with ⟨q1, q2, q3, q4⟩ | ⟨q1, q2, q3⟩
  · subst q2
    rw [if_pos q1]
    exact ⟨Or.inl ⟨by rw [wI_ne (by omega), q4.f14]; exact h0, (hF.fm q4).wb (by omega), enT t n p, _, hen.2, q3.wb (by omega), (hS.fq q4.fq).w0 _, rfl⟩, q4.fq.rb.tr (RB.wb _ (Or.inl ⟨by omega, by omega, rfl⟩))⟩
  · rw [if_neg q1]
    exact LM.fl q1 hle (q2.wb (by omega)) (q3.rb.tr (RB.wb _ (Or.inl ⟨by omega, by omega, rfl⟩)))
theorem M_l6 (hfu : 200000 ≤ fu) (hb : b < 2) (hT : TpM t n M m) (hX : TM t n p M m) (hpn : p ≤ n) (h0 : M.1 m 14 = nI 0) (hS : RS T M m b) (hF : GM g M m) : Wp (bw (fX11_numeral fu m 1 10 M) fun r_25 M_25 => if nI b < 0 ∨ 2 ≤ ix (nI b) then none else lt (wI M_25 (m + 3) (ix (nI b)) r_25) fun M_28 => fX11_readLine_j200 fu M_28) (LM t n (l6 t n p T) g M m b) := by
  have hen := en_le (t := t) hpn
  have hle := nuC_le (t := t) (n := n) (p := p) 1 10
  unfold l6
  rw [wp_bw]
  refine (X11_numeral_y (lo := 1) (hi := 10) hfu hT hX hpn h0 (by omega) (by omega)).mono fun z q => ?_
  obtain ⟨r, M1⟩ := z
  dsimp only at *
  rw [if_neg (nI_in hb (by omega)), ix_n (by omega), lt_eq]
  unfold fX11_readLine_j200
  rw [wp_some]
  rcases q with ⟨q1, q2, q3, q4⟩ | ⟨q1, q2, q3⟩
  · subst q2
    rw [if_pos q1]
    exact ⟨Or.inl ⟨by rw [wI_ne (by omega), q4.f14]; exact h0, (hF.fm q4).wb (by omega), enT t n p, _, hen.2, q3.wb (by omega), (hS.fq q4.fq).w1 _, rfl⟩, q4.fq.rb.tr (RB.wb _ (Or.inl ⟨by omega, by omega, rfl⟩))⟩
  · rw [if_neg q1]
    exact LM.fl q1 hle (q2.wb (by omega)) (q3.rb.tr (RB.wb _ (Or.inl ⟨by omega, by omega, rfl⟩)))
theorem M_l7 (hfu : 200000 ≤ fu) (hb : b < 2) (hT : TpM t n M m) (hX : TM t n p M m) (hpn : p ≤ n) (h0 : M.1 m 14 = nI 0) (hS : RS T M m b) (hF : GM g M m) : Wp (bw (fX11_kindTold fu m M) fun r_96 M_96 => if ((140 * nI b) + 0) < 0 ∨ 280 ≤ ix ((140 * nI b) + 0) then none else lt (wI M_96 (m + 5) (ix ((140 * nI b) + 0)) r_96) fun M_99 => fX11_readLine_j200 fu M_99) (LM t n (l7 t n p T) g M m b) := by
  have hen := en_le (t := t) hpn
  unfold l7
  rw [wp_bw]
  refine (X11_kindTold_y hfu hT hX hpn h0).mono fun z q => ?_
  obtain ⟨r, M1⟩ := z
  dsimp only at *
  rw [show (140 : Int32) * nI b + 0 = nI (140 * b + 0) from bix b 0, if_neg (nI_in (by omega) (by omega)), ix_n (by omega), lt_eq]
  unfold fX11_readLine_j200
  rw [wp_some]
  rcases q with ⟨q1, q2, q3, q4⟩ | ⟨q1, q2, q3⟩
  · subst q2
    rw [if_neg q1]
    exact ⟨Or.inl ⟨by rw [wI_ne (by omega), q4.f14]; exact h0, (hF.fm q4).wb (by omega), enT t n p, _, hen.2, q3.wb (by omega), (hS.fq q4.fq).wk (by omega) _, rfl⟩, q4.fq.rb.tr (RB.wb _ (Or.inr ⟨rfl, by omega, by omega⟩))⟩
  · rw [if_pos q1]
    exact LM.fl (by omega) (by omega) (q2.wb (by omega)) (q3.rb.tr (RB.wb _ (Or.inr ⟨rfl, by omega, by omega⟩)))
theorem X11_readSpan (hfu : 200000 ≤ fu) (hb : b < 2) (hT : TpM t n M m) (hX : TM t n p M m) (hpn : p ≤ n) (h0 : M.1 m 14 = nI 0) (hS : RS T M m b) (hF : GM g M m) (hG : Gd T) : Wp (fX11_readSpan fu m (nI b) M) (LM t n (l9 t n (stT t n p) (enT t n p) T) g M m b) := by
  have h12 := hG.1.2.2.2.2.2
  have hA := hG.ad
  have e0 := en_le (t := t) hpn
  have e1 := en_le (t := t) e0.2
  have e2 := en_le (t := t) e1.2
  have e3 := en_le (t := t) e2.2
  have es : nI (2 ^ T 140) - 1 = nI (2 ^ T 140 - 1) := zi_sub (b := 1) (by omega)
  have i1 : (140 : Int32) * nI b + 1 = nI (140 * b + 1) := bix b 1
  have i2 : (140 : Int32) * nI b + 2 = nI (140 * b + 2) := bix b 2
  have i3 : (3 : Int32) * nI (T 1) = nI (3 * T 1) := zi_mul 3 (T 1)
  unfold fX11_readSpan l9
  rw [i1, if_neg (nI_in (by omega) (by omega)), ix_n (by omega), hS.2 1 (by omega), i2, i3, nI_add, lt_eq]
  by_cases c12 : T 1 = 12
  · obtain ⟨M', f1, f2, f3, _⟩ := X11_fail_y (fu := fu) (m := m) 4 h0 hX.2.1
    have f1 : fX11_fail fu m 4 M = some M' := f1
    rw [if_pos (show nI (T 1) = (12 : Int32) by rw [c12]; rfl), if_pos c12, f1, bm_s]
    unfold fX11_readSpan_j45
    rw [f2.1, if_neg (np0 (k := 4) (by omega) (by omega)).1, wp_some]
    exact LM.fl (by omega) (by omega) f2 f3.rb
  rw [if_neg (show ¬ nI (T 1) = (12 : Int32) from fun z => c12 ((nI_eq (a := T 1) (b := 12) (by omega) (by omega)).mp z)), if_neg c12]
  unfold fX11_readSpan_j45
  rw [h0, if_pos (show nI 0 ≤ (0 : Int32) by decide), wp_bm]
  refine (X11_scan hfu hT hX.1 e0.2).mono fun M1 q => ?_
  obtain ⟨X1, F1⟩ := q
  have T1 := hT.fm F1
  have S1 := hS.fq F1.fq
  have z1 : M1.1 m 14 = nI 0 := F1.f14.trans h0
  rw [X11_spaceOf hb S1 (by have := hG.1.2.1; omega), bi_s, es, wp_bw]
  have hle := nuC_le (t := t) (n := n) (p := enT t n p) 0 (2 ^ T 140 - 1)
  refine (X11_numeral_y (lo := 0) (hi := 2 ^ T 140 - 1) hfu T1 X1 e0.2 z1 (by omega) (by omega)).mono fun z q => ?_
  obtain ⟨r1, M2⟩ := z
  dsimp only at *
  rcases q with ⟨q1, q2, q3, q4⟩ | ⟨q1, q2, q3⟩
  · subst q2
    obtain ⟨u1, u2, u3⟩ := nuC_0.mp q1
    have T2 := T1.fm q4
    have S2 := S1.fq q4.fq
    have z2 : M2.1 m 14 = nI 0 := q4.f14.trans z1
    rw [if_pos q1, X11_spaceOf hb S2 (by have := hG.1.2.1; omega), bi_s, es, wp_bw]
    have hle2 := nuC_le (t := t) (n := n) (p := enT t n (enT t n p)) (vaT t n (enT t n p)) (2 ^ T 140 - 1)
    refine (X11_numeral_y (lo := vaT t n (enT t n p)) (hi := 2 ^ T 140 - 1) hfu T2 q3 e1.2 z2 (by omega) (by omega)).mono fun z w => ?_
    obtain ⟨r2, M3⟩ := z
    dsimp only at *
    rcases w with ⟨w1, w2, w3, w4⟩ | ⟨w1, w2, w3⟩
    · subst w2
      obtain ⟨v1, v2, v3⟩ := nuC_0.mp w1
      have T3 := T2.fm w4
      have S3 := S2.fq w4.fq
      have z3 : M3.1 m 14 = nI 0 := w4.f14.trans z2
      rw [if_pos w1, wp_bw]
      refine (X11_kindTold_y hfu T3 w3 e2.2 z3).mono fun z y => ?_
      obtain ⟨r3, M4⟩ := z
      dsimp only at *
      rcases y with ⟨y1, y2, y3, y4⟩ | ⟨y1, y2, y3⟩
      · subst y2
        have S4 := S3.fq y4.fq
        have z4 : M4.1 m 14 = nI 0 := y4.f14.trans z3
        have e11 : nI (140 * b + 2 + 3 * T 1) + 1 = nI (140 * b + 2 + 3 * T 1 + 1) := nI_1 _
        have e22 : nI (140 * b + 2 + 3 * T 1) + 2 = nI (140 * b + 2 + 3 * T 1 + 2) := nI_add _ 2
        rw [if_neg y1, z4, if_pos (show nI 0 ≤ (0 : Int32) by decide), e11, e22, i1, if_neg (nI_in (by omega) (by omega)), lt_eq, if_neg (nI_in (by omega) (by omega)), lt_eq, if_neg (nI_in (by omega) (by omega)), lt_eq, if_neg (nI_in (by omega) (by omega)), lt_eq, ix_n (by omega), ix_n (by omega), ix_n (by omega), ix_n (by omega), wp_some]
        have P : ∀ M', M' = wI (wI (wI M4 (m + 5) (140 * b + 2 + 3 * T 1) (nI (vaT t n (enT t n p)))) (m + 5) (140 * b + 2 + 3 * T 1 + 1) (nI (vaT t n (enT t n (enT t n p))))) (m + 5) (140 * b + 2 + 3 * T 1 + 2) (nI (kiT t n (enT t n (enT t n (enT t n p))))) → M'.1 (m + 5) (140 * b + 1) = nI (T 1) ∧ LM t n (spL t n (enT t n (enT t n (enT t n (enT t n p)))) (adS T (vaT t n (enT t n p)) (vaT t n (enT t n (enT t n p))) (kiT t n (enT t n (enT t n (enT t n p)))))) g M m b (wI M' (m + 5) (140 * b + 1) (nI (T 1 + 1))) := fun M' e => by
          subst e
          refine ⟨?_, Or.inl ⟨?_, ?_, enT t n (enT t n (enT t n (enT t n p))), adS T (vaT t n (enT t n p)) (vaT t n (enT t n (enT t n p))) (kiT t n (enT t n (enT t n (enT t n p)))), e3.2, (((y3.wb (by omega)).wb (by omega)).wb (by omega)).wb (by omega), ?_, rfl⟩, ?_⟩
          · simp (disch := omega) only [wI_ne, wI_eq, wI_nk, wIs_ne, wIs_eq]
            exact S4.2 1 (by omega)
          · simp (disch := omega) only [wI_ne, wI_eq, wI_nk, wIs_ne, wIs_eq]
            exact z4
          · exact (((((((hF.fm F1).fm q4).fm w4).fm y4).wb (by omega)).wb (by omega)).wb (by omega)).wb (by omega)
          · have a := ((((S4.wk (k := 2 + 3 * T 1) (by omega) (vaT t n (enT t n p))).wk (k := 2 + 3 * T 1 + 1) (by omega) (vaT t n (enT t n (enT t n p)))).wk (k := 2 + 3 * T 1 + 2) (by omega) (kiT t n (enT t n (enT t n (enT t n p)))))).wk (k := 1) (by omega) (T 1 + 1)
            rw [show 140 * b + (2 + 3 * T 1) = 140 * b + 2 + 3 * T 1 by omega, show 140 * b + (2 + 3 * T 1 + 1) = 140 * b + 2 + 3 * T 1 + 1 by omega, show 140 * b + (2 + 3 * T 1 + 2) = 140 * b + 2 + 3 * T 1 + 2 by omega] at a
            refine a.cg fun k hk => ?_
            unfold adS upS
            by_cases k1 : k = 1
            · rw [if_pos k1, if_pos k1]
            rw [if_neg k1, if_neg k1]
            by_cases k2 : k = 2 + 3 * T 1
            · rw [if_pos k2, if_neg (by omega), if_neg (by omega), if_pos k2]
            rw [if_neg k2]
            by_cases k3 : k = 3 + 3 * T 1
            · rw [if_pos k3, if_neg (by omega), if_pos (by omega)]
            rw [if_neg k3]
            by_cases k4 : k = 4 + 3 * T 1
            · rw [if_pos k4, if_pos (by omega)]
            rw [if_neg k4, if_neg (by omega), if_neg (by omega), if_neg (by omega)]
          · exact (((((((F1.fq.tr q4.fq).tr w4.fq).tr y4.fq).rb.tr (RB.wb _ (Or.inr ⟨rfl, by omega, by omega⟩))).tr (RB.wb _ (Or.inr ⟨rfl, by omega, by omega⟩))).tr (RB.wb _ (Or.inr ⟨rfl, by omega, by omega⟩)))).tr (RB.wb _ (Or.inr ⟨rfl, by omega, by omega⟩))
        obtain ⟨P1, P2⟩ := P _ rfl
        rw [P1, nI_1]
        exact P2
      · rw [if_pos y1, y2.1, if_neg (np0 (k := 1) (by omega) (by omega)).1, wp_some]
        exact LM.fl (by omega) (by omega) y2 (((F1.fq.tr q4.fq).tr w4.fq).tr y3).rb
    · obtain ⟨v, e⟩ := X11_kindTold_n (fu := fu) w2.1 (by omega) hle2
      rw [if_neg w1, e, bw_s, w2.1, if_neg (np0 (by omega) hle2).1, wp_some]
      exact LM.fl w1 hle2 w2 ((F1.fq.tr q4.fq).tr w3).rb
  · rw [if_neg q1]
    have S2 := S1.fq q3
    obtain ⟨v, e⟩ := X11_numeral_n (fu := fu) r1 (nI (2 ^ T 140) - 1) q2.1 (by omega) hle
    obtain ⟨v', e'⟩ := X11_kindTold_n (fu := fu) q2.1 (by omega) hle
    rw [X11_spaceOf hb S2 (by have := hG.1.2.1; omega), bi_s, e, bw_s, e', bw_s, q2.1, if_neg (np0 (by omega) hle).1, wp_some]
    exact LM.fl q1 hle q2 (F1.fq.tr q3).rb
theorem X11_readPage (hfu : 200000 ≤ fu) (hb : b < 2) (hT : TpM t n M m) (hX : TM t n p M m) (hpn : p ≤ n) (h0 : M.1 m 14 = nI 0) (hS : RS T M m b) (hF : GM g M m) (hG : Gd T) : Wp (fX11_readPage fu m (nI b) M) (LM t n (l11 t n (enT t n p) T) g M m b) := by
  have hA := hG.ad
  have e0 := en_le (t := t) hpn
  have e1 := en_le (t := t) e0.2
  have e2 := en_le (t := t) e1.2
  have e3 := en_le (t := t) e2.2
  have es : nI (2 ^ T 140) / 16 - 1 = nI (2 ^ T 140 / 16 - 1) := by
    rw [show nI (2 ^ T 140) / 16 = nI (2 ^ T 140 / 16) from zi_div (b := 16) (by omega) (by omega)]
    exact zi_sub (b := 1) (by omega)
  unfold fX11_readPage l11
  rw [wp_bm]
  refine (X11_scan hfu hT hX.1 e0.2).mono fun M1 q => ?_
  obtain ⟨X1, F1⟩ := q
  have T1 := hT.fm F1
  have S1 := hS.fq F1.fq
  have z1 : M1.1 m 14 = nI 0 := F1.f14.trans h0
  have bad : ∀ k q M', ¬ k = 0 → k < 5 → Dn k q M' m → FQ m M1 M' → Wp (fX11_readPage_j76 fu m (nI b) M') (LM t n (Fl k q) g M m b) := fun k q M' hk hk5 hd hf => by
    unfold fX11_readPage_j76
    rw [lt_eq, hd.1, if_neg (np0 (by omega) hk5).1, wp_some]
    exact LM.fl hk hk5 hd (F1.fq.tr hf).rb
  rw [X1.2.2.1]
  by_cases c1 : tyT t n (enT t n p) = 1
  · rw [if_pos (tk3.mpr c1), X11_spaceOf hb S1 (by have := hG.1.2.1; omega), bi_s, es, X11_isIn, bi_s]
    by_cases c2 : vaT t n (enT t n p) ≤ 2 ^ T 140 / 16 - 1
    · have e : nuC t n (enT t n p) 0 (2 ^ T 140 / 16 - 1) = 0 := nuC_0.mpr ⟨c1, by omega, c2⟩
      have hv : M1.1 m 12 = nI (vaT t n (enT t n p)) := by
        rcases X1.2.2.2.1 c1 with ⟨v1, v2⟩ | ⟨v1, y, v2, v3, v4⟩
        · exact v2
        · omega
      have i1 : (140 : Int32) * nI b + 76 + nI (vaT t n (enT t n p)) = nI (140 * b + 76 + vaT t n (enT t n p)) := by
        rw [show (140 : Int32) * nI b + 76 = nI (140 * b + 76) from bix b 76, nI_add]
      have hb5 := hG.2.1 (76 + vaT t n (enT t n p))
      have hrd := S1.2 (76 + vaT t n (enT t n p)) (by omega)
      rw [show 140 * b + (76 + vaT t n (enT t n p)) = 140 * b + 76 + vaT t n (enT t n p) by omega] at hrd
      rw [if_pos e, hv, bI_t ⟨nI_le (a := 0) (by omega) (by omega), nI_le c2 (by omega)⟩, if_neg (show ¬ nI 1 = (0 : Int32) by decide), i1, if_neg (nI_in (by omega) (by omega)), ix_n (by omega), hrd]
      by_cases c5 : T (76 + vaT t n (enT t n p)) = 5
      · rw [if_pos (show nI (T (76 + vaT t n (enT t n p))) = (5 : Int32) by rw [c5]; rfl), if_pos c5]
        unfold fX11_readPage_j76
        rw [lt_eq, hv, z1, if_pos (show nI 0 ≤ (0 : Int32) by decide), wp_bm]
        refine (X11_scan hfu T1 X1.1 e1.2).mono fun M2 w => ?_
        obtain ⟨X2, F2⟩ := w
        have T2 := T1.fm F2
        have S2 := S1.fq F2.fq
        have z2 : M2.1 m 14 = nI 0 := F2.f14.trans z1
        rw [wp_bw]
        refine (X11_kindTold_y hfu T2 X2 e1.2 z2).mono fun z y => ?_
        obtain ⟨r3, M4⟩ := z
        dsimp only at *
        rcases y with ⟨y1, y2, y3, y4⟩ | ⟨y1, y2, y3⟩
        · subst y2
          have z4 : M4.1 m 14 = nI 0 := y4.f14.trans z2
          rw [if_neg y1, z4, if_pos (show nI 0 = (0 : Int32) from rfl), i1, if_neg (nI_in (by omega) (by omega)), ix_n (by omega), lt_eq]
          unfold fX11_readPage_j121
          rw [wp_some]
          have a := (S2.fq y4.fq).wk (k := 76 + vaT t n (enT t n p)) (by omega) (kiT t n (enT t n (enT t n p)))
          rw [show 140 * b + (76 + vaT t n (enT t n p)) = 140 * b + 76 + vaT t n (enT t n p) by omega] at a
          exact ⟨Or.inl ⟨by rw [wI_ne (by omega)]; exact z4, (((hF.fm F1).fm F2).fm y4).wb (by omega), enT t n (enT t n (enT t n p)), _, e2.2, y3.wb (by omega), a, rfl⟩, ((F1.fq.tr F2.fq).tr y4.fq).rb.tr (RB.wb _ (Or.inr ⟨rfl, by omega, by omega⟩))⟩
        · rw [if_pos y1, y2.1, if_neg (show ¬ nI 1 = (0 : Int32) by decide)]
          unfold fX11_readPage_j121
          rw [wp_some]
          exact LM.fl (by omega) (by omega) y2 ((F1.fq.tr F2.fq).tr y3).rb
      · obtain ⟨M', f1, f2, f3, _⟩ := X11_fail_y (fu := fu) (m := m) 3 z1 X1.2.1
        have f1 : fX11_fail fu m 3 M1 = some M' := f1
        rw [if_neg (show ¬ nI (T (76 + vaT t n (enT t n p))) = (5 : Int32) from fun z => c5 ((nI_eq (a := T (76 + vaT t n (enT t n p))) (b := 5) (by omega) (by omega)).mp z)), if_neg c5, f1, bm_s]
        exact bad 3 _ M' (by omega) (by omega) f2 f3
    · have e : nuC t n (enT t n p) 0 (2 ^ T 140 / 16 - 1) = 2 := by
        unfold nuC
        rw [if_pos c1, if_neg (by omega)]
      have hv : ¬ ((0 : Int32) ≤ M1.1 m 12 ∧ M1.1 m 12 ≤ nI (2 ^ T 140 / 16 - 1)) := by
        rcases X1.2.2.2.1 c1 with ⟨v1, v2⟩ | ⟨v1, y, v2, v3, v4⟩
        · rw [v2]
          exact fun z => nI_ge (by omega) (by omega) z.2
        · rw [v4]
          exact fun z => nI_ge (by omega) (by omega) z.2
      obtain ⟨M', f1, f2, f3, _⟩ := X11_fail_y (fu := fu) (m := m) 2 z1 X1.2.1
      have f1 : fX11_fail fu m 2 M1 = some M' := f1
      rw [bI_f hv, if_pos (show nI 0 = (0 : Int32) from rfl), f1, bm_s, if_neg (by omega), e]
      exact bad 2 _ M' (by omega) (by omega) f2 f3
  · have e : nuC t n (enT t n p) 0 (2 ^ T 140 / 16 - 1) = 1 := if_neg c1
    obtain ⟨M', f1, f2, f3, _⟩ := X11_fail_y (fu := fu) (m := m) 1 z1 X1.2.1
    have f1 : fX11_fail fu m 1 M1 = some M' := f1
    rw [if_neg (fun z => c1 (tk3.mp z)), f1, bm_s, if_neg (by omega), e]
    exact bad 1 _ M' (by omega) (by omega) f2 f3
end BL
