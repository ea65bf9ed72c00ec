/-! The reference's best set. -/
def W3 (M : Mm) (m : Nat) (st : List Bk) : Prop := WT M m (st.map fun p => (p.1, p.2.1)) ∧ ∀ (i : Nat) (p : Bk), st[i]? = some p → M.1 (m + 19) i = nI p.2.2
def Lg (m : Nat) (M M' : Mm) : Prop := (∀ c, c ≠ m → (c < m + 12 ∨ m + 19 < c ∨ c = m + 17 ∨ c = m + 18) → M'.1 c = M.1 c) ∧ (∀ j, j ≠ 32 → j ≠ 33 → M'.1 m j = M.1 m j) ∧ M'.2 = M.2
theorem Lg.tr {m : Nat} {M M' M'' : Mm} (h : Lg m M M') (h' : Lg m M' M'') : Lg m M M'' := ⟨fun c h1 h2 => (h'.1 c h1 h2).trans (h.1 c h1 h2), fun j h1 h2 => (h'.2.1 j h1 h2).trans (h.2.1 j h1 h2), h'.2.2.trans h.2.2⟩
theorem Lf.lg {m : Nat} {M M' : Mm} (h : Lf m M M') : Lg m M M' := ⟨fun c h1 h2 => h.1 c h1 (by omega), h.2.1, h.2.2⟩
theorem Lg.sc {m : Nat} {M M' : Mm} (h : Lg m M M') : Sc m M M' := ⟨fun c h1 h2 => h.1 c h1 (by omega), fun j _ h1 h2 _ _ _ _ => h.2.1 j h1 h2, h.2.2⟩
def Cm (S : Sto) (R : Nat) (M : Mm) (m : Nat) : Prop := VM S M m ∧ WV (wi S (S 0)) (S 140) M m ∧ M.1 m 25 = nI (S 0) ∧ MV (wi S (S 0)) (S 0) (S 140) R M m
theorem Cm.lg {S : Sto} {R m : Nat} {M M' : Mm} (h : Cm S R M m) (g : Lg m M M') : Cm S R M' m := by
  refine ⟨h.1.sc g.sc, ?_, ?_, ?_⟩
  · unfold WV; rw [g.1 (m + 8) (by omega) (by omega)]; exact h.2.1
  · rw [g.2.1 25 (by omega) (by omega)]; exact h.2.2.1
  · unfold MV; rw [g.1 (m + 18) (by omega) (by omega)]; exact h.2.2.2
section RB
variable {fu m R : Nat} {S : Sto} {M : Mm} {st : List Bk} {l : List Bk}
theorem X11_waitsWith {a b c : Nat} (hW : W3 M m st) (hs : st.length < 4200) : Wp (fX11_waitsWith fu m (nI a) (nI b) (nI c) M) (fun M' => W3 M' m (st ++ [(a, b, c)]) ∧ Lg m M M' ∧ ∀ l, MB M m l → MB M' m l) := by
  have h32 : M.1 m 32 = nI st.length := by have := hW.1.1; rw [List.length_map] at this; exact this
  simp (disch := omega) only [fX11_waitsWith, h32, zi_li, zi_m, zi_m1, nI_add, zi_sub, zi_mul, zi_addm, zi_m_lt, zi_lt_m, zi_m_le, zi_le_m, zi_eq_m, zi_m_eq, nI_ltI, nI_leI, nI_eq, nI_clamp, zi_div, lt_eq, bm_s, bi_s, bl_s, bw_s, gd, if_pos, if_neg, ite_true, ite_false, or_false, false_or, and_true, true_and, not_true, not_false_iff, true_or, or_true, Nat.not_lt_zero]
  have W1 : WT (wI M (m + 19) st.length (nI c)) m (st.map fun p => (p.1, p.2.1)) := by
    refine ⟨?_, fun i p hp => ?_⟩
    · simp (disch := omega) only [wI_ne, wI_eq, wI_nk, wIs_ne, wIs_eq]; exact hW.1.1
    · simp (disch := omega) only [wI_ne, wI_eq, wI_nk, wIs_ne, wIs_eq]; exact hW.1.2 i p hp
  rw [wp_bm]
  refine (X11_waits (fu := fu) (a := a) (b := b) W1 (by rw [List.length_map]; exact hs)).mono fun M2 h2 => ?_
  obtain ⟨q1, q2, q3⟩ := h2
  rw [wp_some]
  refine ⟨⟨by rw [List.map_append]; exact q1, fun i p hp => ?_⟩, ⟨fun c' h1 h2 => ?_, fun j h1 h2 => ?_, ?_⟩, fun l hl => q3 l ⟨?_, fun i p hp => ?_⟩⟩
  · rw [q2.1 (m + 19) (by omega) (by omega)]
    by_cases ci : i < st.length
    · rw [List.getElem?_append_left ci] at hp
      simp (disch := omega) only [wI_ne, wI_eq, wI_nk, wIs_ne, wIs_eq]
      exact hW.2 i p hp
    · rw [List.getElem?_append_right (by omega)] at hp
      have h1 : i - st.length = 0 := by
        by_cases d : i - st.length = 0
        · exact d
        · rw [List.getElem?_eq_none (by simp; omega)] at hp
          cases hp
      rw [h1] at hp
      have h2 : i = st.length := by omega
      cases hp
      subst h2
      simp (disch := omega) only [wI_ne, wI_eq, wI_nk, wIs_ne, wIs_eq]
  · rw [q2.1 c' h1 (by omega)]
    simp (disch := omega) only [wI_ne, wI_eq, wI_nk, wIs_ne, wIs_eq]
  · rw [q2.2.1 j h1 h2]
    simp (disch := omega) only [wI_ne, wI_eq, wI_nk, wIs_ne, wIs_eq]
  · rw [q2.2.2]; rfl
  · simp (disch := omega) only [wI_ne, wI_eq, wI_nk, wIs_ne, wIs_eq]; exact hl.1
  · simp (disch := omega) only [wI_ne, wI_eq, wI_nk, wIs_ne, wIs_eq]; exact hl.2 i p hp
theorem W3.pop {p : Bk} (h : W3 M m (st ++ [p])) : M.1 m 32 = nI (st.length + 1) ∧ (M.1 (m + 12) st.length = nI p.1 ∧ M.1 (m + 13) st.length = nI p.2.1 ∧ M.1 (m + 19) st.length = nI p.2.2) ∧ W3 (wI M m 32 (nI st.length)) m st := by
  obtain ⟨h1, h2⟩ := h
  rw [List.map_append] at h1
  obtain ⟨a1, a2, a3, a4⟩ := WT.pop h1
  rw [List.length_map] at a1 a2 a3 a4
  have h3 := h2 st.length p (by rw [List.getElem?_append_right (Nat.le_refl _), Nat.sub_self]; rfl)
  refine ⟨a1, ⟨a2, a3, h3⟩, a4, fun i p' hp => ?_⟩
  rw [wI_ne (by omega)]
  refine h2 i p' ?_
  have : i < st.length := by
    by_cases c : i < st.length
    · exact c
    · rw [List.getElem?_eq_none (by omega)] at hp; cases hp
  rw [List.getElem?_append_left this]
  exact hp
theorem W3.lf {M' : Mm} (h : W3 M m st) (hw : ∀ st, WT M m st → WT M' m st) (g : Lf m M M') : W3 M' m st := by
  refine ⟨hw _ h.1, fun i p hp => ?_⟩
  rw [g.1 (m + 19) (by omega) (by omega)]
  exact h.2 i p hp
theorem X11_mostAt {e q h r : Nat} (hG : Gd S) (hC : Cm S R M m) (he : e ≤ S 140) (hq : q < 2 ^ (S 140 - e)) (hh : h < 6) (hr : r ≤ R) (hR : R < 11) : fX11_mostAt fu m (nI (2 ^ (S 140 - e) + q)) (nI h) (nI r) M = some (nI (Gw (wi S (S 0)) (S 0) e q h r)) := by
  have ht := hG.1.2.1
  have hnl := nd_lt he hq
  have h11 : 2 ^ (S 140 + 1) ≤ 2 ^ 11 := Nat.pow_le_pow_right (by decide) (by omega)
  have v := hC.2.2.2 e q h r he hq hh hr
  simp (disch := omega) only [fX11_mostAt, zi_li, zi_m, zi_m1, nI_add, zi_sub, zi_mul, zi_addm, zi_m_lt, zi_lt_m, zi_m_le, zi_le_m, zi_eq_m, zi_m_eq, nI_ltI, nI_leI, nI_eq, nI_clamp, zi_div, lt_eq, bm_s, bi_s, bl_s, bw_s, gd, if_pos, if_neg, ite_true, ite_false, or_false, false_or, and_true, true_and, not_true, not_false_iff, true_or, or_true, Nat.not_lt_zero, v]
def lsF (fu m : Nat) : (Mm → Option Mm) → Mm → Option Mm := fun rec s => fX11_laySet_b25 fu (fun M => rec M) m s
theorem X11_laySetAt (hfu : 200000 ≤ fu) (hG : Gd S) (hR : R < 11) {e q h r : Nat} (hC : Cm S R M m) (he : e ≤ S 140) (hq : q < 2 ^ (S 140 - e)) (hh : h < 6) (hr : r ≤ R) (hs : st.length + 2 < 4200) (hW : W3 M m st) (hB : MB M m l) (hl : l.length < 2100) :
    ∃ M', fX11_laySetAt fu m (nI (2 ^ (S 140 - e) + q)) (nI h) (nI r) M = some M' ∧ Lg m M M' ∧
      ((RI (wi S (S 0)) (S 0) e q h = Gw (wi S (S 0)) (S 0) e q h r ∧ W3 M' m st ∧ MB M' m l) ∨
       (¬ RI (wi S (S 0)) (S 0) e q h = Gw (wi S (S 0)) (S 0) e q h r ∧ ∃ e1 x, e = e1 + 1 ∧ hv (wi S (S 0)) (S 0) e q h r = some x ∧ x ≤ r ∧ W3 M' m ((st ++ [(2 ^ (S 140 - e1) + (2 * q + 1), h, r - x)]) ++ [(2 ^ (S 140 - e1) + 2 * q, h, x)]) ∧ MB M' m l) ∨
       (¬ RI (wi S (S 0)) (S 0) e q h = Gw (wi S (S 0)) (S 0) e q h r ∧ hv (wi S (S 0)) (S 0) e q h r = none ∧ W3 M' m (st ++ [(2 ^ (S 140 - e) + q, md h (fm (Gw (wi S (S 0)) (S 0) e q) h r), r - 1)]) ∧ MB M' m (l ++ [(q * 2 ^ e, 2 ^ e, fm (Gw (wi S (S 0)) (S 0) e q) h r)]))) := by
  have hd5 := hG.1.2.2.2.2.1
  have hA := hG.ad
  have ht := hG.1.2.1
  have hnl := nd_lt he hq
  have hn0 := nd_0 he hq
  have ht2 := pw1 (S 140)
  have h11 : 2 ^ (S 140 + 1) ≤ 2 ^ 11 := Nat.pow_le_pow_right (by decide) (by omega)
  have lG : ∀ e q h r, e ≤ S 140 → h < 6 → Gw (wi S (S 0)) (S 0) e q h r ≤ 1024 := fun e q h r he hh => by
    have h1 := Gw_le (w := wi S (S 0)) hd5 e q h r hh
    have h2 := OP_le (wi S (S 0)) e q
    have h3 : 2 ^ e ≤ 2 ^ S 140 := Nat.pow_le_pow_right (by decide) he
    omega
  have mA := X11_mostAt (fu := fu) hG hC he hq hh hr hR
  have ri := X11_rightIn hfu hC.1 hG hd5 hC.2.1 hC.2.2.1 he hq hh
  have g0 := lG e q h 0 he hh
  rw [Gw_0] at g0
  have g1 := lG e q h r he hh
  have beg : fX11_laySetAt fu m (nI (2 ^ (S 140 - e) + q)) (nI h) (nI r) M = if RI (wi S (S 0)) (S 0) e q h = Gw (wi S (S 0)) (S 0) e q h r then some M else fX11_laySetAt_l24 fu m (nI (2 ^ (S 140 - e) + q)) (nI h) (nI r) (nI (Gw (wi S (S 0)) (S 0) e q h r)) M (nI 0) := by
    simp (disch := omega) only [fX11_laySetAt, mA, ri, zi_li, zi_m, zi_m1, nI_add, zi_sub, zi_mul, zi_addm, zi_m_lt, zi_lt_m, zi_m_le, zi_le_m, zi_eq_m, zi_m_eq, nI_ltI, nI_leI, nI_eq, nI_clamp, zi_div, lt_eq, bm_s, bi_s, bl_s, bw_s, gd]
  rw [beg]
  by_cases c0 : RI (wi S (S 0)) (S 0) e q h = Gw (wi S (S 0)) (S 0) e q h r
  · rw [if_pos c0]
    exact ⟨M, rfl, (Lf.rf m M).lg, Or.inl ⟨c0, hW, hB⟩⟩
  rw [if_neg c0]
  have hr0 := Bl_r c0
  -- the block itself
  have itself : hv (wi S (S 0)) (S 0) e q h r = none → ∃ M', fX11_laySetAt_j102 fu m (nI (2 ^ (S 140 - e) + q)) (nI h) (nI r) (nI (Gw (wi S (S 0)) (S 0) e q h r)) M = some M' ∧ Lg m M M' ∧ W3 M' m (st ++ [(2 ^ (S 140 - e) + q, md h (fm (Gw (wi S (S 0)) (S 0) e q) h r), r - 1)]) ∧ MB M' m (l ++ [(q * 2 ^ e, 2 ^ e, fm (Gw (wi S (S 0)) (S 0) e q) h r)]) := fun hno => by
    have hx := Bl_x hh c0 hno
    obtain ⟨f1, f2, f3⟩ := fm_ok hx
    have gg : ∀ i, i < 5 → ∀ rec : Int32 → Option Mm, (fmP (Gw (wi S (S 0)) (S 0) e q) h r i → fX11_laySetAt_b105 fu (fun x5 => rec x5) m (nI (2 ^ (S 140 - e) + q)) (nI h) (nI r) (nI (Gw (wi S (S 0)) (S 0) e q h r)) (nI i) M = fX11_laySetAt_j139 fu m (nI (2 ^ (S 140 - e) + q)) (nI h) (nI r) (nI i) M) ∧ (¬ fmP (Gw (wi S (S 0)) (S 0) e q) h r i → fX11_laySetAt_b105 fu (fun x5 => rec x5) m (nI (2 ^ (S 140 - e) + q)) (nI h) (nI r) (nI (Gw (wi S (S 0)) (S 0) e q h r)) (nI i) M = rec (nI (i + 1))) := fun i hi rec => by
      have hm := md_lt h hh i hi
      have hb := X11_madeBy (fu := fu) hh hi
      by_cases c3 : md h i = 9
      · refine ⟨fun c => absurd c3 c.1, fun _ => ?_⟩
        have hb1 : fX11_madeBy fu (nI h) (nI i) = some mI := by rw [hb, if_pos c3]
        have q3 : mI < 0 := by decide +kernel
        unfold fX11_laySetAt_b105 fX11_laySetAt_j133
        rw [hb1, bi_s, if_pos q3, lt_eq, nI_1]
      · have hb1 : fX11_madeBy fu (nI h) (nI i) = some (nI (md h i)) := by rw [hb, if_neg c3]
        have h3 := hm c3
        have mB := X11_mostAt (fu := fu) (h := md h i) (r := r - 1) hG hC he hq (by omega) (by omega) hR
        have g2 := lG e q (md h i) (r - 1) he (by omega)
        have e1 : fX11_laySetAt_b105 fu (fun x5 => rec x5) m (nI (2 ^ (S 140 - e) + q)) (nI h) (nI r) (nI (Gw (wi S (S 0)) (S 0) e q h r)) (nI i) M = if Gw (wi S (S 0)) (S 0) e q (md h i) (r - 1) = Gw (wi S (S 0)) (S 0) e q h r then fX11_laySetAt_j139 fu m (nI (2 ^ (S 140 - e) + q)) (nI h) (nI r) (nI i) M else rec (nI (i + 1)) := by
          simp (disch := omega) only [fX11_laySetAt_b105, fX11_laySetAt_j133, hb1, zi_li, zi_m, zi_m1, nI_add, zi_sub, zi_mul, zi_addm, zi_m_lt, zi_lt_m, zi_m_le, zi_le_m, zi_eq_m, zi_m_eq, nI_ltI, nI_leI, nI_eq, nI_clamp, zi_div, lt_eq, bm_s, bi_s, bl_s, bw_s, gd, if_pos, if_neg, ite_true, ite_false, or_false, false_or, and_true, true_and, not_true, not_false_iff, true_or, or_true, Nat.not_lt_zero, mB]
        rw [e1]
        exact ⟨fun c => if_pos c.2, fun c => if_neg fun c2 => c ⟨c3, c2⟩⟩
    have hm := md_lt h hh _ f1 f2.1
    have key : Wp (fX11_laySetAt_j102 fu m (nI (2 ^ (S 140 - e) + q)) (nI h) (nI r) (nI (Gw (wi S (S 0)) (S 0) e q h r)) M) (fun M' => Lg m M M' ∧ W3 M' m (st ++ [(2 ^ (S 140 - e) + q, md h (fm (Gw (wi S (S 0)) (S 0) e q) h r), r - 1)]) ∧ MB M' m (l ++ [(q * 2 ^ e, 2 ^ e, fm (Gw (wi S (S 0)) (S 0) e q) h r)])) := by
      unfold fX11_laySetAt_j102 fX11_laySetAt_l105
      refine lp_ho (fun i z => z = nI i) _ (fm (Gw (wi S (S 0)) (S 0) e q) h r) (i := 0) (by omega) (by omega) rfl (fun i z hi hz rec hrec => ?_) (fun z hz rec => ?_)
      · subst hz
        rw [(gg i (by omega) rec).2 (f3 i hi)]
        exact hrec _ rfl
      · subst hz
        rw [(gg _ f1 rec).1 f2]
        have hb1 : fX11_madeBy fu (nI h) (nI (fm (Gw (wi S (S 0)) (S 0) e q) h r)) = some (nI (md h (fm (Gw (wi S (S 0)) (S 0) e q) h r))) := by rw [X11_madeBy hh f1, if_neg f2.1]
        have er : nI r - 1 = nI (r - 1) := by simp (disch := omega) only [zi_li, zi_m, zi_m1, nI_add, zi_sub, zi_mul, zi_addm, zi_m_lt, zi_lt_m, zi_m_le, zi_le_m, zi_eq_m, zi_m_eq, nI_ltI, nI_leI, nI_eq, nI_clamp, zi_div, lt_eq, bm_s, bi_s, bl_s, bw_s, gd]
        unfold fX11_laySetAt_j139
        rw [wp_bm]
        refine (X11_layBlock hfu hC.1 hG he hq hB hl).mono fun M1 h1 => ?_
        obtain ⟨a1, a2, a3⟩ := h1
        rw [hb1, bi_s, er, wp_bm]
        refine (X11_waitsWith (fu := fu) (hW.lf a3 a2) (by omega)).mono fun M2 h2 => ?_
        obtain ⟨b1, b2, b3⟩ := h2
        rw [wp_some]
        exact ⟨a2.lg.tr b2, b1, b3 _ a1⟩
    obtain ⟨M', e', k1, k2, k3⟩ := key
    exact ⟨M', e', k1, k2, k3⟩
  unfold fX11_laySetAt_l24
  have ad := X11_addresses (fu := fu) hC.1 hG
  by_cases ce : e = 0
  · subst ce
    obtain ⟨M', e', k1, k2, k3⟩ := itself rfl
    refine ⟨M', ?_, k1, Or.inr (Or.inr ⟨c0, rfl, k2, k3⟩)⟩
    obtain ⟨z, hz⟩ : ∃ z, fu = z + 1 := ⟨fu - 1, by omega⟩
    have : lp (fun (rec : Int32 → Option Mm) (s : Int32) => fX11_laySetAt_b24 fu (fun x5 => rec x5) m (nI (2 ^ (S 140 - 0) + q)) (nI h) (nI r) (nI (Gw (wi S (S 0)) (S 0) 0 q h r)) s M) fu (nI 0) = lp (fun (rec : Int32 → Option Mm) (s : Int32) => fX11_laySetAt_b24 fu (fun x5 => rec x5) m (nI (2 ^ (S 140 - 0) + q)) (nI h) (nI r) (nI (Gw (wi S (S 0)) (S 0) 0 q h r)) s M) (z + 1) (nI 0) := by rw [← hz]
    rw [this, lp_S]
    unfold fX11_laySetAt_b24
    rw [if_neg (nI_nlt (Nat.zero_le _) (by omega)), ad, bi_s, if_pos (nI_le (by omega) (by omega))]
    exact e'
  · obtain ⟨e1, rfl⟩ : ∃ e1, e = e1 + 1 := ⟨e - 1, by omega⟩
    obtain ⟨k1, k2⟩ := nd_k he hq
    have m2 : 2 * nI (2 ^ (S 140 - (e1 + 1)) + q) = nI (2 ^ (S 140 - e1) + 2 * q) := by rw [← k1]; simp (disch := omega) only [zi_li, zi_m, zi_m1, nI_add, zi_sub, zi_mul, zi_addm, zi_m_lt, zi_lt_m, zi_m_le, zi_le_m, zi_eq_m, zi_m_eq, nI_ltI, nI_leI, nI_eq, nI_clamp, zi_div, lt_eq, bm_s, bi_s, bl_s, bw_s, gd]
    have m1 : 2 * nI (2 ^ (S 140 - (e1 + 1)) + q) + 1 = nI (2 ^ (S 140 - e1) + (2 * q + 1)) := by rw [m2, nI_1]; rfl
    have step : ∀ i, i ≤ r → ∀ rec : Int32 → Option Mm, fX11_laySetAt_b24 fu (fun x5 => rec x5) m (nI (2 ^ (S 140 - (e1 + 1)) + q)) (nI h) (nI r) (nI (Gw (wi S (S 0)) (S 0) (e1 + 1) q h r)) (nI i) M = if Gw (wi S (S 0)) (S 0) e1 (2 * q) h i + Gw (wi S (S 0)) (S 0) e1 (2 * q + 1) h (r - i) = Gw (wi S (S 0)) (S 0) (e1 + 1) q h r then fX11_laySetAt_j71 fu m (nI (2 ^ (S 140 - (e1 + 1)) + q)) (nI h) (nI r) (nI i) M else rec (nI (i + 1)) := fun i hi rec => by
      have ma := X11_mostAt (fu := fu) (e := e1) (q := 2 * q) (h := h) (r := i) hG hC (by omega) (by omega) hh (by omega) hR
      have mb := X11_mostAt (fu := fu) (e := e1) (q := 2 * q + 1) (h := h) (r := r - i) hG hC (by omega) (by omega) hh (by omega) hR
      have g2 := lG e1 (2 * q) h i (by omega) hh
      have g3 := lG e1 (2 * q + 1) h (r - i) (by omega) hh
      have er : nI r - nI i = nI (r - i) := zi_sub hi
      unfold fX11_laySetAt_b24
      rw [if_neg (nI_nlt (by omega) (by omega)), ad, bi_s, if_neg (nI_ge (by omega) (by omega)), m1, m2, ma, bi_s, er, mb, bi_s, nI_add]
      by_cases c : Gw (wi S (S 0)) (S 0) e1 (2 * q) h i + Gw (wi S (S 0)) (S 0) e1 (2 * q + 1) h (r - i) = Gw (wi S (S 0)) (S 0) (e1 + 1) q h r
      · rw [if_pos c, c, if_pos rfl]
      · rw [if_neg c, if_neg (fun z => c ((nI_eq (by omega) (by omega)).mp z)), lt_eq, nI_1]
    cases hc : hv (wi S (S 0)) (S 0) (e1 + 1) q h r with
    | some x =>
      obtain ⟨x1, x2, x3⟩ := fxn_s hc
      have er : nI r - nI x = nI (r - x) := zi_sub x1
      obtain ⟨M2, e2, w1, w2, w3⟩ := X11_waitsWith (fu := fu) (a := 2 ^ (S 140 - e1) + (2 * q + 1)) (b := h) (c := r - x) hW (by omega)
      obtain ⟨M3, e3, v1, v2, v3⟩ := X11_waitsWith (fu := fu) (a := 2 ^ (S 140 - e1) + 2 * q) (b := h) (c := x) w1 (by rw [List.length_append]; show st.length + 1 < 4200; omega)
      refine ⟨M3, ?_, w2.tr v2, Or.inr (Or.inl ⟨c0, e1, x, rfl, rfl, x1, v1, v3 _ (w3 _ hB)⟩)⟩
      have key : Wp (lp (fun (rec : Int32 → Option Mm) (s : Int32) => fX11_laySetAt_b24 fu (fun x5 => rec x5) m (nI (2 ^ (S 140 - (e1 + 1)) + q)) (nI h) (nI r) (nI (Gw (wi S (S 0)) (S 0) (e1 + 1) q h r)) s M) fu (nI 0)) (fun v => v = M3) := by
        refine lp_ho (fun i z => z = nI i) _ x (i := 0) (by omega) (by omega) rfl (fun i z hi hz rec2 hrec2 => ?_) (fun z hz rec2 => ?_)
        · subst hz
          rw [step i (by omega), if_neg (x3 i hi)]
          exact hrec2 _ rfl
        · subst hz
          rw [step x x1, if_pos x2]
          unfold fX11_laySetAt_j71
          rw [m1, m2, er, e2, bm_s, e3, bm_s, wp_some]
      obtain ⟨v, ev, rfl⟩ := key
      exact ev
    | none =>
      have xn := fxn_n hc
      obtain ⟨M', e', k1', k2', k3'⟩ := itself hc
      refine ⟨M', ?_, k1', Or.inr (Or.inr ⟨c0, rfl, k2', k3'⟩)⟩
      have key : Wp (lp (fun (rec : Int32 → Option Mm) (s : Int32) => fX11_laySetAt_b24 fu (fun x5 => rec x5) m (nI (2 ^ (S 140 - (e1 + 1)) + q)) (nI h) (nI r) (nI (Gw (wi S (S 0)) (S 0) (e1 + 1) q h r)) s M) fu (nI 0)) (fun v => v = M') := by
        refine lp_ho (fun i z => z = nI i) _ (r + 1) (i := 0) (by omega) (by omega) rfl (fun i z hi hz rec2 hrec2 => ?_) (fun z hz rec2 => ?_)
        · subst hz
          rw [step i (by omega), if_neg (xn i (by omega))]
          exact hrec2 _ rfl
        · subst hz
          unfold fX11_laySetAt_b24
          rw [if_pos (nI_lt (by omega) (by omega)), e', wp_some]
      obtain ⟨v, ev, rfl⟩ := key
      exact ev
theorem X11_lsRun (hfu : 200000 ≤ fu) (hG : Gd S) (hR : R < 11) : ∀ (e q n h r : Nat) (st l : List Bk) (M : Mm), r < n → Cm S R M m → e ≤ S 140 → q < 2 ^ (S 140 - e) → h < 6 → r ≤ R → st.length + e + 4 < 4200 → W3 M m (st ++ [(2 ^ (S 140 - e) + q, h, r)]) → MB M m l → l.length + r < 2100 →
    ∃ k M', k + 1 ≤ 2 ^ (e + 1) + r ∧ Lg m M M' ∧ W3 M' m st ∧ MB M' m (l ++ Bl (wi S (S 0)) (S 0) e q h r) ∧ ∀ f, lp (lsF fu m) (f + k) M = lp (lsF fu m) f M'
  | e, q, 0, h, r, st, l, M, hn, _, _, _, _, _, _, _, _, _ => absurd hn (Nat.not_lt_zero _)
  | e, q, n + 1, h, r, st, l, M, hn, hC, he, hq, hh, hr, hs, hW, hB, hl => by
    have hpe := pwp e
    have hp1 := pw1 e
    obtain ⟨p1, ⟨p2, p3, p5⟩, p4⟩ := hW.pop
    have L1 : Lf m M (wI M m 32 (nI st.length)) := Lf.w0 _ _ (Or.inl rfl)
    generalize hM1 : wI M m 32 (nI st.length) = M1 at L1 p4
    have hC1 := hC.lg L1.lg
    have B1 : MB M1 m l := by
      rw [← hM1]
      refine ⟨?_, fun i p hp => ?_⟩
      · simp (disch := omega) only [wI_ne, wI_eq, wI_nk, wIs_ne, wIs_eq]; exact hB.1
      · simp (disch := omega) only [wI_ne, wI_eq, wI_nk, wIs_ne, wIs_eq]; exact hB.2 i p hp
    have a1 : M1.1 (m + 12) st.length = nI (2 ^ (S 140 - e) + q) := by rw [← hM1]; simp (disch := omega) only [wI_ne, wI_eq, wI_nk, wIs_ne, wIs_eq]; exact p2
    have a2 : M1.1 (m + 13) st.length = nI h := by rw [← hM1]; simp (disch := omega) only [wI_ne, wI_eq, wI_nk, wIs_ne, wIs_eq]; exact p3
    have a4 : M1.1 (m + 19) st.length = nI r := by rw [← hM1]; simp (disch := omega) only [wI_ne, wI_eq, wI_nk, wIs_ne, wIs_eq]; exact p5
    have a3 : M1.1 m 32 = nI st.length := by rw [← hM1]; simp (disch := omega) only [wI_ne, wI_eq, wI_nk, wIs_ne, wIs_eq]
    obtain ⟨M2, e2, g1, g3⟩ := X11_laySetAt hfu hG hR (e := e) (q := q) (h := h) (r := r) hC1 he hq hh hr (by omega) p4 B1 (by omega)
    have stp : ∀ rec, lsF fu m rec M = rec M2 := fun rec => by
      unfold lsF fX11_laySet_b25
      rw [p1]
      simp (disch := omega) only [zi_li, zi_m, zi_m1, nI_add, zi_sub, zi_mul, zi_addm, zi_m_lt, zi_lt_m, zi_m_le, zi_le_m, zi_eq_m, zi_m_eq, nI_ltI, nI_leI, nI_eq, nI_clamp, zi_div, lt_eq, bm_s, bi_s, bl_s, bw_s, gd, if_pos, if_neg, ite_true, ite_false, or_false, false_or, and_true, true_and, not_true, not_false_iff, true_or, or_true, Nat.not_lt_zero, Nat.add_sub_cancel, hM1, a3, a1, a2, a4, e2]
    have hC2 := hC1.lg g1
    have IHn := fun h' r' (hlt : r' < n) st l M => X11_lsRun hfu hG hR e q n h' r' st l M hlt
    have IHe := fun e1 (_ : e1 < e) q' h' r' st l M => X11_lsRun hfu hG hR e1 q' 12 h' r' st l M
    rcases g3 with ⟨c, w1, b1⟩ | ⟨c, e1, x, he1, hx, hxr, w1, b1⟩ | ⟨c, hx, w1, b1⟩
    · refine ⟨1, M2, by omega, L1.lg.tr g1, w1, ?_, fun f => ?_⟩
      · rw [Bl_0 c, List.append_nil]; exact b1
      · rw [lp_S, stp]
    · subst he1
      obtain ⟨k1, k2⟩ := nd_k he hq
      have hlen := Bl_len (wi S (S 0)) (S 0) e1 (2 * q) (x + 1) h x (by omega) hh
      obtain ⟨ka, Ma, x1, x2, x3, x4, x5⟩ := IHe e1 (Nat.lt_succ_self _) (2 * q) h x (st ++ [(2 ^ (S 140 - e1) + (2 * q + 1), h, r - x)]) l M2 (by omega) hC2 (by omega) (by omega) hh (by omega) (by rw [List.length_append]; show st.length + 1 + e1 + 4 < 4200; omega) w1 b1 (by omega)
      obtain ⟨kb, Mb, y1, y2, y3, y4, y5⟩ := IHe e1 (Nat.lt_succ_self _) (2 * q + 1) h (r - x) st (l ++ Bl (wi S (S 0)) (S 0) e1 (2 * q) h x) Ma (by omega) (hC2.lg x2) (by omega) (by omega) hh (by omega) (by omega) x3 x4 (by rw [List.length_append]; omega)
      have hp2 := pw1 e1
      refine ⟨kb + ka + 1, Mb, by omega, ((L1.lg.tr g1).tr x2).tr y2, y3, ?_, fun f => ?_⟩
      · rw [Bl_h c hx, ← List.append_assoc]; exact y4
      · rw [← Nat.add_assoc, lp_S, stp, ← Nat.add_assoc, x5, y5]
    · have hr0 := Bl_r c
      obtain ⟨f1, f2, f3⟩ := fm_ok (Bl_x hh c hx)
      have hm := md_lt h hh _ f1 f2.1
      obtain ⟨ka, Ma, x1, x2, x3, x4, x5⟩ := IHn (md h (fm (Gw (wi S (S 0)) (S 0) e q) h r)) (r - 1) (by omega) st (l ++ [(q * 2 ^ e, 2 ^ e, fm (Gw (wi S (S 0)) (S 0) e q) h r)]) M2 hC2 he hq (by omega) (by omega) hs w1 b1 (by rw [List.length_append]; show l.length + 1 + (r - 1) < 2100; omega)
      refine ⟨ka + 1, Ma, by omega, (L1.lg.tr g1).tr x2, x3, ?_, fun f => ?_⟩
      · rw [Bl_i c hx]
        rw [List.append_assoc] at x4
        exact x4
      · rw [← Nat.add_assoc, lp_S, stp, x5]
termination_by e _ n => (e, n)
theorem X11_laySet (hfu : 200000 ≤ fu) (hV : VM S M m) (hG : Gd S) (hR : R < 11) : Wp (fX11_laySet fu m (nI R) M) (fun M' => MB M' m (bsS S R) ∧ Sc m M M') := by
  have ht := hG.1.2.1
  have hd5 := hG.1.2.2.2.2.1
  have hA := hG.ad
  unfold fX11_laySet
  simp (disch := omega) only [lt_eq]
  generalize hM1 : wI (wI M m 33 0) m 32 0 = M1
  have L1 : Lf m M M1 := by rw [← hM1]; exact (Lf.w0 _ _ (Or.inr rfl)).tr (Lf.w0 _ _ (Or.inl rfl))
  have W1 : M1.1 m 32 = nI 0 := by rw [← hM1]; simp (disch := omega) only [wI_ne, wI_eq, wI_nk, wIs_ne, wIs_eq]; rfl
  have B1 : M1.1 m 33 = nI 0 := by rw [← hM1]; simp (disch := omega) only [wI_ne, wI_eq, wI_nk, wIs_ne, wIs_eq]; rfl
  rw [wp_bw]
  refine (X11_layAllMost hfu (hV.sc L1.sc) hG hR).mono fun z hz => ?_
  obtain ⟨z1, z2⟩ := z
  obtain ⟨rfl, b1, b2, b3, b4, b5, b6⟩ := hz
  dsimp only at *
  have lm : moS S R ≤ 1024 := by
    unfold moS
    have h1 := Gw_le (w := wi S (S 0)) hd5 (S 140) 0 5 R (by omega)
    have h2 := OP_le (wi S (S 0)) (S 140) 0
    omega
  have nn : ¬ nI (moS S R) < 0 := nI_pos (by omega)
  have W2 : W3 z2 m [] := ⟨⟨by rw [b6 32 (by omega)]; exact W1, fun i p hp => by simp at hp⟩, fun i p hp => by simp at hp⟩
  have B2 : MB z2 m [] := ⟨by rw [b6 33 (by omega)]; exact B1, fun i p hp => by simp at hp⟩
  rw [if_neg nn, wp_bm]
  refine (X11_waitsWith (fu := fu) (a := 1) (b := 5) (c := R) W2 (by decide)).mono fun M2 h2 => ?_
  obtain ⟨q1, q2, q3⟩ := h2
  have hC : Cm S R z2 m := ⟨b1, b2, b3, b4⟩
  obtain ⟨k, M3, r1, r2, r3, r4, r7⟩ := X11_lsRun hfu hG hR (S 140) 0 12 5 R [] [] M2 (by omega) (hC.lg q2) (Nat.le_refl _) (by rw [Nat.sub_self]; decide) (by omega) (Nat.le_refl _) (by show 0 + S 140 + 4 < 4200; omega) (by rw [Nat.sub_self]; exact q1) (q3 _ B2) (by show 0 + R < 2100; omega)
  have hp1 := pw1 (S 140)
  obtain ⟨f, hf⟩ : ∃ f, fu = (f + 1) + k := ⟨fu - k - 1, by omega⟩
  have e1 : fX11_laySet_l25 fu m M2 = lp (lsF fu m) fu M2 := rfl
  have e2 : lp (lsF fu m) fu M2 = lp (lsF fu m) (f + 1 + k) M2 := by rw [← hf]
  have w0 : M3.1 m 32 = nI 0 := r3.1.1
  rw [e1, e2, r7, lp_S]
  unfold lsF fX11_laySet_b25 fX11_laySet_j76
  rw [w0, if_pos (show (nI 0 : Int32) ≤ 0 from Int32.le_refl _), wp_some]
  exact ⟨r4, ((L1.sc.tr b5).tr q2.sc).tr r2.sc⟩
end RB
