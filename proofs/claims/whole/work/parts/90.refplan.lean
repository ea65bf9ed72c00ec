/-! The reference lays a plan. -/
def MB (M : Mm) (m : Nat) (l : List Bk) : Prop := M.1 m 33 = nI l.length ∧ ∀ (i : Nat) (p : Bk), l[i]? = some p → M.1 (m + 14) i = nI p.1 ∧ M.1 (m + 15) i = nI p.2.1 ∧ M.1 (m + 16) i = nI p.2.2
def WT (M : Mm) (m : Nat) (st : List (Nat × Nat)) : Prop := M.1 m 32 = nI st.length ∧ ∀ (i : Nat) (p : Nat × Nat), st[i]? = some p → M.1 (m + 12) i = nI p.1 ∧ M.1 (m + 13) i = nI p.2
def Lf (m : Nat) (M M' : Mm) : Prop := (∀ c, c ≠ m → (c < m + 12 ∨ m + 16 < c) → M'.1 c = M.1 c) ∧ (∀ j, j ≠ 32 → j ≠ 33 → M'.1 m j = M.1 m j) ∧ M'.2 = M.2
theorem Lf.rf (m : Nat) (M : Mm) : Lf m M M := ⟨fun _ _ _ => rfl, fun _ _ _ => rfl, rfl⟩
theorem Lf.tr {m : Nat} {M M' M'' : Mm} (h : Lf m M M') (h' : Lf m M' M'') : Lf m M M'' := ⟨fun c h1 h2 => (h'.1 c h1 h2).trans (h.1 c h1 h2), fun j h1 h2 => (h'.2.1 j h1 h2).trans (h.2.1 j h1 h2), h'.2.2.trans h.2.2⟩
theorem Lf.w0 {m : Nat} (M : Mm) {j : Nat} (v : Int32) (hj : j = 32 ∨ j = 33) : Lf m M (wI M m j v) := ⟨fun c hc _ => wI_ne hc, fun k _ _ => wI_nk (by omega), rfl⟩
theorem Lf.w1 {m : Nat} (M : Mm) {c j : Nat} (v : Int32) (h1 : m + 12 ≤ c) (h2 : c ≤ m + 16) : Lf m M (wI M c j v) := ⟨fun a _ ha => wI_ne (by omega), fun k _ _ => by rw [wI_ne (by omega)], rfl⟩
theorem Lf.sc {m : Nat} {M M' : Mm} (h : Lf m M M') : Sc m M M' := ⟨fun c h1 h2 => h.1 c h1 (by omega), fun j _ h1 h2 _ _ _ _ => h.2.1 j h1 h2, h.2.2⟩
theorem Cs.lf {S : Sto} {d m : Nat} {M M' : Mm} (h : Cs S d M m) (g : Lf m M M') : Cs S d M' m := by
  unfold Cs WV FV at h ⊢
  rw [g.1 (m + 8) (by omega) (by omega), g.1 (m + 9) (by omega) (by omega), g.2.1 25 (by omega) (by omega)]
  exact h
section RP
variable {fu m d : Nat} {S : Sto} {M : Mm} {st : List (Nat × Nat)} {l : List Bk}
theorem X11_sizeAt (hfu : 200000 ≤ fu) (hV : VM S M m) (hG : Gd S) {e q : Nat} (he : e ≤ S 140) (hq : q < 2 ^ (S 140 - e)) : fX11_sizeAt fu m (nI (2 ^ (S 140 - e) + q)) M = some (nI (2 ^ e)) := by
  have ht := hG.1.2.1
  have hA := hG.ad
  have hnl := nd_lt he hq
  have h11 : 2 ^ (S 140 + 1) ≤ 2 ^ 11 := Nat.pow_le_pow_right (by decide) (by omega)
  unfold fX11_sizeAt fX11_sizeAt_l7
  rw [X11_addresses hV hG, bi_s]
  refine lp_ue (fun i => (nI (2 ^ (S 140 - i)), nI ((2 ^ (S 140 - e) + q) / 2 ^ i))) (S 140 - e) (by simp) (by omega) (fun i hi rec => ?_) (fun rec => ?_)
  · have h1 : 2 ^ (i + 1) ≤ 2 ^ (S 140 - e) := Nat.pow_le_pow_right (by decide) hi
    have h2 := pw1 i
    have h3 := pwp i
    have h4 : 2 ≤ (2 ^ (S 140 - e) + q) / 2 ^ i := by rw [Nat.le_div_iff_mul_le h3]; omega
    have h5 : (2 ^ (S 140 - e) + q) / 2 ^ i ≤ 2 ^ (S 140 - e) + q := Nat.div_le_self _ _
    have h6 : 2 ^ (S 140 - i) = 2 ^ (S 140 - (i + 1)) + 2 ^ (S 140 - (i + 1)) := by
      rw [show S 140 - i = S 140 - (i + 1) + 1 by omega]
      exact pw1 _
    have h7 : 2 ^ (S 140 - i) ≤ 2 ^ S 140 := Nat.pow_le_pow_right (by decide) (by omega)
    have h8 : (2 ^ (S 140 - e) + q) / 2 ^ i / 2 = (2 ^ (S 140 - e) + q) / 2 ^ (i + 1) := by rw [Nat.div_div_eq_div_mul, ← Nat.pow_succ]
    have h9 : 2 ^ (S 140 - i) / 2 = 2 ^ (S 140 - (i + 1)) := by omega
    simp (disch := omega) only [fX11_sizeAt_b7, zi_li, zi_m, zi_m1, nI_add, zi_sub, zi_mul, zi_addm, zi_m_lt, zi_lt_m, zi_m_le, zi_le_m, zi_eq_m, zi_m_eq, nI_ltI, nI_leI, nI_eq, nI_clamp, zi_div, lt_eq, bm_s, bi_s, bl_s, bw_s, gd, if_pos, if_neg, ite_true, ite_false, or_false, false_or, and_true, true_and, not_true, not_false_iff, true_or, or_true, Nat.not_lt_zero, h8, h9]
  · have h1 : (2 ^ (S 140 - e) + q) / 2 ^ (S 140 - e) = 1 := by
      rw [Nat.div_eq_of_lt_le]
      · omega
      · omega
    have h2 : S 140 - (S 140 - e) = e := by omega
    dsimp only
    rw [h1, h2]
    simp (disch := omega) only [fX11_sizeAt_b7, fX11_sizeAt_j23, zi_li, zi_m, zi_m1, nI_add, zi_sub, zi_mul, zi_addm, zi_m_lt, zi_lt_m, zi_m_le, zi_le_m, zi_eq_m, zi_m_eq, nI_ltI, nI_leI, nI_eq, nI_clamp, zi_div, lt_eq, bm_s, bi_s, bl_s, bw_s, gd, if_pos, if_neg, ite_true, ite_false, or_false, false_or, and_true, true_and, not_true, not_false_iff, true_or, or_true, Nat.not_lt_zero]
theorem X11_baseAt (hfu : 200000 ≤ fu) (hV : VM S M m) (hG : Gd S) {e q : Nat} (he : e ≤ S 140) (hq : q < 2 ^ (S 140 - e)) : fX11_baseAt fu m (nI (2 ^ (S 140 - e) + q)) M = some (nI (q * 2 ^ e)) := by
  have hA := hG.ad
  have hp := pwp e
  have h1 : 2 ^ S 140 / 2 ^ e = 2 ^ (S 140 - e) := Nat.pow_div he (by decide)
  have h2 : 2 ^ e ≤ 2 ^ S 140 := Nat.pow_le_pow_right (by decide) he
  have h3 : 2 ^ (S 140 - e) + q - 2 ^ (S 140 - e) = q := by omega
  simp (disch := omega) only [fX11_baseAt, X11_sizeAt hfu hV hG he hq, X11_addresses hV hG, zi_li, zi_m, zi_m1, nI_add, zi_sub, zi_mul, zi_addm, zi_m_lt, zi_lt_m, zi_m_le, zi_le_m, zi_eq_m, zi_m_eq, nI_ltI, nI_leI, nI_eq, nI_clamp, zi_div, lt_eq, bm_s, bi_s, bl_s, bw_s, gd, if_pos, if_neg, ite_true, ite_false, or_false, false_or, and_true, true_and, not_true, not_false_iff, true_or, or_true, Nat.not_lt_zero, h1, h3]
theorem X11_waits {a b : Nat} (hW : WT M m st) (hs : st.length < 4200) : Wp (fX11_waits fu m (nI a) (nI b) M) (fun M' => WT M' m (st ++ [(a, b)]) ∧ Lf m M M' ∧ ∀ l, MB M m l → MB M' m l) := by
  simp (disch := omega) only [fX11_waits, hW.1, zi_li, zi_m, zi_m1, nI_add, zi_sub, zi_mul, zi_addm, zi_m_lt, zi_lt_m, zi_m_le, zi_le_m, zi_eq_m, zi_m_eq, nI_ltI, nI_leI, nI_eq, nI_clamp, zi_div, lt_eq, bm_s, bi_s, bl_s, bw_s, gd, if_pos, if_neg, ite_true, ite_false, or_false, false_or, and_true, true_and, not_true, not_false_iff, true_or, or_true, Nat.not_lt_zero, wI_ne, wI_eq, wI_nk, wIs_ne, wIs_eq]
  rw [wp_some]
  refine ⟨⟨?_, fun i p hp => ?_⟩, ((Lf.w1 _ _ (by omega) (by omega)).tr (Lf.w1 _ _ (by omega) (by omega))).tr (Lf.w0 _ _ (Or.inl rfl)), fun l hl => ⟨?_, fun i p hp => ?_⟩⟩
  · simp (disch := omega) only [wI_ne, wI_eq, wI_nk, wIs_ne, wIs_eq]
    rw [List.length_append]
    rfl
  · by_cases c : i < st.length
    · rw [List.getElem?_append_left c] at hp
      have := hW.2 i p hp
      simp (disch := omega) only [wI_ne, wI_eq, wI_nk, wIs_ne, wIs_eq]
      exact this
    · rw [List.getElem?_append_right (by omega)] at hp
      have h1 : i - st.length = 0 := by
        by_cases d : i - st.length = 0
        · exact d
        · rw [List.getElem?_eq_none (by simp; omega)] at hp
          cases hp
      rw [h1] at hp
      have h2 : i = st.length := by omega
      cases hp
      subst h2
      simp (disch := omega) only [wI_ne, wI_eq, wI_nk, wIs_ne, wIs_eq]
      exact ⟨trivial, trivial⟩
  · simp (disch := omega) only [wI_ne, wI_eq, wI_nk, wIs_ne, wIs_eq]
    exact hl.1
  · simp (disch := omega) only [wI_ne, wI_eq, wI_nk, wIs_ne, wIs_eq]
    exact hl.2 i p hp
theorem X11_layBlock (hfu : 200000 ≤ fu) (hV : VM S M m) (hG : Gd S) {e q k : Nat} (he : e ≤ S 140) (hq : q < 2 ^ (S 140 - e)) (hB : MB M m l) (hl : l.length < 2100) : Wp (fX11_layBlock fu m (nI (2 ^ (S 140 - e) + q)) (nI k) M) (fun M' => MB M' m (l ++ [(q * 2 ^ e, 2 ^ e, k)]) ∧ Lf m M M' ∧ ∀ st, WT M m st → WT M' m st) := by
  have sz : ∀ j v, fX11_sizeAt fu m (nI (2 ^ (S 140 - e) + q)) (wI M (m + 14) j v) = some (nI (2 ^ e)) := fun j v => X11_sizeAt hfu (hV.o1 (O1.w M j v) (by omega)) hG he hq
  simp (disch := omega) only [fX11_layBlock, X11_baseAt hfu hV hG he hq, sz, hB.1, zi_li, zi_m, zi_m1, nI_add, zi_sub, zi_mul, zi_addm, zi_m_lt, zi_lt_m, zi_m_le, zi_le_m, zi_eq_m, zi_m_eq, nI_ltI, nI_leI, nI_eq, nI_clamp, zi_div, lt_eq, bm_s, bi_s, bl_s, bw_s, gd, if_pos, if_neg, ite_true, ite_false, or_false, false_or, and_true, true_and, not_true, not_false_iff, true_or, or_true, Nat.not_lt_zero, wI_ne, wI_eq, wI_nk, wIs_ne, wIs_eq]
  rw [wp_some]
  refine ⟨⟨?_, fun i p hp => ?_⟩, (((Lf.w1 _ _ (by omega) (by omega)).tr (Lf.w1 _ _ (by omega) (by omega))).tr (Lf.w1 _ _ (by omega) (by omega))).tr (Lf.w0 _ _ (Or.inr rfl)), fun st hs => ⟨?_, fun i p hp => ?_⟩⟩
  · simp (disch := omega) only [wI_ne, wI_eq, wI_nk, wIs_ne, wIs_eq]
    rw [List.length_append]
    rfl
  · by_cases c : i < l.length
    · rw [List.getElem?_append_left c] at hp
      have := hB.2 i p hp
      simp (disch := omega) only [wI_ne, wI_eq, wI_nk, wIs_ne, wIs_eq]
      exact this
    · rw [List.getElem?_append_right (by omega)] at hp
      have h1 : i - l.length = 0 := by
        by_cases d : i - l.length = 0
        · exact d
        · rw [List.getElem?_eq_none (by simp; omega)] at hp
          cases hp
      rw [h1] at hp
      have h2 : i = l.length := by omega
      cases hp
      subst h2
      simp (disch := omega) only [wI_ne, wI_eq, wI_nk, wIs_ne, wIs_eq]
      exact ⟨trivial, trivial, trivial⟩
  · simp (disch := omega) only [wI_ne, wI_eq, wI_nk, wIs_ne, wIs_eq]
    exact hs.1
  · simp (disch := omega) only [wI_ne, wI_eq, wI_nk, wIs_ne, wIs_eq]
    exact hs.2 i p hp
/-- it lays the block itself -/
theorem X11_layItself (hfu : 200000 ≤ fu) (hV : VM S M m) (hG : Gd S) {a1 n1 e q h : Nat} {V : Nat → Nat} (he : e ≤ S 140) (hq : q < 2 ^ (S 140 - e)) (hh : h < 6) (hn1 : 12288 ≤ n1) (hn2 : n1 < 2 ^ 31) (hv : ∀ j, j < 6 → M.1 a1 (6 * (2 ^ (S 140 - e) + q) + j) = nI (V j)) (hle : ∀ j, j < 6 → V j ≤ 1048576) (hx : ∃ k, k < 5 ∧ fkP V h k) (hB : MB M m l) (hl : l.length < 2100) (hW : WT M m st) (hs : st.length < 4200) :
    Wp (fX11_layBy_j36 fu m n1 a1 (nI (2 ^ (S 140 - e) + q)) (nI h) (nI (V h)) M) (fun M' => MB M' m (l ++ [(q * 2 ^ e, 2 ^ e, fk V h)]) ∧ WT M' m (st ++ [(2 ^ (S 140 - e) + q, md h (fk V h))]) ∧ Lf m M M') := by
  have ht := hG.1.2.1
  have hnl := nd_lt he hq
  have h11 : 2 ^ (S 140 + 1) ≤ 2 ^ 11 := Nat.pow_le_pow_right (by decide) (by omega)
  obtain ⟨f1, f2, f3⟩ := fk_ok hx
  have hVh := hle h hh
  unfold fX11_layBy_j36 fX11_layBy_l39
  have g : ∀ i, i < 5 → ∀ rec : Int32 → Option Mm, (fkP V h i → fX11_layBy_b39 fu (fun x6 => rec x6) m n1 a1 (nI (2 ^ (S 140 - e) + q)) (nI h) (nI (V h)) (nI i) M = fX11_layBy_j74 fu m (nI (2 ^ (S 140 - e) + q)) (nI h) (nI i) M) ∧ (¬ fkP V h i → fX11_layBy_b39 fu (fun x6 => rec x6) m n1 a1 (nI (2 ^ (S 140 - e) + q)) (nI h) (nI (V h)) (nI i) M = rec (nI (i + 1))) := fun i hi rec => by
    have hm := md_lt h hh i hi
    have hb := X11_madeBy (fu := fu) hh hi
    by_cases c3 : md h i = 9
    · refine ⟨fun c => absurd c3 c.1, fun _ => ?_⟩
      have hb1 : fX11_madeBy fu (nI h) (nI i) = some mI := by rw [hb, if_pos c3]
      have q3 : mI < 0 := by decide +kernel
      unfold fX11_layBy_b39 fX11_layBy_j68
      rw [hb1, bi_s, if_pos q3, lt_eq, nI_1]
    · have hb1 : fX11_madeBy fu (nI h) (nI i) = some (nI (md h i)) := by rw [hb, if_neg c3]
      have h3 := hm c3
      have h1 := hv (md h i) (by omega)
      have h2 := hle (md h i) (by omega)
      have e1 : fX11_layBy_b39 fu (fun x6 => rec x6) m n1 a1 (nI (2 ^ (S 140 - e) + q)) (nI h) (nI (V h)) (nI i) M = if 1 + V (md h i) = V h then fX11_layBy_j74 fu m (nI (2 ^ (S 140 - e) + q)) (nI h) (nI i) M else rec (nI (i + 1)) := by
        simp (disch := omega) only [fX11_layBy_b39, fX11_layBy_j68, hb1, zi_li, zi_m, zi_m1, nI_add, zi_sub, zi_mul, zi_addm, zi_m_lt, zi_lt_m, zi_m_le, zi_le_m, zi_eq_m, zi_m_eq, nI_ltI, nI_leI, nI_eq, nI_clamp, zi_div, lt_eq, bm_s, bi_s, bl_s, bw_s, gd, if_pos, if_neg, ite_true, ite_false, or_false, false_or, and_true, true_and, not_true, not_false_iff, true_or, or_true, Nat.not_lt_zero, h1]
      rw [e1]
      exact ⟨fun c => if_pos c.2, fun c => if_neg fun c2 => c ⟨c3, c2⟩⟩
  refine lp_ho (fun i z => z = nI i) _ (fk V h) (i := 0) (by omega) (by omega) rfl (fun i z hi hz rec hrec => ?_) (fun z hz rec => ?_)
  · subst hz
    rw [(g i (by omega) rec).2 (f3 i hi)]
    exact hrec _ rfl
  · subst hz
    rw [(g _ f1 rec).1 f2]
    have hb1 : fX11_madeBy fu (nI h) (nI (fk V h)) = some (nI (md h (fk V h))) := by rw [X11_madeBy hh f1, if_neg f2.1]
    unfold fX11_layBy_j74
    rw [wp_bm]
    refine (X11_layBlock hfu hV hG he hq hB hl).mono fun M1 h1 => ?_
    obtain ⟨a1, a2, a3⟩ := h1
    rw [hb1, bi_s, wp_bm]
    refine (X11_waits (a3 _ hW) hs).mono fun M2 h2 => ?_
    obtain ⟨b1, b2, b3⟩ := h2
    rw [wp_some]
    exact ⟨b3 _ a1, b1, a2.tr b2⟩
end RP
