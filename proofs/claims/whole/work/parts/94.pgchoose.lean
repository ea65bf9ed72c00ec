/-! The class chooses the kinds of pages. -/
theorem lo_lv (w : Nat → Nat) {e q i : Nat} (h1 : 1 ≤ i) (h2 : i < NN w e q) : (lo w e q i).1 < e := by
  cases e with
  | zero =>
    have : NN w 0 q = 1 := rfl
    omega
  | succ e =>
    by_cases c : ic w (e + 1) q = 0
    · have := NN_u c
      omega
    have hN := NN_h c
    by_cases c2 : i ≤ NN w e (2 * q)
    · obtain ⟨k, rfl⟩ : ∃ k, i = 1 + k := ⟨i - 1, by omega⟩
      rw [lo_l (by omega)]
      have := (lo_sh w e (2 * q) k _ _ (by omega) rfl).1
      omega
    · obtain ⟨k, rfl⟩ : ∃ k, i = 1 + NN w e (2 * q) + k := ⟨i - 1 - NN w e (2 * q), by omega⟩
      rw [lo_u]
      have := (lo_sh w e (2 * q + 1) k _ _ (by omega) rfl).1
      omega
def Cf (r k0 k1 : Nat) (M M' : Mm) : Prop := (∀ a, a ≠ r + 11 → a ≠ r + 12 → a ≠ r + 13 → M'.1 a = M.1 a) ∧ (∀ j, j < k0 * 6 ∨ k1 * 6 ≤ j → M'.1 (r + 11) j = M.1 (r + 11) j ∧ M'.1 (r + 12) j = M.1 (r + 12) j) ∧ M'.2 = M.2
theorem Cf.rf (r k0 k1 : Nat) (M : Mm) : Cf r k0 k1 M M := ⟨fun _ _ _ _ => rfl, fun _ _ => ⟨rfl, rfl⟩, rfl⟩
theorem Cf.tr {r k0 k1 : Nat} {M M' M'' : Mm} (h : Cf r k0 k1 M M') (h' : Cf r k0 k1 M' M'') : Cf r k0 k1 M M'' := ⟨fun a h1 h2 h3 => (h'.1 a h1 h2 h3).trans (h.1 a h1 h2 h3), fun j hj => ⟨(h'.2.1 j hj).1.trans (h.2.1 j hj).1, (h'.2.1 j hj).2.trans (h.2.1 j hj).2⟩, h'.2.2.trans h.2.2⟩
theorem Ef.cf {r k0 k1 : Nat} {M M' : Mm} (h : Ef r k0 k1 M M') : Cf r k0 k1 M M' := ⟨fun a h1 _ _ => h.1 a h1, fun j hj => ⟨h.2.1 j hj, by rw [h.1 (r + 12) (by omega)]⟩, h.2.2⟩
theorem Cf.w13 {r k0 k1 : Nat} (M : Mm) (j : Nat) (v : Int32) : Cf r k0 k1 M (wI M (r + 13) j v) := ⟨fun a _ _ h => wI_ne h, fun i _ => ⟨by rw [wI_ne (by omega)], by rw [wI_ne (by omega)]⟩, rfl⟩
theorem Cf.w12 {r k0 k1 : Nat} (M : Mm) {j : Nat} (v : Int32) (h0 : k0 * 6 ≤ j) (h1 : j < k1 * 6) : Cf r k0 k1 M (wI M (r + 12) j v) := ⟨fun a _ h _ => wI_ne h, fun i hi => ⟨by rw [wI_ne (by omega)], wI_nk (by omega)⟩, rfl⟩
theorem Cf.w11 {r k0 k1 : Nat} (M : Mm) {j : Nat} (v : Int32) (h0 : k0 * 6 ≤ j) (h1 : j < k1 * 6) : Cf r k0 k1 M (wI M (r + 11) j v) := (Ef.w1 M v h0 h1).cf
theorem Cf.f {r k0 k1 : Nat} {M M' : Mm} (h : Cf r k0 k1 M M') : Fr r 14 M M' := fun c hc => ⟨h.1 c (by omega) (by omega) (by omega), by rw [h.2.2], by rw [h.2.2]⟩
def CH (w : Nat → Nat) (d : Nat) (M : Mm) (r q k : Nat) : Prop := ∀ h, h < 6 → PF w d 0 q h < 10000 → M.1 (r + 12) (k * 6 + h) = nI (pkF w d q h)
section PC2
variable {fu r t d F k q : Nat} {w : Nat → Nat} {M : Mm}
theorem X6_choosePageKinds (hfu : 200000 ≤ fu) (hT : TW w t d F M (r + 1)) (hW : WG w t d) (h4 : M.1 r 4 = nI 1) (hk : k < NN w t 0) (hl : lo w t 0 k = (4, q)) :
    Wp (fX6_choosePageKinds fu r (nI k) M) (fun M' => PT w d M' r 0 q k ∧ CH w d M' r q k ∧ Cf r k (k + NN w 4 q) M M') := by
  have h313 := hW.2.2.2
  have hNp := NN_p w 4 q
  unfold fX6_choosePageKinds fX6_choosePageKinds_l2
  refine lp_ho (fun h z => z.1 = nI h ∧ (∀ j, j < h → z.2.1 (r + 13) j = nI 10001) ∧ Cf r k (k + NN w 4 q) M z.2) _ 6 (i := 0) (by omega) (by omega) ⟨rfl, fun j hj => absurd hj (by omega), Cf.rf _ _ _ _⟩ (fun h z hh hz rec hrec => ?_) (fun z hz rec => ?_)
  · obtain ⟨z1, z2⟩ := z
    obtain ⟨rfl, g1, g2⟩ := hz
    dsimp only at *
    simp (disch := omega) only [fX6_choosePageKinds_b2, zi_li, zi_m, zi_m1, nI_add, zi_sub, zi_mul, zi_addm, zi_m_lt, zi_lt_m, zi_m_le, zi_le_m, zi_eq_m, zi_m_eq, nI_ltI, nI_leI, nI_eq, nI_clamp, zi_div, lt_eq, bm_s, bi_s, bl_s, bw_s, gd, if_pos, if_neg, ite_true, ite_false, or_false, false_or, and_true, true_and, not_true, not_false_iff, true_or, or_true, Nat.not_lt_zero]
    refine hrec _ ⟨rfl, fun j hj => ?_, g2.tr (Cf.w13 _ _ _)⟩
    by_cases c : j = h
    · subst c
      simp (disch := omega) only [wI_ne, wI_eq, wI_nk, wIs_ne, wIs_eq]
    · simp (disch := omega) only [wI_ne, wI_eq, wI_nk, wIs_ne, wIs_eq]
      exact g1 j (by omega)
  · obtain ⟨z1, z2⟩ := z
    obtain ⟨rfl, g1, g2⟩ := hz
    dsimp only at *
    unfold fX6_choosePageKinds_b2 fX6_choosePageKinds_j23 fX6_choosePageKinds_l25
    simp (disch := omega) only [zi_li, zi_m, zi_m1, nI_add, zi_sub, zi_mul, zi_addm, zi_m_lt, zi_lt_m, zi_m_le, zi_le_m, zi_eq_m, zi_m_eq, nI_ltI, nI_leI, nI_eq, nI_clamp, zi_div, lt_eq, bm_s, bi_s, bl_s, bw_s, gd, if_pos, if_neg, ite_true, ite_false, or_false, false_or, and_true, true_and, not_true, not_false_iff, true_or, or_true, Nat.not_lt_zero]
    clear rec
    refine lp_ho (fun j y => y.1 = nI j ∧ (∀ h, h < 6 → y.2.1 (r + 13) h = nI (rl (fun pk => Fw w d pk 4 q h) j) ∧ (0 < j → y.2.1 (r + 12) (k * 6 + h) = nI (rc (fun pk => Fw w d pk 4 q h) j))) ∧ Cf r k (k + NN w 4 q) M y.2) _ 6 (i := 0) (by omega) (by omega) ⟨rfl, fun h hh => ⟨g1 h hh, fun c => absurd c (by omega)⟩, g2⟩ (fun j y hj hy rec hrec => ?_) (fun y hy rec => ?_)
    · obtain ⟨y1, y2⟩ := y
      obtain ⟨rfl, u1, u2⟩ := hy
      dsimp only at *
      have Ty : TW w t d F y2 (r + 1) := hT.fr fun c _ _ => u2.1 c (by omega) (by omega) (by omega)
      have y4 : y2.1 r 4 = nI 1 := by rw [u2.1 r (by omega) (by omega) (by omega)]; exact h4
      have tk : fX10_pageKindInTurn fu (nI j) = some (nI (tkN j)) := by
        unfold tkN
        by_cases c : j = 0
        · subst c; rfl
        · simp (disch := omega) only [fX10_pageKindInTurn, fX10_pageKindInTurn_j11, zi_li, zi_m, zi_m1, nI_add, zi_sub, zi_mul, zi_addm, zi_m_lt, zi_lt_m, zi_m_le, zi_le_m, zi_eq_m, zi_m_eq, nI_ltI, nI_leI, nI_eq, nI_clamp, zi_div, lt_eq, bm_s, bi_s, bl_s, bw_s, gd, if_pos, if_neg, ite_true, ite_false, or_false, false_or, and_true, true_and, not_true, not_false_iff, true_or, or_true, Nat.not_lt_zero]
      unfold fX6_choosePageKinds_b25
      rw [tk]
      simp (disch := omega) only [zi_li, zi_m, zi_m1, nI_add, zi_sub, zi_mul, zi_addm, zi_m_lt, zi_lt_m, zi_m_le, zi_le_m, zi_eq_m, zi_m_eq, nI_ltI, nI_leI, nI_eq, nI_clamp, zi_div, lt_eq, bm_s, bi_s, bl_s, bw_s, gd, if_pos, if_neg, ite_true, ite_false, or_false, false_or, and_true, true_and, not_true, not_false_iff, true_or, or_true, Nat.not_lt_zero]
      rw [wp_bm]
      refine (X6_weighWithin hfu (VS_Fc w d (tkN j)) (by omega) (tkN_lt hj) Ty hW y4 hk hl).mono fun M1 h1 => ?_
      obtain ⟨f1, f2⟩ := h1
      have v11 : ∀ h, h < 6 → M1.1 (r + 11) (k * 6 + h) = nI (min 10000 (Fw w d (tkN j) 4 q h)) := fun h hh => by
        have := f1 0 hNp h hh
        rw [lo_0] at this
        exact this
      have c2 := u2.tr f2.cf
      unfold fX6_choosePageKinds_l42
      refine lp_ho (fun h x => x.1 = nI h ∧ (∀ i, i < 6 → x.2.1 (r + 11) (k * 6 + i) = nI (min 10000 (Fw w d (tkN j) 4 q i))) ∧ (∀ i, i < h → x.2.1 (r + 13) i = nI (rl (fun pk => Fw w d pk 4 q i) (j + 1)) ∧ x.2.1 (r + 12) (k * 6 + i) = nI (rc (fun pk => Fw w d pk 4 q i) (j + 1))) ∧ (∀ i, h ≤ i → i < 6 → x.2.1 (r + 13) i = nI (rl (fun pk => Fw w d pk 4 q i) j) ∧ (0 < j → x.2.1 (r + 12) (k * 6 + i) = nI (rc (fun pk => Fw w d pk 4 q i) j))) ∧ Cf r k (k + NN w 4 q) M x.2) _ 6 (i := 0) (by omega) (by omega) ⟨rfl, v11, fun i hi => absurd hi (by omega), fun i _ hi => ?_, c2⟩ (fun h x hh hx rec2 hrec2 => ?_) (fun x hx rec2 => ?_)
      · obtain ⟨a1, a2⟩ := u1 i hi
        refine ⟨?_, fun c => ?_⟩
        · rw [f2.1 (r + 13) (by omega)]; exact a1
        · rw [f2.1 (r + 12) (by omega)]; exact a2 c
      · obtain ⟨x1, x2⟩ := x
        obtain ⟨rfl, b1, b2, b3, b4⟩ := hx
        dsimp only at *
        obtain ⟨d1, d2⟩ := b3 h (Nat.le_refl _) hh
        have hle := rl_le (fun pk => Fw w d pk 4 q h) j
        have e1 : rl (fun pk => Fw w d pk 4 q h) (j + 1) = if min 10000 (Fw w d (tkN j) 4 q h) < rl (fun pk => Fw w d pk 4 q h) j then min 10000 (Fw w d (tkN j) 4 q h) else rl (fun pk => Fw w d pk 4 q h) j := rfl
        have e2 : rc (fun pk => Fw w d pk 4 q h) (j + 1) = if min 10000 (Fw w d (tkN j) 4 q h) < rl (fun pk => Fw w d pk 4 q h) j then tkN j else rc (fun pk => Fw w d pk 4 q h) j := rfl
        have hb := b1 h hh
        have hcap : min 10000 (Fw w d (tkN j) 4 q h) ≤ 10000 := Nat.min_le_left _ _
        unfold fX6_choosePageKinds_b42 fX6_choosePageKinds_j100
        rw [tk]
        simp (disch := omega) only [zi_li, zi_m, zi_m1, nI_add, zi_sub, zi_mul, zi_addm, zi_m_lt, zi_lt_m, zi_m_le, zi_le_m, zi_eq_m, zi_m_eq, nI_ltI, nI_leI, nI_eq, nI_clamp, zi_div, lt_eq, bm_s, bi_s, bl_s, bw_s, gd, if_pos, if_neg, ite_true, ite_false, or_false, false_or, and_true, true_and, not_true, not_false_iff, true_or, or_true, Nat.not_lt_zero, d1, hb]
        by_cases c : min 10000 (Fw w d (tkN j) 4 q h) < rl (fun pk => Fw w d pk 4 q h) j
        · rw [if_pos c] at e1 e2
          rw [if_neg (by omega)]
          refine hrec2 _ ⟨rfl, fun i hi => ?_, fun i hi => ?_, fun i h1 h2 => ?_, (b4.tr (Cf.w13 _ _ _)).tr (Cf.w12 _ _ (by omega) (by omega))⟩
          · simp (disch := omega) only [wI_ne, wI_eq, wI_nk, wIs_ne, wIs_eq]; exact b1 i hi
          · by_cases ci : i = h
            · subst ci
              rw [e1, e2]
              simp (disch := omega) only [wI_ne, wI_eq, wI_nk, wIs_ne, wIs_eq]
              exact ⟨trivial, trivial⟩
            · simp (disch := omega) only [wI_ne, wI_eq, wI_nk, wIs_ne, wIs_eq]; exact b2 i (by omega)
          · simp (disch := omega) only [wI_ne, wI_eq, wI_nk, wIs_ne, wIs_eq]; exact b3 i (by omega) h2
        · rw [if_neg c] at e1 e2
          rw [if_pos (by omega)]
          have hj0 : 0 < j := by
            by_cases c0 : j = 0
            · subst c0
              have : rl (fun pk => Fw w d pk 4 q h) 0 = 10001 := rfl
              omega
            · omega
          refine hrec2 _ ⟨rfl, b1, fun i hi => ?_, fun i h1 h2 => b3 i (by omega) h2, b4⟩
          by_cases ci : i = h
          · subst ci
            rw [e1, e2]
            exact ⟨d1, d2 hj0⟩
          · exact b2 i (by omega)
      · obtain ⟨x1, x2⟩ := x
        obtain ⟨rfl, b1, b2, b3, b4⟩ := hx
        dsimp only at *
        simp (disch := omega) only [fX6_choosePageKinds_b42, fX6_choosePageKinds_j106, zi_li, zi_m, zi_m1, nI_add, zi_sub, zi_mul, zi_addm, zi_m_lt, zi_lt_m, zi_m_le, zi_le_m, zi_eq_m, zi_m_eq, nI_ltI, nI_leI, nI_eq, nI_clamp, zi_div, lt_eq, bm_s, bi_s, bl_s, bw_s, gd, if_pos, if_neg, ite_true, ite_false, or_false, false_or, and_true, true_and, not_true, not_false_iff, true_or, or_true, Nat.not_lt_zero]
        exact hrec _ ⟨rfl, fun h hh => ⟨(b2 h hh).1, fun _ => (b2 h hh).2⟩, b4⟩
    · obtain ⟨y1, y2⟩ := y
      obtain ⟨rfl, u1, u2⟩ := hy
      dsimp only at *
      unfold fX6_choosePageKinds_b25 fX6_choosePageKinds_j112 fX6_choosePageKinds_l114
      simp (disch := omega) only [zi_li, zi_m, zi_m1, nI_add, zi_sub, zi_mul, zi_addm, zi_m_lt, zi_lt_m, zi_m_le, zi_le_m, zi_eq_m, zi_m_eq, nI_ltI, nI_leI, nI_eq, nI_clamp, zi_div, lt_eq, bm_s, bi_s, bl_s, bw_s, gd, if_pos, if_neg, ite_true, ite_false, or_false, false_or, and_true, true_and, not_true, not_false_iff, true_or, or_true, Nat.not_lt_zero]
      clear rec
      refine lp_ho (fun h x => x.1 = nI h ∧ (∀ i, i < h → x.2.1 (r + 11) (k * 6 + i) = nI (min 10000 (PF w d 0 q i))) ∧ x.2.1 (r + 13) = y2.1 (r + 13) ∧ x.2.1 (r + 12) = y2.1 (r + 12) ∧ Cf r k (k + NN w 4 q) M x.2) _ 6 (i := 0) (by omega) (by omega) ⟨rfl, fun i hi => absurd hi (by omega), rfl, rfl, u2⟩ (fun h x hh hx rec hrec => ?_) (fun x hx rec => ?_)
      · obtain ⟨x1, x2⟩ := x
        obtain ⟨rfl, b1, b2, b3, b4⟩ := hx
        dsimp only at *
        have hv := (u1 h hh).1
        rw [rl_6] at hv
        have hv2 : x2.1 (r + 13) h = nI (min 10000 (PF w d 0 q h)) := by rw [b2]; exact hv
        simp (disch := omega) only [fX6_choosePageKinds_b114, zi_li, zi_m, zi_m1, nI_add, zi_sub, zi_mul, zi_addm, zi_m_lt, zi_lt_m, zi_m_le, zi_le_m, zi_eq_m, zi_m_eq, nI_ltI, nI_leI, nI_eq, nI_clamp, zi_div, lt_eq, bm_s, bi_s, bl_s, bw_s, gd, if_pos, if_neg, ite_true, ite_false, or_false, false_or, and_true, true_and, not_true, not_false_iff, true_or, or_true, Nat.not_lt_zero, hv2]
        refine hrec _ ⟨rfl, fun i hi => ?_, ?_, ?_, b4.tr (Cf.w11 _ _ (by omega) (by omega))⟩
        · by_cases ci : i = h
          · subst ci
            simp (disch := omega) only [wI_ne, wI_eq, wI_nk, wIs_ne, wIs_eq]
          · simp (disch := omega) only [wI_ne, wI_eq, wI_nk, wIs_ne, wIs_eq]
            exact b1 i (by omega)
        · simp (disch := omega) only [wI_ne, wI_eq, wI_nk, wIs_ne, wIs_eq]; exact b2
        · simp (disch := omega) only [wI_ne, wI_eq, wI_nk, wIs_ne, wIs_eq]; exact b3
      · obtain ⟨x1, x2⟩ := x
        obtain ⟨rfl, b1, b2, b3, b4⟩ := hx
        dsimp only at *
        simp (disch := omega) only [fX6_choosePageKinds_b114, fX6_choosePageKinds_j143, zi_li, zi_m, zi_m1, nI_add, zi_sub, zi_mul, zi_addm, zi_m_lt, zi_lt_m, zi_m_le, zi_le_m, zi_eq_m, zi_m_eq, nI_ltI, nI_leI, nI_eq, nI_clamp, zi_div, lt_eq, bm_s, bi_s, bl_s, bw_s, gd, if_pos, if_neg, ite_true, ite_false, or_false, false_or, and_true, true_and, not_true, not_false_iff, true_or, or_true, Nat.not_lt_zero]
        rw [wp_some]
        refine ⟨fun h hh => b1 h hh, fun h hh hf => ?_, b4⟩
        rw [b3, (u1 h hh).2 (by omega)]
        congr 1
        exact rc_6 hf
end PC2
