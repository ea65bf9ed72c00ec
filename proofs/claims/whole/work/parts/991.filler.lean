/-! The class's table of the most. -/
/-- as it is, by the cut tree -/
def nb (w : Nat → Nat) (d : Nat) : Nat → Nat → Nat → Nat → Nat
  | 0, q, h, _ => RI w d 0 q h
  | e + 1, q, h, r => if ic w (e + 1) q = 0 then RI w d (e + 1) q h else mxs (Gw w d e (2 * q) h) (Gw w d e (2 * q + 1) h) r r
theorem nb_u {w : Nat → Nat} {d e q h r : Nat} (hi : ic w e q = 0) : nb w d e q h r = RI w d e q h := by
  cases e with
  | zero => rfl
  | succ e => exact if_pos hi
theorem nb_h {w : Nat → Nat} {d e q h r : Nat} (hi : ¬ ic w (e + 1) q = 0) : nb w d (e + 1) q h r = mxs (Gw w d e (2 * q) h) (Gw w d e (2 * q + 1) h) r r := if_neg hi
theorem Gw_nS {w : Nat → Nat} {d e q h r : Nat} (hh : h < 6) : Gw w d e q h (r + 1) = max (nb w d e q h (r + 1)) (mxk (fun j => Gw w d e q j r) h) := by
  by_cases hi : ic w e q = 0
  · have hu := ic_un hi
    rw [nb_u hi, Gw_un e q h (r + 1) hu hh, RI_un hu, mxk_cg (g := fun j => 2 ^ e * ro (w (q * 2 ^ e)) d j r) hh (fun j hj => Gw_un e q j r hu (by omega)), mxk_mul _ _ hh, Nat.mul_max_mul_left]
    rfl
  · cases e with
    | zero => exact absurd (ic_0 w q) hi
    | succ e => rw [nb_h hi]; rfl
theorem Gw_n0 {w : Nat → Nat} {d e q h : Nat} : Gw w d e q h 0 = nb w d e q h 0 := by
  by_cases hi : ic w e q = 0
  · rw [nb_u hi, Gw_0]
  · cases e with
    | zero => exact absurd (ic_0 w q) hi
    | succ e => rw [nb_h hi]; rfl
def mb (f : Nat → Nat) (h : Nat) : Nat → Nat
  | 0 => 0
  | i + 1 => if md h i = 9 then mb f h i else max (mb f h i) (f (md h i))
theorem mb_5 (f : Nat → Nat) {h : Nat} (hh : h < 6) : mb f h 5 = mxk f h := by
  rcases h6 hh with rfl | rfl | rfl | rfl | rfl | rfl
  · rfl
  · rw [mxk_1]; show max 0 (f 0) = _; omega
  · rw [mxk_2]; show max 0 (f 0) = _; omega
  · rw [mxk_3]; show max 0 (f 0) = _; omega
  · rw [mxk_4]; show max (max 0 (f 0)) (f 2) = _; omega
  · rw [mxk_5]; show max (max (max (max (max 0 (f 0)) (f 1)) (f 2)) (f 3)) (f 4) = _; omega
theorem mb_le {f : Nat → Nat} {h c : Nat} (hh : h < 6) (hf : ∀ j, j < h → f j ≤ c) : ∀ i, i ≤ 5 → mb f h i ≤ c
  | 0, _ => Nat.zero_le _
  | i + 1, hi => by
    have ih := mb_le hh hf i (by omega)
    unfold mb
    by_cases c3 : md h i = 9
    · rw [if_pos c3]; exact ih
    · rw [if_neg c3]
      have := hf (md h i) (md_lt h hh i (by omega) c3)
      omega
def MT (w : Nat → Nat) (d : Nat) (M : Mm) (g e q k : Nat) : Prop := ∀ h, h < 6 → ∀ r, r < 11 → M.1 (g + 11) ((k * 6 + h) * 11 + r) = nI (Gw w d e q h r)
section FI
variable {fu g t d F k e q : Nat} {w : Nat → Nat} {M : Mm}
theorem oP_sm (hF : ∀ x, w x = 9 ↔ x < F) : ∀ n, smN (oP w) n = n - F
  | 0 => by show 0 = 0 - F; omega
  | n + 1 => by
    show smN (oP w) n + oP w n = _
    rw [oP_sm hF n]
    unfold oP
    have := hF n
    by_cases c : w n = 9
    · rw [if_pos c]; have := this.mp c; omega
    · rw [if_neg c]; have : ¬ n < F := fun q => c (this.mpr q); omega
theorem X9_open (hT : TW w t d F M g) (hW : WG w t d) (hF : ∀ x, w x = 9 ↔ x < F) (hF2 : F ≤ 1024) (hk : k < NN w t 0) (hl : lo w t 0 k = (e, q)) : fX9_open fu g (nI k) M = some (nI (OP w e q)) := by
  have h313 := hW.2.2.2
  obtain ⟨lv1, lv2, lv3, lv4, lv5⟩ := hW.lv hk hl
  have hN := hT.1.2 k hk
  rw [hl] at hN
  have hO : OP w e q = (q * 2 ^ e + 2 ^ e - F) - (q * 2 ^ e - F) := by unfold OP; rw [oP_sm hF, oP_sm hF]
  have hp := pwp e
  simp (disch := omega) only [fX9_open, zi_li, zi_m, zi_m1, nI_add, zi_sub, zi_mul, zi_addm, zi_m_lt, zi_lt_m, zi_m_le, zi_le_m, zi_eq_m, zi_m_eq, nI_ltI, nI_leI, nI_eq, nI_clamp, zi_div, lt_eq, bm_s, bi_s, bl_s, bw_s, gd, if_pos, if_neg, ite_true, ite_false, or_false, false_or, and_true, true_and, not_true, not_false_iff, true_or, or_true, Nat.not_lt_zero, hN.1.1, hN.1.2.1, hT.2.2]
  rw [hO]
  by_cases c : q * 2 ^ e < F
  · simp (disch := omega) only [if_pos c]
    by_cases c2 : q * 2 ^ e + 2 ^ e ≤ F
    · by_cases c3 : q * 2 ^ e + 2 ^ e = F
      · simp (disch := omega) only [zi_li, zi_m, zi_m1, nI_add, zi_sub, zi_mul, zi_addm, zi_m_lt, zi_lt_m, zi_m_le, zi_le_m, zi_eq_m, zi_m_eq, nI_ltI, nI_leI, nI_eq, nI_clamp, zi_div, lt_eq, bm_s, bi_s, bl_s, bw_s, gd, if_pos, if_neg, ite_true, ite_false, or_false, false_or, and_true, true_and, not_true, not_false_iff, true_or, or_true, Nat.not_lt_zero, c3, Nat.sub_self]
        rw [Nat.zero_sub]
      · have hneg : ¬ nI 0 < nI (q * 2 ^ e + 2 ^ e) - nI F := fun z => by
          have := pk_sneg (a := q * 2 ^ e + 2 ^ e) (b := F) (by omega) (by omega)
          exact absurd (Int32.lt_trans z this) (by decide +kernel)
        rw [if_neg hneg]
        congr 2
        omega
    · simp (disch := omega) only [zi_li, zi_m, zi_m1, nI_add, zi_sub, zi_mul, zi_addm, zi_m_lt, zi_lt_m, zi_m_le, zi_le_m, zi_eq_m, zi_m_eq, nI_ltI, nI_leI, nI_eq, nI_clamp, zi_div, lt_eq, bm_s, bi_s, bl_s, bw_s, gd, if_pos, if_neg, ite_true, ite_false, or_false, false_or, and_true, true_and, not_true, not_false_iff, true_or, or_true, Nat.not_lt_zero]
      congr 2
      omega
  · simp (disch := omega) only [if_neg c]
    have e1 : q * 2 ^ e + 2 ^ e - q * 2 ^ e = 2 ^ e := by omega
    simp (disch := omega) only [zi_li, zi_m, zi_m1, nI_add, zi_sub, zi_mul, zi_addm, zi_m_lt, zi_lt_m, zi_m_le, zi_le_m, zi_eq_m, zi_m_eq, nI_ltI, nI_leI, nI_eq, nI_clamp, zi_div, lt_eq, bm_s, bi_s, bl_s, bw_s, gd, if_pos, if_neg, ite_true, ite_false, or_false, false_or, and_true, true_and, not_true, not_false_iff, true_or, or_true, Nat.not_lt_zero, e1]
    congr 2
    omega
theorem X3_cell {a b c : Nat} : fX3_cell fu (nI a) (nI b) (nI c) = some (nI ((a * 6 + b) * 11 + c)) := by
  simp (disch := omega) only [fX3_cell, zi_li, zi_m, zi_m1, nI_add, zi_sub, zi_mul, zi_addm, zi_m_lt, zi_lt_m, zi_m_le, zi_le_m, zi_eq_m, zi_m_eq, nI_ltI, nI_leI, nI_eq, nI_clamp, zi_div, lt_eq, bm_s, bi_s, bl_s, bw_s, gd]
theorem X3_bestByHalves (hfu : 200000 ≤ fu) {h r u : Nat} {f g' : Nat → Nat} (hk : k < 313) (hu : u < 313) (hh : h < 6) (hr : r < 11) (h3 : M.1 (g + 1 + 3) k = nI u) (ha : ∀ x, x < 11 → M.1 (g + 11) (((k + 1) * 6 + h) * 11 + x) = nI (f x)) (hb : ∀ x, x < 11 → M.1 (g + 11) ((u * 6 + h) * 11 + x) = nI (g' x)) (la : ∀ x, f x ≤ 1024) (lb : ∀ x, g' x ≤ 1024) : fX3_bestByHalves fu g (nI k) (nI h) (nI r) M = some (nI (mxs f g' r r)) := by
  unfold fX3_bestByHalves fX3_bestByHalves_l32
  have c1 := X3_cell (fu := fu) (a := k + 1) (b := h) (c := 0)
  have c2 := X3_cell (fu := fu) (a := u) (b := h) (c := r)
  simp (disch := omega) only [zi_li, zi_m, zi_m1, nI_add, zi_sub, zi_mul, zi_addm, zi_m_lt, zi_lt_m, zi_m_le, zi_le_m, zi_eq_m, zi_m_eq, nI_ltI, nI_leI, nI_eq, nI_clamp, zi_div, lt_eq, bm_s, bi_s, bl_s, bw_s, gd, if_pos, if_neg, ite_true, ite_false, or_false, false_or, and_true, true_and, not_true, not_false_iff, true_or, or_true, Nat.not_lt_zero, c1, c2, h3]
  refine lp_ue (fun i => (nI (if i = 0 then 0 else mxs f g' r (i - 1)), nI i)) (r + 1) rfl (by omega) (fun i hi rec => ?_) (fun rec => ?_)
  · have a1 := ha i (by omega)
    have b1 := hb (r - i) (by omega)
    have e1 : ((k + 1) * 6 + h) * 11 + 0 + i = ((k + 1) * 6 + h) * 11 + i := by omega
    have e2 : (u * 6 + h) * 11 + r - i = (u * 6 + h) * 11 + (r - i) := by omega
    have lf := la i
    have lg := lb (r - i)
    have hm : (if i = 0 then 0 else mxs f g' r (i - 1)) ≤ 2048 := by
      split
      · omega
      · exact mxs_le fun x _ => by have := la x; have := lb (r - x); omega
    have hs : (if i + 1 = 0 then 0 else mxs f g' r (i + 1 - 1)) = max (if i = 0 then 0 else mxs f g' r (i - 1)) (f i + g' (r - i)) := by
      rw [if_neg (by omega), Nat.add_sub_cancel]
      cases i with
      | zero => rw [if_pos rfl]; show f 0 + g' r = max 0 (f 0 + g' (r - 0)); rw [Nat.sub_zero]; omega
      | succ i => rw [if_neg (by omega), Nat.add_sub_cancel]; rfl
    dsimp only
    rw [hs]
    generalize (if i = 0 then 0 else mxs f g' r (i - 1)) = v at hm ⊢
    simp (disch := omega) only [fX3_bestByHalves_b32, zi_li, zi_m, zi_m1, nI_add, zi_sub, zi_mul, zi_addm, zi_m_lt, zi_lt_m, zi_m_le, zi_le_m, zi_eq_m, zi_m_eq, nI_ltI, nI_leI, nI_eq, nI_clamp, zi_div, lt_eq, bm_s, bi_s, bl_s, bw_s, gd, if_pos, if_neg, ite_true, ite_false, or_false, false_or, and_true, true_and, not_true, not_false_iff, true_or, or_true, Nat.not_lt_zero, e1, e2, a1, b1]
    by_cases c : v < f i + g' (r - i)
    · rw [if_pos c, show max v (f i + g' (r - i)) = f i + g' (r - i) by omega]
    · rw [if_neg c, show max v (f i + g' (r - i)) = v by omega]
  · dsimp only
    rw [if_neg (by omega), Nat.add_sub_cancel]
    simp (disch := omega) only [fX3_bestByHalves_b32, fX3_bestByHalves_j72, zi_li, zi_m, zi_m1, nI_add, zi_sub, zi_mul, zi_addm, zi_m_lt, zi_lt_m, zi_m_le, zi_le_m, zi_eq_m, zi_m_eq, nI_ltI, nI_leI, nI_eq, nI_clamp, zi_div, lt_eq, bm_s, bi_s, bl_s, bw_s, gd, if_pos, if_neg, ite_true, ite_false, or_false, false_or, and_true, true_and, not_true, not_false_iff, true_or, or_true, Nat.not_lt_zero]
theorem X3_byItself (hfu : 200000 ≤ fu) {h r : Nat} {f : Nat → Nat} (hk : k < 313) (hh : h < 6) (hr : r < 11) (hc : ∀ j, j < h → 0 < r → M.1 (g + 11) ((k * 6 + j) * 11 + (r - 1)) = nI (f j)) (lc : ∀ j, j < h → f j ≤ 1024) : fX3_byItself fu g (nI k) (nI h) (nI r) M = some (nI (if r = 0 then 0 else mxk f h)) := by
  unfold fX3_byItself fX3_byItself_l6
  by_cases c0 : r = 0
  · subst c0
    obtain ⟨z, rfl⟩ : ∃ z, fu = z + 1 := ⟨fu - 1, by omega⟩
    rw [lp_S, if_pos rfl]
    simp (disch := omega) only [fX3_byItself_b6, fX3_byItself_j60, zi_li, zi_m, zi_m1, nI_add, zi_sub, zi_mul, zi_addm, zi_m_lt, zi_lt_m, zi_m_le, zi_le_m, zi_eq_m, zi_m_eq, nI_ltI, nI_leI, nI_eq, nI_clamp, zi_div, lt_eq, bm_s, bi_s, bl_s, bw_s, gd, if_pos, if_neg, ite_true, ite_false, or_false, false_or, and_true, true_and, not_true, not_false_iff, true_or, or_true, Nat.not_lt_zero]
  · rw [if_neg c0, ← mb_5 f hh]
    refine lp_ue (fun i => (nI (mb f h i), nI i)) 5 rfl (by omega) (fun i hi rec => ?_) (fun rec => ?_)
    · have hm := md_lt h hh i hi
      have hL := laid_T h hh i hi
      have hb := mb_le hh lc i (by omega)
      have q1 : ¬ (5 : Int32) ≤ nI i := by
        show ¬ nI 5 ≤ nI i
        exact nI_ge hi (by omega)
      have q2 : ¬ nI r ≤ 0 := nI_nle (by omega) (by omega)
      by_cases c3 : md h i = 9
      · have e1 : mb f h (i + 1) = mb f h i := if_pos c3
        rw [if_pos c3] at hL
        have q3 : mI < 0 := by decide +kernel
        dsimp only
        unfold fX3_byItself_b6 fX3_byItself_j54
        rw [e1, if_neg q1, if_neg q2]
        have hix : nI h * 5 + nI i = nI (h * 5 + i) := by simp (disch := omega) only [zi_li, zi_m, zi_m1, nI_add, zi_sub, zi_mul, zi_addm, zi_m_lt, zi_lt_m, zi_m_le, zi_le_m, zi_eq_m, zi_m_eq, nI_ltI, nI_leI, nI_eq, nI_clamp, zi_div, lt_eq, bm_s, bi_s, bl_s, bw_s, gd]
        have hin : ¬ (nI (h * 5 + i) < 0 ∨ 30 ≤ ix (nI (h * 5 + i))) := nI_in (by omega) (by omega)
        rw [hix, if_neg hin, lt_eq, ix_n (by omega)]
        have hL' : laidT.getD (h * 5 + i) 0 = mI := hL
        rw [hL', if_pos q3, lt_eq, nI_1]
      · have e1 : mb f h (i + 1) = max (mb f h i) (f (md h i)) := if_neg c3
        rw [if_neg c3] at hL
        have h3 := hm c3
        have h1 := hc (md h i) h3 (by omega)
        have h2 := lc (md h i) h3
        have cl := X3_cell (fu := fu) (a := k) (b := md h i) (c := r - 1)
        dsimp only
        rw [e1]
        simp (disch := omega) only [fX3_byItself_b6, fX3_byItself_j54, zi_li, zi_m, zi_m1, nI_add, zi_sub, zi_mul, zi_addm, zi_m_lt, zi_lt_m, zi_m_le, zi_le_m, zi_eq_m, zi_m_eq, nI_ltI, nI_leI, nI_eq, nI_clamp, zi_div, lt_eq, bm_s, bi_s, bl_s, bw_s, gd, if_pos, if_neg, ite_true, ite_false, or_false, false_or, and_true, true_and, not_true, not_false_iff, true_or, or_true, Nat.not_lt_zero, hL, cl, h1]
        by_cases c4 : mb f h i < f (md h i)
        · rw [if_pos c4, show max (mb f h i) (f (md h i)) = f (md h i) by omega]
        · rw [if_neg c4, show max (mb f h i) (f (md h i)) = mb f h i by omega]
    · simp (disch := omega) only [fX3_byItself_b6, fX3_byItself_j60, zi_li, zi_m, zi_m1, nI_add, zi_sub, zi_mul, zi_addm, zi_m_lt, zi_lt_m, zi_m_le, zi_le_m, zi_eq_m, zi_m_eq, nI_ltI, nI_leI, nI_eq, nI_clamp, zi_div, lt_eq, bm_s, bi_s, bl_s, bw_s, gd, if_pos, if_neg, ite_true, ite_false, or_false, false_or, and_true, true_and, not_true, not_false_iff, true_or, or_true, Nat.not_lt_zero]
theorem X3_asItIs (hfu : 200000 ≤ fu) {h r : Nat} (hT : TW w t d F M (g + 1)) (hW : WG w t d) (hF : ∀ x, w x = 9 ↔ x < F) (hF2 : F ≤ 1024) (hk : k < NN w t 0) (hl : lo w t 0 k = (e, q)) (hh : h < 6) (hr : r < 11) (hkid : ∀ e1, e = e1 + 1 → ¬ ic w e q = 0 → MT w d M g e1 (2 * q) (k + 1) ∧ MT w d M g e1 (2 * q + 1) (k + 1 + NN w e1 (2 * q))) : fX3_asItIs fu g (nI k) (nI h) (nI r) M = some (nI (nb w d e q h r)) := by
  have h313 := hW.2.2.2
  obtain ⟨lv1, lv2, lv3, lv4, lv5⟩ := hW.lv hk hl
  have hN := hT.1.2 k hk
  rw [hl] at hN
  by_cases ci : ic w e q = 0
  · have h3 : M.1 (g + 1 + 3) k = nI 0 := (hN.2.1 ci).2
    have ir := X9_isRight (fu := fu) hT hW hk hl ci hh (show 5 < 6 by omega)
    have op := X9_open (fu := fu) hT hW hF hF2 hk hl
    have hu := ic_un ci
    have hpe := pwp e
    have hO : OP w e q = if w (q * 2 ^ e) = 9 then 0 else 2 ^ e := by
      unfold OP
      rw [smN_flat (g := oP w) (a := q * 2 ^ e) (b := q * 2 ^ e + 2 ^ e) (v := if w (q * 2 ^ e) = 9 then 0 else 1) (Nat.le_add_right _ _) (fun x h1 h2 => by unfold oP; rw [hu x h1 h2])]
      by_cases c : w (q * 2 ^ e) = 9
      · rw [if_pos c, if_pos c]; omega
      · rw [if_neg c, if_neg c]; omega
    have hkb := kb_lt hW.2.1 hh
    have hR : RI w d e q h = if bsV (w (q * 2 ^ e)) d 5 h = 0 then OP w e q else 0 := by
      rw [RI_un hu, hO]
      unfold bsV
      have hs : snN 5 (kb d h) = kb d h := if_pos rfl
      rw [hs]
      by_cases c : w (q * 2 ^ e) = 9
      · rw [if_pos (Or.inl c), if_pos rfl, if_pos c, if_neg (by omega), Nat.mul_zero]
      · by_cases c2 : kb d h = w (q * 2 ^ e)
        · rw [if_pos c2.symm, if_pos (Or.inr c2), if_pos rfl, if_neg c, Nat.mul_one]
        · have hne : ¬ (if w (q * 2 ^ e) = 9 ∨ kb d h = w (q * 2 ^ e) then 0 else 1048576) = 0 := by
            rw [if_neg (fun z => z.elim c c2)]
            decide
          rw [if_neg (fun z => c2 z.symm), if_neg hne, Nat.mul_zero]
    rw [nb_u ci, hR]
    simp (disch := omega) only [fX3_asItIs, fX3_asItIs_j45, h3, ir, op, bI_0, zi_li, zi_m, zi_m1, nI_add, zi_sub, zi_mul, zi_addm, zi_m_lt, zi_lt_m, zi_m_le, zi_le_m, zi_eq_m, zi_m_eq, nI_ltI, nI_leI, nI_eq, nI_clamp, zi_div, lt_eq, bm_s, bi_s, bl_s, bw_s, gd, if_pos, if_neg, ite_true, ite_false, or_false, false_or, and_true, true_and, not_true, not_false_iff, true_or, or_true, Nat.not_lt_zero]
    by_cases c : bsV (w (q * 2 ^ e)) d 5 h = 0
    · rw [if_neg (fun z => z c), if_pos c]
    · rw [if_pos c, if_neg c]
  · obtain ⟨e1, rfl⟩ : ∃ e1, e = e1 + 1 := by
      cases e with
      | zero => exact absurd (ic_0 w q) ci
      | succ e1 => exact ⟨e1, rfl⟩
    obtain ⟨k1, k2⟩ := hkid e1 rfl ci
    obtain ⟨l1, l2, l3⟩ := lo_kid hk hl ci
    have p2 := NN_p w e1 (2 * q + 1)
    have h3 : M.1 (g + 1 + 3) k = nI (k + 1 + NN w e1 (2 * q)) := hN.2.2 ci
    have hp1 := pw1 e1
    have lo1 := OP_le w e1 (2 * q)
    have lo2 := OP_le w e1 (2 * q + 1)
    have bh := X3_bestByHalves hfu (M := M) (g := g) (k := k) (h := h) (r := r) (f := Gw w d e1 (2 * q) h) (g' := Gw w d e1 (2 * q + 1) h) (by omega) (by omega) hh hr h3 (fun x hx => k1 h hh x hx) (fun x hx => k2 h hh x hx) (fun x => by have := Gw_le (w := w) hW.2.1 e1 (2 * q) h x hh; omega) (fun x => by have := Gw_le (w := w) hW.2.1 e1 (2 * q + 1) h x hh; omega)
    rw [nb_h ci]
    simp (disch := omega) only [fX3_asItIs, h3, bh, zi_li, zi_m, zi_m1, nI_add, zi_sub, zi_mul, zi_addm, zi_m_lt, zi_lt_m, zi_m_le, zi_le_m, zi_eq_m, zi_m_eq, nI_ltI, nI_leI, nI_eq, nI_clamp, zi_div, lt_eq, bm_s, bi_s, bl_s, bw_s, gd, if_pos, if_neg, ite_true, ite_false, or_false, false_or, and_true, true_and, not_true, not_false_iff, true_or, or_true, Nat.not_lt_zero]
theorem X3_weigh (hfu : 200000 ≤ fu) {h : Nat} (hT : TW w t d F M (g + 1)) (hW : WG w t d) (hF : ∀ x, w x = 9 ↔ x < F) (hF2 : F ≤ 1024) (hk : k < NN w t 0) (hl : lo w t 0 k = (e, q)) (hh : h < 6) (hkid : ∀ e1, e = e1 + 1 → ¬ ic w e q = 0 → MT w d M g e1 (2 * q) (k + 1) ∧ MT w d M g e1 (2 * q + 1) (k + 1 + NN w e1 (2 * q)))
    (hprev : ∀ j, j < h → ∀ r, r < 11 → M.1 (g + 11) ((k * 6 + j) * 11 + r) = nI (Gw w d e q j r)) :
    Wp (fX3_weigh fu g (nI k) (nI h) M) (fun M' => (∀ r, r < 11 → M'.1 (g + 11) ((k * 6 + h) * 11 + r) = nI (Gw w d e q h r)) ∧ (∀ j, j < (k * 6 + h) * 11 ∨ (k * 6 + h) * 11 + 11 ≤ j → M'.1 (g + 11) j = M.1 (g + 11) j) ∧ O1 (g + 11) M M') := by
  have h313 := hW.2.2.2
  obtain ⟨lv1, lv2, lv3, lv4, lv5⟩ := hW.lv hk hl
  have op := X9_open (fu := fu) hT hW hF hF2 hk hl
  have lO := OP_le w e q
  unfold fX3_weigh fX3_weigh_l15
  rw [op, bi_s]
  refine lp_ho (fun r z => z.1 = (if r = 0 then mI else nI (Gw w d e q h (r - 1))) ∧ z.2.1 = nI r ∧ (∀ i, i < r → z.2.2.1 (g + 11) ((k * 6 + h) * 11 + i) = nI (Gw w d e q h i)) ∧ (∀ j, j < (k * 6 + h) * 11 ∨ (k * 6 + h) * 11 + 11 ≤ j → z.2.2.1 (g + 11) j = M.1 (g + 11) j) ∧ O1 (g + 11) M z.2.2) _ 11 (i := 0) (by omega) (by omega) ⟨rfl, rfl, fun i hi => absurd hi (by omega), fun j _ => rfl, O1.rf _ _⟩ (fun r z hr hz rec hrec => ?_) (fun z hz rec => ?_)
  · obtain ⟨z1, z2, z3⟩ := z
    obtain ⟨e1, e2, g1, g2, g3⟩ := hz
    dsimp only at *
    subst e1 e2
    have Tz : TW w t d F z3 (g + 1) := hT.fr fun c _ _ => g3.1 c (by omega)
    have lG := Gw_le (w := w) hW.2.1 e q h
    have cl := X3_cell (fu := fu) (a := k) (b := h) (c := r)
    have fin : ∀ v, v = nI (Gw w d e q h r) → Wp (fX3_weigh_j58 fu (fun x4 x5 M => rec (x4, x5, M)) g (nI k) (nI h) (nI (OP w e q)) v (nI r) z3) (fun M' => (∀ r, r < 11 → M'.1 (g + 11) ((k * 6 + h) * 11 + r) = nI (Gw w d e q h r)) ∧ (∀ j, j < (k * 6 + h) * 11 ∨ (k * 6 + h) * 11 + 11 ≤ j → M'.1 (g + 11) j = M.1 (g + 11) j) ∧ O1 (g + 11) M M') := fun v hv => by
      subst hv
      simp (disch := omega) only [fX3_weigh_j58, cl, zi_li, zi_m, zi_m1, nI_add, zi_sub, zi_mul, zi_addm, zi_m_lt, zi_lt_m, zi_m_le, zi_le_m, zi_eq_m, zi_m_eq, nI_ltI, nI_leI, nI_eq, nI_clamp, zi_div, lt_eq, bm_s, bi_s, bl_s, bw_s, gd, if_pos, if_neg, ite_true, ite_false, or_false, false_or, and_true, true_and, not_true, not_false_iff, true_or, or_true, Nat.not_lt_zero]
      refine hrec _ ⟨?_, rfl, fun i hi => ?_, fun j hj => ?_, g3.tr (O1.w _ _ _)⟩
      · rw [if_neg (by omega), Nat.add_sub_cancel]
      · by_cases c : i = r
        · subst c
          simp (disch := omega) only [wI_ne, wI_eq, wI_nk, wIs_ne, wIs_eq]
        · simp (disch := omega) only [wI_ne, wI_eq, wI_nk, wIs_ne, wIs_eq]
          exact g1 i (by omega)
      · simp (disch := omega) only [wI_ne, wI_eq, wI_nk, wIs_ne, wIs_eq]
        exact g2 j hj
    have comp : Wp (fX3_weigh_j37 fu (fun x4 x5 M => rec (x4, x5, M)) g (nI k) (nI h) (nI (OP w e q)) (nI r) z3) (fun M' => (∀ r, r < 11 → M'.1 (g + 11) ((k * 6 + h) * 11 + r) = nI (Gw w d e q h r)) ∧ (∀ j, j < (k * 6 + h) * 11 ∨ (k * 6 + h) * 11 + 11 ≤ j → M'.1 (g + 11) j = M.1 (g + 11) j) ∧ O1 (g + 11) M M') := by
      have as := X3_asItIs hfu (h := h) (r := r) Tz hW hF hF2 hk hl hh hr (fun e1 he1 hc => by
        obtain ⟨k1, k2⟩ := hkid e1 he1 hc
        have p1 := NN_p w e1 (2 * q)
        refine ⟨fun i hi x hx => ?_, fun i hi x hx => ?_⟩
        · rw [g2 _ (by omega)]; exact k1 i hi x hx
        · rw [g2 _ (by omega)]; exact k2 i hi x hx)
      have it := X3_byItself hfu (M := z3) (g := g) (k := k) (h := h) (r := r) (f := fun j => Gw w d e q j (r - 1)) (by omega) hh hr (fun j hj h0 => by rw [g2 _ (by omega)]; exact hprev j hj (r - 1) (by omega)) (fun j hj => by have := Gw_le (w := w) hW.2.1 e q j (r - 1) (by omega); omega)
      have ln : nb w d e q h r ≤ 1024 := by
        cases r with
        | zero => rw [← Gw_n0]; have := lG 0 hh; omega
        | succ r => have h1 := Gw_nS (w := w) (d := d) (e := e) (q := q) (r := r) hh; have h2 := lG (r + 1) hh; omega
      have lm : mxk (fun j => Gw w d e q j (r - 1)) h ≤ 1024 := mxk_le hh fun j hj => by have := Gw_le (w := w) hW.2.1 e q j (r - 1) (by omega); omega
      unfold fX3_weigh_j37
      rw [as, bi_s, it, bi_s, lt_eq]
      refine fin _ ?_
      cases r with
      | zero =>
        rw [if_pos rfl, Gw_n0, if_neg (nI_nlt (Nat.zero_le _) (by omega))]
      | succ r =>
        rw [if_neg (Nat.succ_ne_zero r), Nat.add_sub_cancel]
        rw [Nat.add_sub_cancel] at lm
        rw [Gw_nS hh]
        by_cases c : nb w d e q h (r + 1) < mxk (fun j => Gw w d e q j r) h
        · rw [if_pos (nI_lt c (by omega))]
          congr 1
          omega
        · rw [if_neg (nI_nlt (by omega) (by omega))]
          congr 1
          omega
    have q1 : ¬ (11 : Int32) ≤ nI r := by
      show ¬ nI 11 ≤ nI r
      exact nI_ge hr (by omega)
    unfold fX3_weigh_b15
    rw [if_neg q1]
    cases r with
    | zero =>
      rw [if_pos nI_0]
      exact comp
    | succ r =>
      rw [if_neg (nI_ne0 (by omega) (by omega)), if_neg (Nat.succ_ne_zero r), Nat.add_sub_cancel]
      have lG1 := lG r hh
      have lG2 := lG (r + 1) hh
      have mo := Gw_mo w d e q h r hh
      by_cases c1 : OP w e q ≤ Gw w d e q h r
      · rw [if_pos (nI_le c1 (by omega))]
        exact fin _ (by congr 1; omega)
      · rw [if_neg (nI_ge (by omega) (by omega))]
        by_cases c2 : h = 0
        · subst c2
          rw [if_pos nI_0]
          exact fin _ (by rw [Gw_k0, Gw_k0])
        · rw [if_neg (nI_ne0 (by omega) (by omega))]
          exact comp
  · obtain ⟨z1, z2, z3⟩ := z
    obtain ⟨e1, e2, g1, g2, g3⟩ := hz
    dsimp only at *
    subst e2
    simp (disch := omega) only [fX3_weigh_b15, fX3_weigh_j78, zi_li, zi_m, zi_m1, nI_add, zi_sub, zi_mul, zi_addm, zi_m_lt, zi_lt_m, zi_m_le, zi_le_m, zi_eq_m, zi_m_eq, nI_ltI, nI_leI, nI_eq, nI_clamp, zi_div, lt_eq, bm_s, bi_s, bl_s, bw_s, gd, if_pos, if_neg, ite_true, ite_false, or_false, false_or, and_true, true_and, not_true, not_false_iff, true_or, or_true, Nat.not_lt_zero]
    rw [wp_some]
    exact ⟨g1, g2, g3⟩
end FI
