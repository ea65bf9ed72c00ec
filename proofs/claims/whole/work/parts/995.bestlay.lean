/-! The class lays the best set. -/
theorem fm_un {w : Nat → Nat} {d e q v h r : Nat} (hu : Un w e q v) (hh : h < 6) : fm (Gw w d e q) h r = fm (fun h r => ro v d h r) h r := by
  have hp := pwp e
  have key : ∀ k, k < 5 → ((¬ md h k = 9 ∧ Gw w d e q (md h k) (r - 1) = Gw w d e q h r) ↔ (¬ md h k = 9 ∧ ro v d (md h k) (r - 1) = ro v d h r)) := fun k hk => by
    constructor
    · rintro ⟨a1, a2⟩
      have h1 := md_lt h hh k hk a1
      rw [Gw_un e q _ _ hu (by omega), Gw_un e q _ _ hu hh] at a2
      exact ⟨a1, Nat.eq_of_mul_eq_mul_left hp a2⟩
    · rintro ⟨a1, a2⟩
      have h1 := md_lt h hh k hk a1
      rw [Gw_un e q _ _ hu (by omega), Gw_un e q _ _ hu hh, a2]
      exact ⟨a1, rfl⟩
  unfold fm
  simp only [key 0 (by omega), key 1 (by omega), key 2 (by omega), key 3 (by omega)]
section BLY
variable {fu g t d F k e q Q : Nat} {w : Nat → Nat} {M : Mm} {L : Lay}
theorem X3_firstKind (hfu : 200000 ≤ fu) {h r : Nat} (hW : WG w t d) (hk : k < NN w t 0) (hT : MT w d M g e q k) (hel : e ≤ t) (hh : h < 6) (hr : 0 < r) (hr11 : r < 11) (hx : ∃ k, k < 5 ∧ fmP (Gw w d e q) h r k) : fX3_firstKind fu g (nI k) (nI h) (nI r) M = some (nI (fm (Gw w d e q) h r)) := by
  have h313 := hW.2.2.2
  obtain ⟨f1, f2, f3⟩ := fm_ok hx
  have lG : ∀ h r, h < 6 → Gw w d e q h r ≤ 1024 := fun h r hh => by
    have h1 := Gw_le (w := w) hW.2.1 e q h r hh
    have h2 := OP_le w e q
    have h3 : 2 ^ e ≤ 2 ^ 10 := Nat.pow_le_pow_right (by decide) (by have := hW.2.2.1; omega)
    omega
  have l1 := lG h r hh
  have cl := X3_cell (fu := fu) (a := k) (b := h) (c := r)
  have v0 := hT h hh r hr11
  have gg : ∀ i, i < 5 → ∀ rec : Int32 → Option Int32, (fmP (Gw w d e q) h r i → fX3_firstKind_b16 fu (fun x5 => rec x5) g (nI k) (nI h) (nI r) (nI (Gw w d e q h r)) (nI i) M = some (nI i)) ∧ (¬ fmP (Gw w d e q) h r i → fX3_firstKind_b16 fu (fun x5 => rec x5) g (nI k) (nI h) (nI r) (nI (Gw w d e q h r)) (nI i) M = rec (nI (i + 1))) := fun i hi rec => by
    have hm := md_lt h hh i hi
    have hL := laid_T h hh i hi
    by_cases c3 : md h i = 9
    · refine ⟨fun c => absurd c3 c.1, fun _ => ?_⟩
      rw [if_pos c3] at hL
      have q1 : ¬ (5 : Int32) ≤ nI i := by
        show ¬ nI 5 ≤ nI i
        exact nI_ge hi (by omega)
      have q3 : mI < 0 := by decide +kernel
      have hix : nI h * 5 + nI i = nI (h * 5 + i) := by simp (disch := omega) only [zi_li, zi_m, zi_m1, nI_add, zi_sub, zi_mul, zi_addm, zi_m_lt, zi_lt_m, zi_m_le, zi_le_m, zi_eq_m, zi_m_eq, nI_ltI, nI_leI, nI_eq, nI_clamp, zi_div, lt_eq, bm_s, bi_s, bl_s, bw_s, gd]
      have hin : ¬ (nI (h * 5 + i) < 0 ∨ 30 ≤ ix (nI (h * 5 + i))) := nI_in (by omega) (by omega)
      have hL' : laidT.getD (h * 5 + i) 0 = mI := hL
      unfold fX3_firstKind_b16 fX3_firstKind_j61
      rw [if_neg q1, hix, if_neg hin, lt_eq, ix_n (by omega), hL', if_pos q3, lt_eq, nI_1]
    · rw [if_neg c3] at hL
      have h3 := hm c3
      have h1 := hT (md h i) (by omega) (r - 1) (by omega)
      have l2 := lG (md h i) (r - 1) (by omega)
      have cl2 := X3_cell (fu := fu) (a := k) (b := md h i) (c := r - 1)
      have e1 : fX3_firstKind_b16 fu (fun x5 => rec x5) g (nI k) (nI h) (nI r) (nI (Gw w d e q h r)) (nI i) M = if Gw w d e q (md h i) (r - 1) = Gw w d e q h r then some (nI i) else rec (nI (i + 1)) := by
        simp (disch := omega) only [fX3_firstKind_b16, fX3_firstKind_j61, fX3_firstKind_j58, zi_li, zi_m, zi_m1, nI_add, zi_sub, zi_mul, zi_addm, zi_m_lt, zi_lt_m, zi_m_le, zi_le_m, zi_eq_m, zi_m_eq, nI_ltI, nI_leI, nI_eq, nI_clamp, zi_div, lt_eq, bm_s, bi_s, bl_s, bw_s, gd, if_pos, if_neg, ite_true, ite_false, or_false, false_or, and_true, true_and, not_true, not_false_iff, true_or, or_true, Nat.not_lt_zero, hL, cl2, h1]
      rw [e1]
      exact ⟨fun c => if_pos c.2, fun c => if_neg fun c2 => c ⟨c3, c2⟩⟩
  unfold fX3_firstKind fX3_firstKind_l16
  simp (disch := omega) only [cl, zi_li, zi_m, zi_m1, nI_add, zi_sub, zi_mul, zi_addm, zi_m_lt, zi_lt_m, zi_m_le, zi_le_m, zi_eq_m, zi_m_eq, nI_ltI, nI_leI, nI_eq, nI_clamp, zi_div, lt_eq, bm_s, bi_s, bl_s, bw_s, gd, if_pos, if_neg, ite_true, ite_false, or_false, false_or, and_true, true_and, not_true, not_false_iff, true_or, or_true, Nat.not_lt_zero, v0]
  have key : Wp (lp (fun (rec : Int32 → Option Int32) (s : Int32) => fX3_firstKind_b16 fu (fun x5 => rec x5) g (nI k) (nI h) (nI r) (nI (Gw w d e q h r)) s M) fu (nI 0)) (fun v => v = nI (fm (Gw w d e q) h r)) := by
    refine lp_ho (fun i z => z = nI i) _ (fm (Gw w d e q) h r) (i := 0) (by omega) (by omega) rfl (fun i z hi hz rec hrec => ?_) (fun z hz rec => ?_)
    · subst hz
      rw [(gg i (by omega) rec).2 (f3 i hi)]
      exact hrec _ rfl
    · subst hz
      rw [(gg _ f1 rec).1 f2, wp_some]
  obtain ⟨v, ev, rfl⟩ := key
  exact ev
theorem X3_alikeNode (hfu : 200000 ≤ fu) {k0 e0 q0 dep h0 r0 : Nat} {l0 : List Bk} {fr : Nat → Int32 → Int32 → Int32 → Int32 → Int32 → Int32 → Mm → Option Mm} (hW : WG w t d) (hk : k0 < NN w t 0) (he0 : e0 ≤ t) (ha : atB L Q (T0 10) = true) (hd : Q + 4 ≤ g ∨ g + 12 ≤ Q) (hi0 : ic w e0 q0 = 0) (hu : Un w e q (w (q0 * 2 ^ e0))) (he10 : e ≤ 10) (hqb : q * 2 ^ e + 2 ^ e ≤ 1024) (hdep : dep ≤ 11) (hh0 : h0 < 6) (hr0 : r0 < 11) (hT0 : MT w d M g e0 q0 k0) (hQ0 : M.2.2 g 2 = some Q) (hB0 : BV M Q l0) (hb0 : l0.length + r0 ≤ 10)
    (hH : ∀ e1, e = e1 + 1 → ∀ h r l M, h < 6 → 2 ≤ r → r < 11 → MT w d M g e0 q0 k0 → M.2.2 g 2 = some Q → BV M Q l → l.length + r ≤ 10 → Wp (fX3_layAlike_j65 fu L fr g (nI k0) (nI (q * 2 ^ e)) (nI (2 ^ e)) (nI dep) (nI h) (nI r) M) (fun M' => BV M' Q (l ++ (Bl w d e1 (2 * q) h 1 ++ Bl w d e1 (2 * q + 1) h (r - 1))) ∧ Fr Q 4 M M')) :
    Wp (fX3_layAlike_R fu L fr g (nI k0) (nI (q * 2 ^ e)) (nI (2 ^ e)) (nI h0) (nI r0) (nI dep) M) (fun M' => BV M' Q (l0 ++ Bl w d e q h0 r0) ∧ Fr Q 4 M M') := by
  have h313 := hW.2.2.2
  have hu0 := ic_un hi0
  have hp0 := pwp e0
  have hpe := pwp e
  have hv10 : w (q0 * 2 ^ e0) < 10 := by have := hW.1 (q0 * 2 ^ e0); omega
  have hd5 := hW.2.1
  have lG : ∀ h r, h < 6 → Gw w d e0 q0 h r ≤ 1024 := fun h r hh => by
    have h1 := Gw_le (w := w) hW.2.1 e0 q0 h r hh
    have h2 := OP_le w e0 q0
    have h3 : 2 ^ e0 ≤ 2 ^ 10 := Nat.pow_le_pow_right (by decide) (by have := hW.2.2.1; omega)
    omega
  unfold fX3_layAlike_R fX3_layAlike_l8
  refine lp_me (fun z => ∃ h r l, z.1 = nI h ∧ z.2.1 = nI r ∧ h < 6 ∧ r < 11 ∧ BV z.2.2 Q l ∧ l.length + r ≤ 10 ∧ l0 ++ Bl w d e q h0 r0 = l ++ Bl w d e q h r ∧ Fr Q 4 M z.2.2) (fun z => ix z.2.1) _ (fun z hz rec hrec => ?_) (by dsimp only; rw [ix_n (by omega)]; omega) ⟨h0, r0, l0, rfl, rfl, hh0, hr0, hB0, hb0, rfl, Fr.rf _ _ _⟩
  obtain ⟨z1, z2, z3⟩ := z
  obtain ⟨h, r, l, e1, e2, hh, hr, hB, hb, hBl, hF⟩ := hz
  dsimp only at *
  subst e1 e2
  have hT : MT w d z3 g e0 q0 k0 := fun i hi x hx => by rw [hF.at (by omega)]; exact hT0 i hi x hx
  have hQ : z3.2.2 g 2 = some Q := by rw [(hF g (by omega)).2.2]; exact hQ0
  by_cases c0 : r = 0
  · subst c0
    simp (disch := omega) only [fX3_layAlike_b8, fX3_layAlike_j148, zi_li, zi_m, zi_m1, nI_add, zi_sub, zi_mul, zi_addm, zi_m_lt, zi_lt_m, zi_m_le, zi_le_m, zi_eq_m, zi_m_eq, nI_ltI, nI_leI, nI_eq, nI_clamp, zi_div, lt_eq, bm_s, bi_s, bl_s, bw_s, gd, if_pos, if_neg, ite_true, ite_false, or_false, false_or, and_true, true_and, not_true, not_false_iff, true_or, or_true, Nat.not_lt_zero]
    rw [wp_some, hBl, Bl_0 (Gw_0 w d e q h).symm, List.append_nil]
    exact ⟨hB, hF⟩
  have cl0 := X3_cell (fu := fu) (a := k0) (b := h) (c := 0)
  have cl1 := X3_cell (fu := fu) (a := k0) (b := h) (c := r)
  have v0 := hT h hh 0 (by omega)
  have v1 := hT h hh r hr
  have l0' := lG h 0 hh
  have l1' := lG h r hh
  have hE : Gw w d e0 q0 h 0 = Gw w d e0 q0 h r ↔ RI w d e q h = Gw w d e q h r := by
    rw [← Gw_0 w d e q h, Gw_un e0 q0 h 0 hu0 hh, Gw_un e0 q0 h r hu0 hh, Gw_un e q h 0 hu hh, Gw_un e q h r hu hh]
    exact ⟨fun z => by rw [Nat.eq_of_mul_eq_mul_left hp0 z], fun z => by rw [Nat.eq_of_mul_eq_mul_left hpe z]⟩
  have itself : ¬ RI w d e q h = Gw w d e q h r → hv w d e q h r = none → Wp (fX3_layAlike_j107 fu L fr (fun x7 x8 M => rec (x7, x8, M)) g (nI k0) (nI (q * 2 ^ e)) (nI (2 ^ e)) (nI dep) (nI h) (nI r) z3) (fun M' => BV M' Q (l0 ++ Bl w d e q h0 r0) ∧ Fr Q 4 M M') := fun hne hno => by
    have hx := Bl_x hh hne hno
    obtain ⟨f1, f2, f3⟩ := fm_ok hx
    have hm := md_lt h hh _ f1 f2.1
    have hx0 : ∃ k, k < 5 ∧ fmP (Gw w d e0 q0) h r k := by
      obtain ⟨j, j1, j2, j3⟩ := hx
      have j4 := md_lt h hh j j1 j2
      rw [Gw_un e q _ _ hu (by omega), Gw_un e q _ _ hu hh] at j3
      refine ⟨j, j1, j2, ?_⟩
      rw [Gw_un e0 q0 _ _ hu0 (by omega), Gw_un e0 q0 _ _ hu0 hh, Nat.eq_of_mul_eq_mul_left hpe j3]
    have fk1 := X3_firstKind hfu hW hk hT he0 hh (by omega) hr hx0
    rw [fm_un hu0 hh, ← fm_un hu hh] at fk1
    have hL := laid_T h hh _ f1
    rw [if_neg f2.1] at hL
    unfold fX3_layAlike_j107
    rw [fk1, bi_s, hQ, bl_s]
    simp (disch := omega) only [gd, ha, if_pos, if_neg, ite_true, ite_false, or_false, false_or, and_true, true_and, not_true, not_false_iff, true_or, or_true, Nat.not_lt_zero]
    rw [wp_bm]
    refine (X0_add (fu := fu) (cap := 10) (b := q * 2 ^ e) (s := 2 ^ e) (k := fm (Gw w d e q) h r) hB (by omega) (by omega)).mono fun M' hM' => ?_
    obtain ⟨y1, y2⟩ := hM'
    simp (disch := omega) only [zi_li, zi_m, zi_m1, nI_add, zi_sub, zi_mul, zi_addm, zi_m_lt, zi_lt_m, zi_m_le, zi_le_m, zi_eq_m, zi_m_eq, nI_ltI, nI_leI, nI_eq, nI_clamp, zi_div, lt_eq, bm_s, bi_s, bl_s, bw_s, gd, if_pos, if_neg, ite_true, ite_false, or_false, false_or, and_true, true_and, not_true, not_false_iff, true_or, or_true, Nat.not_lt_zero, hL]
    refine hrec _ ⟨_, r - 1, _, rfl, rfl, by omega, by omega, y1, ?_, ?_, hF.tr y2⟩ ?_
    · rw [List.length_append]
      show l.length + 1 + (r - 1) ≤ 10
      omega
    · rw [hBl, Bl_i hne hno, List.append_assoc]
      rfl
    · dsimp only
      rw [ix_n (by omega), ix_n (by omega)]
      omega
  simp (disch := omega) only [fX3_layAlike_b8, fX3_layAlike_j53, zi_li, zi_m, zi_m1, nI_add, zi_sub, zi_mul, zi_addm, zi_m_lt, zi_lt_m, zi_m_le, zi_le_m, zi_eq_m, zi_m_eq, nI_ltI, nI_leI, nI_eq, nI_clamp, zi_div, lt_eq, bm_s, bi_s, bl_s, bw_s, gd, if_pos, if_neg, ite_true, ite_false, or_false, false_or, and_true, true_and, not_true, not_false_iff, true_or, or_true, Nat.not_lt_zero, cl0, cl1, v0, v1]
  by_cases c1 : Gw w d e0 q0 h 0 = Gw w d e0 q0 h r
  · rw [if_pos c1, wp_some, hBl, Bl_0 (hE.mp c1), List.append_nil]
    exact ⟨hB, hF⟩
  rw [if_neg c1]
  have hne : ¬ RI w d e q h = Gw w d e q h r := fun z => c1 (hE.mpr z)
  by_cases ce : e = 0
  · subst ce
    rw [if_pos (by decide)]
    exact itself hne rfl
  · obtain ⟨e1, rfl⟩ : ∃ e1, e = e1 + 1 := ⟨e - 1, by omega⟩
    have hp1 := pw1 e1
    have hpe1 := pwp e1
    have hvv := hv_un (r := r) hu hv10 hd5 hh hne
    rw [if_neg (by omega)]
    by_cases cr : r ≤ 1
    · rw [if_pos cr]
      rw [if_pos (by omega)] at hvv
      exact itself hne hvv
    · rw [if_neg cr]
      rw [if_neg (by omega)] at hvv
      refine (hH e1 rfl h r l z3 hh (by omega) hr hT hQ hB hb).mono fun M' hM' => ?_
      rw [hBl, Bl_h hne hvv]
      exact ⟨hM'.1, hF.tr hM'.2⟩
theorem X3_layAlike (hfu : 200000 ≤ fu) {k0 e0 q0 : Nat} (hW : WG w t d) (hk : k0 < NN w t 0) (he0 : e0 ≤ t) (ha : atB L Q (T0 10) = true) (hd : Q + 4 ≤ g ∨ g + 12 ≤ Q) (hi0 : ic w e0 q0 = 0) : ∀ (e q dp dep h r : Nat) (l : List Bk) (M : Mm), Un w e q (w (q0 * 2 ^ e0)) → e ≤ 10 → q * 2 ^ e + 2 ^ e ≤ 1024 → e < dp → dep + e ≤ 11 → h < 6 → r < 11 → MT w d M g e0 q0 k0 → M.2.2 g 2 = some Q → BV M Q l → l.length + r ≤ 10 →
    Wp (fX3_layAlike fu L dp g (nI k0) (nI (q * 2 ^ e)) (nI (2 ^ e)) (nI h) (nI r) (nI dep) M) (fun M' => BV M' Q (l ++ Bl w d e q h r) ∧ Fr Q 4 M M') := by
  intro e
  induction e with
  | zero =>
    intro q dp dep h0 r0 l0 M0 hu he10 hqb hdp hdep hh0 hr0 hT0 hQ0 hB0 hb0
    obtain ⟨dp, rfl⟩ : ∃ f, dp = f + 1 := ⟨dp - 1, by omega⟩
    exact X3_alikeNode hfu hW hk he0 ha hd hi0 hu he10 hqb (by omega) hh0 hr0 hT0 hQ0 hB0 hb0 (fun e1 h1 => by omega)
  | succ e ih =>
    intro q dp dep h0 r0 l0 M0 hu he10 hqb hdp hdep hh0 hr0 hT0 hQ0 hB0 hb0
    obtain ⟨dp, rfl⟩ : ∃ f, dp = f + 1 := ⟨dp - 1, by omega⟩
    refine X3_alikeNode hfu hW hk he0 ha hd hi0 hu he10 hqb (by omega) hh0 hr0 hT0 hQ0 hB0 hb0 (fun e1 h1 h r l M hh hr2 hr11 hT hQ hB hb => ?_)
    have : e1 = e := by omega
    subst this
    have k1 := bk_l e1 q
    have k2 := bk_u e1 q
    have hp1 := pw1 e1
    have hpe1 := pwp e1
    have hh2 : 2 ^ (e1 + 1) / 2 = 2 ^ e1 := by omega
    have s1 : 2 ^ (e1 + 1) < 2 ^ 31 := by omega
    have hlen := Bl_len w d e1 (2 * q) 2 h 1 (by omega) hh
    have eu : q * 2 ^ (e1 + 1) + 2 ^ e1 = (2 * q + 1) * 2 ^ e1 := by omega
    unfold fX3_layAlike_j65
    simp (disch := omega) only [zi_li, zi_m, zi_m1, nI_add, zi_sub, zi_mul, zi_addm, zi_m_lt, zi_lt_m, zi_m_le, zi_le_m, zi_eq_m, zi_m_eq, nI_ltI, nI_leI, nI_eq, nI_clamp, zi_div, lt_eq, bm_s, bi_s, bl_s, bw_s, gd, hh2, eu]
    rw [← k1, wp_bm]
    refine (ih (2 * q) dp (dep + 1) h 1 l M hu.lo (by omega) (by omega) (by omega) (by omega) hh (by omega) hT hQ hB (by omega)).mono fun M1 hM1 => ?_
    obtain ⟨b1, b2⟩ := hM1
    have hT1 : MT w d M1 g e0 q0 k0 := fun i hi x hx => by rw [b2.at (by omega)]; exact hT i hi x hx
    have hQ1 : M1.2.2 g 2 = some Q := by rw [(b2 g (by omega)).2.2]; exact hQ
    rw [wp_bm]
    refine (ih (2 * q + 1) dp (dep + 1) h (r - 1) _ M1 hu.hi (by omega) (by omega) (by omega) (by omega) hh (by omega) hT1 hQ1 b1 (by rw [List.length_append]; omega)).mono fun M2 hM2 => ?_
    obtain ⟨c1, c2⟩ := hM2
    rw [wp_some, ← List.append_assoc]
    exact ⟨c1, b2.tr c2⟩
end BLY
