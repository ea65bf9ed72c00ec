/-! The reference's table of the most. -/
def ma (f : Nat → Nat) (h a : Nat) : Nat → Nat
  | 0 => a
  | i + 1 => if md h i = 9 then ma f h a i else max (ma f h a i) (f (md h i))
theorem ma_mb (f : Nat → Nat) (h a : Nat) : ∀ i, ma f h a i = max a (mb f h i)
  | 0 => by show a = max a 0; omega
  | i + 1 => by
    have ih := ma_mb f h a i
    unfold ma mb
    by_cases c : md h i = 9
    · rw [if_pos c, if_pos c, ih]
    · rw [if_neg c, if_neg c, ih]; omega
theorem ma_5 (f : Nat → Nat) {h : Nat} (hh : h < 6) (a : Nat) : ma f h a 5 = max a (mxk f h) := by rw [ma_mb, mb_5 f hh]
section RM
variable {fu m d : Nat} {S : Sto} {M : Mm}
theorem X11_more {a b : Nat} (ha : a < 2 ^ 31) (hb : b < 2 ^ 31) : fX11_more fu (nI a) (nI b) = some (nI (max a b)) := by
  simp (disch := omega) only [fX11_more_j10, fX11_more, zi_li, zi_m, zi_m1, nI_add, zi_sub, zi_mul, zi_addm, zi_m_lt, zi_lt_m, zi_m_le, zi_le_m, zi_eq_m, zi_m_eq, nI_ltI, nI_leI, nI_eq, nI_clamp, zi_div, lt_eq, bm_s, bi_s, bl_s, bw_s, gd]
  by_cases c : a ≤ b
  · rw [if_pos c, show max a b = b by omega]
  · rw [if_neg c, show max a b = a by omega]
theorem X11_kindBy {h : Nat} (h25 : M.1 m 25 = nI d) (hh : h < 6) : fX11_kindBy fu m (nI h) M = some (nI (kb d h)) := by
  unfold kb
  simp (disch := omega) only [fX11_kindBy_j13, fX11_kindBy, h25, zi_li, zi_m, zi_m1, nI_add, zi_sub, zi_mul, zi_addm, zi_m_lt, zi_lt_m, zi_m_le, zi_le_m, zi_eq_m, zi_m_eq, nI_ltI, nI_leI, nI_eq, nI_clamp, zi_div, lt_eq, bm_s, bi_s, bl_s, bw_s, gd]
  by_cases c : h = 5
  · rw [if_pos c, if_pos c]
  · rw [if_neg c, if_neg c]
theorem X11_rightIn (hfu : 200000 ≤ fu) (hV : VM S M m) (hG : Gd S) (hd : d < 5) (h8 : WV (wi S d) (S 140) M m) (h25 : M.1 m 25 = nI d) {e q h : Nat} (he : e ≤ S 140) (hq : q < 2 ^ (S 140 - e)) (hh : h < 6) : fX11_rightIn fu m (nI (2 ^ (S 140 - e) + q)) (nI h) M = some (nI (RI (wi S d) d e q h)) := by
  have hA := hG.ad
  have hF := hG.2.1 142
  have hb := nd_b he hq
  have hkb := kb_lt hd hh
  have h9 := wi_9 hG hd
  have sz := X11_sizeAt hfu hV hG he hq
  have kby := X11_kindBy (fu := fu) h25 hh
  unfold fX11_rightIn fX11_rightIn_l13 RI
  rw [X11_baseAt hfu hV hG he hq, bi_s]
  refine lp_ue (fun i => (nI (smN (oA (wi S d) d h) (q * 2 ^ e + i) - smN (oA (wi S d) d h) (q * 2 ^ e)), nI (q * 2 ^ e + i))) (2 ^ e) (by simp; rfl) (by omega) (fun i hi rec => ?_) (fun rec => ?_)
  · have hx : q * 2 ^ e + i < 2 ^ S 140 := by omega
    have f1 := X11_isFixed (fu := fu) hV hG (x := q * 2 ^ e + i) (by omega)
    have wv := h8 0 (q * 2 ^ e + i) (Nat.zero_le _) (by rw [Nat.sub_zero]; exact hx)
    rw [Nat.sub_zero] at wv
    have ww := (wi_G hG hd).1 (q * 2 ^ e + i)
    have ek := eW_k (wi S d (q * 2 ^ e + i)) (by omega) _ hkb
    have wv' : M.1 (m + 8) (2 ^ S 140 + (q * 2 ^ e + i)) = eW (wi S d (q * 2 ^ e + i)) := wv
    have mono := smN_mono (oA (wi S d) d h) (a := q * 2 ^ e) (b := q * 2 ^ e + i) (by omega)
    have e1 : smN (oA (wi S d) d h) (q * 2 ^ e + (i + 1)) = smN (oA (wi S d) d h) (q * 2 ^ e + i) + oA (wi S d) d h (q * 2 ^ e + i) := rfl
    have hO : oA (wi S d) d h (q * 2 ^ e + i) = if wi S d (q * 2 ^ e + i) = kb d h then 1 else 0 := rfl
    have lO : oA (wi S d) d h (q * 2 ^ e + i) ≤ 1 := by rw [hO]; split <;> omega
    have e2 : smN (oA (wi S d) d h) (q * 2 ^ e + (i + 1)) - smN (oA (wi S d) d h) (q * 2 ^ e) = smN (oA (wi S d) d h) (q * 2 ^ e + i) - smN (oA (wi S d) d h) (q * 2 ^ e) + oA (wi S d) d h (q * 2 ^ e + i) := by omega
    dsimp only
    rw [e2, hO]
    have bnd : smN (oA (wi S d) d h) (q * 2 ^ e + i) - smN (oA (wi S d) d h) (q * 2 ^ e) ≤ 1 * i := by
      rw [smN_add, Nat.add_sub_cancel_left]
      exact smN_le fun x _ => by unfold oA; split <;> omega
    generalize smN (oA (wi S d) d h) (q * 2 ^ e + i) - smN (oA (wi S d) d h) (q * 2 ^ e) = v at bnd ⊢
    simp (disch := omega) only [fX11_rightIn_b13, fX11_rightIn_j60, fX11_rightIn_j61, sz, f1, bI_0, X11_addresses hV hG, kby, wv', zi_li, zi_m, zi_m1, nI_add, zi_sub, zi_mul, zi_addm, zi_m_lt, zi_lt_m, zi_m_le, zi_le_m, zi_eq_m, zi_m_eq, nI_ltI, nI_leI, nI_eq, nI_clamp, zi_div, lt_eq, bm_s, bi_s, bl_s, bw_s, gd, if_pos, if_neg, ite_true, ite_false, or_false, false_or, and_true, true_and, not_true, not_false_iff, true_or, or_true, Nat.not_lt_zero]
    by_cases c : q * 2 ^ e + i < S 142
    · have := (h9 (q * 2 ^ e + i)).mpr c
      rw [if_neg (fun z => z c), if_neg (by omega)]
      rfl
    · rw [if_pos c]
      by_cases c2 : wi S d (q * 2 ^ e + i) = kb d h
      · rw [if_pos (ek.mpr c2), if_pos c2]
        rfl
      · rw [if_neg (fun z => c2 (ek.mp z)), if_neg c2]
        rfl
  · simp (disch := omega) only [fX11_rightIn_b13, fX11_rightIn_j69, sz, zi_li, zi_m, zi_m1, nI_add, zi_sub, zi_mul, zi_addm, zi_m_lt, zi_lt_m, zi_m_le, zi_le_m, zi_eq_m, zi_m_eq, nI_ltI, nI_leI, nI_eq, nI_clamp, zi_div, lt_eq, bm_s, bi_s, bl_s, bw_s, gd, if_pos, if_neg, ite_true, ite_false, or_false, false_or, and_true, true_and, not_true, not_false_iff, true_or, or_true, Nat.not_lt_zero]
/-- the value that comes of what stands there -/
theorem Gw_val {w : Nat → Nat} (e q : Nat) {h r : Nat} (hh : h < 6) : (if r = 0 then max (RI w d e q h) (if e = 0 then 0 else mxs (Gw w d (e - 1) (2 * q) h) (Gw w d (e - 1) (2 * q + 1) h) r r) else max (max (Gw w d e q h (r - 1)) (if e = 0 then 0 else mxs (Gw w d (e - 1) (2 * q) h) (Gw w d (e - 1) (2 * q + 1) h) r r)) (mxk (fun j => Gw w d e q j (r - 1)) h)) = Gw w d e q h r := by
  cases r with
  | zero =>
    rw [if_pos rfl]
    cases e with
    | zero => rw [if_pos rfl, Gw_0]; omega
    | succ e =>
      rw [if_neg (by omega), Nat.add_sub_cancel, Gw_0]
      show max _ (Gw w d e (2 * q) h 0 + Gw w d e (2 * q + 1) h 0) = _
      rw [Gw_0, Gw_0, RI_S]
      omega
  | succ r =>
    rw [if_neg (by omega), Nat.add_sub_cancel]
    have mo := Gw_mo w d e q h r hh
    cases e with
    | zero =>
      have h1 : Gw w d 0 q h (r + 1) = max (RI w d 0 q h) (mxk (fun j => Gw w d 0 q j r) h) := rfl
      have h2 : Gw w d 0 q h 0 = RI w d 0 q h := rfl
      have h3 := Gw_ms (w := w) (d := d) (e := 0) (q := q) hh (r := 0) (s := r) (by omega)
      rw [if_pos rfl]
      omega
    | succ e =>
      have h1 : Gw w d (e + 1) q h (r + 1) = max (mxs (Gw w d e (2 * q) h) (Gw w d e (2 * q + 1) h) (r + 1) (r + 1)) (mxk (fun j => Gw w d (e + 1) q j r) h) := rfl
      rw [if_neg (by omega), Nat.add_sub_cancel]
      omega
theorem X11_layMost (hfu : 200000 ≤ fu) (hV : VM S M m) (hG : Gd S) (hd : d < 5) (h8 : WV (wi S d) (S 140) M m) (h25 : M.1 m 25 = nI d) {e q h r : Nat} (he : e ≤ S 140) (hq : q < 2 ^ (S 140 - e)) (hh : h < 6) (hr : r < 11)
    (hp : 0 < r → M.1 (m + 18) (66 * (2 ^ (S 140 - e) + q) + 11 * h + (r - 1)) = nI (Gw (wi S d) d e q h (r - 1)))
    (hm : 0 < r → ∀ k, k < 5 → ¬ md h k = 9 → M.1 (m + 18) (66 * (2 ^ (S 140 - e) + q) + 11 * md h k + (r - 1)) = nI (Gw (wi S d) d e q (md h k) (r - 1)))
    (hkid : ∀ e1, e = e1 + 1 → ∀ x, x ≤ r → M.1 (m + 18) (66 * (2 ^ (S 140 - e1) + 2 * q) + 11 * h + x) = nI (Gw (wi S d) d e1 (2 * q) h x) ∧ M.1 (m + 18) (66 * (2 ^ (S 140 - e1) + (2 * q + 1)) + 11 * h + x) = nI (Gw (wi S d) d e1 (2 * q + 1) h x)) :
    fX11_layMost fu m (nI (2 ^ (S 140 - e) + q)) (nI h) (nI r) M = some (wI M (m + 18) (66 * (2 ^ (S 140 - e) + q) + 11 * h + r) (nI (Gw (wi S d) d e q h r))) := by
  have hA := hG.ad
  have ht := hG.1.2.1
  have hnl := nd_lt he hq
  have hn0 := nd_0 he hq
  have ht2 := pw1 (S 140)
  have h11 : 2 ^ (S 140 + 1) ≤ 2 ^ 11 := Nat.pow_le_pow_right (by decide) (by omega)
  have lG : ∀ e q h r, e ≤ S 140 → h < 6 → Gw (wi S d) d e q h r ≤ 1024 := fun e q h r he hh => by
    have h1 := Gw_le (w := wi S d) hd e q h r hh
    have h2 := OP_le (wi S d) e q
    have h3 : 2 ^ e ≤ 2 ^ S 140 := Nat.pow_le_pow_right (by decide) he
    omega
  have val := Gw_val (w := wi S d) (d := d) e q (h := h) (r := r) hh
  -- the last loop
  have last : ∀ a, a ≤ 2048 → fX11_layMost_j109 fu m (nI (2 ^ (S 140 - e) + q)) (nI h) (nI r) (nI (66 * (2 ^ (S 140 - e) + q) + 11 * h + r)) (nI a) M = some (wI M (m + 18) (66 * (2 ^ (S 140 - e) + q) + 11 * h + r) (nI (if r = 0 then a else max a (mxk (fun j => Gw (wi S d) d e q j (r - 1)) h)))) := fun a la => by
    unfold fX11_layMost_j109 fX11_layMost_l112
    by_cases c0 : r = 0
    · subst c0
      obtain ⟨z, rfl⟩ : ∃ z, fu = z + 1 := ⟨fu - 1, by omega⟩
      rw [lp_S, if_pos rfl]
      simp (disch := omega) only [fX11_layMost_b112, fX11_layMost_j167, zi_li, zi_m, zi_m1, nI_add, zi_sub, zi_mul, zi_addm, zi_m_lt, zi_lt_m, zi_m_le, zi_le_m, zi_eq_m, zi_m_eq, nI_ltI, nI_leI, nI_eq, nI_clamp, zi_div, lt_eq, bm_s, bi_s, bl_s, bw_s, gd, if_pos, if_neg, ite_true, ite_false, or_false, false_or, and_true, true_and, not_true, not_false_iff, true_or, or_true, Nat.not_lt_zero]
    · rw [if_neg c0, ← ma_5 _ hh]
      refine lp_ue (fun i => (nI (ma (fun j => Gw (wi S d) d e q j (r - 1)) h a i), nI i)) 5 rfl (by omega) (fun i hi rec => ?_) (fun rec => ?_)
      · have hb := X11_madeBy (fu := fu) hh hi
        have hmm := md_lt h hh i hi
        have lma : ma (fun j => Gw (wi S d) d e q j (r - 1)) h a i ≤ 2048 := by
          rw [ma_mb]
          have := mb_le (f := fun j => Gw (wi S d) d e q j (r - 1)) (h := h) (c := 1024) hh (fun j hj => lG e q j (r - 1) he (by omega)) i (by omega)
          omega
        have q1 : ¬ (5 : Int32) ≤ nI i := by
          show ¬ nI 5 ≤ nI i
          exact nI_ge hi (by omega)
        have q2 : ¬ nI r ≤ 0 := nI_nle (by omega) (by omega)
        by_cases c3 : md h i = 9
        · have e1 : ma (fun j => Gw (wi S d) d e q j (r - 1)) h a (i + 1) = ma (fun j => Gw (wi S d) d e q j (r - 1)) h a i := if_pos c3
          have hb1 : fX11_madeBy fu (nI h) (nI i) = some mI := by rw [hb, if_pos c3]
          have q3 : mI < 0 := by decide +kernel
          dsimp only
          unfold fX11_layMost_b112 fX11_layMost_j161
          rw [e1, hb1, if_neg q1, if_neg q2, bi_s, if_pos q3, lt_eq, nI_1]
        · have e1 : ma (fun j => Gw (wi S d) d e q j (r - 1)) h a (i + 1) = max (ma (fun j => Gw (wi S d) d e q j (r - 1)) h a i) (Gw (wi S d) d e q (md h i) (r - 1)) := if_neg c3
          have hb1 : fX11_madeBy fu (nI h) (nI i) = some (nI (md h i)) := by rw [hb, if_neg c3]
          have h3 := hmm c3
          have h1 := hm (by omega) i hi c3
          have l2 := lG e q (md h i) (r - 1) he (by omega)
          have i1 : 66 * (2 ^ (S 140 - e) + q) + 11 * md h i + r - 1 = 66 * (2 ^ (S 140 - e) + q) + 11 * md h i + (r - 1) := by omega
          have mo := X11_more (fu := fu) (a := ma (fun j => Gw (wi S d) d e q j (r - 1)) h a i) (b := Gw (wi S d) d e q (md h i) (r - 1)) (by omega) (by omega)
          dsimp only
          rw [e1]
          simp (disch := omega) only [fX11_layMost_b112, fX11_layMost_j161, hb1, zi_li, zi_m, zi_m1, nI_add, zi_sub, zi_mul, zi_addm, zi_m_lt, zi_lt_m, zi_m_le, zi_le_m, zi_eq_m, zi_m_eq, nI_ltI, nI_leI, nI_eq, nI_clamp, zi_div, lt_eq, bm_s, bi_s, bl_s, bw_s, gd, if_pos, if_neg, ite_true, ite_false, or_false, false_or, and_true, true_and, not_true, not_false_iff, true_or, or_true, Nat.not_lt_zero, i1, h1, mo]
      · simp (disch := omega) only [fX11_layMost_b112, fX11_layMost_j167, zi_li, zi_m, zi_m1, nI_add, zi_sub, zi_mul, zi_addm, zi_m_lt, zi_lt_m, zi_m_le, zi_le_m, zi_eq_m, zi_m_eq, nI_ltI, nI_leI, nI_eq, nI_clamp, zi_div, lt_eq, bm_s, bi_s, bl_s, bw_s, gd, if_pos, if_neg, ite_true, ite_false, or_false, false_or, and_true, true_and, not_true, not_false_iff, true_or, or_true, Nat.not_lt_zero]
  have mid : ∀ a, a ≤ 1024 → fX11_layMost_j35 fu m (nI (2 ^ (S 140 - e) + q)) (nI h) (nI r) (nI (66 * (2 ^ (S 140 - e) + q) + 11 * h + r)) (nI a) M = fX11_layMost_j109 fu m (nI (2 ^ (S 140 - e) + q)) (nI h) (nI r) (nI (66 * (2 ^ (S 140 - e) + q) + 11 * h + r)) (nI (max a (if e = 0 then 0 else mxs (Gw (wi S d) d (e - 1) (2 * q) h) (Gw (wi S d) d (e - 1) (2 * q + 1) h) r r))) M := fun a la => by
    unfold fX11_layMost_j35
    rw [X11_addresses hV hG, bi_s]
    by_cases c : e = 0
    · rw [if_pos c, if_pos (nI_le (by omega) (by omega)), show max a 0 = a by omega]
    · obtain ⟨e1, rfl⟩ : ∃ e1, e = e1 + 1 := ⟨e - 1, by omega⟩
      obtain ⟨k1, k2⟩ := nd_k he hq
      rw [if_neg c, if_neg (nI_ge (by omega) (by omega)), Nat.add_sub_cancel]
      unfold fX11_layMost_l48
      refine lp_ue (fun i => (nI (if i = 0 then a else max a (mxs (Gw (wi S d) d e1 (2 * q) h) (Gw (wi S d) d e1 (2 * q + 1) h) r (i - 1))), nI i)) (r + 1) rfl (by omega) (fun i hi rec => ?_) (fun rec => ?_)
      · obtain ⟨a1, _⟩ := hkid e1 rfl i (by omega)
        obtain ⟨_, a2⟩ := hkid e1 rfl (r - i) (by omega)
        have l1 := lG e1 (2 * q) h i (by omega) hh
        have l2 := lG e1 (2 * q + 1) h (r - i) (by omega) hh
        have i1 : 132 * (2 ^ (S 140 - (e1 + 1)) + q) + 11 * h + i = 66 * (2 ^ (S 140 - e1) + 2 * q) + 11 * h + i := by omega
        have i2 : 66 * (2 * (2 ^ (S 140 - (e1 + 1)) + q) + 1) + 11 * h + r - i = 66 * (2 ^ (S 140 - e1) + (2 * q + 1)) + 11 * h + (r - i) := by omega
        have hv : (if i = 0 then a else max a (mxs (Gw (wi S d) d e1 (2 * q) h) (Gw (wi S d) d e1 (2 * q + 1) h) r (i - 1))) ≤ 2048 := by
          split
          · omega
          · have := mxs_le (f := Gw (wi S d) d e1 (2 * q) h) (g := Gw (wi S d) d e1 (2 * q + 1) h) (r := r) (n := i - 1) (c := 2048) (fun x _ => by have := lG e1 (2 * q) h x (by omega) hh; have := lG e1 (2 * q + 1) h (r - x) (by omega) hh; omega)
            omega
        have hs : (if i + 1 = 0 then a else max a (mxs (Gw (wi S d) d e1 (2 * q) h) (Gw (wi S d) d e1 (2 * q + 1) h) r (i + 1 - 1))) = max (if i = 0 then a else max a (mxs (Gw (wi S d) d e1 (2 * q) h) (Gw (wi S d) d e1 (2 * q + 1) h) r (i - 1))) (Gw (wi S d) d e1 (2 * q) h i + Gw (wi S d) d e1 (2 * q + 1) h (r - i)) := by
          rw [if_neg (by omega), Nat.add_sub_cancel]
          cases i with
          | zero => rw [if_pos rfl]; rfl
          | succ i =>
            rw [if_neg (by omega), Nat.add_sub_cancel]
            show max a (max (mxs _ _ r i) _) = _
            omega
        dsimp only
        rw [hs]
        generalize (if i = 0 then a else max a (mxs (Gw (wi S d) d e1 (2 * q) h) (Gw (wi S d) d e1 (2 * q + 1) h) r (i - 1))) = v at hv ⊢
        have mo := X11_more (fu := fu) (a := v) (b := Gw (wi S d) d e1 (2 * q) h i + Gw (wi S d) d e1 (2 * q + 1) h (r - i)) (by omega) (by omega)
        simp (disch := omega) only [fX11_layMost_b48, zi_li, zi_m, zi_m1, nI_add, zi_sub, zi_mul, zi_addm, zi_m_lt, zi_lt_m, zi_m_le, zi_le_m, zi_eq_m, zi_m_eq, nI_ltI, nI_leI, nI_eq, nI_clamp, zi_div, lt_eq, bm_s, bi_s, bl_s, bw_s, gd, if_pos, if_neg, ite_true, ite_false, or_false, false_or, and_true, true_and, not_true, not_false_iff, true_or, or_true, Nat.not_lt_zero, i1, i2, a1, a2, mo]
      · dsimp only
        rw [if_neg (by omega), Nat.add_sub_cancel]
        simp (disch := omega) only [fX11_layMost_b48, zi_li, zi_m, zi_m1, nI_add, zi_sub, zi_mul, zi_addm, zi_m_lt, zi_lt_m, zi_m_le, zi_le_m, zi_eq_m, zi_m_eq, nI_ltI, nI_leI, nI_eq, nI_clamp, zi_div, lt_eq, bm_s, bi_s, bl_s, bw_s, gd, if_pos, if_neg, ite_true, ite_false, or_false, false_or, and_true, true_and, not_true, not_false_iff, true_or, or_true, Nat.not_lt_zero]
  have lmx : (if e = 0 then 0 else mxs (Gw (wi S d) d (e - 1) (2 * q) h) (Gw (wi S d) d (e - 1) (2 * q + 1) h) r r) ≤ 2048 := by
    split
    · omega
    · exact mxs_le fun x _ => by have := lG (e - 1) (2 * q) h x (by omega) hh; have := lG (e - 1) (2 * q + 1) h (r - x) (by omega) hh; omega
  unfold fX11_layMost
  by_cases c0 : r = 0
  · have ri := X11_rightIn hfu hV hG hd h8 h25 he hq hh
    have lR : RI (wi S d) d e q h ≤ 1024 := by rw [← Gw_0]; exact lG e q h 0 he hh
    rw [if_pos c0] at val
    have m1 := mid _ lR
    have m2 := last _ (show max (RI (wi S d) d e q h) (if e = 0 then 0 else mxs (Gw (wi S d) d (e - 1) (2 * q) h) (Gw (wi S d) d (e - 1) (2 * q + 1) h) r r) ≤ 2048 by omega)
    rw [if_pos c0, val] at m2
    rw [val] at m1
    simp (disch := omega) only [zi_li, zi_m, zi_m1, nI_add, zi_sub, zi_mul, zi_addm, zi_m_lt, zi_lt_m, zi_m_le, zi_le_m, zi_eq_m, zi_m_eq, nI_ltI, nI_leI, nI_eq, nI_clamp, zi_div, lt_eq, bm_s, bi_s, bl_s, bw_s, gd, if_pos, if_neg, ite_true, ite_false, or_false, false_or, and_true, true_and, not_true, not_false_iff, true_or, or_true, Nat.not_lt_zero, ri, m1, m2]
  · have l1 := lG e q h (r - 1) he hh
    rw [if_neg c0] at val
    have m1 := mid _ l1
    have m2 := last _ (show max (Gw (wi S d) d e q h (r - 1)) (if e = 0 then 0 else mxs (Gw (wi S d) d (e - 1) (2 * q) h) (Gw (wi S d) d (e - 1) (2 * q + 1) h) r r) ≤ 2048 by omega)
    rw [if_neg c0] at m2
    have i1 : 66 * (2 ^ (S 140 - e) + q) + 11 * h + r - 1 = 66 * (2 ^ (S 140 - e) + q) + 11 * h + (r - 1) := by omega
    have hp1 := hp (by omega)
    simp (disch := omega) only [zi_li, zi_m, zi_m1, nI_add, zi_sub, zi_mul, zi_addm, zi_m_lt, zi_lt_m, zi_m_le, zi_le_m, zi_eq_m, zi_m_eq, nI_ltI, nI_leI, nI_eq, nI_clamp, zi_div, lt_eq, bm_s, bi_s, bl_s, bw_s, gd, if_pos, if_neg, ite_true, ite_false, or_false, false_or, and_true, true_and, not_true, not_false_iff, true_or, or_true, Nat.not_lt_zero, i1, hp1, m1, m2, val]
def MV (w : Nat → Nat) (d t R : Nat) (M : Mm) (m : Nat) : Prop := ∀ e q h r, e ≤ t → q < 2 ^ (t - e) → h < 6 → r ≤ R → M.1 (m + 18) (66 * (2 ^ (t - e) + q) + 11 * h + r) = nI (Gw w d e q h r)
theorem X11_layAllMost (hfu : 200000 ≤ fu) (hV : VM S M m) (hG : Gd S) {R : Nat} (hR : R < 11) : Wp (fX11_layAllMost fu m (nI R) M) (fun z => z.1 = nI (moS S R) ∧ VM S z.2 m ∧ WV (wi S (S 0)) (S 140) z.2 m ∧ z.2.1 m 25 = nI (S 0) ∧ MV (wi S (S 0)) (S 0) (S 140) R z.2 m ∧ Sc m M z.2 ∧ ∀ j, j ≠ 25 → z.2.1 m j = M.1 m j) := by
  have hA := hG.ad
  have ht := hG.1.2.1
  have ht2 := pw1 (S 140)
  have hd5 := hG.1.2.2.2.2.1
  have e0 : ix 0 = 0 := by decide +kernel
  unfold fX11_layAllMost
  rw [e0, hV.2 0 (by omega), wp_bm]
  refine (X11_layWants hfu hV hG hd5).mono fun M1 h1 => ?_
  obtain ⟨a1, a2, a3, a4, a5⟩ := h1
  have s1 : Sc m M M1 := ⟨fun c h1 h2 => a3 c h1 (by omega), fun j h1 _ _ _ _ _ _ => a4 j h1, a5⟩
  have V1 := hV.sc s1
  unfold fX11_layAllMost_l19
  simp (disch := omega) only [X11_addresses V1 hG, zi_li, zi_m, zi_m1, nI_add, zi_sub, zi_mul, zi_addm, zi_m_lt, zi_lt_m, zi_m_le, zi_le_m, zi_eq_m, zi_m_eq, nI_ltI, nI_leI, nI_eq, nI_clamp, zi_div, lt_eq, bm_s, bi_s, bl_s, bw_s, gd]
  refine lp_ho (fun k z => z.1 = nI (2 * 2 ^ S 140 - 1 - k) ∧ O1 (m + 18) M1 z.2 ∧ ∀ e q h r, e ≤ S 140 → q < 2 ^ (S 140 - e) → h < 6 → r ≤ R → 2 * 2 ^ S 140 - 1 - k < 2 ^ (S 140 - e) + q → z.2.1 (m + 18) (66 * (2 ^ (S 140 - e) + q) + 11 * h + r) = nI (Gw (wi S (S 0)) (S 0) e q h r)) _ (2 * 2 ^ S 140 - 1) (i := 0) (by omega) (by omega) ⟨rfl, O1.rf _ _, fun e q h r h1 h2 h3 h4 h5 => ?_⟩ (fun k z hk hz rec hrec => ?_) (fun z hz rec => ?_)
  · have := nd_lt h1 h2
    omega
  · obtain ⟨z1, z2⟩ := z
    obtain ⟨rfl, g1, g2⟩ := hz
    dsimp only at *
    obtain ⟨e, q, he, hq, hn⟩ := nd_ex (S 140) (2 * 2 ^ S 140 - 1 - k) (by omega) (by omega)
    have hnz : 1 ≤ 2 ^ (S 140 - e) := pwp _
    have nz : ¬ nI (2 ^ (S 140 - e) + q) ≤ 0 := nI_nle (by omega) (by have := nd_lt he hq; omega)
    unfold fX11_layAllMost_b19
    rw [hn] at g2 ⊢
    rw [if_neg nz]
    unfold fX11_layAllMost_l25
    refine lp_ho (fun i y => y.1 = nI i ∧ O1 (m + 18) M1 y.2 ∧ (∀ j, j < i → ∀ r, r ≤ R → y.2.1 (m + 18) (66 * (2 ^ (S 140 - e) + q) + 11 * abA j + r) = nI (Gw (wi S (S 0)) (S 0) e q (abA j) r)) ∧ (∀ j, j < 66 * (2 ^ (S 140 - e) + q) ∨ 66 * (2 ^ (S 140 - e) + q) + 66 ≤ j → y.2.1 (m + 18) j = z2.1 (m + 18) j)) _ 6 (i := 0) (by omega) (by omega) ⟨rfl, g1, fun j hj => absurd hj (by omega), fun j _ => rfl⟩ (fun i y hi hy rec2 hrec2 => ?_) (fun y hy rec2 => ?_)
    · obtain ⟨y1, y2⟩ := y
      obtain ⟨rfl, u1, u2, u3⟩ := hy
      dsimp only at *
      have hab := abA_lt i hi
      have q6 : ¬ (6 : Int32) ≤ nI i := by
        show ¬ nI 6 ≤ nI i
        exact nI_ge hi (by omega)
      unfold fX11_layAllMost_b25 fX11_layAllMost_l34
      rw [if_neg q6]
      refine lp_ho (fun r x => x.1 = nI r ∧ O1 (m + 18) M1 x.2 ∧ (∀ j, j < r → x.2.1 (m + 18) (66 * (2 ^ (S 140 - e) + q) + 11 * abA i + j) = nI (Gw (wi S (S 0)) (S 0) e q (abA i) j)) ∧ (∀ j, j < 66 * (2 ^ (S 140 - e) + q) + 11 * abA i ∨ 66 * (2 ^ (S 140 - e) + q) + 11 * abA i + 11 ≤ j → x.2.1 (m + 18) j = y2.1 (m + 18) j)) _ (R + 1) (i := 0) (by omega) (by omega) ⟨rfl, u1, fun j hj => absurd hj (by omega), fun j _ => rfl⟩ (fun r x hr hx rec3 hrec3 => ?_) (fun x hx rec3 => ?_)
      · obtain ⟨x1, x2⟩ := x
        obtain ⟨rfl, v1, v2, v3⟩ := hx
        dsimp only at *
        have lm := X11_layMost hfu (V1.o1 v1 (by omega)) hG hd5 (by unfold WV; rw [v1.1 (m + 8) (by omega)]; exact a1) (by rw [v1.1 m (by omega)]; exact a2) (h := abA i) (r := r) he hq hab (by omega) (fun h0 => v2 (r - 1) (by omega)) (fun h0 k hk h9 => by
          obtain ⟨j, hj, ej⟩ := abA_md i hi k hk h9
          have hjl := abA_lt j (by omega)
          have hne : abA j ≠ abA i := fun z => by have := abA_in j (by omega) i hi z; omega
          rw [← ej, v3 _ (by omega)]
          exact u2 j hj (r - 1) (by omega)) (fun e1 he1 x hx => by
          subst he1
          obtain ⟨k1, k2⟩ := nd_k he hq
          refine ⟨?_, ?_⟩
          · rw [v3 _ (by omega), u3 _ (by omega)]
            exact g2 e1 (2 * q) _ x (by omega) (by omega) hab (by omega) (by omega)
          · rw [v3 _ (by omega), u3 _ (by omega)]
            exact g2 e1 (2 * q + 1) _ x (by omega) (by omega) hab (by omega) (by omega))
        have q7 : ¬ nI R < nI r := nI_nlt (by omega) (by omega)
        unfold fX11_layAllMost_b34
        rw [if_neg q7, X11_aboveAt hi, bi_s, lm, bm_s, lt_eq, nI_1]
        refine hrec3 _ ⟨rfl, v1.tr (O1.w _ _ _), fun j hj => ?_, fun j hj => ?_⟩
        · by_cases c : j = r
          · subst c
            simp (disch := omega) only [wI_ne, wI_eq, wI_nk, wIs_ne, wIs_eq]
          · simp (disch := omega) only [wI_ne, wI_eq, wI_nk, wIs_ne, wIs_eq]
            exact v2 j (by omega)
        · simp (disch := omega) only [wI_ne, wI_eq, wI_nk, wIs_ne, wIs_eq]
          exact v3 j hj
      · obtain ⟨x1, x2⟩ := x
        obtain ⟨rfl, v1, v2, v3⟩ := hx
        dsimp only at *
        have q7 : nI R < nI (R + 1) := nI_lt (by omega) (by omega)
        unfold fX11_layAllMost_b34 fX11_layAllMost_j57
        rw [if_pos q7, lt_eq, nI_1]
        refine hrec2 _ ⟨rfl, v1, fun j hj r hr => ?_, fun j hj => ?_⟩
        · by_cases c : j = i
          · subst c
            exact v2 r (by omega)
          · have hjl := abA_lt j (by omega)
            have hne : abA j ≠ abA i := fun z => c (abA_in j (by omega) i hi z)
            rw [v3 _ (by omega)]
            exact u2 j (by omega) r hr
        · rw [v3 _ (by omega)]
          exact u3 j hj
    · obtain ⟨y1, y2⟩ := y
      obtain ⟨rfl, u1, u2, u3⟩ := hy
      dsimp only at *
      have q6 : (6 : Int32) ≤ nI 6 := Int32.le_refl _
      unfold fX11_layAllMost_b25 fX11_layAllMost_j63
      rw [if_pos q6, lt_eq, zi_m1, zi_addm (by omega)]
      refine hrec _ ⟨?_, u1, fun e' q' h r h1 h2 h3 h4 h5 => ?_⟩
      · show nI (2 ^ (S 140 - e) + q - 1) = _
        congr 1
        omega
      · by_cases c : 2 ^ (S 140 - e') + q' = 2 ^ (S 140 - e) + q
        · obtain ⟨b1, b2⟩ := nd_in h2 hq c
          have : e' = e := by omega
          subst this
          subst b2
          obtain ⟨i, hi, ei⟩ := abA_on h h3
          rw [← ei]
          exact u2 i hi r h4
        · rw [u3 _ (by omega)]
          exact g2 e' q' h r h1 h2 h3 h4 (by omega)
  · obtain ⟨z1, z2⟩ := z
    obtain ⟨rfl, g1, g2⟩ := hz
    dsimp only at *
    rw [Nat.sub_self]
    have fin : MV (wi S (S 0)) (S 0) (S 140) R z2 m := fun e q h r h1 h2 h3 h4 => g2 e q h r h1 h2 h3 h4 (by have := pwp (S 140 - e); omega)
    have := fin (S 140) 0 5 R (Nat.le_refl _) (by rw [Nat.sub_self]; decide) (by omega) (Nat.le_refl _)
    rw [Nat.sub_self] at this
    have t' : z2.1 (m + 18) (121 + R) = nI (moS S R) := this
    simp (disch := omega) only [fX11_layAllMost_b19, fX11_layAllMost_j69, zi_li, zi_m, zi_m1, nI_add, zi_sub, zi_mul, zi_addm, zi_m_lt, zi_lt_m, zi_m_le, zi_le_m, zi_eq_m, zi_m_eq, nI_ltI, nI_leI, nI_eq, nI_clamp, zi_div, lt_eq, bm_s, bi_s, bl_s, bw_s, gd, if_pos, if_neg, ite_true, ite_false, or_false, false_or, and_true, true_and, not_true, not_false_iff, true_or, or_true, Nat.not_lt_zero, t']
    rw [wp_some]
    exact ⟨rfl, V1.o1 g1 (by omega), fun e q h1 h2 => by rw [g1.1 (m + 8) (by omega)]; exact a1 e q h1 h2, by rw [g1.1 m (by omega)]; exact a2, fin, s1.tr (Sc.o1 g1 (by omega) (by omega)), fun j hj => by rw [g1.1 m (by omega)]; exact a4 j hj⟩
end RM
