/-! A register that does nothing; what is gained without one. -/
theorem smN_0 {g : Nat → Nat} {n : Nat} : smN g n = 0 ↔ ∀ x, x < n → g x = 0 := by
  constructor
  · intro h1 x h3
    have h5 := smN_mono g (a := x + 1) (b := n) (by omega)
    have h6 : smN g (x + 1) = smN g x + g x := rfl
    omega
  · intro h1
    have := smN_flat (g := g) (a := 0) (b := n) (v := 0) (by omega) (fun x _ h => h1 x h)
    have h0 : smN g 0 = 0 := rfl
    omega
theorem ks_out {S : Sto} {x r : Nat} (h : x < S (38 + 3 * r) ∨ S (38 + 3 * r) + S (39 + 3 * r) ≤ x) : ∀ n, n ≤ 10 → ksN S x r n = ksN S x 99 n
  | 0, _ => rfl
  | n + 1, hn => by
    have ih := ks_out h n (by omega)
    unfold ksN
    rw [ih]
    by_cases c : n = r
    · subst c
      rw [if_neg (fun q => q.1 rfl), if_neg (fun q => by have := q.2.1; have := q.2.2; omega)]
    · by_cases c2 : S (38 + 3 * n) ≤ x ∧ x < S (38 + 3 * n) + S (39 + 3 * n)
      · rw [if_pos ⟨c, c2⟩, if_pos ⟨by omega, c2⟩]
      · rw [if_neg (fun q => c2 q.2), if_neg (fun q => c2 q.2)]
theorem kd_out {S : Sto} (hG : Gd S) {x r : Nat} (h : x < S (38 + 3 * r) ∨ S (38 + 3 * r) + S (39 + 3 * r) ≤ x) : kdS S x r = kdS S x 99 := by
  unfold kdS ksS
  rw [ks_out h _ hG.1.2.2.2.1]
def isT (S : Sto) (x : Int32) : Nat := if nI 0 ≤ x ∧ x < nI (S 141) ∧ 0 < S (39 + 3 * ix x) then 1 else 0
theorem isT_y {S : Sto} (hG : Gd S) {j : Nat} (hj : j < S 141) (hs : 0 < S (39 + 3 * j)) : isT S (nI j) = 1 := by
  have := hG.1
  unfold isT
  rw [ix_n (by omega)]
  exact if_pos ⟨(nI_leI (by omega) (by omega)).mpr (by omega), (nI_ltI (by omega) (by omega)).mpr hj, hs⟩
theorem isT_n {S : Sto} (hG : Gd S) {x : Int32} (h : ∀ j, j < S 141 → x = nI j → S (39 + 3 * j) = 0) : isT S x = 0 := by
  have := hG.1
  refine if_neg fun q => ?_
  obtain ⟨j, hj, e⟩ := isB_of ⟨q.1, q.2.1⟩ (by omega)
  have h1 := h j hj e
  have h2 := q.2.2
  rw [e, ix_n (by omega)] at h2
  omega
theorem but_of {r : Nat} (hr : r < 10) : ∀ i, i < 10 → (nI i = nI r ↔ i = r) := fun i hi => nI_eq (by omega) (by omega)
def ilS (S : Sto) (r x : Nat) : Nat := if kdS S x 99 = kdS S x r then 0 else 1
def gzS (S : Sto) (r x : Nat) : Int := (if kdS S x r = wS S x then 1 else 0) - (if kdS S x 99 = wS S x then 1 else 0)
def idA (S : Sto) (x : Int32) : Int32 := if isT S x = 1 then bI (smN (ilS S (ix x)) (2 ^ S 140) = 0) else mI
def woA (S : Sto) (x : Int32) : Int32 := if isT S x = 1 then zZ (smZ (gzS S (ix x)) (2 ^ S 140)) else zZ (-2000)
theorem gz_bd (S : Sto) (r x : Nat) : -1 ≤ gzS S r x ∧ gzS S r x ≤ 1 := by
  unfold gzS
  split <;> split <;> omega
section IR
variable {fu m : Nat} {S : Sto} {M : Mm}
theorem X11_isRegister (hV : VM S M m) (hG : Gd S) (x : Int32) : fX11_isRegister fu m x M = some (bI (nI 0 ≤ x ∧ x ≤ nI (S 141 - 1))) := by
  have h1 := hG.1
  have e0 : nI (S 141) - nI 1 = nI (S 141 - 1) := zi_sub (by omega)
  unfold fX11_isRegister
  rw [X11_registersNow hV, bi_s]
  show bi (fX11_isIn fu x (nI 0) (nI (S 141) - nI 1)) _ = _
  rw [e0, X11_isIn, bi_s]
  by_cases c : nI 0 ≤ x ∧ x ≤ nI (S 141 - 1)
  · rw [bI_t c]; rfl
  · rw [bI_f c]; rfl
theorem X11_isSet (hV : VM S M m) (hG : Gd S) (x : Int32) : ∃ v, fX11_isSet fu m x M = some v ∧ ((v = nI 1 ∧ ∃ j, j < S 141 ∧ x = nI j ∧ 0 < S (39 + 3 * j)) ∨ (v = nI 0 ∧ ∀ j, j < S 141 → x = nI j → S (39 + 3 * j) = 0)) := by
  have h1 := hG.1
  have er := X11_isRegister (fu := fu) hV hG x
  by_cases c : nI 0 ≤ x ∧ x ≤ nI (S 141 - 1)
  · rw [bI_t c] at er
    obtain ⟨j, hj, rfl⟩ := (isIn_c (by omega)).mp c
    have h2 := hG.2.1 (39 + 3 * j)
    simp (disch := omega) only [fX11_isSet, fX11_isSet_j21, fX11_isSet_j20, er, X11_sizeOf hV (r := j), zi_li, zi_m, zi_m1, nI_add, zi_sub, zi_mul, zi_addm, zi_m_lt, zi_lt_m, zi_m_le, zi_le_m, zi_eq_m, zi_m_eq, nI_ltI, nI_leI, nI_eq, nI_clamp, zi_div, lt_eq, bm_s, bi_s, bl_s, bw_s, gd, if_pos, if_neg, ite_true, ite_false, or_false, false_or, and_true, true_and, not_true, not_false_iff, true_or, or_true, Nat.not_lt_zero]
    by_cases c2 : S (39 + 3 * j) ≤ 0
    · refine ⟨nI 0, by simp (disch := omega) only [if_pos, if_neg, ite_true, ite_false, or_false, false_or, and_true, true_and, not_true, not_false_iff, true_or, or_true, Nat.not_lt_zero], Or.inr ⟨rfl, fun i hi ei => ?_⟩⟩
      rw [nI_eq (by omega) (by omega)] at ei
      subst ei
      omega
    · exact ⟨nI 1, by simp (disch := omega) only [if_pos, if_neg, ite_true, ite_false, or_false, false_or, and_true, true_and, not_true, not_false_iff, true_or, or_true, Nat.not_lt_zero], Or.inl ⟨rfl, j, by omega, rfl, by omega⟩⟩
  · rw [bI_f c] at er
    refine ⟨nI 0, ?_, Or.inr ⟨rfl, fun j hj ej => absurd ((isIn_c (by omega)).mpr ⟨j, by omega, ej⟩) c⟩⟩
    unfold fX11_isSet
    rw [er, bi_s]
    rfl
theorem X11_idle (hfu : 200000 ≤ fu) (hV : VM S M m) (hG : Gd S) (x : Int32) : fX11_idle fu m x M = some (idA S x) := by
  have hA := hG.ad
  have h1 := hG.1
  obtain ⟨v, e, ⟨rfl, r, hr, rfl, hs⟩ | ⟨rfl, h⟩⟩ := X11_isSet (fu := fu) hV hG x
  · have key : Wp (fX11_idle_l12 fu m (nI r) M (nI 0)) (fun v => v = bI (smN (ilS S r) (2 ^ S 140) = 0)) := by
      unfold fX11_idle_l12
      refine lp_ho (fun j z => z = nI j ∧ ∀ x, x < j → ilS S r x = 0) _ (2 ^ S 140) (i := 0) (by omega) (by omega) ⟨rfl, fun x h => by omega⟩ (fun j z hj hz rec hrec => ?_) (fun z hz rec => ?_)
      · obtain ⟨rfl, hz⟩ := hz
        have s1 := kdS_le hG j 99
        have s2 := kdS_le hG j r
        simp (disch := omega) only [fX11_idle_b12, fX11_idle_j42, fX11_idle_j34, X11_addresses hV hG, X11_kindAt hfu hV hG (x := j), X11_kindWithout hfu hV hG (x := j) (but := r) (v := nI r) (by omega) (but_of (by omega)), zi_li, zi_m, zi_m1, nI_add, zi_sub, zi_mul, zi_addm, zi_m_lt, zi_lt_m, zi_m_le, zi_le_m, zi_eq_m, zi_m_eq, nI_ltI, nI_leI, nI_eq, nI_clamp, zi_div, lt_eq, bm_s, bi_s, bl_s, bw_s, gd, if_pos, if_neg, ite_true, ite_false, or_false, false_or, and_true, true_and, not_true, not_false_iff, true_or, or_true, Nat.not_lt_zero]
        by_cases c : kdS S j 99 = kdS S j r
        · rw [if_pos c]
          refine hrec _ ⟨rfl, fun x hx => ?_⟩
          by_cases c2 : x = j
          · rw [c2]; exact if_pos c
          · exact hz x (by omega)
        · rw [if_neg c, wp_some, bI_f]
          intro q
          have h2 := smN_0.mp q j hj
          have h3 : ilS S r j = 1 := if_neg c
          omega
      · obtain ⟨rfl, hz⟩ := hz
        simp (disch := omega) only [fX11_idle_b12, fX11_idle_j42, fX11_idle_j34, X11_addresses hV hG, zi_li, zi_m, zi_m1, nI_add, zi_sub, zi_mul, zi_addm, zi_m_lt, zi_lt_m, zi_m_le, zi_le_m, zi_eq_m, zi_m_eq, nI_ltI, nI_leI, nI_eq, nI_clamp, zi_div, lt_eq, bm_s, bi_s, bl_s, bw_s, gd, if_pos, if_neg, ite_true, ite_false, or_false, false_or, and_true, true_and, not_true, not_false_iff, true_or, or_true, Nat.not_lt_zero]
        rw [wp_some, bI_t (smN_0.mpr hz)]
    obtain ⟨v, e2, rfl⟩ := key
    unfold fX11_idle idA
    rw [e, bi_s, if_neg (by decide), if_pos (isT_y hG hr hs), ix_n (by omega)]
    exact e2
  · unfold fX11_idle idA
    rw [e, bi_s, isT_n hG h]
    rfl
theorem X11_without (hfu : 200000 ≤ fu) (hV : VM S M m) (hG : Gd S) (x : Int32) : fX11_without fu m x M = some (woA S x) := by
  have hA := hG.ad
  have h1 := hG.1
  obtain ⟨v, e, ⟨rfl, r, hr, rfl, hs⟩ | ⟨rfl, h⟩⟩ := X11_isSet (fu := fu) hV hG x
  · have key : fX11_without_l16 fu m (nI r) M (nI 0) (nI 0) = some (zZ (smZ (gzS S r) (2 ^ S 140))) := by
      unfold fX11_without_l16
      refine lp_ue (fun i => (zZ (smZ (gzS S r) i), nI i)) (2 ^ S 140) rfl (by omega) (fun i hi rec => ?_) (fun rec => ?_)
      · have s1 := kdS_le hG i 99
        have s2 := kdS_le hG i r
        have s4 := wS_lt hG i
        have e1 : smZ (gzS S r) (i + 1) = smZ (gzS S r) i + gzS S r i := rfl
        have w1 : fX11_wantedAt fu m (nI i) M = some (nI (wS S i)) := X11_wantedAt hfu hV hG (by omega)
        simp (disch := omega) only [fX11_without_b16, fX11_without_j44, fX11_without_j62, X11_addresses hV hG, w1, X11_kindAt hfu hV hG (x := i), X11_kindWithout hfu hV hG (x := i) (but := r) (v := nI r) (by omega) (but_of (by omega)), zi_li, zi_m, zi_m1, nI_add, zi_sub, zi_mul, zi_addm, zi_m_lt, zi_lt_m, zi_m_le, zi_le_m, zi_eq_m, zi_m_eq, nI_ltI, nI_leI, nI_eq, nI_clamp, zi_div, lt_eq, bm_s, bi_s, bl_s, bw_s, gd, if_pos, if_neg, ite_true, ite_false, or_false, false_or, and_true, true_and, not_true, not_false_iff, true_or, or_true, Nat.not_lt_zero]
        rw [e1, ← zZ_add]
        unfold gzS
        by_cases c1 : kdS S i r = wS S i <;> by_cases c2 : kdS S i 99 = wS S i
        · rw [if_pos c1, if_pos c2, if_pos c1, if_pos c2]; rfl
        · rw [if_pos c1, if_neg c2, if_pos c1, if_neg c2]; rfl
        · rw [if_neg c1, if_pos c2, if_neg c1, if_pos c2]; rfl
        · rw [if_neg c1, if_neg c2, if_neg c1, if_neg c2]; rfl
      · simp (disch := omega) only [fX11_without_b16, fX11_without_j71, X11_addresses hV hG, zi_li, zi_m, zi_m1, nI_add, zi_sub, zi_mul, zi_addm, zi_m_lt, zi_lt_m, zi_m_le, zi_le_m, zi_eq_m, zi_m_eq, nI_ltI, nI_leI, nI_eq, nI_clamp, zi_div, lt_eq, bm_s, bi_s, bl_s, bw_s, gd, if_pos, if_neg, ite_true, ite_false, or_false, false_or, and_true, true_and, not_true, not_false_iff, true_or, or_true, Nat.not_lt_zero]
    unfold fX11_without woA
    rw [e, bi_s, if_neg (by decide), if_pos (isT_y hG hr hs), ix_n (by omega)]
    exact key
  · unfold fX11_without woA
    rw [e, bi_s, isT_n hG h]
    rfl
end IR
section IC
variable {fu b p n : Nat} {S : Sto} {M : Mm} {f : Nat → Nat}
theorem X5_idleWithout (hfu : 200000 ≤ fu) (h : PV S M p n f) (hV : VX S M b) (hG : Gd S) {r : Nat} (hr : r < S 141) (hs : 0 < S (39 + 3 * r)) : fX5_idleWithout fu p b (nI r) M = some (bI (smN (ilS S r) (2 ^ S 140) = 0)) := by
  have hn := h.2.1
  have hA := hG.ad
  have h1 := hG.1
  have hre := hG.re hr
  have hb := hG.2.1 (38 + 3 * r)
  have hz := hG.2.1 (39 + 3 * r)
  have hm := h.2.2.1.2.1 r hr
  obtain ⟨i1, i2, a1, a2, a3, a4, a5⟩ := h.fromto hfu hG (y1 := S (38 + 3 * r)) (y2 := S (38 + 3 * r) + S (39 + 3 * r)) (by omega) hre hm.1 hm.2
  have key : Wp (fX5_idleWithout_l27 fu p b (nI r) (nI (S (38 + 3 * r) + S (39 + 3 * r))) M (nI i1)) (fun v => v = bI (smN (ilS S r) (2 ^ S 140) = 0)) := by
    unfold fX5_idleWithout_l27
    refine lp_ho (fun j z => z = nI (i1 + j) ∧ ∀ x, x < f (i1 + j) → ilS S r x = 0) _ (i2 - i1) (i := 0) (by omega) (by omega) ⟨rfl, fun x h2 => if_pos (kd_out hG (Or.inl (by rw [← a3]; exact h2))).symm⟩ (fun j z hj hz rec hrec => ?_) (fun z hz rec => ?_)
    · obtain ⟨rfl, hz⟩ := hz
      have hle := h.le (i := i1 + j) (by omega)
      have s5 := kdS_le hG (f (i1 + j)) 99
      have s6 := kdS_le hG (f (i1 + j)) r
      have hlt : f (i1 + j) < S (38 + 3 * r) + S (39 + 3 * r) := by rw [← a4]; exact h.1.2.1 _ _ (by omega) a2
      have hkd := (h.2.2.2.2.1 (i1 + j) (by omega)).2
      simp (disch := omega) only [fX5_idleWithout_b27, fX5_idleWithout_j75, h.2.2.2.1.1, zi_li, zi_m, zi_m1, nI_add, zi_sub, zi_mul, zi_addm, zi_m_lt, zi_lt_m, zi_m_le, zi_le_m, zi_eq_m, zi_m_eq, nI_ltI, nI_leI, nI_eq, nI_clamp, zi_div, lt_eq, bm_s, bi_s, bl_s, bw_s, gd, if_pos, if_neg, ite_true, ite_false, or_false, false_or, and_true, true_and, not_true, not_false_iff, true_or, or_true, Nat.not_lt_zero, h.1.1.2 (i1 + j), hkd, X8_kindAt hfu hV hG (x := f (i1 + j)) (but := r) (v := nI r) (by omega) (but_of (by omega))]
      by_cases c : kdS S (f (i1 + j)) r = kdS S (f (i1 + j)) 99
      · rw [if_pos c]
        refine hrec _ ⟨rfl, fun x hx => ?_⟩
        by_cases c2 : x < f (i1 + j)
        · exact hz x c2
        · have al : Al n f (i1 + j) x := ⟨by omega, by omega, hx⟩
          unfold ilS
          rw [h.kf hG al, h.kf hG al, c]
          exact if_pos rfl
      · rw [if_neg c, wp_some, bI_f]
        intro q
        have h2 := smN_0.mp q (f (i1 + j)) (by omega)
        have h3 : ilS S r (f (i1 + j)) = 1 := if_neg (fun q => c q.symm)
        omega
    · obtain ⟨rfl, hz⟩ := hz
      have ei : i1 + (i2 - i1) = i2 := by omega
      rw [ei] at hz ⊢
      rw [a4] at hz
      have fin : Wp (some (1 : Int32)) (fun v => v = bI (smN (ilS S r) (2 ^ S 140) = 0)) := by
        rw [wp_some, bI_t (smN_0.mpr fun x _ => ?_)]
        · rfl
        · by_cases c : x < S (38 + 3 * r) + S (39 + 3 * r)
          · exact hz x c
          · exact if_pos (kd_out hG (Or.inr (by omega))).symm
      unfold fX5_idleWithout_b27 fX5_idleWithout_j83
      rw [h.2.2.2.1.1]
      by_cases c : n - 1 ≤ i2
      · rw [if_pos (nI_le c (by omega))]
        exact fin
      · rw [if_neg (nI_ge (by omega) (by omega)), if_neg (nI_in (by omega) (by omega)), ix_n (by omega), h.1.1.2 i2 a2, a4, if_pos (Int32.le_refl _)]
        exact fin
  obtain ⟨v, e, rfl⟩ := key
  unfold fX5_idleWithout
  have v1 := (hV.2.2.2.1 r hr).1
  have v2 := (hV.2.2.2.1 r hr).2.1
  simp (disch := omega) only [zi_li, zi_m, zi_m1, nI_add, zi_sub, zi_mul, zi_addm, zi_m_lt, zi_lt_m, zi_m_le, zi_le_m, zi_eq_m, zi_m_eq, nI_ltI, nI_leI, nI_eq, nI_clamp, zi_div, lt_eq, bm_s, bi_s, bl_s, bw_s, gd, if_pos, if_neg, ite_true, ite_false, or_false, false_or, and_true, true_and, not_true, not_false_iff, true_or, or_true, Nat.not_lt_zero, v1, v2, a5, e]
theorem X5_gained (h : PV S M p n f) (hG : Gd S) {i k : Nat} (hi : i + 1 < n) (hk : k ≤ 5) : fX5_gained fu p (nI i) (nI k) M = some (zZ ((if k = wS S (f i) then 1 else 0) - (if kdS S (f i) 99 = wS S (f i) then 1 else 0))) := by
  have hn := h.2.1
  have s4 := wS_lt hG (f i)
  have s5 := kdS_le hG (f i) 99
  have hw := (h.2.2.2.2.1 i hi).1
  have hkd := (h.2.2.2.2.1 i hi).2
  simp (disch := omega) only [fX5_gained, fX5_gained_j15, fX5_gained_j35, zi_li, zi_m, zi_m1, nI_add, zi_sub, zi_mul, zi_addm, zi_m_lt, zi_lt_m, zi_m_le, zi_le_m, zi_eq_m, zi_m_eq, nI_ltI, nI_leI, nI_eq, nI_clamp, zi_div, lt_eq, bm_s, bi_s, bl_s, bw_s, gd, if_pos, if_neg, ite_true, ite_false, or_false, false_or, and_true, true_and, not_true, not_false_iff, true_or, or_true, Nat.not_lt_zero, hw, hkd]
  by_cases c1 : k = wS S (f i) <;> by_cases c2 : kdS S (f i) 99 = wS S (f i)
  · rw [if_pos c1, if_pos c2, if_pos c1, if_pos c2]; rfl
  · rw [if_pos c1, if_neg c2, if_pos c1, if_neg c2]; rfl
  · rw [if_neg c1, if_pos c2, if_neg c1, if_pos c2]; rfl
  · rw [if_neg c1, if_neg c2, if_neg c1, if_neg c2]; rfl
theorem X5_gainWithout (hfu : 200000 ≤ fu) (h : PV S M p n f) (hV : VX S M b) (hG : Gd S) {r : Nat} (hr : r < S 141) (hs : 0 < S (39 + 3 * r)) : fX5_gainWithout fu p b (nI r) M = some (zZ (smZ (gzS S r) (2 ^ S 140))) := by
  have hn := h.2.1
  have hA := hG.ad
  have h1 := hG.1
  have hre := hG.re hr
  have hb := hG.2.1 (38 + 3 * r)
  have hz := hG.2.1 (39 + 3 * r)
  have hm := h.2.2.1.2.1 r hr
  obtain ⟨i1, i2, a1, a2, a3, a4, a5⟩ := h.fromto hfu hG (y1 := S (38 + 3 * r)) (y2 := S (38 + 3 * r) + S (39 + 3 * r)) (by omega) hre hm.1 hm.2
  have g0 : ∀ x, (x < S (38 + 3 * r) ∨ S (38 + 3 * r) + S (39 + 3 * r) ≤ x) → gzS S r x = 0 := fun x hx => by
    unfold gzS
    rw [kd_out hG hx]
    exact Int.sub_self _
  have b0 : smZ (gzS S r) (S (38 + 3 * r)) = 0 := by
    have := smZ_flat (g := gzS S r) (a := 0) (b := S (38 + 3 * r)) (v := 0) (by omega) (fun x _ hx => g0 x (Or.inl hx))
    rw [this, Int.zero_mul]
    rfl
  have b1 : smZ (gzS S r) (2 ^ S 140) = smZ (gzS S r) (f i2) := by
    have := smZ_flat (g := gzS S r) (a := f i2) (b := 2 ^ S 140) (v := 0) (by omega) (fun x hx _ => g0 x (Or.inr (by omega)))
    rw [this, Int.zero_mul, Int.add_zero]
  have fl : ∀ i x, Al n f i x → gzS S r x = gzS S r (f i) := fun i x al => by
    unfold gzS
    rw [h.kf hG al, h.kf hG al, h.wf al]
  have key : fX5_gainWithout_l30 fu p b (nI r) (nI (S (38 + 3 * r) + S (39 + 3 * r))) M (nI 0) (nI i1) = some (zZ (smZ (gzS S r) (2 ^ S 140))) := by
    unfold fX5_gainWithout_l30
    refine lp_ue (fun j => (zZ (smZ (gzS S r) (f (i1 + j))), nI (i1 + j))) (i2 - i1) (by rw [Nat.add_zero, a3, b0]; rfl) (by omega) (fun j hj rec => ?_) (fun rec => ?_)
    · have hle := h.le (i := i1 + j) (by omega)
      have hlt : f (i1 + j) < S (38 + 3 * r) + S (39 + 3 * r) := by rw [← a4]; exact h.1.2.1 _ _ (by omega) a2
      have s6 := kdS_le hG (f (i1 + j)) r
      have su := h.sz fl (i := i1 + j) (by omega)
      simp (disch := omega) only [fX5_gainWithout_b30, h.2.2.2.1.1, zi_li, zi_m, zi_m1, nI_add, zi_sub, zi_mul, zi_addm, zi_m_lt, zi_lt_m, zi_m_le, zi_le_m, zi_eq_m, zi_m_eq, nI_ltI, nI_leI, nI_eq, nI_clamp, zi_div, lt_eq, bm_s, bi_s, bl_s, bw_s, gd, if_pos, if_neg, ite_true, ite_false, or_false, false_or, and_true, true_and, not_true, not_false_iff, true_or, or_true, Nat.not_lt_zero, h.1.1.2 (i1 + j), X8_kindAt hfu hV hG (x := f (i1 + j)) (but := r) (v := nI r) (by omega) (but_of (by omega)), X5_gained h hG (i := i1 + j) (k := kdS S (f (i1 + j)) r), X5_lengthOf h hG (i := i1 + j)]
      rw [← zZ_n, zZ_mul, zZ_add]
      show rec (zZ (smZ (gzS S r) (f (i1 + j)) + gzS S r (f (i1 + j)) * _), _) = rec (zZ (smZ (gzS S r) (f (i1 + j + 1))), _)
      rw [su]
      rfl
    · have ei : i1 + (i2 - i1) = i2 := by omega
      show fX5_gainWithout_b30 fu _ p b _ _ (zZ (smZ (gzS S r) (f (i1 + (i2 - i1))))) (nI (i1 + (i2 - i1))) M = _
      rw [ei]
      unfold fX5_gainWithout_b30 fX5_gainWithout_j92
      rw [h.2.2.2.1.1]
      by_cases c : n - 1 ≤ i2
      · rw [if_pos (nI_le c (by omega)), b1]
      · rw [if_neg (nI_ge (by omega) (by omega)), if_neg (nI_in (by omega) (by omega)), ix_n (by omega), h.1.1.2 i2 a2, a4, if_pos (Int32.le_refl _), b1, a4]
  unfold fX5_gainWithout
  have v1 := (hV.2.2.2.1 r hr).1
  have v2 := (hV.2.2.2.1 r hr).2.1
  simp (disch := omega) only [zi_li, zi_m, zi_m1, nI_add, zi_sub, zi_mul, zi_addm, zi_m_lt, zi_lt_m, zi_m_le, zi_le_m, zi_eq_m, zi_m_eq, nI_ltI, nI_leI, nI_eq, nI_clamp, zi_div, lt_eq, bm_s, bi_s, bl_s, bw_s, gd, if_pos, if_neg, ite_true, ite_false, or_false, false_or, and_true, true_and, not_true, not_false_iff, true_or, or_true, Nat.not_lt_zero, v1, v2, a5, key]
end IC
