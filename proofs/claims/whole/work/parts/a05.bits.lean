/-! Ones in the addresses of a kind. -/
def oN (a : Nat) : Nat := smN (fun k => a / 2 ^ k % 2) 10
def teN (n k : Nat) : Nat := n / (2 * 2 ^ k) * 2 ^ k + (n % (2 * 2 ^ k) - 2 ^ k)
theorem te_0 (k : Nat) : teN 0 k = 0 := by
  unfold teN
  rw [Nat.zero_div, Nat.zero_mod, Nat.zero_mul, Nat.zero_sub]
theorem te_s (n k : Nat) (hk : k < 10) : teN (n + 1) k = teN n k + n / 2 ^ k % 2 := by
  unfold teN
  have : k = 0 ∨ k = 1 ∨ k = 2 ∨ k = 3 ∨ k = 4 ∨ k = 5 ∨ k = 6 ∨ k = 7 ∨ k = 8 ∨ k = 9 := by omega
  rcases this with rfl | rfl | rfl | rfl | rfl | rfl | rfl | rfl | rfl | rfl <;> simp only [Nat.reducePow, Nat.reduceMul] <;> omega
theorem te_b {n k : Nat} (h : n ≤ 2 ^ k) : teN n k = 0 := by
  have hp : 0 < 2 ^ k := Nat.two_pow_pos k
  unfold teN
  rw [Nat.div_eq_of_lt (by omega), Nat.mod_eq_of_lt (by omega), Nat.zero_mul]
  omega
theorem on_te : ∀ n, smN oN n = smN (teN n) 10
  | 0 => by
    have : smN (teN 0) 10 = 0 := smN_0.mpr fun x _ => te_0 x
    rw [this]
    rfl
  | n + 1 => by
    have e : smN oN (n + 1) = smN oN n + oN n := rfl
    rw [e, on_te n, smN_cg (g := teN (n + 1)) (h := fun k => teN n k + n / 2 ^ k % 2) (fun k hk => te_s n k hk), smN_sum]
    rfl
theorem on_le (a : Nat) : oN a ≤ 1 * 10 := smN_le fun x _ => by omega
theorem sub_ng {a b : Nat} (h : a < b) (hb : b < 2 ^ 31) : ¬ nI 0 < nI a - nI b := by
  rw [Int32.lt_iff_toInt_lt, Int32.toInt_sub, nI_toInt (by omega), nI_toInt (by omega), nI_toInt hb, Int.bmod_eq_of_le (by omega) (by omega)]
  omega
theorem ob_st {fu n h T : Nat} {k : Int32 → Int32 → Option Int32} (hn : n ≤ 1024) (h0 : 0 < h) (h1 : h ≤ 512) (hc : h < n) : fX10_onesBelow_b4 fu k (nI n) (nI T) (nI h) = k (nI (T + (n / (2 * h) * h + (n % (2 * h) - h)))) (nI (h * 2)) := by
  have d1 : nI n / nI (2 * h) = nI (n / (2 * h)) := zi_div (by omega) (by omega)
  have d3 : n / (2 * h) * (2 * h) ≤ n := Nat.div_mul_le_self n (2 * h)
  have d2 : n - n / (2 * h) * (2 * h) = n % (2 * h) := by
    have := Nat.div_add_mod n (2 * h)
    rw [Nat.mul_comm] at this
    omega
  have d4 : nI n - nI (n / (2 * h) * (2 * h)) = nI (n % (2 * h)) := by rw [zi_sub d3, d2]
  have d5 : n % (2 * h) < 2 * h := Nat.mod_lt _ (by omega)
  have d6 : (if nI 0 < nI (n % (2 * h)) - nI h then nI (n % (2 * h)) - nI h else nI 0) = nI (n % (2 * h) - h) := by
    by_cases c : n % (2 * h) < h
    · rw [if_neg (sub_ng c (by omega)), Nat.sub_eq_zero_of_le (by omega)]
    · rw [zi_sub (by omega)]
      by_cases c2 : n % (2 * h) = h
      · rw [c2, Nat.sub_self, ite_self]
      · rw [if_pos ((nI_ltI (by omega) (by omega)).mpr (by omega))]
  have d7 : ¬ nI (2 * h) = nI 0 := fun q => by
    rw [nI_eq (by omega) (by omega)] at q
    omega
  unfold fX10_onesBelow_b4
  rw [if_neg (nI_ge hc (by omega))]
  show (if nI 2 * nI h = nI 0 then none else k (nI T + (nI n / (nI 2 * nI h) * nI h + (if nI 0 < nI n - nI n / (nI 2 * nI h) * (nI 2 * nI h) - nI h then nI n - nI n / (nI 2 * nI h) * (nI 2 * nI h) - nI h else nI 0))) (nI h * nI 2)) = _
  rw [zi_mul 2 h, if_neg d7, d1, zi_mul _ (2 * h), d4, d6, zi_mul _ h, nI_add, nI_add, zi_mul h 2]
theorem X10_onesBelow {fu n : Nat} (hfu : 200000 ≤ fu) (hn : n ≤ 1024) : fX10_onesBelow fu (nI n) = some (nI (smN oN n)) := by
  have key : Wp (fX10_onesBelow fu (nI n)) (fun v => v = nI (smN oN n)) := by
    unfold fX10_onesBelow fX10_onesBelow_l4
    rw [on_te]
    refine lp_ho (fun j z => z = (nI (smN (teN n) j), nI (2 ^ j))) _ 10 (i := 0) (by omega) (by omega) rfl (fun j z hj hz rec hrec => ?_) (fun z hz rec => ?_)
    · subst hz
      have hp : 0 < 2 ^ j := Nat.two_pow_pos j
      have hp2 : 2 ^ j ≤ 2 ^ 9 := Nat.pow_le_pow_right (by decide) (by omega)
      have hp3 : 2 ^ (j + 1) = 2 ^ j * 2 := Nat.pow_succ 2 j
      have e1 : smN (teN n) (j + 1) = smN (teN n) j + teN n j := rfl
      by_cases c : n ≤ 2 ^ j
      · have hz : ∀ x, j ≤ x → x < 10 → teN n x = 0 := fun x h1 h2 => te_b (Nat.le_trans c (Nat.pow_le_pow_right (by decide) h1))
        have fl := smN_flat (g := teN n) (a := j) (b := 10) (v := 0) (by omega) hz
        rw [Nat.zero_mul, Nat.add_zero] at fl
        show Wp (fX10_onesBelow_b4 fu _ (nI n) (nI (smN (teN n) j)) (nI (2 ^ j))) _
        unfold fX10_onesBelow_b4 fX10_onesBelow_j38
        rw [if_pos ((nI_leI (by omega) (by omega)).mpr c), wp_some, fl]
      · show Wp (fX10_onesBelow_b4 fu _ (nI n) (nI (smN (teN n) j)) (nI (2 ^ j))) _
        rw [ob_st hn hp (by omega) (by omega)]
        exact hrec (nI (smN (teN n) j + teN n j), nI (2 ^ j * 2)) (by rw [e1, hp3])
    · subst hz
      show Wp (fX10_onesBelow_b4 fu _ (nI n) (nI (smN (teN n) 10)) (nI 1024)) _
      unfold fX10_onesBelow_b4 fX10_onesBelow_j38
      rw [if_pos ((nI_leI (by omega) (by omega)).mpr hn), wp_some]
  obtain ⟨v, e, rfl⟩ := key
  exact e
def btS (S : Sto) (k x : Nat) : Nat := if kdS S x 99 = k then oN x else 0
def btA (S : Sto) (x : Int32) : Int32 := if nI 0 ≤ x ∧ x ≤ nI 5 then nI (smN (btS S (ix x)) (2 ^ S 140)) else mI
theorem smN_if {g h : Nat → Nat} {c : Prop} [Decidable c] {a b : Nat} (hab : a ≤ b) (hg : ∀ x, a ≤ x → x < b → g x = if c then h x else 0) : smN g b = smN g a + if c then smN h b - smN h a else 0 := by
  obtain ⟨d, rfl⟩ : ∃ d, b = a + d := ⟨b - a, by omega⟩
  rw [smN_add g, smN_add h]
  by_cases q : c
  · rw [if_pos q, smN_cg (g := fun x => g (a + x)) (h := fun x => h (a + x)) (fun x hx => by rw [hg (a + x) (by omega) (by omega), if_pos q])]
    omega
  · rw [if_neg q]
    have : smN (fun x => g (a + x)) d = 0 := smN_0.mpr fun x hx => by rw [hg (a + x) (by omega) (by omega), if_neg q]
    rw [this]
theorem bt_le {S : Sto} {k x : Nat} : btS S k x ≤ 10 := by
  have := on_le x
  unfold btS
  split <;> omega
section BT
variable {fu p n m : Nat} {S : Sto} {M : Mm} {f : Nat → Nat}
theorem X10_bits_l (hfu : 200000 ≤ fu) (h : PV S M p n f) (hG : Gd S) {k : Nat} (hk : k ≤ 5) : fX10_bits_l21 fu (nI k) p M (nI 0) (nI 0) = some (nI (smN (btS S k) (2 ^ S 140)), M) := by
  have hn := h.2.1
  have hA := hG.ad
  have hn2 := h.1.2.2.1
  unfold fX10_bits_l21
  refine lp_ue (fun i => (nI (smN (btS S k) (f i)), nI i)) (n - 1) (by rw [h.1.2.2.2.1]; rfl) (by omega) (fun i hi rec => ?_) (fun rec => ?_)
  · have hle := h.le (i := i + 1) (by omega)
    have hlt := h.lt (i := i) (by omega)
    have s1 := kdS_le hG (f i) 99
    have e1 := smN_if (g := btS S k) (h := oN) (c := kdS S (f i) 99 = k) (Nat.le_of_lt hlt) (fun x x1 x2 => by unfold btS; rw [h.kf hG ⟨by omega, x1, x2⟩])
    have e2 := smN_mono oN (Nat.le_of_lt hlt)
    have hkd := (h.2.2.2.2.1 i (by omega)).2
    have a1 := X5_startOf (fu := fu) h (i := i + 1) (by omega)
    have a2 := X5_startOf (fu := fu) h (i := i) (by omega)
    have a3 := X10_onesBelow hfu (n := f (i + 1)) (by omega)
    have a4 := X10_onesBelow hfu (n := f i) (by omega)
    show fX10_bits_b21 fu _ (nI k) p (nI (smN (btS S k) (f i))) (nI i) M = rec (nI (smN (btS S k) (f (i + 1))), nI (i + 1))
    rw [e1]
    simp (disch := omega) only [fX10_bits_b21, fX10_bits_j65, h.2.2.2.1.1, hkd, a1, a2, a3, a4, zi_li, zi_m, zi_m1, nI_add, zi_sub, zi_mul, zi_addm, zi_m_lt, zi_lt_m, zi_m_le, zi_le_m, zi_eq_m, zi_m_eq, nI_ltI, nI_leI, nI_eq, nI_clamp, zi_div, lt_eq, bm_s, bi_s, bl_s, bw_s, gd, if_pos, if_neg, ite_true, ite_false, or_false, false_or, and_true, true_and, not_true, not_false_iff, true_or, or_true, Nat.not_lt_zero]
    by_cases c : kdS S (f i) 99 = k
    · rw [if_pos c, if_pos c]
    · rw [if_neg c, if_neg c]
      rfl
  · have e2 : f (n - 1) = 2 ^ S 140 := h.1.2.2.2.2
    show fX10_bits_b21 fu _ (nI k) p (nI (smN (btS S k) (f (n - 1)))) (nI (n - 1)) M = _
    rw [e2]
    simp (disch := omega) only [fX10_bits_b21, fX10_bits_j71, h.2.2.2.1.1, zi_li, zi_m, zi_m1, nI_add, zi_sub, zi_mul, zi_addm, zi_m_lt, zi_lt_m, zi_m_le, zi_le_m, zi_eq_m, zi_m_eq, nI_ltI, nI_leI, nI_eq, nI_clamp, zi_div, lt_eq, bm_s, bi_s, bl_s, bw_s, gd, if_pos, if_neg, ite_true, ite_false, or_false, false_or, and_true, true_and, not_true, not_false_iff, true_or, or_true, Nat.not_lt_zero]
theorem bt1 {a k : Nat} (hk : k < 32) (ha : a < 2 ^ 31) : (nI a >>> (nI k &&& nI 31)) &&& nI 1 = nI (a / 2 ^ k % 2) := by
  have : a / 2 ^ k < 2 ^ 31 := Nat.lt_of_le_of_lt (Nat.div_le_self _ _) ha
  rw [zi_shr hk ha, zi_and this (by omega), Nat.and_one_is_mod]
theorem X11_bits_in (hfu : 200000 ≤ fu) (hV : VM S M m) (hG : Gd S) {k a T : Nat} (hk : k ≤ 5) (ha : a < 1024) (k15 : Int32 → Int32 → Option Int32) : fX11_bits_l26 fu k15 m (nI k) (nI a) M (nI T) (nI 0) = k15 (nI (T + btS S k a)) (nI (a + 1)) := by
  have s1 := kdS_le hG a 99
  have ka := X11_kindAt (fu := fu) hfu hV hG (x := a) (by omega)
  unfold fX11_bits_l26
  by_cases c : kdS S a 99 = k
  · have e : btS S k a = oN a := if_pos c
    rw [e]
    refine lp_ue (fun i => (nI (T + smN (fun k => a / 2 ^ k % 2) i), nI i)) 10 rfl (by omega) (fun i hi rec => ?_) (fun rec => ?_)
    · have e1 : smN (fun k => a / 2 ^ k % 2) (i + 1) = smN (fun k => a / 2 ^ k % 2) i + a / 2 ^ i % 2 := rfl
      show fX11_bits_b26 fu k15 _ m (nI k) (nI (T + smN (fun k => a / 2 ^ k % 2) i)) (nI a) (nI i) M = rec (nI (T + smN (fun k => a / 2 ^ k % 2) (i + 1)), nI (i + 1))
      rw [e1]
      simp (disch := omega) only [fX11_bits_b26, ka, bt1, zi_li, zi_m, zi_m1, nI_add, zi_sub, zi_mul, zi_addm, zi_m_lt, zi_lt_m, zi_m_le, zi_le_m, zi_eq_m, zi_m_eq, nI_ltI, nI_leI, nI_eq, nI_clamp, zi_div, lt_eq, bm_s, bi_s, bl_s, bw_s, gd, if_pos, if_neg, ite_true, ite_false, or_false, false_or, and_true, true_and, not_true, not_false_iff, true_or, or_true, Nat.not_lt_zero, Nat.add_assoc]
    · show fX11_bits_b26 fu k15 _ m (nI k) (nI (T + oN a)) (nI a) (nI 10) M = _
      simp (disch := omega) only [fX11_bits_b26, fX11_bits_j57, zi_li, zi_m, zi_m1, nI_add, zi_sub, zi_mul, zi_addm, zi_m_lt, zi_lt_m, zi_m_le, zi_le_m, zi_eq_m, zi_m_eq, nI_ltI, nI_leI, nI_eq, nI_clamp, zi_div, lt_eq, bm_s, bi_s, bl_s, bw_s, gd, if_pos, if_neg, ite_true, ite_false, or_false, false_or, and_true, true_and, not_true, not_false_iff, true_or, or_true, Nat.not_lt_zero]
  · have e : btS S k a = 0 := if_neg c
    rw [e]
    refine lp_ue (fun i => (nI T, nI i)) 0 rfl (by omega) (fun i hi rec => by omega) (fun rec => ?_)
    show fX11_bits_b26 fu k15 _ m (nI k) (nI T) (nI a) (nI 0) M = _
    simp (disch := omega) only [fX11_bits_b26, fX11_bits_j57, ka, zi_li, zi_m, zi_m1, nI_add, zi_sub, zi_mul, zi_addm, zi_m_lt, zi_lt_m, zi_m_le, zi_le_m, zi_eq_m, zi_m_eq, nI_ltI, nI_leI, nI_eq, nI_clamp, zi_div, lt_eq, bm_s, bi_s, bl_s, bw_s, gd, if_pos, if_neg, ite_true, ite_false, or_false, false_or, and_true, true_and, not_true, not_false_iff, true_or, or_true, Nat.not_lt_zero]
    rfl
theorem X11_bits (hfu : 200000 ≤ fu) (hV : VM S M m) (hG : Gd S) (x : Int32) : fX11_bits fu m x M = some (btA S x) := by
  have hA := hG.ad
  unfold fX11_bits btA
  by_cases c : nI 0 ≤ x ∧ x ≤ nI 5
  · obtain ⟨k, hk, rfl⟩ := (isIn_c (by omega)).mp c
    rw [if_pos c, ix_n (by omega)]
    show bi (fX11_isIn fu (nI k) (nI 0) (nI 5)) _ = _
    rw [X11_isIn, bi_s, bI_t c]
    show fX11_bits_l15 fu m (nI k) M (nI 0) (nI 0) = _
    unfold fX11_bits_l15
    refine lp_ue (fun i => (nI (smN (btS S k) i), nI i)) (2 ^ S 140) rfl (by omega) (fun i hi rec => ?_) (fun rec => ?_)
    · show fX11_bits_b15 fu _ m (nI k) (nI (smN (btS S k) i)) (nI i) M = _
      unfold fX11_bits_b15
      rw [X11_addresses hV hG, bi_s, if_neg (nI_ge hi (by omega))]
      exact X11_bits_in hfu hV hG hk (by omega) _
    · show fX11_bits_b15 fu _ m (nI k) (nI (smN (btS S k) (2 ^ S 140))) (nI (2 ^ S 140)) M = _
      unfold fX11_bits_b15 fX11_bits_j63
      rw [X11_addresses hV hG, bi_s, if_pos (Int32.le_refl _)]
  · rw [if_neg c]
    show bi (fX11_isIn fu x (nI 0) (nI 5)) _ = _
    rw [X11_isIn, bi_s, bI_f c]
    rfl
end BT
