/-! The greatest block of one wanted kind. -/
def nkS (S : Sto) (k x : Nat) : Nat := if wS S x = k then 0 else 1
def alS (S : Sto) (k s q : Nat) : Nat := smN (nkS S k) (q * s + s) - smN (nkS S k) (q * s)
theorem al_0 {S : Sto} {k s q : Nat} : alS S k s q = 0 ↔ ∀ x, q * s ≤ x → x < q * s + s → wS S x = k := by
  have h := smN_mono (nkS S k) (a := q * s) (b := q * s + s) (by omega)
  unfold alS
  constructor
  · intro h1 x h2 h3
    have h4 := smN_mono (nkS S k) (a := q * s) (b := x) h2
    have h5 := smN_mono (nkS S k) (a := x + 1) (b := q * s + s) (by omega)
    have h6 : smN (nkS S k) (x + 1) = smN (nkS S k) x + nkS S k x := rfl
    refine Decidable.not_not.mp fun c => ?_
    have h7 : nkS S k x = 1 := if_neg c
    omega
  · intro h1
    have := smN_flat (g := nkS S k) (a := q * s) (b := q * s + s) (v := 0) (by omega) (fun x h2 h3 => if_pos (h1 x h2 h3))
    omega
def fiN (g : Nat → Nat) : Nat → Option Nat
  | 0 => none
  | n + 1 => match fiN g n with
    | some i => some i
    | none => if g n = 0 then some n else none
theorem fi_n {g : Nat → Nat} : ∀ {n : Nat}, (∀ j, j < n → g j ≠ 0) → fiN g n = none
  | 0, _ => rfl
  | n + 1, h => by
    have ih := fi_n (n := n) fun j hj => h j (by omega)
    unfold fiN
    rw [ih]
    exact if_neg (h n (by omega))
theorem fi_s {g : Nat → Nat} {i : Nat} (h0 : g i = 0) (h1 : ∀ j, j < i → g j ≠ 0) : ∀ {n : Nat}, i < n → fiN g n = some i
  | 0, h => by omega
  | n + 1, h => by
    unfold fiN
    by_cases c : i < n
    · rw [fi_s h0 h1 c]
    · have : i = n := by omega
      subst this
      rw [fi_n h1]
      exact if_pos h0
theorem fi_on {g : Nat → Nat} : ∀ {n : Nat}, fiN g n = none → ∀ j, j < n → g j ≠ 0
  | 0, _, j, hj => by omega
  | n + 1, h, j, hj => by
    unfold fiN at h
    cases e : fiN g n with
    | some i =>
      rw [e] at h
      cases h
    | none =>
      rw [e] at h
      have h2 : (if g n = 0 then some n else none) = none := h
      by_cases c : g n = 0
      · rw [if_pos c] at h2
        cases h2
      · by_cases c2 : j = n
        · rw [c2]; exact c
        · exact fi_on e j (by omega)
theorem fi_os {g : Nat → Nat} : ∀ {n i : Nat}, fiN g n = some i → i < n ∧ g i = 0 ∧ ∀ j, j < i → g j ≠ 0
  | 0, i, h => by cases h
  | n + 1, i, h => by
    unfold fiN at h
    cases e : fiN g n with
    | some i' =>
      rw [e] at h
      cases h
      obtain ⟨h1, h2, h3⟩ := fi_os e
      exact ⟨by omega, h2, h3⟩
    | none =>
      rw [e] at h
      have h2 : (if g n = 0 then some n else none) = some i := h
      by_cases c : g n = 0
      · rw [if_pos c] at h2
        cases h2
        exact ⟨by omega, c, fi_on e⟩
      · rw [if_neg c] at h2
        cases h2
def fiA (s : Nat) : Option Nat → Int32
  | none => mI
  | some q => nI (q * s)
/-- blocks by number -/
theorem bk_q {A s q : Nat} (hs : 0 < s) (hd : A / s * s = A) : q < A / s ↔ q * s + s ≤ A := by
  have e : (q + 1) * s = q * s + s := Nat.succ_mul q s
  constructor
  · intro h
    have := Nat.mul_le_mul_right s (show q + 1 ≤ A / s from h)
    omega
  · intro h
    have : (q + 1) * s ≤ A := by omega
    exact (Nat.le_div_iff_mul_le hs).mpr this
section BL
variable {fu p n m : Nat} {S : Sto} {M : Mm} {f : Nat → Nat}
theorem X5_firstBlock (hfu : 200000 ≤ fu) (h : PV S M p n f) (hG : Gd S) {k s : Nat} (hk : k < 5) (hs : 0 < s) (hd : 2 ^ S 140 / s * s = 2 ^ S 140) : fX5_firstBlock fu p (nI k) (nI s) M = some (fiA s (fiN (alS S k s) (2 ^ S 140 / s))) := by
  have hA := hG.ad
  have hR := rn_le hG
  have hsA : s ≤ 2 ^ S 140 := by
    refine Decidable.not_not.mp fun c => ?_
    rw [Nat.div_eq_of_lt (by omega)] at hd
    omega
  have bk := fun q => bk_q (A := 2 ^ S 140) (q := q) hs hd
  have key : Wp (fX5_firstBlock fu p (nI k) (nI s) M) (fun v => v = fiA s (fiN (alS S k s) (2 ^ S 140 / s))) := by
    unfold fX5_firstBlock fX5_firstBlock_l2
    refine lp_ho (fun i z => z = nI i ∧ ∀ q, q * s < ruS S i → alS S k s q ≠ 0) _ (rnS S) (i := 0) (by omega) (by omega) ⟨rfl, fun q hq => by rw [ru_0] at hq; omega⟩ (fun i z hi hz rec hrec => ?_) (fun z hz rec => ?_)
    · obtain ⟨rfl, hz⟩ := hz
      have e1 := h.rs (i := i) (by omega)
      have e2 := h.rs (i := i + 1) (by omega)
      have e3 := h.rk hi
      have hu := ru_up hi
      have hl := ru_le S (i + 1)
      have s1 := wS_lt hG (ruS S i)
      obtain ⟨c, hc⟩ : ∃ c, (ruS S i + s - 1) / s = c := ⟨_, rfl⟩
      have d1 : c * s < ruS S i + s := by
        have := Nat.div_mul_le_self (ruS S i + s - 1) s
        rw [hc] at this
        omega
      have d2 : ruS S i ≤ c * s := by
        have t1 := Nat.div_add_mod (ruS S i + s - 1) s
        have t2 := Nat.mod_lt (ruS S i + s - 1) hs
        rw [hc, Nat.mul_comm] at t1
        omega
      have d3 : ∀ q, ruS S i ≤ q * s → c ≤ q := fun q hq => by
        rw [← hc]
        have : (ruS S i + s - 1) / s < q + 1 := Nat.div_lt_of_lt_mul (by rw [Nat.mul_comm, Nat.succ_mul]; omega)
        omega
      have inr : ∀ x, ruS S i ≤ x → x < ruS S (i + 1) → wS S x = wS S (ruS S i) := fun x x1 x2 => by
        have := ru_wt hi (x - ruS S i) (by omega)
        rw [show ruS S i + (x - ruS S i) = x from by omega] at this
        exact this
      have g1 : nI (ruS S i) + nI s - nI 1 = nI (ruS S i + s - 1) := by
        rw [nI_add, zi_sub (by omega)]
      have g2 : nI (ruS S i + s - 1) / nI s * nI s = nI (c * s) := by
        rw [zi_div (by omega) (by omega), hc, zi_mul]
      have nx : (wS S (ruS S i) = k → ruS S (i + 1) < c * s + s) → Wp (rec (nI (i + 1))) (fun v => v = fiA s (fiN (alS S k s) (2 ^ S 140 / s))) := fun hyp => hrec _ ⟨rfl, fun q hq q0 => by
        have qa := al_0.mp q0
        by_cases c1 : q * s < ruS S i
        · exact hz q c1 q0
        · have w1 := qa (q * s) (by omega) (by omega)
          have w2 := inr (q * s) (by omega) hq
          have w3 := hyp (by omega)
          have w4 := Nat.mul_le_mul_right s (d3 q (by omega))
          by_cases c2 : ruS S (i + 1) < 2 ^ S 140
          · have w5 := ru_en hi c2
            have w6 := qa (ruS S (i + 1)) (by omega) (by omega)
            exact w5 (by omega)
          · have w5 : q < 2 ^ S 140 / s := Nat.lt_of_mul_lt_mul_right (a := s) (by omega)
            have w6 := (bk q).mp w5
            omega⟩
      show Wp (fX5_firstBlock_b2 fu _ p (nI k) (nI s) (nI i) M) _
      simp (disch := omega) only [fX5_firstBlock_b2, fX5_firstBlock_j54, fX5_firstBlock_j51, h.rc, e1, e2, e3, zi_li, zi_m, zi_m1, nI_add, zi_sub, zi_mul, zi_addm, zi_m_lt, zi_lt_m, zi_m_le, zi_le_m, zi_eq_m, zi_m_eq, nI_ltI, nI_leI, nI_eq, nI_clamp, zi_div, lt_eq, bm_s, bi_s, bl_s, bw_s, gd, if_pos, if_neg, ite_true, ite_false, or_false, false_or, and_true, true_and, not_true, not_false_iff, true_or, or_true, Nat.not_lt_zero, hc]
      by_cases c1 : wS S (ruS S i) = k
      · rw [if_pos c1]
        by_cases c2 : ruS S (i + 1) < c * s + s
        · rw [if_pos c2]
          exact nx fun _ => c2
        · rw [if_neg c2, wp_some, fi_s (i := c) (al_0.mpr fun x x1 x2 => by rw [inr x (by omega) (by omega)]; exact c1) (fun j hj q0 => by
            by_cases c3 : j * s < ruS S i
            · exact hz j c3 q0
            · have := d3 j (by omega)
              omega) ((bk c).mpr (by omega))]
          rfl
      · rw [if_neg c1]
        exact nx fun q => absurd q c1
    · obtain ⟨rfl, hz⟩ := hz
      rw [fi_n fun j hj => hz j (by rw [ru_n]; have := (bk j).mp hj; omega)]
      simp (disch := omega) only [fX5_firstBlock_b2, fX5_firstBlock_j60, h.rc, zi_li, zi_m, zi_m1, nI_add, zi_sub, zi_mul, zi_addm, zi_m_lt, zi_lt_m, zi_m_le, zi_le_m, zi_eq_m, zi_m_eq, nI_ltI, nI_leI, nI_eq, nI_clamp, zi_div, lt_eq, bm_s, bi_s, bl_s, bw_s, gd, if_pos, if_neg, ite_true, ite_false, or_false, false_or, and_true, true_and, not_true, not_false_iff, true_or, or_true, Nat.not_lt_zero]
      exact wp_some.mpr rfl
  obtain ⟨v, e, rfl⟩ := key
  exact e
theorem X11_isAll (hfu : 200000 ≤ fu) (hV : VM S M m) (hG : Gd S) {k s q : Nat} (hk : k < 5) (hq : q * s + s ≤ 2 ^ S 140) : fX11_isAll fu m (nI k) (nI (q * s)) (nI s) M = some (bI (alS S k s q = 0)) := by
  have hA := hG.ad
  have key : Wp (fX11_isAll fu m (nI k) (nI (q * s)) (nI s) M) (fun v => v = bI (alS S k s q = 0)) := by
    unfold fX11_isAll fX11_isAll_l3
    refine lp_ho (fun j z => z = nI (q * s + j) ∧ ∀ x, q * s ≤ x → x < q * s + j → wS S x = k) _ s (i := 0) (by omega) (by omega) ⟨rfl, fun x h1 h2 => by omega⟩ (fun j z hj hz rec hrec => ?_) (fun z hz rec => ?_)
    · obtain ⟨rfl, hz⟩ := hz
      have w1 : fX11_wantedAt fu m (nI (q * s + j)) M = some (nI (wS S (q * s + j))) := X11_wantedAt hfu hV hG (by omega)
      have s1 := wS_lt hG (q * s + j)
      show Wp (fX11_isAll_b3 fu _ m (nI k) (nI (q * s)) (nI s) (nI (q * s + j)) M) _
      simp (disch := omega) only [fX11_isAll_b3, fX11_isAll_j21, w1, zi_li, zi_m, zi_m1, nI_add, zi_sub, zi_mul, zi_addm, zi_m_lt, zi_lt_m, zi_m_le, zi_le_m, zi_eq_m, zi_m_eq, nI_ltI, nI_leI, nI_eq, nI_clamp, zi_div, lt_eq, bm_s, bi_s, bl_s, bw_s, gd, if_pos, if_neg, ite_true, ite_false, or_false, false_or, and_true, true_and, not_true, not_false_iff, true_or, or_true, Nat.not_lt_zero]
      by_cases c : wS S (q * s + j) = k
      · rw [if_pos c]
        refine hrec _ ⟨rfl, fun x h1 h2 => ?_⟩
        by_cases c2 : x = q * s + j
        · rw [c2]; exact c
        · exact hz x h1 (by omega)
      · rw [if_neg c, wp_some, bI_f fun q0 => c (al_0.mp q0 _ (by omega) (by omega))]
    · obtain ⟨rfl, hz⟩ := hz
      show Wp (fX11_isAll_b3 fu _ m (nI k) (nI (q * s)) (nI s) (nI (q * s + s)) M) _
      simp (disch := omega) only [fX11_isAll_b3, fX11_isAll_j29, zi_li, zi_m, zi_m1, nI_add, zi_sub, zi_mul, zi_addm, zi_m_lt, zi_lt_m, zi_m_le, zi_le_m, zi_eq_m, zi_m_eq, nI_ltI, nI_leI, nI_eq, nI_clamp, zi_div, lt_eq, bm_s, bi_s, bl_s, bw_s, gd, if_pos, if_neg, ite_true, ite_false, or_false, false_or, and_true, true_and, not_true, not_false_iff, true_or, or_true, Nat.not_lt_zero]
      rw [wp_some, bI_t (al_0.mpr hz)]
  obtain ⟨v, e, rfl⟩ := key
  exact e
/-- one size, in the reference -/
theorem X11_block_in (hfu : 200000 ≤ fu) (hV : VM S M m) (hG : Gd S) {k s : Nat} (hk : k < 5) (hs : 0 < s) (hd : 2 ^ S 140 / s * s = 2 ^ S 140) (x2 : Int32) (k23 : Int32 → Option Int32) : fX11_block_l30 fu k23 m (nI k) x2 (nI s) M (nI 0) = match fiN (alS S k s) (2 ^ S 140 / s) with
    | none => k23 (nI (s / 2))
    | some q => some (if x2 = nI 0 then nI s else nI (q * s)) := by
  have hA := hG.ad
  have hsA : s ≤ 2 ^ S 140 := by
    refine Decidable.not_not.mp fun c => ?_
    rw [Nat.div_eq_of_lt (by omega)] at hd
    omega
  have bk := fun q => bk_q (A := 2 ^ S 140) (q := q) hs hd
  have hN : 2 ^ S 140 / s ≤ 2 ^ S 140 := Nat.div_le_self _ _
  unfold fX11_block_l30
  cases hf : fiN (alS S k s) (2 ^ S 140 / s) with
  | none =>
    have ha : ∀ j, j < 2 ^ S 140 / s → alS S k s j ≠ 0 := fi_on hf
    refine lp_ue (fun i => nI (i * s)) (2 ^ S 140 / s) (by rw [Nat.zero_mul]) (by omega) (fun i hi rec => ?_) (fun rec => ?_)
    · have b1 := (bk i).mp hi
      have ia := X11_isAll (fu := fu) hfu hV hG (k := k) (s := s) (q := i) hk b1
      have e1 : (i + 1) * s = i * s + s := Nat.succ_mul i s
      rw [bI_f (ha i hi)] at ia
      show fX11_block_b30 fu k23 _ m (nI k) x2 (nI s) (nI (i * s)) M = rec (nI ((i + 1) * s))
      rw [e1]
      simp (disch := omega) only [fX11_block_b30, X11_addresses hV hG, ia, zi_li, zi_m, zi_m1, nI_add, zi_sub, zi_mul, zi_addm, zi_m_lt, zi_lt_m, zi_m_le, zi_le_m, zi_eq_m, zi_m_eq, nI_ltI, nI_leI, nI_eq, nI_clamp, zi_div, lt_eq, bm_s, bi_s, bl_s, bw_s, gd, if_pos, if_neg, ite_true, ite_false, or_false, false_or, and_true, true_and, not_true, not_false_iff, true_or, or_true, Nat.not_lt_zero]
    · rw [hd]
      simp (disch := omega) only [fX11_block_b30, fX11_block_j73, X11_addresses hV hG, zi_li, zi_m, zi_m1, nI_add, zi_sub, zi_mul, zi_addm, zi_m_lt, zi_lt_m, zi_m_le, zi_le_m, zi_eq_m, zi_m_eq, nI_ltI, nI_leI, nI_eq, nI_clamp, zi_div, lt_eq, bm_s, bi_s, bl_s, bw_s, gd, if_pos, if_neg, ite_true, ite_false, or_false, false_or, and_true, true_and, not_true, not_false_iff, true_or, or_true, Nat.not_lt_zero]
  | some q =>
    obtain ⟨f1, f2, f3⟩ := fi_os hf
    refine lp_ue (fun i => nI (i * s)) q (by rw [Nat.zero_mul]) (by omega) (fun i hi rec => ?_) (fun rec => ?_)
    · have b1 := (bk i).mp (by omega)
      have ia := X11_isAll (fu := fu) hfu hV hG (k := k) (s := s) (q := i) hk b1
      have e1 : (i + 1) * s = i * s + s := Nat.succ_mul i s
      rw [bI_f (f3 i hi)] at ia
      show fX11_block_b30 fu k23 _ m (nI k) x2 (nI s) (nI (i * s)) M = rec (nI ((i + 1) * s))
      rw [e1]
      simp (disch := omega) only [fX11_block_b30, X11_addresses hV hG, ia, zi_li, zi_m, zi_m1, nI_add, zi_sub, zi_mul, zi_addm, zi_m_lt, zi_lt_m, zi_m_le, zi_le_m, zi_eq_m, zi_m_eq, nI_ltI, nI_leI, nI_eq, nI_clamp, zi_div, lt_eq, bm_s, bi_s, bl_s, bw_s, gd, if_pos, if_neg, ite_true, ite_false, or_false, false_or, and_true, true_and, not_true, not_false_iff, true_or, or_true, Nat.not_lt_zero]
    · have b1 := (bk q).mp f1
      have ia := X11_isAll (fu := fu) hfu hV hG (k := k) (s := s) (q := q) hk b1
      rw [bI_t f2] at ia
      simp (disch := omega) only [fX11_block_b30, fX11_block_j53, fX11_block_j63, X11_addresses hV hG, ia, zi_li, zi_m, zi_m1, nI_add, zi_sub, zi_mul, zi_addm, zi_m_lt, zi_lt_m, zi_m_le, zi_le_m, zi_eq_m, zi_m_eq, nI_ltI, nI_leI, nI_eq, nI_clamp, zi_div, lt_eq, bm_s, bi_s, bl_s, bw_s, gd, if_pos, if_neg, ite_true, ite_false, or_false, false_or, and_true, true_and, not_true, not_false_iff, true_or, or_true, Nat.not_lt_zero]
      by_cases c : x2 = nI 0
      · rw [if_pos c, if_pos c]
      · rw [if_neg c, if_neg c]
def bkN (S : Sto) (k : Nat) : Nat → Option (Nat × Nat)
  | 0 => none
  | e + 1 => match fiN (alS S k (2 ^ e)) (2 ^ S 140 / 2 ^ e) with
    | none => bkN S k e
    | some q => some (2 ^ e, q * 2 ^ e)
def blX (x2 : Int32) : Option (Nat × Nat) → Int32
  | none => mI
  | some (s, b) => pkA x2 (nI s) (nI b) mI
def blA (S : Sto) (x1 x2 : Int32) : Int32 := if nI 0 ≤ x1 ∧ x1 ≤ nI 4 then blX x2 (bkN S (ix x1) (S 140 + 1)) else mI
theorem p2_d {S : Sto} {e : Nat} (he : e < S 140 + 1) : 2 ^ S 140 / 2 ^ e * 2 ^ e = 2 ^ S 140 := Nat.div_mul_cancel (Nat.pow_dvd_pow 2 (by omega))
theorem p2_h (e : Nat) : 2 ^ (e + 1) / 2 = 2 ^ e := by
  rw [Nat.pow_succ]
  exact Nat.mul_div_cancel _ (by decide)
theorem X11_block_l (hfu : 200000 ≤ fu) (hV : VM S M m) (hG : Gd S) {k : Nat} (hk : k < 5) (x2 : Int32) (h2 : nI 0 ≤ x2 ∧ x2 ≤ nI 1) : fX11_block_l23 fu m (nI k) x2 M (nI (2 ^ S 140)) = some (blX x2 (bkN S k (S 140 + 1))) := by
  have hA := hG.ad
  have h1 := hG.1
  have key : fX11_block_l23 fu m (nI k) x2 M (nI (2 ^ (S 140 + 1) / 2)) = some (blX x2 (bkN S k (S 140 + 1))) := by
    unfold fX11_block_l23
    refine lp_sq (fun e => nI (2 ^ e / 2)) (fun e => some (blX x2 (bkN S k e))) (S 140 + 1) (by omega) (fun rec => ?_) (fun e he rec hrec => ?_)
    · show fX11_block_b23 fu _ m (nI k) x2 (nI 0) M = _
      rfl
    · have hp : 0 < 2 ^ e := Nat.two_pow_pos e
      have hp2 : 2 ^ e ≤ 2 ^ S 140 := Nat.pow_le_pow_right (by decide) (by omega)
      have hi := X11_block_in (fu := fu) hfu hV hG hk hp (p2_d he) x2 (fun x3 => rec x3)
      have c0 : ¬ nI (2 ^ e) ≤ (0 : Int32) := fun q => by
        have := (nI_leI (a := 2 ^ e) (b := 0) (by omega) (by omega)).mp q
        omega
      show fX11_block_b23 fu _ m (nI k) x2 (nI (2 ^ (e + 1) / 2)) M = some (blX x2 (bkN S k (e + 1)))
      rw [p2_h]
      unfold fX11_block_b23
      rw [if_neg c0]
      refine hi.trans ?_
      cases hf : fiN (alS S k (2 ^ e)) (2 ^ S 140 / 2 ^ e) with
      | none =>
        have eb : bkN S k (e + 1) = bkN S k e := by
          show (match fiN (alS S k (2 ^ e)) (2 ^ S 140 / 2 ^ e) with
            | none => bkN S k e
            | some q => some (2 ^ e, q * 2 ^ e)) = _
          rw [hf]
        rw [eb]
        exact hrec
      | some q =>
        have eb : bkN S k (e + 1) = some (2 ^ e, q * 2 ^ e) := by
          show (match fiN (alS S k (2 ^ e)) (2 ^ S 140 / 2 ^ e) with
            | none => bkN S k e
            | some q => some (2 ^ e, q * 2 ^ e)) = _
          rw [hf]
        rw [eb]
        obtain ⟨w, hw, rfl⟩ := (isIn_c (by omega)).mp h2
        show some (if nI w = nI 0 then nI (2 ^ e) else nI (q * 2 ^ e)) = some (pkA (nI w) (nI (2 ^ e)) (nI (q * 2 ^ e)) mI)
        unfold pkA
        have : w = 0 ∨ w = 1 := by omega
        rcases this with rfl | rfl <;> rfl
  rw [p2_h] at key
  exact key
theorem X11_isKind (x : Int32) : fX11_isKind fu x = some (bI (nI 0 ≤ x ∧ x ≤ nI 4)) := by
  unfold fX11_isKind
  show bi (fX11_isIn fu x (nI 0) (nI 4)) _ = _
  rw [X11_isIn, bi_s]
  by_cases c : nI 0 ≤ x ∧ x ≤ nI 4
  · rw [bI_t c]; rfl
  · rw [bI_f c]; rfl
theorem bl_out {x2 : Int32} (h : ¬ (nI 0 ≤ x2 ∧ x2 ≤ nI 1)) : ∀ o, blX x2 o = mI
  | none => rfl
  | some (s, b) => by
    show pkA x2 (nI s) (nI b) mI = mI
    unfold pkA
    rw [if_neg (fun q => h (isIn_y (j := 0) (by omega) q (by omega))), if_neg (fun q => h (isIn_y (j := 1) (by omega) q (by omega))), ite_self]
theorem X11_block (hfu : 200000 ≤ fu) (hV : VM S M m) (hG : Gd S) (x1 x2 : Int32) : fX11_block fu m x1 x2 M = some (blA S x1 x2) := by
  unfold fX11_block blA
  rw [X11_isKind, bi_s]
  by_cases c : nI 0 ≤ x1 ∧ x1 ≤ nI 4
  · obtain ⟨k, hk, rfl⟩ := (isIn_c (by omega)).mp c
    rw [bI_t c, if_neg (by decide), if_pos c, ix_n (by omega)]
    show bi (fX11_isIn fu x2 (nI 0) (nI 1)) _ = _
    rw [X11_isIn, bi_s]
    by_cases c3 : nI 0 ≤ x2 ∧ x2 ≤ nI 1
    · rw [bI_t c3, if_neg (by decide), X11_addresses hV hG, bi_s]
      exact X11_block_l hfu hV hG (by omega) x2 c3
    · rw [bI_f c3, bl_out c3]
      rfl
  · rw [bI_f c, if_neg c]
    rfl
theorem X5_firstBlock_n (hfu : 200000 ≤ fu) (h : PV S M p n f) (hG : Gd S) {x1 : Int32} {s : Nat} (hx : ¬ (nI 0 ≤ x1 ∧ x1 ≤ nI 4)) (hs : 0 < s) (hs2 : s ≤ 1024) : fX5_firstBlock fu p x1 (nI s) M = some mI := by
  have hA := hG.ad
  have hR := rn_le hG
  unfold fX5_firstBlock fX5_firstBlock_l2
  refine lp_ue (fun i => nI i) (rnS S) rfl (by omega) (fun i hi rec => ?_) (fun rec => ?_)
  · have e1 := h.rs (i := i) (by omega)
    have e3 := h.rk hi
    have s1 := wS_lt hG (ruS S i)
    have hl := ru_le S i
    have c : ¬ nI (wS S (ruS S i)) = x1 := fun q => hx (isIn_y (by omega) q.symm (by omega))
    show fX5_firstBlock_b2 fu _ p x1 (nI s) (nI i) M = rec (nI (i + 1))
    simp (disch := omega) only [fX5_firstBlock_b2, fX5_firstBlock_j54, fX5_firstBlock_j51, h.rc, e1, e3, zi_li, zi_m, zi_m1, nI_add, zi_sub, zi_mul, zi_addm, zi_m_lt, zi_lt_m, zi_m_le, zi_le_m, zi_eq_m, zi_m_eq, nI_ltI, nI_leI, nI_eq, nI_clamp, zi_div, lt_eq, bm_s, bi_s, bl_s, bw_s, gd, if_pos, if_neg, ite_true, ite_false, or_false, false_or, and_true, true_and, not_true, not_false_iff, true_or, or_true, Nat.not_lt_zero]
  · simp (disch := omega) only [fX5_firstBlock_b2, fX5_firstBlock_j60, h.rc, zi_li, zi_m, zi_m1, nI_add, zi_sub, zi_mul, zi_addm, zi_m_lt, zi_lt_m, zi_m_le, zi_le_m, zi_eq_m, zi_m_eq, nI_ltI, nI_leI, nI_eq, nI_clamp, zi_div, lt_eq, bm_s, bi_s, bl_s, bw_s, gd, if_pos, if_neg, ite_true, ite_false, or_false, false_or, and_true, true_and, not_true, not_false_iff, true_or, or_true, Nat.not_lt_zero]
theorem X10_block_l (hfu : 200000 ≤ fu) (h : PV S M p n f) (hG : Gd S) (x1 x2 : Int32) : fX10_block_l14 fu x1 x2 p M (nI (2 ^ S 140)) = some (blA S x1 x2, M) := by
  have hA := hG.ad
  have h1 := hG.1
  have key : ∀ o : Nat → Option (Nat × Nat), (o 0 = none) → (∀ e, e < S 140 + 1 → ∃ v, fX5_firstBlock fu p x1 (nI (2 ^ e)) M = some v ∧ ((v = mI ∧ o (e + 1) = o e) ∨ ∃ q, v = nI (q * 2 ^ e) ∧ q * 2 ^ e < 2 ^ 31 ∧ o (e + 1) = some (2 ^ e, q * 2 ^ e))) → fX10_block_l14 fu x1 x2 p M (nI (2 ^ (S 140 + 1) / 2)) = some (blX x2 (o (S 140 + 1)), M) := by
    intro o ho hst
    unfold fX10_block_l14
    refine lp_sq (fun e => nI (2 ^ e / 2)) (fun e => some (blX x2 (o e), M)) (S 140 + 1) (by omega) (fun rec => ?_) (fun e he rec hrec => ?_)
    · show fX10_block_b14 fu _ x1 x2 p (nI 0) M = some (blX x2 (o 0), M)
      rw [ho]
      rfl
    · have hp : 0 < 2 ^ e := Nat.two_pow_pos e
      have hp2 : 2 ^ e ≤ 2 ^ S 140 := Nat.pow_le_pow_right (by decide) (by omega)
      have c0 : ¬ nI (2 ^ e) < (1 : Int32) := fun q => by
        have := (nI_ltI (a := 2 ^ e) (b := 1) (by omega) (by omega)).mp q
        omega
      have d2 : nI (2 ^ e) / (2 : Int32) = nI (2 ^ e / 2) := zi_div (a := 2 ^ e) (b := 2) (by omega) (by omega)
      obtain ⟨v, ev, hv⟩ := hst e he
      show fX10_block_b14 fu _ x1 x2 p (nI (2 ^ (e + 1) / 2)) M = some (blX x2 (o (e + 1)), M)
      rw [p2_h]
      unfold fX10_block_b14
      rw [if_neg c0, ev, bi_s, zi_m1]
      rcases hv with ⟨v1, v2⟩ | ⟨q, v1, v3, v2⟩
      · rw [if_pos v1, v2, d2, lt_eq]
        exact hrec
      · rw [if_neg (by rw [v1, zi_eq_m v3]; exact id), v2, v1]
        unfold fX10_block_j35
        rw [X10_pick, bi_s]
        rfl
  rw [p2_h] at key
  unfold blA
  by_cases c : nI 0 ≤ x1 ∧ x1 ≤ nI 4
  · obtain ⟨k, hk, rfl⟩ := (isIn_c (by omega)).mp c
    rw [if_pos c, ix_n (by omega)]
    refine key (bkN S k) rfl fun e he => ?_
    have hp : 0 < 2 ^ e := Nat.two_pow_pos e
    refine ⟨_, X5_firstBlock hfu h hG (k := k) (s := 2 ^ e) (by omega) hp (p2_d he), ?_⟩
    cases hf : fiN (alS S k (2 ^ e)) (2 ^ S 140 / 2 ^ e) with
    | none =>
      refine Or.inl ⟨rfl, ?_⟩
      show (match fiN (alS S k (2 ^ e)) (2 ^ S 140 / 2 ^ e) with
        | none => bkN S k e
        | some q => some (2 ^ e, q * 2 ^ e)) = _
      rw [hf]
    | some q =>
      have := (bk_q (A := 2 ^ S 140) (q := q) hp (p2_d he)).mp (fi_os hf).1
      refine Or.inr ⟨q, rfl, by omega, ?_⟩
      show (match fiN (alS S k (2 ^ e)) (2 ^ S 140 / 2 ^ e) with
        | none => bkN S k e
        | some q => some (2 ^ e, q * 2 ^ e)) = _
      rw [hf]
  · rw [if_neg c]
    refine key (fun _ => none) rfl fun e he => ?_
    have hp : 0 < 2 ^ e := Nat.two_pow_pos e
    have hp2 : 2 ^ e ≤ 2 ^ S 140 := Nat.pow_le_pow_right (by decide) (by omega)
    exact ⟨mI, X5_firstBlock_n hfu h hG c hp (by omega), Or.inl ⟨rfl, rfl⟩⟩
theorem X10_block {a : Nat} {M1 : Mm} (hfu : 200000 ≤ fu) (h : PV S M1 (a + 198) n f) (hV : VX S M1 (a + 12)) (hG : Gd S) (e : fX10_piecesNow fu a M = some M1) (x1 x2 : Int32) : fX10_block fu a x1 x2 M = some (blA S x1 x2, M1) := by
  unfold fX10_block
  rw [e, bm_s, hV.1.1, lt_eq]
  exact X10_block_l hfu h hG x1 x2
end BL
