/-! Runs. -/
def rnS (S : Sto) : Nat := smN (rS S) (2 ^ S 140)
/-- where run i starts -/
def ruS (S : Sto) (i : Nat) : Nat := smN (fun x => if smN (rS S) (x + 1) ≤ i then 1 else 0) (2 ^ S 140)
theorem ru_le (S : Sto) (i : Nat) : ruS S i ≤ 2 ^ S 140 := by
  have : ruS S i ≤ 1 * 2 ^ S 140 := smN_le fun x _ => by split <;> omega
  omega
theorem ru_lt {S : Sto} {j z : Nat} (hz : z < 2 ^ S 140) : z < ruS S j ↔ smN (rS S) (z + 1) ≤ j := by
  constructor
  · intro h
    refine Decidable.not_not.mp fun c => ?_
    have e1 := smN_flat (g := fun x => if smN (rS S) (x + 1) ≤ j then 1 else 0) (a := z) (b := 2 ^ S 140) (v := 0) (by omega) (fun x h1 h2 => by
      have := smN_mono (rS S) (a := z + 1) (b := x + 1) (by omega)
      exact if_neg (by omega))
    have e2 : smN (fun x => if smN (rS S) (x + 1) ≤ j then 1 else 0) z ≤ 1 * z := smN_le fun x _ => by split <;> omega
    have e3 : ruS S j = smN (fun x => if smN (rS S) (x + 1) ≤ j then 1 else 0) (2 ^ S 140) := rfl
    rw [Nat.zero_mul] at e1
    omega
  · intro h
    have e1 := smN_flat (g := fun x => if smN (rS S) (x + 1) ≤ j then 1 else 0) (a := 0) (b := z + 1) (v := 1) (by omega) (fun x h1 h2 => by
      have := smN_mono (rS S) (a := x + 1) (b := z + 1) (by omega)
      exact if_pos (by omega))
    have e2 := smN_mono (fun x => if smN (rS S) (x + 1) ≤ j then 1 else 0) (a := z + 1) (b := 2 ^ S 140) (by omega)
    have e3 : ruS S j = smN (fun x => if smN (rS S) (x + 1) ≤ j then 1 else 0) (2 ^ S 140) := rfl
    have e4 : smN (fun x => if smN (rS S) (x + 1) ≤ j then 1 else 0) 0 = 0 := rfl
    omega
theorem ru_in {S : Sto} {i : Nat} (hi : i < rnS S) : ruS S i < 2 ^ S 140 ∧ rS S (ruS S i) = 1 ∧ smN (rS S) (ruS S i) = i := by
  have hp : 0 < 2 ^ S 140 := Nat.two_pow_pos _
  have h1 := ru_le S i
  have h2 : ruS S i < 2 ^ S 140 := by
    refine Decidable.not_not.mp fun c => ?_
    have := (ru_lt (S := S) (j := i) (z := 2 ^ S 140 - 1) (by omega)).mp (by omega)
    rw [Nat.sub_add_cancel (by omega)] at this
    unfold rnS at hi
    omega
  have h3 : i < smN (rS S) (ruS S i + 1) := by
    refine Decidable.not_not.mp fun c => ?_
    have := (ru_lt (S := S) (j := i) h2).mpr (by omega)
    omega
  have h4 : smN (rS S) (ruS S i) ≤ i := by
    by_cases c : ruS S i = 0
    · rw [c]; exact Nat.zero_le _
    · have := (ru_lt (S := S) (j := i) (z := ruS S i - 1) (by omega)).mp (by omega)
      rw [Nat.sub_add_cancel (by omega)] at this
      exact this
  have h5 : smN (rS S) (ruS S i + 1) = smN (rS S) (ruS S i) + rS S (ruS S i) := rfl
  have h6 := rS_le S (ruS S i)
  exact ⟨h2, by omega, by omega⟩
theorem ru_of {S : Sto} {x : Nat} (hx : x < 2 ^ S 140) (h : rS S x = 1) : ruS S (smN (rS S) x) = x := by
  have hi : smN (rS S) x < rnS S := smN_lt hx (by omega)
  obtain ⟨h1, h2, h3⟩ := ru_in hi
  exact smN_un h2 h h3
theorem ru_n (S : Sto) : ruS S (rnS S) = 2 ^ S 140 := by
  have hp : 0 < 2 ^ S 140 := Nat.two_pow_pos _
  have h1 := ru_le S (rnS S)
  have := (ru_lt (S := S) (j := rnS S) (z := 2 ^ S 140 - 1) (by omega)).mpr (by
    rw [Nat.sub_add_cancel (by omega)]
    exact Nat.le_refl _)
  omega
theorem ru_0 (S : Sto) : ruS S 0 = 0 := by
  have hp : 0 < 2 ^ S 140 := Nat.two_pow_pos _
  refine Decidable.not_not.mp fun c => ?_
  have := (ru_lt (S := S) (j := 0) (z := 0) hp).mp (by omega)
  have e : smN (rS S) (0 + 1) = smN (rS S) 0 + rS S 0 := rfl
  have e2 : rS S 0 = 1 := by
    unfold rS chD
    exact if_pos (Or.inl rfl)
  omega
theorem ru_up {S : Sto} {i : Nat} (hi : i < rnS S) : ruS S i < ruS S (i + 1) := by
  obtain ⟨h1, h2, h3⟩ := ru_in hi
  refine (ru_lt h1).mpr ?_
  have e : smN (rS S) (ruS S i + 1) = smN (rS S) (ruS S i) + rS S (ruS S i) := rfl
  omega
/-- wanted alike in a run -/
theorem ru_wt {S : Sto} {i : Nat} (hi : i < rnS S) : ∀ d, ruS S i + d < ruS S (i + 1) → wS S (ruS S i + d) = wS S (ruS S i)
  | 0, _ => rfl
  | d + 1, h => by
    have ih := ru_wt hi d (by omega)
    obtain ⟨h1, h2, h3⟩ := ru_in hi
    have hl := ru_le S (i + 1)
    have a1 := (ru_lt (S := S) (j := i + 1) (z := ruS S i + (d + 1)) (by omega)).mp h
    have a2 := smN_mono (rS S) (a := ruS S i + 1) (b := ruS S i + (d + 1)) (by omega)
    have e1 : smN (rS S) (ruS S i + 1) = smN (rS S) (ruS S i) + rS S (ruS S i) := rfl
    have e2 : smN (rS S) (ruS S i + (d + 1) + 1) = smN (rS S) (ruS S i + (d + 1)) + rS S (ruS S i + (d + 1)) := rfl
    have a3 : ¬ rS S (ruS S i + (d + 1)) = 1 := by omega
    rw [← ih]
    refine Decidable.not_not.mp fun c => a3 (if_pos (Or.inr ?_))
    rw [show ruS S i + (d + 1) - 1 = ruS S i + d from by omega]
    exact c
theorem ru_en {S : Sto} {i : Nat} (hi : i < rnS S) (h : ruS S (i + 1) < 2 ^ S 140) : wS S (ruS S (i + 1)) ≠ wS S (ruS S i) := by
  have hu := ru_up hi
  have hi2 : i + 1 < rnS S := by
    refine Decidable.not_not.mp fun c => ?_
    have : i + 1 = rnS S := by omega
    rw [this, ru_n] at h
    omega
  obtain ⟨h1, h2, h3⟩ := ru_in hi2
  have hw := ru_wt hi (ruS S (i + 1) - 1 - ruS S i) (by omega)
  rw [show ruS S i + (ruS S (i + 1) - 1 - ruS S i) = ruS S (i + 1) - 1 from by omega] at hw
  rw [← hw]
  intro q
  have : rS S (ruS S (i + 1)) = 0 := if_neg fun c => by
    rcases c with c | c
    · omega
    · exact c q
  omega
def rnA (S : Sto) (x1 x2 : Int32) : Int32 := if x1 = mI then nI (rnS S) else if nI 0 ≤ x1 ∧ x1 < nI (rnS S) then pkA x2 (nI (ruS S (ix x1))) (nI (ruS S (ix x1 + 1) - 1)) (nI (wS S (ruS S (ix x1)))) else mI
section RU
variable {fu p n m : Nat} {S : Sto} {M : Mm} {f : Nat → Nat}
theorem PV.rc (h : PV S M p n f) : M.1 p 7 = nI (rnS S) := h.2.2.2.2.2.1.1
theorem PV.rs (h : PV S M p n f) {i : Nat} (hi : i ≤ rnS S) : M.1 (p + 6) i = nI (ruS S i) := by
  by_cases c : i = rnS S
  · rw [c, ru_n]
    exact h.2.2.2.2.2.2
  · obtain ⟨h1, h2, h3⟩ := ru_in (S := S) (i := i) (by omega)
    have := (h.2.2.2.2.2.1.2 _ h1 h2).1
    rw [h3] at this
    exact this
theorem PV.rk (h : PV S M p n f) {i : Nat} (hi : i < rnS S) : M.1 (p + 7) i = nI (wS S (ruS S i)) := by
  obtain ⟨h1, h2, h3⟩ := ru_in (S := S) (i := i) hi
  have := (h.2.2.2.2.2.1.2 _ h1 h2).2
  rw [h3] at this
  exact this
theorem X11_runMany (hfu : 200000 ≤ fu) (hV : VM S M m) (hG : Gd S) : fX11_runMany fu m M = some (nI (rnS S)) := by
  have hA := hG.ad
  unfold fX11_runMany fX11_runMany_l4
  refine lp_ue (fun i => (nI (smN (rS S) i), nI i)) (2 ^ S 140) rfl (by omega) (fun i hi rec => ?_) (fun rec => ?_)
  · have e1 : smN (rS S) (i + 1) = smN (rS S) i + rS S i := rfl
    have w : ∀ y, y < 1024 → fX11_wantedAt fu m (nI y) M = some (nI (wS S y)) := fun y hy => X11_wantedAt hfu hV hG (by omega)
    have s1 := wS_lt hG i
    have s2 := wS_lt hG (i - 1)
    show fX11_runMany_b4 fu _ m (nI (smN (rS S) i)) (nI i) M = rec (nI (smN (rS S) (i + 1)), nI (i + 1))
    rw [e1]
    by_cases c0 : i = 0
    · have : rS S i = 1 := if_pos (Or.inl c0)
      rw [this]
      simp (disch := omega) only [fX11_runMany_b4, fX11_runMany_j32, fX11_runMany_j37, X11_addresses hV hG, zi_li, zi_m, zi_m1, nI_add, zi_sub, zi_mul, zi_addm, zi_m_lt, zi_lt_m, zi_m_le, zi_le_m, zi_eq_m, zi_m_eq, nI_ltI, nI_leI, nI_eq, nI_clamp, zi_div, lt_eq, bm_s, bi_s, bl_s, bw_s, gd, if_pos, if_neg, ite_true, ite_false, or_false, false_or, and_true, true_and, not_true, not_false_iff, true_or, or_true, Nat.not_lt_zero]
    · simp (disch := omega) only [fX11_runMany_b4, fX11_runMany_j32, fX11_runMany_j37, X11_addresses hV hG, zi_li, zi_m, zi_m1, nI_add, zi_sub, zi_mul, zi_addm, zi_m_lt, zi_lt_m, zi_m_le, zi_le_m, zi_eq_m, zi_m_eq, nI_ltI, nI_leI, nI_eq, nI_clamp, zi_div, lt_eq, bm_s, bi_s, bl_s, bw_s, gd, if_pos, if_neg, ite_true, ite_false, or_false, false_or, and_true, true_and, not_true, not_false_iff, true_or, or_true, Nat.not_lt_zero, w i, w (i - 1)]
      by_cases c1 : wS S i = wS S (i - 1)
      · have : rS S i = 0 := if_neg fun q => by
          rcases q with q | q
          · exact c0 q
          · exact q c1
        rw [this, if_pos c1]
      · have : rS S i = 1 := if_pos (Or.inr c1)
        rw [this, if_neg c1]
  · show fX11_runMany_b4 fu _ m (nI (smN (rS S) (2 ^ S 140))) (nI (2 ^ S 140)) M = _
    simp (disch := omega) only [fX11_runMany_b4, fX11_runMany_j45, X11_addresses hV hG, zi_li, zi_m, zi_m1, nI_add, zi_sub, zi_mul, zi_addm, zi_m_lt, zi_lt_m, zi_m_le, zi_le_m, zi_eq_m, zi_m_eq, nI_ltI, nI_leI, nI_eq, nI_clamp, zi_div, lt_eq, bm_s, bi_s, bl_s, bw_s, gd, if_pos, if_neg, ite_true, ite_false, or_false, false_or, and_true, true_and, not_true, not_false_iff, true_or, or_true, Nat.not_lt_zero]
    rfl
theorem X11_runEnd (hfu : 200000 ≤ fu) (hV : VM S M m) (hG : Gd S) {i : Nat} (hi : i < rnS S) : fX11_runEnd fu m (nI (ruS S i)) M = some (nI (ruS S (i + 1) - 1)) := by
  have hA := hG.ad
  have hu := ru_up hi
  have hl := ru_le S (i + 1)
  have w : ∀ y, y < 1024 → fX11_wantedAt fu m (nI y) M = some (nI (wS S y)) := fun y hy => X11_wantedAt hfu hV hG (by omega)
  have s2 := wS_lt hG (ruS S i)
  unfold fX11_runEnd fX11_runEnd_l2
  refine lp_ue (fun d => nI (ruS S i + d)) (ruS S (i + 1) - 1 - ruS S i) rfl (by omega) (fun d hd rec => ?_) (fun rec => ?_)
  · have hw := ru_wt hi (d + 1) (by omega)
    have s1 := wS_lt hG (ruS S i + (d + 1))
    have w1 := w (ruS S i + (d + 1)) (by omega)
    have w2 := w (ruS S i) (by omega)
    rw [hw] at w1
    simp (disch := omega) only [fX11_runEnd_b2, fX11_runEnd_j33, X11_addresses hV hG, zi_li, zi_m, zi_m1, nI_add, zi_sub, zi_mul, zi_addm, zi_m_lt, zi_lt_m, zi_m_le, zi_le_m, zi_eq_m, zi_m_eq, nI_ltI, nI_leI, nI_eq, nI_clamp, zi_div, lt_eq, bm_s, bi_s, bl_s, bw_s, gd, if_pos, if_neg, ite_true, ite_false, or_false, false_or, and_true, true_and, not_true, not_false_iff, true_or, or_true, Nat.not_lt_zero, Nat.add_assoc, w1, w2]
  · have e : ruS S i + (ruS S (i + 1) - 1 - ruS S i) = ruS S (i + 1) - 1 := by omega
    have e2 : nI (ruS S (i + 1) - 1) + nI 1 = nI (ruS S (i + 1)) := by
      rw [nI_add, Nat.sub_add_cancel (by omega)]
    rw [e]
    by_cases c : ruS S (i + 1) < 2 ^ S 140
    · have hne := ru_en hi c
      have s1 := wS_lt hG (ruS S (i + 1))
      have w1 := w (ruS S (i + 1)) (by omega)
      have w2 := w (ruS S i) (by omega)
      unfold fX11_runEnd_b2 fX11_runEnd_j33
      rw [X11_addresses hV hG, bi_s]
      show (if nI (2 ^ S 140) ≤ nI (ruS S (i + 1) - 1) + nI 1 then _ else bi (fX11_wantedAt fu m (nI (ruS S (i + 1) - 1) + nI 1) M) _) = _
      rw [e2, if_neg (nI_ge c (by omega)), w1, bi_s, w2, bi_s, if_neg (fun q => hne ((nI_eq (by omega) (by omega)).mp q))]
    · unfold fX11_runEnd_b2 fX11_runEnd_j33
      rw [X11_addresses hV hG, bi_s]
      show (if nI (2 ^ S 140) ≤ nI (ruS S (i + 1) - 1) + nI 1 then _ else bi (fX11_wantedAt fu m (nI (ruS S (i + 1) - 1) + nI 1) M) _) = _
      rw [e2, if_pos (nI_le (by omega) (by omega))]
theorem rn_le (hG : Gd S) : rnS S ≤ 25 := rS_25 hG _
theorem rn_0 (hG : Gd S) : 0 < rnS S := by
  have hp := hG.ad
  have h : rS S 0 = 1 := by
    unfold rS chD
    exact if_pos (Or.inl rfl)
  have := smN_lt (g := rS S) (a := 0) (b := 2 ^ S 140) (by omega) (by omega)
  unfold rnS
  omega
theorem X11_run_l (hfu : 200000 ≤ fu) (hV : VM S M m) (hG : Gd S) {i : Nat} (hi : i < rnS S) (x2 : Int32) (h2 : nI 0 ≤ x2 ∧ x2 ≤ nI 2) : fX11_run_l40 fu m x2 M (nI 0) (nI i) = some (pkA x2 (nI (ruS S i)) (nI (ruS S (i + 1) - 1)) (nI (wS S (ruS S i)))) := by
  have hA := hG.ad
  have hR := rn_le hG
  unfold fX11_run_l40
  refine lp_ue (fun j => (nI (ruS S j), nI (i - j))) i (by rw [ru_0]; rfl) (by omega) (fun j hj rec => ?_) (fun rec => ?_)
  · have hu := ru_up (S := S) (i := j) (by omega)
    have e1 := X11_runEnd (fu := fu) hfu hV hG (i := j) (by omega)
    have e2 : nI (ruS S (j + 1) - 1) + nI 1 = nI (ruS S (j + 1)) := by
      rw [nI_add, Nat.sub_add_cancel (by omega)]
    have e3 : nI (i - j) + mI = nI (i - (j + 1)) := by
      rw [zi_addm (by omega)]
      rfl
    show fX11_run_b40 fu _ m x2 (nI (ruS S j)) (nI (i - j)) M = rec (nI (ruS S (j + 1)), nI (i - (j + 1)))
    unfold fX11_run_b40
    have e0 : ¬ nI (i - j) ≤ (0 : Int32) := fun q => by
      have := (nI_leI (a := i - j) (b := 0) (by omega) (by omega)).mp q
      omega
    rw [if_neg e0, e1, bi_s, lt_eq, lt_eq]
    show rec (nI (ruS S (j + 1) - 1) + nI 1, nI (i - j) + mI) = _
    rw [e2, e3]
  · obtain ⟨h3, _, _⟩ := ru_in hi
    have e1 := X11_runEnd (fu := fu) hfu hV hG hi
    have w1 : fX11_wantedAt fu m (nI (ruS S i)) M = some (nI (wS S (ruS S i))) := X11_wantedAt hfu hV hG (by omega)
    obtain ⟨w, hw, rfl⟩ := (isIn_c (by omega)).mp h2
    show fX11_run_b40 fu _ m (nI w) (nI (ruS S i)) (nI (i - i)) M = _
    unfold pkA
    simp (disch := omega) only [fX11_run_b40, fX11_run_j59, fX11_run_j85, e1, w1, Nat.sub_self, zi_li, zi_m, zi_m1, nI_add, zi_sub, zi_mul, zi_addm, zi_m_lt, zi_lt_m, zi_m_le, zi_le_m, zi_eq_m, zi_m_eq, nI_ltI, nI_leI, nI_eq, nI_clamp, zi_div, lt_eq, bm_s, bi_s, bl_s, bw_s, gd, if_pos, if_neg, ite_true, ite_false, or_false, false_or, and_true, true_and, not_true, not_false_iff, true_or, or_true, Nat.not_lt_zero]
    by_cases c0 : w = 0
    · rw [if_pos c0, if_pos c0]
    · rw [if_neg c0, if_neg c0]
      by_cases c1 : w = 1
      · rw [if_pos c1, if_pos c1]
      · rw [if_neg c1]
        try rw [if_neg c1]
        try rw [if_pos (show w = 2 by omega)]
theorem pk_out {x2 a b c : Int32} (h : ¬ (nI 0 ≤ x2 ∧ x2 ≤ nI 2)) : pkA x2 a b c = mI := by
  unfold pkA
  rw [if_neg (fun q => h (isIn_y (j := 0) (by omega) q (by omega))), if_neg (fun q => h (isIn_y (j := 1) (by omega) q (by omega))), if_neg (fun q => h (isIn_y (j := 2) (by omega) q (by omega)))]
theorem X11_run (hfu : 200000 ≤ fu) (hV : VM S M m) (hG : Gd S) (x1 x2 : Int32) : fX11_run fu m x1 x2 M = some (rnA S x1 x2) := by
  have hA := hG.ad
  have hR := rn_le hG
  have hR0 := rn_0 hG
  unfold fX11_run rnA
  rw [X11_runMany hfu hV hG, bi_s, bi_s, zi_m1]
  by_cases c0 : x1 = mI
  · rw [if_pos c0, if_pos c0]
  · rw [if_neg c0, if_neg c0]
    show bi (fX11_isIn fu x1 (nI 0) (nI (rnS S) - nI 1)) _ = _
    rw [zi_sub (by omega), X11_isIn, bi_s]
    by_cases c1 : nI 0 ≤ x1 ∧ x1 ≤ nI (rnS S - 1)
    · obtain ⟨i, hi, rfl⟩ := (isIn_c (by omega)).mp c1
      have c2 : nI 0 ≤ nI i ∧ nI i < nI (rnS S) := ⟨c1.1, (nI_ltI (by omega) (by omega)).mpr (by omega)⟩
      rw [bI_t c1, if_pos c2, if_neg (by decide), ix_n (by omega)]
      show bi (fX11_isIn fu x2 (nI 0) (nI 2)) _ = _
      rw [X11_isIn, bi_s]
      by_cases c3 : nI 0 ≤ x2 ∧ x2 ≤ nI 2
      · rw [bI_t c3, if_neg (by decide)]
        exact X11_run_l hfu hV hG (by omega) x2 c3
      · rw [bI_f c3, pk_out c3]
        rfl
    · have c2 : ¬ (nI 0 ≤ x1 ∧ x1 < nI (rnS S)) := fun q => by
        obtain ⟨j, hj, e⟩ := isB_of q (by omega)
        exact c1 ((isIn_c (by omega)).mpr ⟨j, by omega, e⟩)
      rw [bI_f c1, if_neg c2]
      rfl
theorem X10_run {a : Nat} {M1 : Mm} (h : PV S M1 (a + 198) n f) (hG : Gd S) (e : fX10_piecesNow fu a M = some M1) (x1 x2 : Int32) : fX10_run fu a x1 x2 M = some (rnA S x1 x2, M1) := by
  have hR := rn_le hG
  unfold fX10_run rnA
  rw [e, bm_s, zi_m1, h.rc]
  by_cases c0 : x1 = mI
  · rw [if_pos c0, if_pos c0]
  · rw [if_neg c0, if_neg c0]
    rcases i32_cases x1 with c1 | ⟨i, hi, rfl⟩
    · rw [if_pos c1, if_neg (fun q => neg_nle c1 (by omega) q.1)]
      rfl
    · have c1 : nI 0 ≤ nI i := (nI_leI (by omega) (by omega)).mpr (by omega)
      have c1' : ¬ nI i < (0 : Int32) := Int32.not_lt.mpr c1
      rw [if_neg c1']
      by_cases c2 : i < rnS S
      · have c3 : nI i < nI (rnS S) := (nI_ltI (by omega) (by omega)).mpr c2
        have e1 := h.rs (i := i) (by omega)
        have e2 := h.rs (i := i + 1) (by omega)
        have e3 := h.rk c2
        have hu := ru_up c2
        have e4 : nI i + 1 = nI (i + 1) := nI_add i 1
        have e5 : nI (ruS S (i + 1)) - 1 = nI (ruS S (i + 1) - 1) := zi_sub (a := ruS S (i + 1)) (b := 1) (by omega)
        have c4 : nI 0 ≤ nI i ∧ nI i < nI (rnS S) := ⟨c1, c3⟩
        rw [if_pos c3, if_pos c4, if_neg (nI_in (by omega) (by omega)), e4, if_neg (nI_in (by omega) (by omega)), ix_n (by omega), ix_n (by omega), e1, e2, e3, X10_pick, bi_s, e5]
      · have c3 : ¬ nI i < nI (rnS S) := fun q => c2 ((nI_ltI (by omega) (by omega)).mp q)
        rw [if_neg c3, if_neg (fun q => c3 q.2)]
        rfl
theorem X10_bits {a : Nat} {M1 : Mm} (hfu : 200000 ≤ fu) (h : PV S M1 (a + 198) n f) (hG : Gd S) (e : fX10_piecesNow fu a M = some M1) (x : Int32) : ∃ M2, fX10_bits fu a x M = some (btA S x, M2) ∧ (M2 = M ∨ M2 = M1) := by
  unfold fX10_bits btA
  by_cases c : nI 0 ≤ x ∧ x ≤ nI 5
  · obtain ⟨k, hk, rfl⟩ := (isIn_c (by omega)).mp c
    have c1' : ¬ nI k < (0 : Int32) := Int32.not_lt.mpr c.1
    have c2 : nI k ≤ (5 : Int32) := c.2
    refine ⟨M1, ?_, Or.inr rfl⟩
    rw [if_neg c1', if_pos c2, e, bm_s, if_pos c, ix_n (by omega)]
    exact X10_bits_l hfu h hG (by omega)
  · refine ⟨M, ?_, Or.inl rfl⟩
    rw [if_neg c]
    by_cases c1 : x < (0 : Int32)
    · rw [if_pos c1]
      rfl
    · have c2 : ¬ x ≤ (5 : Int32) := fun q => c ⟨Int32.not_lt.mp c1, q⟩
      rw [if_neg c1, if_neg c2]
      rfl
end RU
