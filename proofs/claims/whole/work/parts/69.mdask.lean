/-! What the reference asks, address by address. -/
theorem zi_li (n : Nat) : (no_index (OfNat.ofNat n : Int32)) = nI (OfNat.ofNat n) := (zi_lit n).trans rfl
theorem isIn_c {x : Int32} {k : Nat} (hk : k < 2 ^ 31) : (nI 0 ≤ x ∧ x ≤ nI k) ↔ ∃ j, j ≤ k ∧ x = nI j := by
  constructor
  · intro h
    rcases i32_cases x with h0 | ⟨j, hj, rfl⟩
    · exact absurd h.1 (neg_nle h0 (by omega))
    · exact ⟨j, (nI_leI hj hk).mp h.2, rfl⟩
  · rintro ⟨j, hj, rfl⟩
    exact ⟨(nI_leI (by omega) (by omega)).mpr (Nat.zero_le _), (nI_leI (by omega) hk).mpr hj⟩
theorem isIn_n1 {x : Int32} (h0 : ¬ x = nI 0) (h1 : ¬ x = nI 1) : ¬ (nI 0 ≤ x ∧ x ≤ nI 1) := fun h => by
  obtain ⟨j, hj, rfl⟩ := (isIn_c (by omega)).mp h
  have : j = 0 ∨ j = 1 := by omega
  rcases this with rfl | rfl
  · exact h0 rfl
  · exact h1 rfl
theorem isIn_n2 {x : Int32} (h0 : ¬ x = nI 0) (h1 : ¬ x = nI 1) (h2 : ¬ x = nI 2) : ¬ (nI 0 ≤ x ∧ x ≤ nI 2) := fun h => by
  obtain ⟨j, hj, rfl⟩ := (isIn_c (by omega)).mp h
  have : j = 0 ∨ j = 1 ∨ j = 2 := by omega
  rcases this with rfl | rfl | rfl
  · exact h0 rfl
  · exact h1 rfl
  · exact h2 rfl
theorem isIn_n3 {x : Int32} (h0 : ¬ x = nI 0) (h1 : ¬ x = nI 1) (h2 : ¬ x = nI 2) (h3 : ¬ x = nI 3) : ¬ (nI 0 ≤ x ∧ x ≤ nI 3) := fun h => by
  obtain ⟨j, hj, rfl⟩ := (isIn_c (by omega)).mp h
  have : j = 0 ∨ j = 1 ∨ j = 2 ∨ j = 3 := by omega
  rcases this with rfl | rfl | rfl | rfl
  · exact h0 rfl
  · exact h1 rfl
  · exact h2 rfl
  · exact h3 rfl
theorem isIn_y {x : Int32} {j k : Nat} (hk : k < 2 ^ 31) (h : x = nI j) (hj : j ≤ k) : nI 0 ≤ x ∧ x ≤ nI k := (isIn_c hk).mpr ⟨j, hj, h⟩
/-- what is seen otherwise than wanted -/
def sgS (S : Sto) (x : Nat) : Nat := if sdS S x = wS S x then 0 else 1
def wgS (S : Sto) (lo up x : Nat) : Nat := if lo ≤ x ∧ x < up ∧ kdS S x 99 ≠ wS S x then 1 else 0
def vgS (S : Sto) (lo x : Nat) : Nat := if lo ≤ x ∧ kdS S x 99 ≠ wS S x then 1 else 0
def cgS (S : Sto) (x : Nat) : Nat := if kdS S x 99 = 5 then 1 else 0
/-- by a page's kind it would be seen otherwise -/
def bdS (S : Sto) (pk x : Nat) : Nat := if S 142 ≤ x ∧ snN pk (kdS S x 99) ≠ wS S x then 1 else 0
def okP (S : Sto) (page pk : Nat) : Prop := smN (bdS S pk) (16 * page + 16) = smN (bdS S pk) (16 * page)
def tkN (k : Nat) : Nat := if k = 0 then 5 else k - 1
def trN (P : Nat → Prop) [DecidablePred P] : Int32 := if P 5 then nI 5 else if P 0 then nI 0 else if P 1 then nI 1 else if P 2 then nI 2 else if P 3 then nI 3 else if P 4 then nI 4 else mI
theorem lp_tr {F : (Int32 → Option Int32) → Int32 → Option Int32} {P : Nat → Prop} [DecidablePred P] {fu : Nat} (hs : ∀ k, k < 6 → ∀ rec, F rec (nI k) = if P (tkN k) then some (nI (tkN k)) else rec (nI (k + 1))) (he : ∀ rec, F rec (nI 6) = some mI) (hf : 7 ≤ fu) : lp F fu (nI 0) = some (trN P) := by
  obtain ⟨g, rfl⟩ : ∃ g, fu = g + 7 := ⟨fu - 7, by omega⟩
  have e0 : lp F (g + 7) (nI 0) = if P 5 then some (nI 5) else lp F (g + 6) (nI 1) := by
    show lp F (g + 6 + 1) (nI 0) = _
    rw [lp_S, hs 0 (by omega)]
    rfl
  have e1 : lp F (g + 6) (nI 1) = if P 0 then some (nI 0) else lp F (g + 5) (nI 2) := by
    show lp F (g + 5 + 1) (nI 1) = _
    rw [lp_S, hs 1 (by omega)]
    rfl
  have e2 : lp F (g + 5) (nI 2) = if P 1 then some (nI 1) else lp F (g + 4) (nI 3) := by
    show lp F (g + 4 + 1) (nI 2) = _
    rw [lp_S, hs 2 (by omega)]
    rfl
  have e3 : lp F (g + 4) (nI 3) = if P 2 then some (nI 2) else lp F (g + 3) (nI 4) := by
    show lp F (g + 3 + 1) (nI 3) = _
    rw [lp_S, hs 3 (by omega)]
    rfl
  have e4 : lp F (g + 3) (nI 4) = if P 3 then some (nI 3) else lp F (g + 2) (nI 5) := by
    show lp F (g + 2 + 1) (nI 4) = _
    rw [lp_S, hs 4 (by omega)]
    rfl
  have e5 : lp F (g + 2) (nI 5) = if P 4 then some (nI 4) else some mI := by
    show lp F (g + 1 + 1) (nI 5) = _
    rw [lp_S, hs 5 (by omega)]
    show (if P 4 then some (nI 4) else lp F (g + 1) (nI 6)) = _
    rw [lp_S, he]
  rw [e0, e1, e2, e3, e4, e5]
  unfold trN
  by_cases c5 : P 5
  · rw [if_pos c5, if_pos c5]
  rw [if_neg c5, if_neg c5]
  by_cases c0 : P 0
  · rw [if_pos c0, if_pos c0]
  rw [if_neg c0, if_neg c0]
  by_cases c1 : P 1
  · rw [if_pos c1, if_pos c1]
  rw [if_neg c1, if_neg c1]
  by_cases c2 : P 2
  · rw [if_pos c2, if_pos c2]
  rw [if_neg c2, if_neg c2]
  by_cases c3 : P 3
  · rw [if_pos c3, if_pos c3]
  rw [if_neg c3, if_neg c3]
  by_cases c4 : P 4
  · rw [if_pos c4, if_pos c4]
  rw [if_neg c4, if_neg c4]
def okS (S : Sto) (page pk : Nat) : Nat := smN (bdS S pk) (16 * page + 16) - smN (bdS S pk) (16 * page)
def mdS (S : Sto) (page : Nat) : Int32 := trN (fun pk => okS S page pk = 0)
theorem okS_0 {S : Sto} {page pk : Nat} : okS S page pk = 0 ↔ ∀ x, 16 * page ≤ x → x < 16 * page + 16 → bdS S pk x = 0 := by
  have h := smN_mono (bdS S pk) (a := 16 * page) (b := 16 * page + 16) (by omega)
  unfold okS
  constructor
  · intro h1 x h2 h3
    have h4 := smN_mono (bdS S pk) (a := 16 * page) (b := x) h2
    have h5 := smN_mono (bdS S pk) (a := x + 1) (b := 16 * page + 16) (by omega)
    have h6 : smN (bdS S pk) (x + 1) = smN (bdS S pk) x + bdS S pk x := rfl
    omega
  · intro h1
    have := smN_flat (g := bdS S pk) (a := 16 * page) (b := 16 * page + 16) (v := 0) (by omega) h1
    omega
section MA
variable {fu m : Nat} {S : Sto} {M : Mm}
theorem X11_strange (hfu : 200000 ≤ fu) (hV : VM S M m) (hG : Gd S) (x1 : Int32) : fX11_strange fu m x1 M = some (if x1 = nI 0 then nI (smN (sgS S) (2 ^ S 140)) else if x1 = nI 1 then fsN (sgS S) (2 ^ S 140) else mI) := by
  have hA := hG.ad
  have hl : fX11_strange_l18 fu m x1 M 0 (-1) 0 = some (if x1 = nI 0 then nI (smN (sgS S) (2 ^ S 140)) else fsN (sgS S) (2 ^ S 140)) := by
    unfold fX11_strange_l18
    refine lp_ue (fun i => (nI (smN (sgS S) i), fsN (sgS S) i, nI i)) (2 ^ S 140) rfl (by omega) (fun i hi rec => ?_) (fun rec => ?_)
    · have hb : smN (sgS S) i ≤ 1 * i := smN_le fun x _ => by unfold sgS; split <;> omega
      have e1 : smN (sgS S) (i + 1) = smN (sgS S) i + sgS S i := rfl
      have e2 : fsN (sgS S) (i + 1) = if smN (sgS S) i = 0 ∧ sgS S i ≠ 0 then nI i else fsN (sgS S) i := rfl
      have s4 := wS_lt hG i
      have s5 : sdS S i ≤ 5 := snN_le (hG.2.2.2.2.2.2.2 _ (pg_div hG hi)) (kdS_le hG i 99)
      have w1 : fX11_wantedAt fu m (nI i) M = some (nI (wS S i)) := X11_wantedAt hfu hV hG (by omega)
      simp (disch := omega) only [fX11_strange_j74, fX11_strange_j65, fX11_strange_j59, fX11_strange_j55, fX11_strange_b18, fX11_strange, X11_addresses hV hG, X11_seenAt hfu hV hG hi, w1, zi_li, zi_m, zi_m1, nI_add, zi_sub, zi_mul, zi_addm, zi_m_lt, zi_lt_m, zi_m_le, zi_le_m, zi_eq_m, zi_m_eq, nI_ltI, nI_leI, nI_eq, nI_clamp, zi_div, lt_eq, bm_s, bi_s, bl_s, bw_s, gd, if_pos, if_neg, ite_true, ite_false, or_false, false_or, and_true, true_and, not_true, not_false_iff, true_or, or_true, Nat.not_lt_zero]
      rw [e1, e2]
      by_cases c : sdS S i = wS S i
      · have : sgS S i = 0 := if_pos c
        rw [if_pos c, this, if_neg (by omega)]
        rfl
      · have h1 : sgS S i = 1 := if_neg c
        rw [if_neg c, h1]
        by_cases c2 : smN (sgS S) i = 0
        · rw [fsN_z c2, if_neg (by rw [zi_le_m (by omega)]; exact id), if_pos ⟨c2, by omega⟩]
        · obtain ⟨j, hj, ej⟩ := fsN_p c2
          rw [ej, if_pos ((nI_leI (by omega) (by omega)).mpr (Nat.zero_le _)), if_neg (by omega)]
    · simp (disch := omega) only [fX11_strange_j74, fX11_strange_j65, fX11_strange_j59, fX11_strange_j55, fX11_strange_b18, fX11_strange, X11_addresses hV hG, zi_li, zi_m, zi_m1, nI_add, zi_sub, zi_mul, zi_addm, zi_m_lt, zi_lt_m, zi_m_le, zi_le_m, zi_eq_m, zi_m_eq, nI_ltI, nI_leI, nI_eq, nI_clamp, zi_div, lt_eq, bm_s, bi_s, bl_s, bw_s, gd, if_pos, if_neg, ite_true, ite_false, or_false, false_or, and_true, true_and, not_true, not_false_iff, true_or, or_true, Nat.not_lt_zero]
      by_cases c : x1 = nI 0
      · rw [if_pos c, if_pos c]
      · rw [if_neg c, if_neg c]
  unfold fX11_strange
  rw [hl]
  simp (disch := omega) only [X11_isIn, bi_s, zi_li, bI_0]
  by_cases c0 : x1 = nI 0
  · rw [if_neg (fun q => q (isIn_y (j := 0) (by omega) c0 (by omega))), if_pos c0, if_pos c0]
  · by_cases c1 : x1 = nI 1
    · rw [if_neg (fun q => q (isIn_y (j := 1) (by omega) c1 (by omega))), if_neg c0, if_neg c0, if_pos c1]
    · rw [if_pos (isIn_n1 c0 c1), if_neg c0, if_neg c1]
      rfl
theorem X11_wrong (hfu : 200000 ≤ fu) (hV : VM S M m) (hG : Gd S) (x1 : Int32) : fX11_wrong fu m x1 M = some (if x1 = nI 0 then nI (smN (wgS S (S 142) (2 ^ S 140)) (2 ^ S 140)) else if x1 = nI 1 then fsN (vgS S (S 142)) (2 ^ S 140) else if x1 = nI 2 then nI (smN (cgS S) (2 ^ S 140)) else if x1 = nI 3 then nI (smN (wgS S 0 (S 142)) (2 ^ S 140)) else mI) := by
  have hA := hG.ad
  have hF := hG.2.1 142
  have hl : fX11_wrong_l24 fu m x1 M 0 (-1) 0 0 0 = some (if x1 = nI 0 then nI (smN (wgS S (S 142) (2 ^ S 140)) (2 ^ S 140)) else if x1 = nI 1 then fsN (vgS S (S 142)) (2 ^ S 140) else if x1 = nI 2 then nI (smN (cgS S) (2 ^ S 140)) else nI (smN (wgS S 0 (S 142)) (2 ^ S 140))) := by
    unfold fX11_wrong_l24
    refine lp_ue (fun i => (nI (smN (wgS S (S 142) (2 ^ S 140)) i), fsN (vgS S (S 142)) i, nI (smN (cgS S) i), nI (smN (wgS S 0 (S 142)) i), nI i)) (2 ^ S 140) rfl (by omega) (fun i hi rec => ?_) (fun rec => ?_)
    · have e1 : smN (wgS S (S 142) (2 ^ S 140)) (i + 1) = smN (wgS S (S 142) (2 ^ S 140)) i + wgS S (S 142) (2 ^ S 140) i := rfl
      have e2 : fsN (vgS S (S 142)) (i + 1) = if smN (vgS S (S 142)) i = 0 ∧ vgS S (S 142) i ≠ 0 then nI i else fsN (vgS S (S 142)) i := rfl
      have e3 : smN (cgS S) (i + 1) = smN (cgS S) i + cgS S i := rfl
      have e4 : smN (wgS S 0 (S 142)) (i + 1) = smN (wgS S 0 (S 142)) i + wgS S 0 (S 142) i := rfl
      have s4 := wS_lt hG i
      have s5 := kdS_le hG i 99
      have w1 : fX11_wantedAt fu m (nI i) M = some (nI (wS S i)) := X11_wantedAt hfu hV hG (by omega)
      have f0 : ∀ c : Prop, [Decidable c] → (nI 0 ≤ fsN (vgS S (S 142)) i) = ¬ smN (vgS S (S 142)) i = 0 := fun _ _ => by
        by_cases c2 : smN (vgS S (S 142)) i = 0
        · rw [fsN_z c2, zi_le_m (by omega)]; simp [c2]
        · obtain ⟨j, hj, ej⟩ := fsN_p c2
          rw [ej]
          exact propext ⟨fun _ => c2, fun _ => (nI_leI (by omega) (by omega)).mpr (Nat.zero_le _)⟩
      simp (disch := omega) only [fX11_wrong_b24, fX11_wrong_j50, fX11_wrong_j87, fX11_wrong_j105, fX11_wrong_j125, fX11_wrong_j126, fX11_wrong_j127, X11_addresses hV hG, X11_kindAt hfu hV hG (x := i), w1, X11_isFixed hV hG (x := i), bI_0, zi_li, zi_m, zi_m1, nI_add, zi_sub, zi_mul, zi_addm, zi_m_lt, zi_lt_m, zi_m_le, zi_le_m, zi_eq_m, zi_m_eq, nI_ltI, nI_leI, nI_eq, nI_clamp, zi_div, lt_eq, bm_s, bi_s, bl_s, bw_s, gd, if_pos, if_neg, ite_true, ite_false, or_false, false_or, and_true, true_and, not_true, not_false_iff, true_or, or_true, Nat.not_lt_zero, f0 True]
      rw [e1, e2, e3, e4]
      by_cases d1 : kdS S i 99 = 5
      · have c3 : cgS S i = 1 := if_pos d1
        rw [if_pos d1, c3]
        have d2 : ¬ kdS S i 99 = wS S i := by omega
        by_cases d3 : i < S 142
        · have c1 : wgS S (S 142) (2 ^ S 140) i = 0 := if_neg (fun q => by omega)
          have c4 : wgS S 0 (S 142) i = 1 := if_pos ⟨Nat.zero_le _, d3, d2⟩
          have c2 : vgS S (S 142) i = 0 := if_neg (fun q => by omega)
          rw [c1, c2, c4, if_neg (fun q => q d3)]
          by_cases d4 : smN (vgS S (S 142)) i = 0
          · rw [if_neg (fun q => q d4), if_neg (fun q => q.2 rfl)]
          · rw [if_pos d4, if_neg (fun q => q.2 rfl)]
        · have c1 : wgS S (S 142) (2 ^ S 140) i = 1 := if_pos ⟨by omega, hi, d2⟩
          have c4 : wgS S 0 (S 142) i = 0 := if_neg (fun q => d3 q.2.1)
          have c2 : vgS S (S 142) i = 1 := if_pos ⟨by omega, d2⟩
          rw [c1, c2, c4, if_pos d3]
          by_cases d4 : smN (vgS S (S 142)) i = 0
          · rw [if_neg (fun q => q d4), if_pos ⟨d4, by omega⟩]
          · rw [if_pos d4, if_neg (fun q => d4 q.1)]
      · have c3 : cgS S i = 0 := if_neg d1
        rw [if_neg d1, c3]
        by_cases d2 : kdS S i 99 = wS S i
        · have c1 : wgS S (S 142) (2 ^ S 140) i = 0 := if_neg (fun q => q.2.2 d2)
          have c4 : wgS S 0 (S 142) i = 0 := if_neg (fun q => q.2.2 d2)
          have c2 : vgS S (S 142) i = 0 := if_neg (fun q => q.2 d2)
          rw [if_pos d2, c1, c2, c4, if_neg (by omega)]
          rfl
        · rw [if_neg d2]
          by_cases d3 : i < S 142
          · have c1 : wgS S (S 142) (2 ^ S 140) i = 0 := if_neg (fun q => by omega)
            have c4 : wgS S 0 (S 142) i = 1 := if_pos ⟨Nat.zero_le _, d3, d2⟩
            have c2 : vgS S (S 142) i = 0 := if_neg (fun q => by omega)
            rw [c1, c2, c4, if_neg (fun q => q d3)]
            by_cases d4 : smN (vgS S (S 142)) i = 0
            · rw [if_neg (fun q => q d4), if_neg (fun q => q.2 rfl)]
            · rw [if_pos d4, if_neg (fun q => q.2 rfl)]
          · have c1 : wgS S (S 142) (2 ^ S 140) i = 1 := if_pos ⟨by omega, hi, d2⟩
            have c4 : wgS S 0 (S 142) i = 0 := if_neg (fun q => d3 q.2.1)
            have c2 : vgS S (S 142) i = 1 := if_pos ⟨by omega, d2⟩
            rw [c1, c2, c4, if_pos d3]
            by_cases d4 : smN (vgS S (S 142)) i = 0
            · rw [if_neg (fun q => q d4), if_pos ⟨d4, by omega⟩]
            · rw [if_pos d4, if_neg (fun q => d4 q.1)]
    · simp (disch := omega) only [fX11_wrong_b24, fX11_wrong_j133, fX11_wrong_j162, X11_addresses hV hG, zi_li, zi_m, zi_m1, nI_add, zi_sub, zi_mul, zi_addm, zi_m_lt, zi_lt_m, zi_m_le, zi_le_m, zi_eq_m, zi_m_eq, nI_ltI, nI_leI, nI_eq, nI_clamp, zi_div, lt_eq, bm_s, bi_s, bl_s, bw_s, gd, if_pos, if_neg, ite_true, ite_false, or_false, false_or, and_true, true_and, not_true, not_false_iff, true_or, or_true, Nat.not_lt_zero]
      by_cases c : x1 = nI 0
      · rw [if_pos c, if_pos c]
      · rw [if_neg c, if_neg c]
        by_cases c : x1 = nI 1
        · rw [if_pos c, if_pos c]
        · rw [if_neg c, if_neg c]
          by_cases c : x1 = nI 2
          · rw [if_pos c, if_pos c]
          · rw [if_neg c, if_neg c]
  unfold fX11_wrong
  rw [hl]
  simp (disch := omega) only [X11_isIn, bi_s, zi_li, bI_0]
  by_cases c0 : x1 = nI 0
  · rw [if_neg (fun q => q (isIn_y (j := 0) (by omega) c0 (by omega))), if_pos c0, if_pos c0]
  · rw [if_neg c0, if_neg c0]
    by_cases c1 : x1 = nI 1
    · rw [if_neg (fun q => q (isIn_y (j := 1) (by omega) c1 (by omega))), if_pos c1, if_pos c1]
    · rw [if_neg c1, if_neg c1]
      by_cases c2 : x1 = nI 2
      · rw [if_neg (fun q => q (isIn_y (j := 2) (by omega) c2 (by omega))), if_pos c2, if_pos c2]
      · rw [if_neg c2, if_neg c2]
        by_cases c3 : x1 = nI 3
        · rw [if_neg (fun q => q (isIn_y (j := 3) (by omega) c3 (by omega))), if_pos c3]
        · rw [if_pos (isIn_n3 c0 c1 c2 c3), if_neg c3]
          rfl
theorem X11_isMended (hfu : 200000 ≤ fu) (hV : VM S M m) (hG : Gd S) {page pk : Nat} (hp : page < 2 ^ S 140 / 16) (hk : pk < 6) : fX11_isMended fu m (nI page) (nI pk) M = some (bI (okS S page pk = 0)) := by
  have hA := hG.ad
  have hF := hG.2.1 142
  have key : Wp (fX11_isMended fu m (nI page) (nI pk) M) (fun v => v = bI (okS S page pk = 0)) := by
    unfold fX11_isMended fX11_isMended_l5
    simp (disch := omega) only [zi_li, zi_m, zi_m1, nI_add, zi_sub, zi_mul, zi_addm, zi_m_lt, zi_lt_m, zi_m_le, zi_le_m, zi_eq_m, zi_m_eq, nI_ltI, nI_leI, nI_eq, nI_clamp, zi_div, lt_eq, bm_s, bi_s, bl_s, bw_s, gd]
    refine lp_ho (fun i z => z = nI (16 * page + i) ∧ ∀ x, 16 * page ≤ x → x < 16 * page + i → bdS S pk x = 0) _ 16 (i := 0) (by omega) (by omega) ⟨rfl, fun x h1 h2 => absurd h2 (by omega)⟩ (fun i z hi hz rec hrec => ?_) (fun z hz rec => ?_)
    · obtain ⟨rfl, hz⟩ := hz
      have s4 := wS_lt hG (16 * page + i)
      have s5 := kdS_le hG (16 * page + i) 99
      have s6 := snN_le (p := pk) (by omega) s5
      have w1 : fX11_wantedAt fu m (nI (16 * page + i)) M = some (nI (wS S (16 * page + i))) := X11_wantedAt hfu hV hG (by omega)
      have w2 := X11_seenAs (fu := fu) pk hk (kdS S (16 * page + i) 99) (by omega)
      have next : bdS S pk (16 * page + i) = 0 → ∀ x, 16 * page ≤ x → x < 16 * page + (i + 1) → bdS S pk x = 0 := fun h x h1 h2 => by
        by_cases c : x = 16 * page + i
        · rw [c]; exact h
        · exact hz x h1 (by omega)
      simp (disch := omega) only [fX11_isMended_b5, fX11_isMended_j43, fX11_isMended_j41, X11_kindAt hfu hV hG (x := 16 * page + i), w1, w2, X11_isFixed hV hG (x := 16 * page + i), bI_0, zi_li, zi_m, zi_m1, nI_add, zi_sub, zi_mul, zi_addm, zi_m_lt, zi_lt_m, zi_m_le, zi_le_m, zi_eq_m, zi_m_eq, nI_ltI, nI_leI, nI_eq, nI_clamp, zi_div, lt_eq, bm_s, bi_s, bl_s, bw_s, gd, if_pos, if_neg, ite_true, ite_false, or_false, false_or, and_true, true_and, not_true, not_false_iff, true_or, or_true, Nat.not_lt_zero]
      by_cases d1 : 16 * page + i < S 142
      · rw [if_neg (fun q => q d1)]
        refine hrec _ ⟨rfl, next (if_neg (by omega))⟩
      · rw [if_pos d1]
        by_cases d2 : snN pk (kdS S (16 * page + i) 99) = wS S (16 * page + i)
        · rw [if_pos d2]
          exact hrec _ ⟨rfl, next (if_neg (fun q => q.2 d2))⟩
        · rw [if_neg d2, wp_some, bI_f]
          intro q
          have h1 := okS_0.mp q (16 * page + i) (by omega) (by omega)
          have h2 : bdS S pk (16 * page + i) = 1 := if_pos ⟨by omega, d2⟩
          omega
    · obtain ⟨rfl, hz⟩ := hz
      simp (disch := omega) only [fX11_isMended_b5, fX11_isMended_j49, zi_li, zi_m, zi_m1, nI_add, zi_sub, zi_mul, zi_addm, zi_m_lt, zi_lt_m, zi_m_le, zi_le_m, zi_eq_m, zi_m_eq, nI_ltI, nI_leI, nI_eq, nI_clamp, zi_div, lt_eq, bm_s, bi_s, bl_s, bw_s, gd, if_pos, if_neg, ite_true, ite_false, or_false, false_or, and_true, true_and, not_true, not_false_iff, true_or, or_true, Nat.not_lt_zero]
      rw [wp_some, bI_t (okS_0.mpr hz)]
  obtain ⟨v, e, rfl⟩ := key
  exact e
theorem X11_mendable (hfu : 200000 ≤ fu) (hV : VM S M m) (hG : Gd S) {page : Nat} (hp : page < 2 ^ S 140 / 16) : fX11_mendable fu m (nI page) M = some (mdS S page) := by
  have hA := hG.ad
  unfold fX11_mendable fX11_mendable_l18
  simp (disch := omega) only [X11_pages hV hG, X11_isIn, bi_s, zi_li, zi_m, zi_m1, nI_add, zi_sub, zi_mul, zi_addm, zi_m_lt, zi_lt_m, zi_m_le, zi_le_m, zi_eq_m, zi_m_eq, nI_ltI, nI_leI, nI_eq, nI_clamp, zi_div, lt_eq, bm_s, bi_s, bl_s, bw_s, gd, bI_0]
  rw [if_neg (fun q => q ⟨Nat.zero_le _, by omega⟩)]
  refine lp_tr (P := fun pk => okS S page pk = 0) (fun k hk rec => ?_) (fun rec => ?_) (by omega)
  · have im := fun pk (hk : pk < 6) => X11_isMended hfu hV hG (page := page) hp hk
    unfold tkN
    by_cases c0 : k = 0
    · subst c0
      simp (disch := omega) only [fX11_mendable_b18, fX11_mendable_j37, fX11_mendable_j43, fX11_mendable_j54, zi_li, zi_m, zi_m1, nI_add, zi_sub, zi_mul, zi_addm, zi_m_lt, zi_lt_m, zi_m_le, zi_le_m, zi_eq_m, zi_m_eq, nI_ltI, nI_leI, nI_eq, nI_clamp, zi_div, lt_eq, bm_s, bi_s, bl_s, bw_s, gd, if_pos, if_neg, ite_true, ite_false, or_false, false_or, and_true, true_and, not_true, not_false_iff, true_or, or_true, Nat.not_lt_zero, im, bI_0]
      by_cases c : okS S page 5 = 0
      · rw [if_neg (fun q => q c), if_pos c]
      · rw [if_pos c, if_neg c]
    · simp (disch := omega) only [fX11_mendable_b18, fX11_mendable_j37, fX11_mendable_j43, fX11_mendable_j54, zi_li, zi_m, zi_m1, nI_add, zi_sub, zi_mul, zi_addm, zi_m_lt, zi_lt_m, zi_m_le, zi_le_m, zi_eq_m, zi_m_eq, nI_ltI, nI_leI, nI_eq, nI_clamp, zi_div, lt_eq, bm_s, bi_s, bl_s, bw_s, gd, if_pos, if_neg, ite_true, ite_false, or_false, false_or, and_true, true_and, not_true, not_false_iff, true_or, or_true, Nat.not_lt_zero, im, bI_0]
      by_cases c : okS S page (k - 1) = 0
      · rw [if_neg (fun q => q c), if_pos c]
      · rw [if_pos c, if_neg c]
  · simp (disch := omega) only [fX11_mendable_b18, fX11_mendable_j61, zi_li, zi_m, zi_m1, nI_add, zi_sub, zi_mul, zi_addm, zi_m_lt, zi_lt_m, zi_m_le, zi_le_m, zi_eq_m, zi_m_eq, nI_ltI, nI_leI, nI_eq, nI_clamp, zi_div, lt_eq, bm_s, bi_s, bl_s, bw_s, gd, if_pos, if_neg, ite_true, ite_false, or_false, false_or, and_true, true_and, not_true, not_false_iff, true_or, or_true, Nat.not_lt_zero]
end MA
