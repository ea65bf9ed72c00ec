/-! The reference's side of the acts. -/
/-- only the store's row, the history, its numbers, the scratch -/
def RD (m : Nat) (M M' : Mm) : Prop := (∀ c, c ≠ m → c ≠ m + 1 → (c < m + 8 ∨ m + 28 ≤ c) → M'.1 c = M.1 c) ∧ (∀ j, j ≠ 25 → j ≠ 32 → j ≠ 33 → j ≠ 39 → j ≠ 40 → j ≠ 41 → j ≠ 42 → j ≠ 50 → j ≠ 51 → M'.1 m j = M.1 m j) ∧ M'.2 = M.2
def RA (m : Nat) (Hs : Nat → Sto) (k : Nat) (M : Mm) (S' : Sto) (r : Int32) (z : Int32 × Mm) : Prop := z.1 = r ∧ VM S' z.2 m ∧ HM (ntH Hs k S') (ntK k) 0 z.2 m ∧ RD m M z.2
theorem RD.rf (m : Nat) (M : Mm) : RD m M M := ⟨fun _ _ _ _ => rfl, fun _ _ _ _ _ _ _ _ _ _ => rfl, rfl⟩
theorem RD.tr {m : Nat} {M M' M'' : Mm} (h : RD m M M') (h' : RD m M' M'') : RD m M M'' := ⟨fun c h1 h2 h3 => (h'.1 c h1 h2 h3).trans (h.1 c h1 h2 h3), fun j a1 a2 a3 a4 a5 a6 a7 a8 a9 => (h'.2.1 j a1 a2 a3 a4 a5 a6 a7 a8 a9).trans (h.2.1 j a1 a2 a3 a4 a5 a6 a7 a8 a9), h'.2.2.trans h.2.2⟩
theorem RD.ka {m : Nat} {M M' : Mm} (h : KA m M M') : RD m M M' := ⟨fun c h1 h2 h3 => h.1 c h1 (by omega), fun j _ _ _ _ _ _ _ h1 h2 => h.2.1 j h1 h2, h.2.2⟩
theorem RD.ua {m : Nat} {M M' : Mm} (h : UA m M M') : RD m M M' := ⟨fun c h1 h2 h3 => h.1 c h1 h2 (by omega), fun j _ _ _ _ _ _ _ h1 h2 => h.2.1 j h1 h2, h.2.2⟩
theorem RD.sc {m : Nat} {M M' : Mm} (h : Sc m M M') : RD m M M' := ⟨fun c h1 h2 h3 => h.1 c h1 (by omega), fun j a1 a2 a3 a4 a5 a6 a7 _ _ => h.2.1 j a1 a2 a3 a4 a5 a6 a7, h.2.2⟩
theorem RD.w {m : Nat} (M : Mm) (j : Nat) (v : Int32) : RD m M (wI M (m + 1) j v) := ⟨fun c _ h2 _ => wI_ne h2, fun j _ _ _ _ _ _ _ _ _ => by rw [wI_ne (by omega)], rfl⟩
theorem RD.o {m : Nat} {M M' : Mm} (h : O1 (m + 1) M M') : RD m M M' := ⟨fun c _ h2 _ => h.1 c h2, fun j _ _ _ _ _ _ _ _ _ => by rw [h.1 m (by omega)], h.2⟩
theorem HM.fr {Hs : Nat → Sto} {k u m : Nat} {M M' : Mm} (h : HM Hs k u M m) (h5 : M'.1 m 50 = M.1 m 50) (h6 : M'.1 m 51 = M.1 m 51) (h7 : M'.1 (m + 27) = M.1 (m + 27)) : HM Hs k u M' m := by
  unfold HM at h ⊢
  rw [h5, h6, h7]
  exact h
/-- the store's row is another one -/
theorem VM.o {S S' : Sto} {M M' : Mm} {m : Nat} (hV : VM S M m) (g : Gm S S') (h : O1 (m + 1) M M') (hc : ∀ j, j < 140 → M'.1 (m + 1) j = nI (S' j)) : VM S' M' m := hV.ch g (by rw [h.1 m (by omega)]) (h.1 _ (by omega)) (h.1 _ (by omega)) (h.1 _ (by omega)) hc
theorem RA_of {m k : Nat} {Hs : Nat → Sto} {S S' : Sto} {M M1 M2 : Mm} {r : Int32} (hV : VM S M m) (g : Gm S S') (h1 : (∀ S, HM (ntH Hs k S) (ntK k) 0 M1 m) ∧ KA m M M1) (h2 : O1 (m + 1) M1 M2) (hc : ∀ j, j < 140 → M2.1 (m + 1) j = nI (S' j)) : RA m Hs k M S' r (r, M2) :=
  ⟨rfl, (hV.ka h1.2).o g h2 hc, (h1.1 S').fr (by rw [h2.1 m (by omega)]) (by rw [h2.1 m (by omega)]) (h2.1 _ (by omega)), (RD.ka h1.2).tr (RD.o h2)⟩
section AM
variable {fu m k u : Nat} {S : Sto} {M : Mm} {Hs : Nat → Sto}
theorem VM.hk (hV : VM S M m) (hk : Hs k = S) : ∀ j, j < 140 → M.1 (m + 1) j = nI (Hs k j) := fun j hj => by rw [hk]; exact hV.2 j hj
theorem X11_isAddress (hV : VM S M m) (hG : Gd S) (x : Int32) : fX11_isAddress fu m x M = some (bI (nI 0 ≤ x ∧ x ≤ nI (2 ^ S 140 - 1))) := by
  have hA := hG.ad
  unfold fX11_isAddress
  rw [X11_addresses hV hG, bi_s]
  show bi (fX11_isIn fu x (nI 0) (nI (2 ^ S 140) - nI 1)) _ = _
  rw [zi_sub (by omega), X11_isIn, bi_s]
  show (if bI _ = nI 0 ∨ bI _ = nI 1 then _ else none) = _
  rw [if_pos (by rw [bI_g]; trivial)]
theorem X11_isKind_y {v : Nat} (hv : v < 5) : fX11_isKind fu (nI v) = some (nI 1) := by
  rw [X11_isKind, bI_t (isIn_y (j := v) (by omega) rfl (by omega))]
theorem X11_isKind_n {x : Int32} (hx : ∀ j, j < 5 → x ≠ nI j) : fX11_isKind fu x = some (nI 0) := by
  rw [X11_isKind, bI_f]
  intro q
  obtain ⟨j, hj, e⟩ := (isIn_c (by omega)).mp q
  exact hx j (by omega) e
theorem X11_span_y (hfu : 200000 ≤ fu) (hV : VM S M m) (hG : Gd S) (hH : HM Hs k u M m) (hk : Hs k = S) (hm : S 1 < 12) {i j v : Nat} (hij : i ≤ j) (hj : j < 2 ^ S 140) (hv : v < 5) : Wp (fX11_span fu m (nI i) (nI j) (nI v) M) (RA m Hs k M (adS S i j v) (nI (S 1))) := by
  have hA := hG.ad
  have e1 : ix 1 = 1 := by decide +kernel
  unfold fX11_span
  rw [X11_isAddress hV hG, bI_t (isIn_y (j := i) (by omega) rfl (by omega)), bi_s, if_neg (by decide), X11_isAddress hV hG, bI_t (isIn_y (j := j) (by omega) rfl (by omega)), bi_s, if_neg (by decide), if_neg (fun z => by have := (nI_ltI (by omega) (by omega)).mp z; omega), X11_isKind_y hv, bi_s, if_neg (by decide), e1, hV.2 1 (by omega), if_neg (fun z => by have := (nI_eq (a := S 1) (b := 12) (by omega) (by omega)).mp z; omega), wp_bm]
  refine (X11_keepAct hfu hH (hV.hk hk)).mono fun M1 q => ?_
  have v1 := (hV.ka q.2).2 1 (by omega)
  rw [v1]
  simp (disch := omega) only [zi_li, zi_m, zi_m1, nI_add, zi_sub, zi_mul, zi_addm, zi_m_lt, zi_lt_m, zi_m_le, zi_le_m, zi_eq_m, zi_m_eq, nI_ltI, nI_leI, nI_eq, nI_clamp, zi_div, lt_eq, bm_s, bi_s, bl_s, bw_s, gd, if_pos, if_neg, ite_true, ite_false, or_false, false_or, and_true, true_and, not_true, not_false_iff, true_or, or_true, Nat.not_lt_zero, wI_ne, wI_eq, wI_nk, wIs_ne, wIs_eq, v1]
  rw [wp_some]
  refine RA_of hV (adS_g hm i j v) q ⟨fun c hc => ?_, rfl⟩ (fun y hy => ?_)
  · simp (disch := omega) only [wI_ne, wI_eq, wI_nk, wIs_ne, wIs_eq]
  · have vy := (hV.ka q.2).2 y hy
    unfold adS
    by_cases c1 : y = 1
    · subst c1
      simp (disch := omega) only [wI_ne, wI_eq, wI_nk, wIs_ne, wIs_eq, if_pos, if_neg, ite_true, ite_false, or_false, false_or, and_true, true_and, not_true, not_false_iff, true_or, or_true, Nat.not_lt_zero]
    · by_cases c2 : y = 2 + 3 * S 1
      · subst c2
        simp (disch := omega) only [wI_ne, wI_eq, wI_nk, wIs_ne, wIs_eq, if_pos, if_neg, ite_true, ite_false, or_false, false_or, and_true, true_and, not_true, not_false_iff, true_or, or_true, Nat.not_lt_zero]
      · by_cases c3 : y = 3 + 3 * S 1
        · rw [c3, show 3 + 3 * S 1 = 2 + 3 * S 1 + 1 by omega]
          simp (disch := omega) only [wI_ne, wI_eq, wI_nk, wIs_ne, wIs_eq, if_pos, if_neg, ite_true, ite_false, or_false, false_or, and_true, true_and, not_true, not_false_iff, true_or, or_true, Nat.not_lt_zero]
        · by_cases c4 : y = 4 + 3 * S 1
          · rw [c4, show 4 + 3 * S 1 = 2 + 3 * S 1 + 2 by omega]
            simp (disch := omega) only [wI_ne, wI_eq, wI_nk, wIs_ne, wIs_eq, if_pos, if_neg, ite_true, ite_false, or_false, false_or, and_true, true_and, not_true, not_false_iff, true_or, or_true, Nat.not_lt_zero]
          · simp (disch := omega) only [wI_ne, wI_eq, wI_nk, wIs_ne, wIs_eq, if_pos, if_neg, ite_true, ite_false, or_false, false_or, and_true, true_and, not_true, not_false_iff, true_or, or_true, Nat.not_lt_zero]
            exact vy
theorem X11_span_n (hV : VM S M m) (hG : Gd S) {x1 x2 x3 : Int32} (h : ¬ ∃ i j v, x1 = nI i ∧ x2 = nI j ∧ x3 = nI v ∧ i ≤ j ∧ j < 2 ^ S 140 ∧ v < 5 ∧ S 1 < 12) : fX11_span fu m x1 x2 x3 M = some (mI, M) := by
  have hA := hG.ad
  have h12 := hG.1.2.2.2.2.2
  have e1 : ix 1 = 1 := by decide +kernel
  have n0 : fX11_span_j39 fu M = some (mI, M) := rfl
  unfold fX11_span
  rw [n0, X11_isAddress hV hG, bi_s]
  by_cases c1 : nI 0 ≤ x1 ∧ x1 ≤ nI (2 ^ S 140 - 1)
  · obtain ⟨i, hi, rfl⟩ := (isIn_c (by omega)).mp c1
    rw [bI_t c1, if_neg (by decide), X11_isAddress hV hG, bi_s]
    by_cases c2 : nI 0 ≤ x2 ∧ x2 ≤ nI (2 ^ S 140 - 1)
    · obtain ⟨j, hj, rfl⟩ := (isIn_c (by omega)).mp c2
      rw [bI_t c2, if_neg (by decide)]
      by_cases c3 : nI j < nI i
      · rw [if_pos c3]
      rw [if_neg c3]
      have t1 : i ≤ j := Nat.not_lt.mp fun z => c3 ((nI_ltI (by omega) (by omega)).mpr z)
      by_cases c5 : ∃ v, v < 5 ∧ x3 = nI v
      · obtain ⟨v, hv, rfl⟩ := c5
        have t3 : S 1 = 12 := by
          have : ¬ S 1 < 12 := fun z => h ⟨i, j, v, rfl, rfl, rfl, t1, by omega, hv, z⟩
          omega
        rw [X11_isKind_y hv, bi_s, if_neg (by decide), e1, hV.2 1 (by omega), t3, if_pos (show nI 12 = (12 : Int32) from rfl)]
      · rw [X11_isKind_n (fun j hj e => c5 ⟨j, hj, e⟩), bi_s, if_pos (by decide)]
    · rw [bI_f c2, if_pos (by decide)]
  · rw [bI_f c1, if_pos (by decide)]
theorem X11_drop_y (hfu : 200000 ≤ fu) (hV : VM S M m) (hG : Gd S) (hH : HM Hs k u M m) (hk : Hs k = S) {i : Nat} (hi : i < S 1) : Wp (fX11_drop fu m (nI i) M) (RA m Hs k M (drS S i) (nI (S 1 - 1))) := by
  have h12 := hG.1.2.2.2.2.2
  have e1 : ix 1 = 1 := by decide +kernel
  unfold fX11_drop
  rw [e1, hV.2 1 (by omega)]
  show Wp (bi (fX11_isIn fu (nI i) (nI 0) (nI (S 1) - nI 1)) _) _
  rw [zi_sub (by omega), X11_isIn, bI_t (isIn_y (j := i) (by omega) rfl (by omega)), bi_s, if_neg (by decide), wp_bm]
  refine (X11_keepAct hfu hH (hV.hk hk)).mono fun M1 q => ?_
  have v1 := (hV.ka q.2).2 1 (by omega)
  rw [v1]
  simp (disch := omega) only [zi_li, zi_m, zi_m1, nI_add, zi_sub, zi_mul, zi_addm, zi_m_lt, zi_lt_m, zi_m_le, zi_le_m, zi_eq_m, zi_m_eq, nI_ltI, nI_leI, nI_eq, nI_clamp, zi_div, lt_eq, bm_s, bi_s, bl_s, bw_s, gd]
  unfold fX11_drop_l38
  refine lp_ho (fun t z => z.1 = nI (2 + 3 * i + t) ∧ (∀ y, y < 140 → z.2.1 (m + 1) y = nI (if y = 1 then S 1 - 1 else if 2 + 3 * i ≤ y ∧ y < 2 + 3 * i + t then S (y + 3) else S y)) ∧ O1 (m + 1) M1 z.2) _ (3 * (S 1 - 1 - i)) (i := 0) (by omega) (by omega) ⟨rfl, fun y hy => ?_, ⟨fun c hc => ?_, rfl⟩⟩ (fun t z ht hz rec hrec => ?_) (fun z hz rec => ?_)
  · by_cases c : y = 1
    · subst c
      simp (disch := omega) only [wI_ne, wI_eq, wI_nk, wIs_ne, wIs_eq, if_pos, if_neg, ite_true, ite_false, or_false, false_or, and_true, true_and, not_true, not_false_iff, true_or, or_true, Nat.not_lt_zero]
    · simp (disch := omega) only [wI_ne, wI_eq, wI_nk, wIs_ne, wIs_eq, if_pos, if_neg, ite_true, ite_false, or_false, false_or, and_true, true_and, not_true, not_false_iff, true_or, or_true, Nat.not_lt_zero]
      exact (hV.ka q.2).2 y hy
  · simp (disch := omega) only [wI_ne, wI_eq, wI_nk, wIs_ne, wIs_eq]
  · obtain ⟨z1, z2⟩ := z
    obtain ⟨rfl, g1, g2⟩ := hz
    dsimp only at *
    have g11 := g1 1 (by omega)
    rw [if_pos rfl] at g11
    have g3 := g1 (2 + 3 * i + t + 3) (by omega)
    rw [if_neg (by omega), if_neg (by omega)] at g3
    simp (disch := omega) only [fX11_drop_b38, zi_li, zi_m, zi_m1, nI_add, zi_sub, zi_mul, zi_addm, zi_m_lt, zi_lt_m, zi_m_le, zi_le_m, zi_eq_m, zi_m_eq, nI_ltI, nI_leI, nI_eq, nI_clamp, zi_div, lt_eq, bm_s, bi_s, bl_s, bw_s, gd, if_pos, if_neg, ite_true, ite_false, or_false, false_or, and_true, true_and, not_true, not_false_iff, true_or, or_true, Nat.not_lt_zero, g11, g3]
    refine hrec _ ⟨rfl, fun y hy => ?_, ⟨fun c hc => ?_, g2.2⟩⟩
    · by_cases c : y = 2 + 3 * i + t
      · subst c
        simp (disch := omega) only [wI_ne, wI_eq, wI_nk, wIs_ne, wIs_eq]
        rw [if_neg (by omega), if_pos (by omega)]
      · simp (disch := omega) only [wI_ne, wI_eq, wI_nk, wIs_ne, wIs_eq]
        rw [g1 y hy]
        by_cases c1 : y = 1
        · rw [if_pos c1, if_pos c1]
        · rw [if_neg c1, if_neg c1]
          by_cases c2 : 2 + 3 * i ≤ y ∧ y < 2 + 3 * i + t
          · rw [if_pos c2, if_pos (by omega)]
          · rw [if_neg c2, if_neg (by omega)]
    · simp (disch := omega) only [wI_ne, wI_eq, wI_nk, wIs_ne, wIs_eq]
      exact g2.1 c hc
  · obtain ⟨z1, z2⟩ := z
    obtain ⟨rfl, g1, g2⟩ := hz
    dsimp only at *
    have g11 := g1 1 (by omega)
    rw [if_pos rfl] at g11
    simp (disch := omega) only [fX11_drop_b38, fX11_drop_j72, zi_li, zi_m, zi_m1, nI_add, zi_sub, zi_mul, zi_addm, zi_m_lt, zi_lt_m, zi_m_le, zi_le_m, zi_eq_m, zi_m_eq, nI_ltI, nI_leI, nI_eq, nI_clamp, zi_div, lt_eq, bm_s, bi_s, bl_s, bw_s, gd, if_pos, if_neg, ite_true, ite_false, or_false, false_or, and_true, true_and, not_true, not_false_iff, true_or, or_true, Nat.not_lt_zero, g11]
    rw [wp_some]
    refine RA_of hV (drS_g hG i) q g2 (fun y hy => ?_)
    rw [g1 y hy]
    unfold drS
    by_cases c1 : y = 1
    · rw [if_pos c1, if_pos c1]
    · rw [if_neg c1, if_neg c1]
      by_cases c2 : 2 + 3 * i ≤ y ∧ y < 2 + 3 * i + 3 * (S 1 - 1 - i)
      · rw [if_pos c2, if_pos (by omega)]
      · rw [if_neg c2, if_neg (by omega)]
theorem X11_drop_n (hV : VM S M m) (hG : Gd S) {x : Int32} (h : ¬ ∃ i, x = nI i ∧ i < S 1) : fX11_drop fu m x M = some (mI, M) := by
  have h12 := hG.1.2.2.2.2.2
  have e1 : ix 1 = 1 := by decide +kernel
  unfold fX11_drop
  rw [e1, hV.2 1 (by omega), X11_isIn, bi_s, bI_f, if_pos (by decide)]
  · rfl
  · intro z
    by_cases c : S 1 = 0
    · rw [c] at z
      have h1 : nI 0 ≤ x := z.1
      have h2 : x ≤ nI 0 - 1 := z.2
      exact absurd (Int32.le_trans h1 h2) (by decide +kernel)
    · have e : nI (S 1) - 1 = nI (S 1 - 1) := zi_sub (a := S 1) (b := 1) (by omega)
      rw [e] at z
      obtain ⟨j, hj, ej⟩ := (isIn_c (by omega)).mp z
      exact h ⟨j, ej, by omega⟩
theorem X11_becomes (hfu : 200000 ≤ fu) (hV : VM S M m) (hH : HM Hs k u M m) (hk : Hs k = S) {i : Nat} (v : Nat) (hi : i < 140) : Wp (fX11_becomes fu m (nI i) (nI v) M) (RA m Hs k M (upS S i v) (nI (S i))) := by
  unfold fX11_becomes
  rw [wp_bm]
  refine (X11_keepAct hfu hH (hV.hk hk)).mono fun M1 q => ?_
  have v1 := (hV.ka q.2).2 i hi
  rw [if_neg (nI_in (by omega) (by omega)), ix_n (by omega), v1, lt_eq, lt_eq, wp_some]
  refine RA_of hV (upS_g hi) q ⟨fun c hc => wI_ne hc, rfl⟩ (fun y hy => ?_)
  by_cases c : y = i
  · subst c
    rw [upS_y, wI_eq]
  · rw [upS_n c, wI_nk c]
    exact (hV.ka q.2).2 y hy
theorem X11_prefer_y (hfu : 200000 ≤ fu) (hV : VM S M m) (hH : HM Hs k u M m) (hk : Hs k = S) {v : Nat} (hv : v < 5) : Wp (fX11_prefer fu m (nI v) M) (RA m Hs k M (upS S 0 v) (nI (S 0))) := by
  obtain ⟨⟨r, M1⟩, e, h⟩ := X11_becomes hfu hV hH hk (i := 0) v (by omega)
  unfold fX11_prefer
  rw [X11_isKind_y hv, bi_s, if_neg (by decide)]
  show Wp (bw (fX11_becomes fu m (nI 0) (nI v) M) _) _
  rw [e, bw_s]
  exact ⟨_, rfl, h⟩
theorem X11_prefer_n {x : Int32} (h : ¬ ∃ v, x = nI v ∧ v < 5) : fX11_prefer fu m x M = some (mI, M) := by
  unfold fX11_prefer
  rw [X11_isKind_n (fun j hj e => h ⟨j, e, hj⟩), bi_s, if_pos (by decide)]
  rfl
theorem X11_fix_y (hfu : 200000 ≤ fu) (hV : VM S M m) (hG : Gd S) (hH : HM Hs k u M m) (hk : Hs k = S) (h0 : 0 < S 142) {i v : Nat} (hi : i < 8) (hv : v < 5) : Wp (fX11_fix fu m (nI i) (nI v) M) (RA m Hs k M (upS S (68 + i) v) (nI (S (68 + i)))) := by
  have h142 := hG.2.1 142
  obtain ⟨⟨r, M1⟩, e, h⟩ := X11_becomes hfu hV hH hk (i := 68 + i) v (by omega)
  obtain ⟨⟨b, hb, b1, b2, b3, b4⟩, _⟩ := hV
  have e68 : (68 : Int32) + nI i = nI (68 + i) := nI_add 68 i
  unfold fX11_fix
  rw [b1, if_neg (nI_in (by omega) (by omega)), ix_n (by omega), b4, if_neg (fun z => by have := (nI_leI (a := S 142) (b := 0) (by omega) (by omega)).mp z; omega)]
  show Wp (bi (fX11_isIn fu (nI i) (nI 0) (nI 7)) _) _
  rw [X11_isIn, bI_t (isIn_y (j := i) (by omega) rfl (by omega)), bi_s, if_neg (by decide), X11_isKind_y hv, bi_s, if_neg (by decide), e68, e, bw_s]
  exact ⟨_, rfl, h⟩
theorem X11_fix_n (hV : VM S M m) (hG : Gd S) {x1 x2 : Int32} (h : ¬ (0 < S 142 ∧ ∃ i v, x1 = nI i ∧ x2 = nI v ∧ i < 8 ∧ v < 5)) : fX11_fix fu m x1 x2 M = some (mI, M) := by
  have h142 := hG.2.1 142
  have n0 : fX11_fix_j41 fu M = some (mI, M) := rfl
  obtain ⟨⟨b, hb, b1, b2, b3, b4⟩, _⟩ := hV
  unfold fX11_fix
  rw [n0, b1, if_neg (nI_in (by omega) (by omega)), ix_n (by omega), b4]
  by_cases c0 : S 142 = 0
  · rw [c0, if_pos (by decide)]
  · rw [if_neg (fun z => by have := (nI_leI (a := S 142) (b := 0) (by omega) (by omega)).mp z; omega)]
    show bi (fX11_isIn fu x1 (nI 0) (nI 7)) _ = _
    rw [X11_isIn, bi_s]
    by_cases c1 : nI 0 ≤ x1 ∧ x1 ≤ nI 7
    · obtain ⟨i, hi, rfl⟩ := (isIn_c (by omega)).mp c1
      rw [bI_t c1, if_neg (by decide), X11_isKind_n (fun j hj e => h ⟨by omega, i, j, rfl, e, by omega, hj⟩), bi_s, if_pos (by decide)]
    · rw [bI_f c1, if_pos (by decide)]
theorem X11_page_y (hfu : 200000 ≤ fu) (hV : VM S M m) (hG : Gd S) (hH : HM Hs k u M m) (hk : Hs k = S) {i v : Nat} (hi : i < 2 ^ S 140 / 16) (hv : v ≤ 5) : Wp (fX11_page fu m (nI i) (nI v) M) (RA m Hs k M (upS S (76 + i) v) (nI (S (76 + i)))) := by
  have hA := hG.ad
  obtain ⟨⟨r, M1⟩, e, h⟩ := X11_becomes hfu hV hH hk (i := 76 + i) v (by omega)
  have e68 : (76 : Int32) + nI i = nI (76 + i) := nI_add 76 i
  unfold fX11_page
  rw [X11_pages hV hG, bi_s]
  show Wp (bi (fX11_isIn fu (nI i) (nI 0) (nI (2 ^ S 140 / 16) - nI 1)) _) _
  rw [zi_sub (by omega), X11_isIn, bI_t (isIn_y (j := i) (by omega) rfl (by omega)), bi_s, if_neg (by decide)]
  show Wp (bi (fX11_isIn fu (nI v) (nI 0) (nI 5)) _) _
  rw [X11_isIn, bI_t (isIn_y (j := v) (by omega) rfl (by omega)), bi_s, if_neg (by decide), e68, e, bw_s]
  exact ⟨_, rfl, h⟩
theorem X11_page_n (hV : VM S M m) (hG : Gd S) {x1 x2 : Int32} (h : ¬ ∃ i v, x1 = nI i ∧ x2 = nI v ∧ i < 2 ^ S 140 / 16 ∧ v ≤ 5) : fX11_page fu m x1 x2 M = some (mI, M) := by
  have hA := hG.ad
  have n0 : fX11_page_j35 fu M = some (mI, M) := rfl
  unfold fX11_page
  rw [n0, X11_pages hV hG, bi_s]
  show bi (fX11_isIn fu x1 (nI 0) (nI (2 ^ S 140 / 16) - nI 1)) _ = _
  rw [zi_sub (by omega), X11_isIn, bi_s]
  by_cases c1 : nI 0 ≤ x1 ∧ x1 ≤ nI (2 ^ S 140 / 16 - 1)
  · obtain ⟨i, hi, rfl⟩ := (isIn_c (by omega)).mp c1
    rw [bI_t c1, if_neg (by decide)]
    show bi (fX11_isIn fu x2 (nI 0) (nI 5)) _ = _
    rw [X11_isIn, bi_s, bI_f, if_pos (by decide)]
    intro z
    obtain ⟨v, hv, e⟩ := (isIn_c (by omega)).mp z
    exact h ⟨i, v, rfl, e, by omega, hv⟩
  · rw [bI_f c1, if_pos (by decide)]
theorem X11_setOne {r : Nat} (hr : r < 10) (x y z : Int32) : fX11_setOne fu m (nI r) x y z M = some (wI (wI (wI M (m + 1) (38 + 3 * r) x) (m + 1) (38 + 3 * r + 1) y) (m + 1) (38 + 3 * r + 2) z) := by
  simp (disch := omega) only [fX11_setOne, zi_li, zi_m, zi_m1, nI_add, zi_sub, zi_mul, zi_addm, zi_m_lt, zi_lt_m, zi_m_le, zi_le_m, zi_eq_m, zi_m_eq, nI_ltI, nI_leI, nI_eq, nI_clamp, zi_div, lt_eq, bm_s, bi_s, bl_s, bw_s, gd, if_pos, if_neg, ite_true, ite_false, or_false, false_or, and_true, true_and, not_true, not_false_iff, true_or, or_true, Nat.not_lt_zero]
theorem set_row {r : Nat} {T : Sto} (x y z : Nat) (hc : ∀ j, j < 140 → M.1 (m + 1) j = nI (T j)) : ∀ j, j < 140 → (wI (wI (wI M (m + 1) (38 + 3 * r) (nI x)) (m + 1) (38 + 3 * r + 1) (nI y)) (m + 1) (38 + 3 * r + 2) (nI z)).1 (m + 1) j = nI (putS T r x y z j) := fun j hj => by
  unfold putS
  by_cases c1 : j = 38 + 3 * r
  · subst c1
    simp (disch := omega) only [wI_ne, wI_eq, wI_nk, wIs_ne, wIs_eq, if_pos, if_neg, ite_true, ite_false, or_false, false_or, and_true, true_and, not_true, not_false_iff, true_or, or_true, Nat.not_lt_zero]
  · by_cases c2 : j = 39 + 3 * r
    · rw [c2, show 39 + 3 * r = 38 + 3 * r + 1 by omega]
      simp (disch := omega) only [wI_ne, wI_eq, wI_nk, wIs_ne, wIs_eq, if_pos, if_neg, ite_true, ite_false, or_false, false_or, and_true, true_and, not_true, not_false_iff, true_or, or_true, Nat.not_lt_zero]
    · by_cases c3 : j = 40 + 3 * r
      · rw [c3, show 40 + 3 * r = 38 + 3 * r + 2 by omega]
        simp (disch := omega) only [wI_ne, wI_eq, wI_nk, wIs_ne, wIs_eq, if_pos, if_neg, ite_true, ite_false, or_false, false_or, and_true, true_and, not_true, not_false_iff, true_or, or_true, Nat.not_lt_zero]
      · simp (disch := omega) only [wI_ne, wI_eq, wI_nk, wIs_ne, wIs_eq, if_pos, if_neg, ite_true, ite_false, or_false, false_or, and_true, true_and, not_true, not_false_iff, true_or, or_true, Nat.not_lt_zero]
        exact hc j hj
theorem set_o {r : Nat} (x y z : Int32) : O1 (m + 1) M (wI (wI (wI M (m + 1) (38 + 3 * r) x) (m + 1) (38 + 3 * r + 1) y) (m + 1) (38 + 3 * r + 2) z) := ⟨fun c hc => by simp (disch := omega) only [wI_ne, wI_eq, wI_nk, wIs_ne, wIs_eq], rfl⟩
theorem X11_isTaken_r (hfu : 200000 ≤ fu) (hV : VM S M m) (hG : Gd S) {b s r : Nat} (hb : b < 2 ^ 31) (hs : s < 2 ^ 31) (hr : r < 10) : Wp (fX11_isTaken fu m (nI b) (nI s) (nI r) M) (fun v => (v = nI 0 ∧ ∀ q, q < S 141 → q ≠ r → ¬ (S (38 + 3 * q) = b ∧ S (39 + 3 * q) = s)) ∨ (v = nI 1 ∧ ∃ q, q < S 141 ∧ q ≠ r ∧ S (38 + 3 * q) = b ∧ S (39 + 3 * q) = s)) := by
  unfold fX11_isTaken fX11_isTaken_l3
  have h1 := hG.1
  refine lp_ho (fun i z => z = nI i ∧ ∀ q, q < i → q ≠ r → ¬ (S (38 + 3 * q) = b ∧ S (39 + 3 * q) = s)) _ (S 141) (i := 0) (by omega) (by omega) ⟨rfl, fun r hr => absurd hr (by omega)⟩ (fun i z hi hz rec hrec => ?_) (fun z hz rec => ?_)
  · obtain ⟨rfl, hz⟩ := hz
    have h2 := hG.2.1 (39 + 3 * i)
    have h3 := hG.2.1 (38 + 3 * i)
    simp (disch := omega) only [fX11_isTaken_b3, fX11_isTaken_j40, fX11_isTaken_j38, X11_registersNow hV, X11_sizeOf hV (r := i), X11_baseOf hV (r := i), zi_li, zi_m, zi_m1, nI_add, zi_sub, zi_mul, zi_addm, zi_m_lt, zi_lt_m, zi_m_le, zi_le_m, zi_eq_m, zi_m_eq, nI_ltI, nI_leI, nI_eq, nI_clamp, zi_div, lt_eq, bm_s, bi_s, bl_s, bw_s, gd, if_pos, if_neg, ite_true, ite_false, or_false, false_or, and_true, true_and, not_true, not_false_iff, true_or, or_true, Nat.not_lt_zero]
    by_cases c0 : i = r
    · rw [if_pos c0]
      refine hrec _ ⟨rfl, fun q hq hne => ?_⟩
      exact hz q (by omega) hne
    rw [if_neg c0]
    by_cases c : S (39 + 3 * i) = s
    · by_cases c2 : S (38 + 3 * i) = b
      · rw [if_pos c, if_pos c2, wp_some]
        exact Or.inr ⟨rfl, i, hi, c0, c2, c⟩
      · rw [if_pos c, if_neg c2]
        refine hrec _ ⟨rfl, fun q hq hne => ?_⟩
        by_cases e : q = i
        · subst e; exact fun q => c2 q.1
        · exact hz q (by omega) hne
    · rw [if_neg c]
      refine hrec _ ⟨rfl, fun q hq hne => ?_⟩
      by_cases e : q = i
      · subst e; exact fun q => c q.2
      · exact hz q (by omega) hne
  · obtain ⟨rfl, hz⟩ := hz
    simp (disch := omega) only [fX11_isTaken_b3, fX11_isTaken_j46, X11_registersNow hV, zi_li, zi_m, zi_m1, nI_add, zi_sub, zi_mul, zi_addm, zi_m_lt, zi_lt_m, zi_m_le, zi_le_m, zi_eq_m, zi_m_eq, nI_ltI, nI_leI, nI_eq, nI_clamp, zi_div, lt_eq, bm_s, bi_s, bl_s, bw_s, gd, if_pos, if_neg, ite_true, ite_false, or_false, false_or, and_true, true_and, not_true, not_false_iff, true_or, or_true, Nat.not_lt_zero]
    rw [wp_some]
    exact Or.inl ⟨rfl, hz⟩
theorem X11_set_y (hfu : 200000 ≤ fu) (hV : VM S M m) (hG : Gd S) (hH : HM Hs k u M m) (hk : Hs k = S) {x1 x2 x3 x4 : Int32} {r b s v : Nat} (h : stP S x1 x2 x3 x4 r b s v) : Wp (fX11_set fu m x1 x2 x3 x4 M) (RA m Hs k M (putS S r b s v) (nI 1)) := by
  obtain ⟨⟨rfl, rfl, rfl, rfl⟩, hr, hR, hs, hD⟩ := h
  have h10 := hG.1.2.2.2.1
  have hA := hG.ad
  have t10 := hG.1.2.1
  have hb : b + s ≤ 2 ^ S 140 := by
    rcases hR with ⟨h1, h2, _⟩ | ⟨h1, e, h2, h3, q, h4, h5⟩ <;> omega
  rcases hR with ⟨_, h2, _⟩ | ⟨h1, e, h2, h3, q, h4, h5⟩
  · omega
  have hf : fP (S 140) (nI b) (nI s) := by
    rw [h3, h4]
    exact fP_mk t10 h2 (by omega)
  unfold fX11_set
  rw [X11_isRegister hV hG, bI_t (isIn_y (j := r) (by omega) rfl (by omega)), bi_s, if_neg (by decide), X11_addresses hV hG, bi_s, X11_isBlock t10, bI_t hf, bi_s, if_neg (by decide), X11_isKind_y h1, bi_s, if_neg (by decide)]
  obtain ⟨w, ew, ⟨rfl, _⟩ | ⟨rfl, q', hq', hne, m1, m2⟩⟩ := X11_isTaken_r hfu hV hG (b := b) (s := s) (r := r) (by omega) (by omega) (by omega)
  · rw [ew, bi_s, if_pos (by decide), wp_bm]
    refine (X11_keepAct hfu hH (hV.hk hk)).mono fun M1 q => ?_
    rw [X11_setOne (by omega), bm_s, wp_some]
    exact RA_of hV (putS_g (by omega)) q (set_o _ _ _) (set_row b s v (hV.ka q.2).2)
  · exact absurd ⟨m1, m2⟩ (hD q' hq' hne)
theorem X11_set_n (hfu : 200000 ≤ fu) (hV : VM S M m) (hG : Gd S) {x1 x2 x3 x4 : Int32} (h : ¬ ∃ r b s v, stP S x1 x2 x3 x4 r b s v) : fX11_set fu m x1 x2 x3 x4 M = some (nI 0, M) := by
  have h10 := hG.1.2.2.2.1
  have h1' := hG.1.2.2.1
  have hA := hG.ad
  have t10 := hG.1.2.1
  have n0 : fX11_set_j38 fu M = some (nI 0, M) := rfl
  unfold fX11_set
  rw [n0, X11_isRegister hV hG, bi_s]
  by_cases c1 : nI 0 ≤ x1 ∧ x1 ≤ nI (S 141 - 1)
  · obtain ⟨r, hr, rfl⟩ := (isIn_c (by omega)).mp c1
    rw [bI_t c1, if_neg (by decide), X11_addresses hV hG, bi_s, X11_isBlock t10, bi_s]
    by_cases hf : fP (S 140) x2 x3
    · obtain ⟨e, q, h2, rfl, rfl, h5⟩ := fP_of t10 hf
      rw [bI_t hf, if_neg (by decide)]
      by_cases c5 : ∃ v, v < 5 ∧ x4 = nI v
      · obtain ⟨v, hv, rfl⟩ := c5
        have hp := pwp e
        rw [X11_isKind_y hv, bi_s, if_neg (by decide)]
        obtain ⟨w, ew, ⟨rfl, hn⟩ | ⟨rfl, _⟩⟩ := X11_isTaken_r hfu hV hG (b := q * 2 ^ e) (s := 2 ^ e) (r := r) (by omega) (by omega) (by omega)
        · exact absurd ⟨r, q * 2 ^ e, 2 ^ e, v, ⟨rfl, rfl, rfl, rfl⟩, by omega, Or.inr ⟨hv, e, h2, rfl, q, rfl, h5⟩, hp, hn⟩ h
        · rw [ew, bi_s, if_neg (by decide)]
      · rw [X11_isKind_n (fun j hj e => c5 ⟨j, hj, e⟩), bi_s, if_pos (by decide)]
    · rw [bI_f hf, if_pos (by decide)]
  · rw [bI_f c1, if_pos (by decide)]
theorem X11_clear_y (hfu : 200000 ≤ fu) (hV : VM S M m) (hG : Gd S) (hH : HM Hs k u M m) (hk : Hs k = S) {r : Nat} (hr : r < S 141) (hs : 0 < S (39 + 3 * r)) : Wp (fX11_clear fu m (nI r) M) (RA m Hs k M (putS S r 0 0 0) (nI 1)) := by
  have h10 := hG.1.2.2.2.1
  unfold fX11_clear
  obtain ⟨w, e1, ⟨rfl, _⟩ | ⟨rfl, hn⟩⟩ := X11_isSet (fu := fu) hV hG (nI r)
  · rw [e1, bi_s, if_neg (by decide), wp_bm]
    refine (X11_keepAct hfu hH (hV.hk hk)).mono fun M1 q => ?_
    rw [X11_setOne (by omega), bm_s, wp_some]
    exact RA_of hV (putS_g (by omega)) q (set_o _ _ _) (set_row 0 0 0 (hV.ka q.2).2)
  · exact absurd (hn r hr rfl) (by omega)
theorem X11_clear_n (hV : VM S M m) (hG : Gd S) {x : Int32} (h : ¬ ∃ r, x = nI r ∧ r < S 141 ∧ 0 < S (39 + 3 * r)) : fX11_clear fu m x M = some (nI 0, M) := by
  unfold fX11_clear
  obtain ⟨w, e1, ⟨rfl, r, hr, rfl, hs⟩ | ⟨rfl, hn⟩⟩ := X11_isSet (fu := fu) hV hG x
  · exact absurd ⟨r, rfl, hr, hs⟩ h
  · rw [e1, bi_s, if_pos (by decide)]
    rfl
end AM
