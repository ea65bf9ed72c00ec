/-! Pieces: how they are made, their runs. -/
def wS (S : Sto) (x : Nat) : Nat := wtS S (S 0) x
def rS (S : Sto) : Nat → Nat := chD (wS S)
theorem wS_lt {S : Sto} (hG : Gd S) (x : Nat) : wS S x < 5 := wtS_lt hG hG.1.2.2.2.2.1 x
theorem rS_le (S : Sto) (x : Nat) : rS S x ≤ 1 := chD_le _ x
theorem rS_25 {S : Sto} (hG : Gd S) (y : Nat) : smN (rS S) y ≤ 25 := by
  have h1 : smN (rS S) y ≤ 1 + 2 * S 1 := chD_wt S (S 0) y (S 1)
  have h2 := hG.1.2.2.2.2.2
  omega
theorem rS_24 {S : Sto} (hG : Gd S) {y : Nat} (h : rS S y = 1) : smN (rS S) y ≤ 24 := by
  have h1 := rS_25 hG (y + 1)
  have h2 : smN (rS S) (y + 1) = smN (rS S) y + rS S y := rfl
  omega
theorem smN_hd {g : Nat → Nat} {a b : Nat} (hab : a < b) (h : ∀ x, a < x → x < b → g x = 0) : smN g b = smN g a + g a := by
  have h1 : smN g b = smN g (a + 1) + 0 * (b - (a + 1)) := smN_flat (by omega) fun x h1 h2 => h x (by omega) h2
  have h2 : smN g (a + 1) = smN g a + g a := rfl
  omega
def RV (S : Sto) (M : Mm) (p y : Nat) : Prop := M.1 p 7 = nI (smN (rS S) y) ∧ ∀ x, x < y → rS S x = 1 → M.1 (p + 6) (smN (rS S) x) = nI x ∧ M.1 (p + 7) (smN (rS S) x) = nI (wS S x)
def PV (S : Sto) (M : Mm) (p n : Nat) (f : Nat → Nat) : Prop :=
  EdS M (p + 1) n f (2 ^ S 140) ∧ n ≤ 128 ∧ (SpC S (2 ^ S 140) n f ∧ RgC S (2 ^ S 140) n f ∧ PtC S (2 ^ S 140) n f ∧ PgC S (2 ^ S 140) n f) ∧ (M.1 p 6 = nI (n - 1) ∧ M.1 p 8 = nI (S 142)) ∧
  (∀ i, i + 1 < n → M.1 (p + 3) i = nI (wS S (f i)) ∧ M.1 (p + 4) i = nI (kdS S (f i) 99)) ∧ RV S M p (2 ^ S 140) ∧ M.1 (p + 6) (smN (rS S) (2 ^ S 140)) = nI (2 ^ S 140)
theorem PV.fr {S : Sto} {M M' : Mm} {p n : Nat} {f : Nat → Nat} (h : PV S M p n f) (hf : ∀ c, p ≤ c → c < p + 8 → c ≠ p + 5 → M'.1 c = M.1 c) : PV S M' p n f := by
  unfold PV EdS EV RV at h ⊢
  rw [hf p (by omega) (by omega) (by omega), hf (p + 1) (by omega) (by omega) (by omega), hf (p + 1 + 1) (by omega) (by omega) (by omega), hf (p + 3) (by omega) (by omega) (by omega), hf (p + 4) (by omega) (by omega) (by omega), hf (p + 6) (by omega) (by omega) (by omega), hf (p + 7) (by omega) (by omega) (by omega)]
  exact h
theorem MemC.mo {A n n' y : Nat} {f f' : Nat → Nat} (h : MemC A n f y) (hh : ∀ y, MemE n f y → MemE n' f' y) : MemC A n' f' y := fun h1 h2 => hh _ (h h1 h2)
section PC
variable {fu b p n : Nat} {S : Sto} {M : Mm} {f : Nat → Nat}
theorem X5_joinRuns (hfu : 200000 ≤ fu) (hG : Gd S) (hE : EdS M (p + 1) n f (2 ^ S 140)) (hn : n ≤ 128) (hs : SpC S (2 ^ S 140) n f) (hc : M.1 p 6 = nI (n - 1)) (hw : ∀ i, i + 1 < n → M.1 (p + 3) i = nI (wS S (f i))) :
    Wp (fX5_joinRuns fu p M) (fun M' => RV S M' p (2 ^ S 140) ∧ M'.1 (p + 6) (smN (rS S) (2 ^ S 140)) = nI (2 ^ S 140) ∧ (∀ c, c ≠ p → c ≠ p + 6 → c ≠ p + 7 → M'.1 c = M.1 c) ∧ (∀ j, j ≠ 7 → M'.1 p j = M.1 p j) ∧ M'.2 = M.2) := by
  obtain ⟨⟨ev1, ev2⟩, inc, n2, f0, fA⟩ := id hE
  have hA := hG.ad
  unfold fX5_joinRuns fX5_joinRuns_l7
  rw [lt_eq]
  refine lp_ho (fun k z => z.1 = nI k ∧ RV S z.2 p (f k) ∧ (∀ c, c ≠ p → c ≠ p + 6 → c ≠ p + 7 → z.2.1 c = M.1 c) ∧ (∀ j, j ≠ 7 → z.2.1 p j = M.1 p j) ∧ z.2.2 = M.2) _ (n - 1) (i := 0) (by omega) (by omega) ⟨rfl, ⟨?_, fun x hx => ?_⟩, fun c h1 h2 h3 => ?_, fun j hj => ?_, rfl⟩ (fun k z hk hz rec hrec => ?_) (fun z hz rec => ?_)
  · rw [f0]
    simp (disch := omega) only [wI_ne, wI_eq, wI_nk, wIs_ne, wIs_eq]
    rfl
  · rw [f0] at hx
    exact absurd hx (Nat.not_lt_zero _)
  · simp (disch := omega) only [wI_ne, wI_eq, wI_nk, wIs_ne, wIs_eq]
  · simp (disch := omega) only [wI_ne, wI_eq, wI_nk, wIs_ne, wIs_eq]
  · obtain ⟨z1, z2⟩ := z
    obtain ⟨rfl, ⟨r1, r2⟩, g1, g2, g3⟩ := hz
    dsimp only at *
    have g6 := g2 6 (by omega)
    rw [hc] at g6
    have gw : ∀ i, i + 1 < n → z2.1 (p + 3) i = nI (wS S (f i)) := fun i hi => by rw [g1 (p + 3) (by omega) (by omega) (by omega)]; exact hw i hi
    have ge : ∀ i, i < n → z2.1 (p + 1 + 1) i = nI (f i) := fun i hi => by rw [g1 (p + 1 + 1) (by omega) (by omega) (by omega)]; exact ev2 i hi
    have hlt := inc k (k + 1) (by omega) (by omega)
    have flat : ∀ x, f k ≤ x → x < f (k + 1) → wS S x = wS S (f k) := fun x h1 h2 => Al.wt ⟨by omega, h1, h2⟩ inc fA hs _
    have hz0 : ∀ x, f k < x → x < f (k + 1) → rS S x = 0 := fun x h1 h2 => by
      show (if x = 0 ∨ wS S x ≠ wS S (x - 1) then 1 else 0) = 0
      rw [if_neg]
      rw [flat x (by omega) h2, flat (x - 1) (by omega) (by omega)]
      simp
      omega
    have hsum := smN_hd (g := rS S) hlt hz0
    have hdef : rS S (f k) = if k = 0 ∨ wS S (f k) ≠ wS S (f (k - 1)) then 1 else 0 := by
      show (if f k = 0 ∨ wS S (f k) ≠ wS S (f k - 1) then 1 else 0) = _
      by_cases c : k = 0
      · subst c
        rw [if_pos (Or.inl f0), if_pos (Or.inl rfl)]
      · have h1 := inc (k - 1) k (by omega) (by omega)
        have h2 : wS S (f k - 1) = wS S (f (k - 1)) := Al.wt (i := k - 1) (x := f k - 1) ⟨by omega, by omega, by rw [Nat.sub_add_cancel (by omega)]; omega⟩ inc fA hs _
        rw [h2]
        by_cases d : wS S (f k) ≠ wS S (f (k - 1))
        · rw [if_pos (Or.inr d), if_pos (Or.inr d)]
        · rw [if_neg (fun q => q.elim (fun q => by omega) d), if_neg (fun q => q.elim c d)]
    have hR := rS_25 hG (f k)
    have hwk := wS_lt hG (f k)
    have hwk1 := wS_lt hG (f (k - 1))
    have stay : rS S (f k) = 0 → Wp (fX5_joinRuns_j103 fu (fun x1 M => rec (x1, M)) p (nI k) z2) (fun M' => RV S M' p (2 ^ S 140) ∧ M'.1 (p + 6) (smN (rS S) (2 ^ S 140)) = nI (2 ^ S 140) ∧ (∀ c, c ≠ p → c ≠ p + 6 → c ≠ p + 7 → M'.1 c = M.1 c) ∧ (∀ j, j ≠ 7 → M'.1 p j = M.1 p j) ∧ M'.2 = M.2) := fun h0 => by
      simp (disch := omega) only [fX5_joinRuns_j103, zi_lit, zi_m, zi_m1, nI_add, zi_sub, zi_mul, zi_addm, zi_m_lt, zi_lt_m, zi_m_le, zi_le_m, zi_eq_m, zi_m_eq, nI_ltI, nI_leI, nI_eq, nI_clamp, zi_div, lt_eq, bm_s, bi_s, bl_s, bw_s, gd]
      refine hrec _ ⟨rfl, ⟨?_, fun x hx hx1 => ?_⟩, g1, g2, g3⟩
      · rw [hsum, h0]; exact r1
      · by_cases c : x < f k
        · exact r2 x c hx1
        · by_cases c2 : x = f k
          · subst c2; omega
          · have := hz0 x (by omega) hx; omega
    have gone : rS S (f k) = 1 → Wp (fX5_joinRuns_j41 fu (fun x1 M => rec (x1, M)) p (nI k) (nI 1) z2) (fun M' => RV S M' p (2 ^ S 140) ∧ M'.1 (p + 6) (smN (rS S) (2 ^ S 140)) = nI (2 ^ S 140) ∧ (∀ c, c ≠ p → c ≠ p + 6 → c ≠ p + 7 → M'.1 c = M.1 c) ∧ (∀ j, j ≠ 7 → M'.1 p j = M.1 p j) ∧ M'.2 = M.2) := fun h1 => by
      have hR24 := rS_24 hG h1
      simp (disch := omega) only [fX5_joinRuns_j41, fX5_joinRuns_j103, zi_lit, zi_m, zi_m1, nI_add, zi_sub, zi_mul, zi_addm, zi_m_lt, zi_lt_m, zi_m_le, zi_le_m, zi_eq_m, zi_m_eq, nI_ltI, nI_leI, nI_eq, nI_clamp, zi_div, lt_eq, bm_s, bi_s, bl_s, bw_s, gd, if_pos, if_neg, ite_true, ite_false, or_false, false_or, and_true, true_and, not_true, not_false_iff, true_or, or_true, Nat.not_lt_zero, r1, wI_ne, wI_eq, wI_nk, wIs_ne, wIs_eq, ge k, gw k]
      refine hrec _ ⟨rfl, ⟨?_, fun x hx hx1 => ?_⟩, fun c q1 q2 q3 => ?_, fun j hj => ?_, ?_⟩
      · simp (disch := omega) only [wI_ne, wI_eq, wI_nk, wIs_ne, wIs_eq]
        rw [hsum, h1]
      · dsimp only
        by_cases c : x < f k
        · have := smN_lt (g := rS S) c (by omega)
          simp (disch := omega) only [wI_ne, wI_eq, wI_nk, wIs_ne, wIs_eq]
          exact r2 x c hx1
        · by_cases c2 : x = f k
          · subst c2
            simp (disch := omega) only [wI_ne, wI_eq, wI_nk, wIs_ne, wIs_eq]
            exact ⟨trivial, trivial⟩
          · have := hz0 x (by omega) hx; omega
      · simp (disch := omega) only [wI_ne, wI_eq, wI_nk, wIs_ne, wIs_eq]
        exact g1 c q1 q2 q3
      · simp (disch := omega) only [wI_ne, wI_eq, wI_nk, wIs_ne, wIs_eq]
        exact g2 j hj
      · exact g3
    unfold fX5_joinRuns_b7 fX5_joinRuns_j36
    simp (disch := omega) only [zi_lit, zi_m, zi_m1, nI_add, zi_sub, zi_mul, zi_addm, zi_m_lt, zi_lt_m, zi_m_le, zi_le_m, zi_eq_m, zi_m_eq, nI_ltI, nI_leI, nI_eq, nI_clamp, zi_div, lt_eq, bm_s, bi_s, bl_s, bw_s, gd, if_pos, if_neg, ite_true, ite_false, or_false, false_or, and_true, true_and, not_true, not_false_iff, true_or, or_true, Nat.not_lt_zero, g6]
    by_cases c0 : k = 0
    · rw [if_pos c0]
      exact gone (by rw [hdef, if_pos (Or.inl c0)])
    · simp (disch := omega) only [if_pos, if_neg, ite_true, ite_false, or_false, false_or, and_true, true_and, not_true, not_false_iff, true_or, or_true, Nat.not_lt_zero, gw k, gw (k - 1), zi_lit, zi_m, zi_m1, nI_add, zi_sub, zi_mul, zi_addm, zi_m_lt, zi_lt_m, zi_m_le, zi_le_m, zi_eq_m, zi_m_eq, nI_ltI, nI_leI, nI_eq, nI_clamp, zi_div, lt_eq, bm_s, bi_s, bl_s, bw_s, gd]
      by_cases c1 : wS S (f k) = wS S (f (k - 1))
      · rw [if_pos c1]
        unfold fX5_joinRuns_j41
        rw [if_pos nI_0]
        exact stay (by rw [hdef, if_neg (fun q => q.elim c0 (fun q => q c1))])
      · rw [if_neg c1]
        exact gone (by rw [hdef, if_pos (Or.inr c1)])
  · obtain ⟨z1, z2⟩ := z
    obtain ⟨rfl, ⟨r1, r2⟩, g1, g2, g3⟩ := hz
    dsimp only at *
    have g6 := g2 6 (by omega)
    rw [hc] at g6
    have hR := rS_25 hG (2 ^ S 140)
    rw [fA] at r1 r2
    have ge : z2.1 (p + 1 + 1) (n - 1) = nI (2 ^ S 140) := by rw [g1 (p + 1 + 1) (by omega) (by omega) (by omega), ev2 (n - 1) (by omega), fA]
    simp (disch := omega) only [fX5_joinRuns_b7, fX5_joinRuns_j109, zi_lit, zi_m, zi_m1, nI_add, zi_sub, zi_mul, zi_addm, zi_m_lt, zi_lt_m, zi_m_le, zi_le_m, zi_eq_m, zi_m_eq, nI_ltI, nI_leI, nI_eq, nI_clamp, zi_div, lt_eq, bm_s, bi_s, bl_s, bw_s, gd, if_pos, if_neg, ite_true, ite_false, or_false, false_or, and_true, true_and, not_true, not_false_iff, true_or, or_true, Nat.not_lt_zero, g6, r1, ge]
    rw [wp_some]
    refine ⟨⟨?_, fun x hx hx1 => ?_⟩, ?_, fun c q1 q2 q3 => ?_, fun j hj => ?_, g3⟩
    · simp (disch := omega) only [wI_ne, wI_eq, wI_nk, wIs_ne, wIs_eq]
      exact r1
    · have := smN_lt (g := rS S) hx (by omega)
      simp (disch := omega) only [wI_ne, wI_eq, wI_nk, wIs_ne, wIs_eq]
      exact r2 x hx hx1
    · simp (disch := omega) only [wI_ne, wI_eq, wI_nk, wIs_ne, wIs_eq]
    · simp (disch := omega) only [wI_ne, wI_eq, wI_nk, wIs_ne, wIs_eq]
      exact g1 c q1 q2 q3
    · simp (disch := omega) only [wI_ne, wI_eq, wI_nk, wIs_ne, wIs_eq]
      exact g2 j hj
theorem X5_make (hfu : 200000 ≤ fu) (hV : VX S M b) (hG : Gd S) (hd : b + 9 ≤ p ∨ p + 8 ≤ b) : Wp (fX5_make fu p b M) (fun M' => (∃ n f, PV S M' p n f) ∧ Fr p 8 M M') := by
  have hA := hG.ad
  have hG1 := hG.1
  unfold fX5_make
  rw [hV.1.1, wp_bm]
  refine (X2_begin (by omega) (by omega)).mono fun M1 q => ?_
  obtain ⟨E1, F1⟩ := q
  have V1 : VX S M1 b := hV.fr fun c k1 k2 => F1.at (by omega)
  rw [wp_bm]
  refine (X2_cutPages hfu (by omega) E1 (by omega) (by omega) V1 hG (by omega)).mono fun M2 q => ?_
  obtain ⟨n2, f2, E2, _, a2, a3, a4, F2⟩ := q
  have V2 : VX S M2 b := V1.fr fun c k1 k2 => F2.at (by omega)
  rw [wp_bm]
  refine (X2_cutParts hfu (by omega) E2 (by omega) (by omega) V2 hG (by omega)).mono fun M3 q => ?_
  obtain ⟨n3, f3, E3, _, b2, b3, b4, F3⟩ := q
  have V3 : VX S M3 b := V2.fr fun c k1 k2 => F3.at (by omega)
  rw [wp_bm]
  refine (X2_cutSpans hfu (by omega) E3 (by omega) (by omega) V3 hG (by omega)).mono fun M4 q => ?_
  obtain ⟨n4, f4, E4, _, c2, c3, c4, F4⟩ := q
  have V4 : VX S M4 b := V3.fr fun c k1 k2 => F4.at (by omega)
  rw [wp_bm]
  refine (X2_cutRegisters hfu (by omega) E4 (by omega) (by omega) V4 hG (by omega)).mono fun M5 q => ?_
  obtain ⟨n5, f5, E5, _, d2, d3, d4, F5⟩ := q
  have V5 : VX S M5 b := V4.fr fun c k1 k2 => F5.at (by omega)
  have hn : n5 ≤ 128 := by omega
  have m1 : PgC S (2 ^ S 140) n5 f5 := fun i h1 h2 => (((a4 _ ⟨i, h1, h2, rfl⟩).mo b3).mo c3).mo d3
  have m2 : PtC S (2 ^ S 140) n5 f5 := fun i h1 h2 => ((b4 _ ⟨i, h1, h2, rfl⟩).mo c3).mo d3
  have m3 : SpC S (2 ^ S 140) n5 f5 := fun i h1 => ⟨(c4 _ ⟨i, h1, Or.inl rfl⟩).mo d3, (c4 _ ⟨i, h1, Or.inr rfl⟩).mo d3⟩
  have m4 : RgC S (2 ^ S 140) n5 f5 := fun i h1 => ⟨d4 _ ⟨i, h1, Or.inl rfl⟩, d4 _ ⟨i, h1, Or.inr rfl⟩⟩
  have hn2 := E5.2.2.1
  have F0 : Fr p 8 M M5 := ((((F1.wd (by omega) (by omega)).tr (F2.wd (by omega) (by omega))).tr (F3.wd (by omega) (by omega))).tr (F4.wd (by omega) (by omega))).tr (F5.wd (by omega) (by omega))
  unfold fX5_make_l66
  simp (disch := omega) only [lt_eq, wI_ne, wI_eq, wI_nk, wIs_ne, wIs_eq, V5.1.2.2.2.2, E5.1.1, zi_lit, zi_m, zi_m1, nI_add, zi_sub, zi_mul, zi_addm, zi_m_lt, zi_lt_m, zi_m_le, zi_le_m, zi_eq_m, zi_m_eq, nI_ltI, nI_leI, nI_eq, nI_clamp, zi_div, lt_eq, bm_s, bi_s, bl_s, bw_s, gd]
  refine lp_ho (fun k z => z.1 = nI k ∧ Fr p 8 M z.2 ∧ EdS z.2 (p + 1) n5 f5 (2 ^ S 140) ∧ (z.2.1 p 6 = nI (n5 - 1) ∧ z.2.1 p 8 = nI (S 142)) ∧ ∀ i, i < k → z.2.1 (p + 3) i = nI (wS S (f5 i)) ∧ z.2.1 (p + 4) i = nI (kdS S (f5 i) 99)) _ (n5 - 1) (i := 0) (by omega) (by omega) ⟨rfl, ?_, ?_, ⟨?_, ?_⟩, fun i hi => absurd hi (by omega)⟩ (fun k z hk hz rec hrec => ?_) (fun z hz rec => ?_)
  · exact (F0.tr (Fr.w1 _ _ _ _ (by omega) (by omega))).tr (Fr.w1 _ _ _ _ (by omega) (by omega))
  · exact E5.fr (by simp (disch := omega) only [wI_ne, wI_eq, wI_nk, wIs_ne, wIs_eq]) (by simp (disch := omega) only [wI_ne, wI_eq, wI_nk, wIs_ne, wIs_eq])
  · simp (disch := omega) only [wI_ne, wI_eq, wI_nk, wIs_ne, wIs_eq]
  · simp (disch := omega) only [wI_ne, wI_eq, wI_nk, wIs_ne, wIs_eq]
  · obtain ⟨z1, z2⟩ := z
    obtain ⟨rfl, g1, g2, ⟨g3, g4⟩, g5⟩ := hz
    dsimp only at *
    have Vz : VX S z2 b := hV.fr fun c k1 k2 => g1.at (by omega)
    have hle := g2.le (i := k) (by omega)
    have hk5 := g2.1.2 k (by omega)
    have w1 := X8_wantedAt hfu Vz hG (x := f5 k) (d := S 0) (by omega)
    have hl := kdS_le hG (f5 k) 99
    have w2 : ∀ v, fX8_kindAt fu b (nI (f5 k)) (-1) (wI z2 (p + 3) k v) = some (nI (kdS S (f5 k) 99)) := fun v => X8_kindAt hfu (Vz.fr fun c k1 k2 => by simp (disch := omega) only [wI_ne, wI_eq, wI_nk, wIs_ne, wIs_eq]) hG (by omega) none_but
    simp (disch := omega) only [fX5_make_b66, g3, zi_lit, zi_m, zi_m1, nI_add, zi_sub, zi_mul, zi_addm, zi_m_lt, zi_lt_m, zi_m_le, zi_le_m, zi_eq_m, zi_m_eq, nI_ltI, nI_leI, nI_eq, nI_clamp, zi_div, lt_eq, bm_s, bi_s, bl_s, bw_s, gd, if_pos, if_neg, ite_true, ite_false, or_false, false_or, and_true, true_and, not_true, not_false_iff, true_or, or_true, Nat.not_lt_zero, hk5, Vz.1.2.2.1, w1, wI_ne, wI_eq, wI_nk, wIs_ne, wIs_eq]
    rw [← zi_m1, w2, bi_s]
    refine hrec _ ⟨rfl, (g1.tr (Fr.w1 _ _ _ _ (by omega) (by omega))).tr (Fr.w1 _ _ _ _ (by omega) (by omega)), g2.fr (by simp (disch := omega) only [wI_ne, wI_eq, wI_nk, wIs_ne, wIs_eq]) (by simp (disch := omega) only [wI_ne, wI_eq, wI_nk, wIs_ne, wIs_eq]), ⟨?_, ?_⟩, fun i hi => ?_⟩
    · simp (disch := omega) only [wI_ne, wI_eq, wI_nk, wIs_ne, wIs_eq]; exact g3
    · simp (disch := omega) only [wI_ne, wI_eq, wI_nk, wIs_ne, wIs_eq]; exact g4
    · by_cases c : i = k
      · subst c
        simp (disch := omega) only [wI_ne, wI_eq, wI_nk, wIs_ne, wIs_eq]
        exact ⟨rfl, trivial⟩
      · simp (disch := omega) only [wI_ne, wI_eq, wI_nk, wIs_ne, wIs_eq]
        exact g5 i (by omega)
  · obtain ⟨z1, z2⟩ := z
    obtain ⟨rfl, g1, g2, ⟨g3, g4⟩, g5⟩ := hz
    dsimp only at *
    simp (disch := omega) only [fX5_make_b66, fX5_make_j123, g3, zi_lit, zi_m, zi_m1, nI_add, zi_sub, zi_mul, zi_addm, zi_m_lt, zi_lt_m, zi_m_le, zi_le_m, zi_eq_m, zi_m_eq, nI_ltI, nI_leI, nI_eq, nI_clamp, zi_div, lt_eq, bm_s, bi_s, bl_s, bw_s, gd, if_pos, if_neg, ite_true, ite_false, or_false, false_or, and_true, true_and, not_true, not_false_iff, true_or, or_true, Nat.not_lt_zero]
    rw [wp_bm]
    refine (X5_joinRuns hfu hG g2 hn m3 g3 (fun i hi => (g5 i (by omega)).1)).mono fun M6 q => ?_
    obtain ⟨r1, r2, r3, r4, r5⟩ := q
    rw [wp_some]
    refine ⟨⟨n5, f5, g2.fr (r3 _ (by omega) (by omega) (by omega)) (r3 _ (by omega) (by omega) (by omega)), hn, ⟨m3, m4, m2, m1⟩, ⟨?_, ?_⟩, fun i hi => ?_, r1, r2⟩, fun c hc => ?_⟩
    · rw [r4 6 (by omega)]; exact g3
    · rw [r4 8 (by omega)]; exact g4
    · rw [r3 (p + 3) (by omega) (by omega) (by omega), r3 (p + 4) (by omega) (by omega) (by omega)]
      exact g5 i (by omega)
    · obtain ⟨q1, q2, q3⟩ := g1 c hc
      rw [r3 c (by omega) (by omega) (by omega), r5]
      exact ⟨q1, q2, q3⟩
end PC
