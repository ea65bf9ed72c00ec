/-! Edges: sorted, each once; what is cut stands among them. -/
theorem ix_n {n : Nat} (h : n < 2 ^ 31) : ix (nI n) = n := nI_clamp h
def EV (M : Mm) (e n : Nat) (f : Nat → Nat) : Prop := M.1 e 1 = nI n ∧ ∀ i, i < n → M.1 (e + 1) i = nI (f i)
def Inc (n : Nat) (f : Nat → Nat) : Prop := ∀ i j, i < j → j < n → f i < f j
def EdS (M : Mm) (e n : Nat) (f : Nat → Nat) (A : Nat) : Prop := EV M e n f ∧ Inc n f ∧ 2 ≤ n ∧ f 0 = 0 ∧ f (n - 1) = A
def MemE (n : Nat) (f : Nat → Nat) (y : Nat) : Prop := ∃ i, i < n ∧ f i = y
def MemC (A n : Nat) (f : Nat → Nat) (y : Nat) : Prop := 0 < y → y < A → MemE n f y
theorem EdS.le {M : Mm} {e n : Nat} {f : Nat → Nat} {A : Nat} (h : EdS M e n f A) {i : Nat} (hi : i < n) : f i ≤ A := by
  obtain ⟨_, h2, h3, h4, h5⟩ := h
  by_cases c : i = n - 1
  · rw [c, h5]; exact Nat.le_refl _
  · rw [← h5]; exact Nat.le_of_lt (h2 i (n - 1) (by omega) (by omega))
theorem EdS.fr {M M' : Mm} {e n : Nat} {f : Nat → Nat} {A : Nat} (h : EdS M e n f A) (h0 : M'.1 e = M.1 e) (h1 : M'.1 (e + 1) = M.1 (e + 1)) : EdS M' e n f A := by
  unfold EdS EV at h ⊢
  rw [h0, h1]
  exact h
section ED
variable {fu b e cap A n : Nat} {S : Sto} {M : Mm} {f : Nat → Nat}
theorem X2_begin (hc : 2 ≤ cap) (hA : 0 < A) : Wp (fX2_begin fu cap e (nI A) M) (fun M' => EdS M' e 2 (fun i => if i = 0 then 0 else A) A ∧ Fr e 2 M M') := by
  have e0 : ix 0 = 0 := by decide +kernel
  have e1 : ix 1 = 1 := by decide +kernel
  simp (disch := omega) only [fX2_begin, e0, e1, zi_lit, zi_m, zi_m1, nI_add, zi_sub, zi_mul, zi_addm, zi_m_lt, zi_lt_m, zi_m_le, zi_le_m, zi_eq_m, zi_m_eq, nI_ltI, nI_leI, nI_eq, nI_clamp, zi_div, lt_eq, bm_s, bi_s, bl_s, bw_s, gd, if_pos, if_neg, ite_true, ite_false, or_false, false_or, and_true, true_and, not_true, not_false_iff, true_or, or_true, Nat.not_lt_zero]
  rw [wp_some]
  refine ⟨⟨⟨?_, fun i hi => ?_⟩, fun i j h1 h2 => ?_, Nat.le_refl _, rfl, rfl⟩, ?_⟩
  · simp (disch := omega) only [wI_ne, wI_eq, wI_nk, wIs_ne, wIs_eq]
  · by_cases c : i = 0
    · subst c
      simp (disch := omega) only [wI_ne, wI_eq, wI_nk, wIs_ne, wIs_eq, if_pos, if_neg, ite_true, ite_false, or_false, false_or, and_true, true_and, not_true, not_false_iff, true_or, or_true, Nat.not_lt_zero]
    · have : i = 1 := by omega
      subst this
      simp (disch := omega) only [wI_ne, wI_eq, wI_nk, wIs_ne, wIs_eq, if_pos, if_neg, ite_true, ite_false, or_false, false_or, and_true, true_and, not_true, not_false_iff, true_or, or_true, Nat.not_lt_zero]
  · have : i = 0 := by omega
    have : j = 1 := by omega
    subst_vars
    exact hA
  · exact ((Fr.w1 _ _ _ _ (by omega) (by omega)).tr (Fr.w1 _ _ _ _ (by omega) (by omega))).tr (Fr.w1 _ _ _ _ (by omega) (by omega))
theorem X2_cut (hfu : 200000 ≤ fu) (hc : cap ≤ 2000) (hE : EdS M e n f A) (hA : A ≤ 2000) (hn : n < cap) {x : Nat} (hx : x < 2 ^ 31) : Wp (fX2_cut fu cap e (nI x) M) (fun M' => ∃ n' f', EdS M' e n' f' A ∧ n ≤ n' ∧ n' ≤ n + 1 ∧ (∀ y, MemE n f y → MemE n' f' y) ∧ MemC A n' f' x ∧ Fr e 2 M M') := by
  obtain ⟨⟨ev1, ev2⟩, inc, n2, f0, fA⟩ := id hE
  have stay : (¬ (0 < x ∧ x < A) ∨ MemE n f x) → ∃ n' f', EdS M e n' f' A ∧ n ≤ n' ∧ n' ≤ n + 1 ∧ (∀ y, MemE n f y → MemE n' f' y) ∧ MemC A n' f' x ∧ Fr e 2 M M := fun h =>
    ⟨n, f, hE, by omega, by omega, fun y h => h, fun h1 h2 => h.elim (fun q => absurd ⟨h1, h2⟩ q) id, Fr.rf _ _ _⟩
  have hcap : Int32.ofNat cap = nI cap := rfl
  unfold fX2_cut fX2_cut_j31
  rw [hcap, ev1]
  simp (disch := omega) only [zi_lit, zi_m, zi_m1, nI_add, zi_sub, zi_mul, zi_addm, zi_m_lt, zi_lt_m, zi_m_le, zi_le_m, zi_eq_m, zi_m_eq, nI_ltI, nI_leI, nI_eq, nI_clamp, zi_div, lt_eq, bm_s, bi_s, bl_s, bw_s, gd, if_pos, if_neg, ite_true, ite_false, or_false, false_or, and_true, true_and, not_true, not_false_iff, true_or, or_true, Nat.not_lt_zero]
  by_cases c1 : x ≤ 0
  · rw [if_pos c1, wp_some]
    exact stay (Or.inl (by omega))
  rw [if_neg c1, ev2 (n - 1) (by omega), fA]
  simp (disch := omega) only [zi_lit, zi_m, zi_m1, nI_add, zi_sub, zi_mul, zi_addm, zi_m_lt, zi_lt_m, zi_m_le, zi_le_m, zi_eq_m, zi_m_eq, nI_ltI, nI_leI, nI_eq, nI_clamp, zi_div, lt_eq, bm_s, bi_s, bl_s, bw_s, gd, if_pos, if_neg, ite_true, ite_false, or_false, false_or, and_true, true_and, not_true, not_false_iff, true_or, or_true, Nat.not_lt_zero]
  by_cases c2 : x < A
  · rw [if_pos c2]
    unfold fX2_cut_l39
    refine lp_me (fun z => ∃ i, z = nI i ∧ i < n ∧ x ≤ f i) (fun z => ix z) _ (fun z hz rec hrec => ?_) (by rw [ix_n (by omega)]; omega) ⟨n - 1, rfl, by omega, by rw [fA]; omega⟩
    obtain ⟨i, rfl, hi, hfi⟩ := hz
    have hi0 : i ≠ 0 := fun q => by rw [q, f0] at hfi; omega
    have hle := hE.le (i := i - 1) (by omega)
    have hle2 := hE.le (i := i) (by omega)
    simp (disch := omega) only [fX2_cut_b39, zi_lit, zi_m, zi_m1, nI_add, zi_sub, zi_mul, zi_addm, zi_m_lt, zi_lt_m, zi_m_le, zi_le_m, zi_eq_m, zi_m_eq, nI_ltI, nI_leI, nI_eq, nI_clamp, zi_div, lt_eq, bm_s, bi_s, bl_s, bw_s, gd, if_pos, if_neg, ite_true, ite_false, or_false, false_or, and_true, true_and, not_true, not_false_iff, true_or, or_true, Nat.not_lt_zero, ev2 (i - 1)]
    by_cases c3 : f (i - 1) < x
    · rw [if_pos c3]
      unfold fX2_cut_j61
      simp (disch := omega) only [zi_lit, zi_m, zi_m1, nI_add, zi_sub, zi_mul, zi_addm, zi_m_lt, zi_lt_m, zi_m_le, zi_le_m, zi_eq_m, zi_m_eq, nI_ltI, nI_leI, nI_eq, nI_clamp, zi_div, lt_eq, bm_s, bi_s, bl_s, bw_s, gd, if_pos, if_neg, ite_true, ite_false, or_false, false_or, and_true, true_and, not_true, not_false_iff, true_or, or_true, Nat.not_lt_zero, ev2 i]
      by_cases c4 : f i = x
      · rw [if_pos c4, wp_some]
        exact stay (Or.inr ⟨i, hi, c4⟩)
      rw [if_neg c4, ev1]
      unfold fX2_cut_l77
      refine lp_ho (fun k z => z.1 = nI (n - k) ∧ (∀ j, z.2.1 (e + 1) j = if n - k < j ∧ j ≤ n then M.1 (e + 1) (j - 1) else M.1 (e + 1) j) ∧ z.2.1 e = M.1 e ∧ Fr e 2 M z.2) _ (n - i) (i := 0) (by omega) (by omega) ⟨rfl, fun j => by rw [if_neg (by omega)], rfl, Fr.rf _ _ _⟩ (fun k z hk hz rec hrec => ?_) (fun z hz rec => ?_)
      · obtain ⟨z1, z2⟩ := z
        obtain ⟨rfl, g1, g2, g3⟩ := hz
        simp (disch := omega) only [fX2_cut_b77, zi_lit, zi_m, zi_m1, nI_add, zi_sub, zi_mul, zi_addm, zi_m_lt, zi_lt_m, zi_m_le, zi_le_m, zi_eq_m, zi_m_eq, nI_ltI, nI_leI, nI_eq, nI_clamp, zi_div, lt_eq, bm_s, bi_s, bl_s, bw_s, gd, if_pos, if_neg, ite_true, ite_false, or_false, false_or, and_true, true_and, not_true, not_false_iff, true_or, or_true, Nat.not_lt_zero]
        refine hrec _ ⟨by congr 1, fun j => ?_, ?_, ?_⟩
        · by_cases c5 : j = n - k
          · subst c5
            simp (disch := omega) only [wI_ne, wI_eq, wI_nk, wIs_ne, wIs_eq]
            rw [g1, if_neg (by omega), if_pos (by omega)]
          · simp (disch := omega) only [wI_ne, wI_eq, wI_nk, wIs_ne, wIs_eq]
            rw [g1]
            by_cases c6 : n - k < j ∧ j ≤ n
            · rw [if_pos c6, if_pos (by omega)]
            · rw [if_neg c6, if_neg (by omega)]
        · simp (disch := omega) only [wI_ne, wI_eq, wI_nk, wIs_ne, wIs_eq]
          exact g2
        · exact g3.tr (Fr.w1 _ _ _ _ (by omega) (by omega))
      · obtain ⟨z1, z2⟩ := z
        obtain ⟨rfl, g1, g2, g3⟩ := hz
        have en : n - (n - i) = i := by omega
        dsimp only at *
        rw [en] at g1 ⊢
        simp (disch := omega) only [fX2_cut_b77, fX2_cut_j102, zi_lit, zi_m, zi_m1, nI_add, zi_sub, zi_mul, zi_addm, zi_m_lt, zi_lt_m, zi_m_le, zi_le_m, zi_eq_m, zi_m_eq, nI_ltI, nI_leI, nI_eq, nI_clamp, zi_div, lt_eq, bm_s, bi_s, bl_s, bw_s, gd, if_pos, if_neg, ite_true, ite_false, or_false, false_or, and_true, true_and, not_true, not_false_iff, true_or, or_true, Nat.not_lt_zero, wI_ne, wI_eq, wI_nk, wIs_ne, wIs_eq, g2, ev1]
        rw [wp_some]
        refine ⟨n + 1, fun j => if j < i then f j else if j = i then x else f (j - 1), ⟨⟨?_, fun j hj => ?_⟩, fun j k h1 h2 => ?_, by omega, ?_, ?_⟩, by omega, by omega, fun y hy => ?_, fun _ _ => ⟨i, by omega, ?_⟩, ?_⟩
        · simp (disch := omega) only [wI_ne, wI_eq, wI_nk, wIs_ne, wIs_eq]
        · dsimp only
          by_cases c5 : j = i
          · subst c5
            simp (disch := omega) only [wI_ne, wI_eq, wI_nk, wIs_ne, wIs_eq, if_pos, if_neg, ite_true, ite_false, or_false, false_or, and_true, true_and, not_true, not_false_iff, true_or, or_true, Nat.not_lt_zero]
          · simp (disch := omega) only [wI_ne, wI_eq, wI_nk, wIs_ne, wIs_eq]
            rw [g1]
            by_cases c6 : j < i
            · rw [if_neg (by omega), if_pos c6, ev2 j (by omega)]
            · rw [if_pos (by omega), if_neg c6, if_neg c5, ev2 (j - 1) (by omega)]
        · dsimp only
          have q1 : ∀ p, p < i → f p < x := fun p hp => by
            by_cases cp : p = i - 1
            · rw [cp]; exact c3
            · exact Nat.lt_trans (inc p (i - 1) (by omega) (by omega)) c3
          have q2 : ∀ p, i ≤ p → p < n → x < f p := fun p hp hpn => by
            by_cases cp : p = i
            · rw [cp]; omega
            · exact Nat.lt_of_le_of_lt hfi (inc i p (by omega) hpn)
          by_cases d1 : j < i
          · rw [if_pos d1]
            by_cases d2 : k < i
            · rw [if_pos d2]; exact inc j k h1 (by omega)
            · rw [if_neg d2]
              by_cases d3 : k = i
              · rw [if_pos d3]; exact q1 j d1
              · rw [if_neg d3]; exact inc j (k - 1) (by omega) (by omega)
          · rw [if_neg d1]
            by_cases d3 : j = i
            · rw [if_pos d3, if_neg (by omega), if_neg (by omega)]
              exact q2 (k - 1) (by omega) (by omega)
            · rw [if_neg d3, if_neg (by omega), if_neg (by omega)]
              exact inc (j - 1) (k - 1) (by omega) (by omega)
        · dsimp only
          rw [if_pos (by omega), f0]
        · dsimp only
          rw [if_neg (by omega), if_neg (by omega), Nat.add_sub_cancel, fA]
        · obtain ⟨k, hk, rfl⟩ := hy
          by_cases d1 : k < i
          · exact ⟨k, by omega, by dsimp only; rw [if_pos d1]⟩
          · exact ⟨k + 1, by omega, by dsimp only; rw [if_neg (by omega), if_neg (by omega), Nat.add_sub_cancel]⟩
        · dsimp only
          rw [if_neg (by omega), if_pos rfl]
        · exact (g3.tr (Fr.w1 _ _ _ _ (by omega) (by omega))).tr (Fr.w1 _ _ _ _ (by omega) (by omega))
    · rw [if_neg c3]
      refine hrec _ ⟨i - 1, rfl, by omega, by omega⟩ ?_
      rw [ix_n (by omega), ix_n (by omega)]
      omega
  · rw [if_neg c2, wp_some]
    exact stay (Or.inl (by omega))
/-- edges that came from others: at most k more, all of these, and P -/
def Cu (M : Mm) (e n : Nat) (f : Nat → Nat) (A k : Nat) (P : Nat → Prop) (M' : Mm) : Prop := ∃ n' f', EdS M' e n' f' A ∧ n ≤ n' ∧ n' ≤ n + k ∧ (∀ y, MemE n f y → MemE n' f' y) ∧ (∀ y, P y → MemC A n' f' y) ∧ Fr e 2 M M'
theorem X2_cutSpans (hfu : 200000 ≤ fu) (hc : cap ≤ 2000) (hE : EdS M e n f A) (hA : A ≤ 2000) (hn : n + 24 ≤ cap) (hV : VX S M b) (hG : Gd S) (hd : b + 9 ≤ e ∨ e + 2 ≤ b) : Wp (fX2_cutSpans fu cap e b M) (fun M' => Cu M e n f A (2 * S 1) (fun y => ∃ i, i < S 1 ∧ (y = S (2 + 3 * i) ∨ y = S (3 + 3 * i) + 1)) M') := by
  unfold fX2_cutSpans fX2_cutSpans_l2
  have h1 := hG.1
  refine lp_ho (fun k z => z.1 = nI k ∧ Cu M e n f A (2 * k) (fun y => ∃ i, i < k ∧ (y = S (2 + 3 * i) ∨ y = S (3 + 3 * i) + 1)) z.2) _ (S 1) (i := 0) (by omega) (by omega) ⟨rfl, n, f, hE, by omega, by omega, fun y h => h, fun y h => (by obtain ⟨i, hi, _⟩ := h; omega), Fr.rf _ _ _⟩ (fun k z hk hz rec hrec => ?_) (fun z hz rec => ?_)
  · obtain ⟨z1, z2⟩ := z
    obtain ⟨rfl, n1, f1, E1, a1, a2, a3, a4, a5⟩ := hz
    dsimp only at *
    have V1 : VX S z2 b := hV.fr fun c k1 k2 => a5.at (by omega)
    have g2 := hG.2.1 (2 + 3 * k)
    have g3 := hG.2.1 (3 + 3 * k)
    simp (disch := omega) only [fX2_cutSpans_b2, V1.1.2.2.2.1, (V1.2.1 k hk).1, zi_lit, zi_m, zi_m1, nI_add, zi_sub, zi_mul, zi_addm, zi_m_lt, zi_lt_m, zi_m_le, zi_le_m, zi_eq_m, zi_m_eq, nI_ltI, nI_leI, nI_eq, nI_clamp, zi_div, lt_eq, bm_s, bi_s, bl_s, bw_s, gd, if_pos, if_neg, ite_true, ite_false, or_false, false_or, and_true, true_and, not_true, not_false_iff, true_or, or_true, Nat.not_lt_zero]
    rw [wp_bm]
    refine (X2_cut hfu hc E1 hA (by omega) (by omega)).mono fun M2 q => ?_
    obtain ⟨n2, f2, E2, b1, b2, b3, b4, b5⟩ := q
    have V2 : VX S M2 b := V1.fr fun c k1 k2 => b5.at (by omega)
    simp (disch := omega) only [(V2.2.1 k hk).2.1, zi_lit, zi_m, zi_m1, nI_add, zi_sub, zi_mul, zi_addm, zi_m_lt, zi_lt_m, zi_m_le, zi_le_m, zi_eq_m, zi_m_eq, nI_ltI, nI_leI, nI_eq, nI_clamp, zi_div, lt_eq, bm_s, bi_s, bl_s, bw_s, gd]
    rw [wp_bm]
    refine (X2_cut hfu hc E2 hA (by omega) (by omega)).mono fun M3 q => ?_
    obtain ⟨n3, f3, E3, d1, d2, d3, d4, d5⟩ := q
    refine hrec _ ⟨rfl, n3, f3, E3, by omega, by omega, fun y hy => d3 _ (b3 _ (a3 _ hy)), fun y hy => ?_, (a5.tr b5).tr d5⟩
    obtain ⟨i, hi, hy⟩ := hy
    by_cases ci : i = k
    · subst ci
      rcases hy with rfl | rfl
      · exact fun p1 p2 => d3 _ (b4 p1 p2)
      · exact d4
    · exact fun p1 p2 => d3 _ (b3 _ (a4 y ⟨i, by omega, hy⟩ p1 p2))
  · obtain ⟨z1, z2⟩ := z
    obtain ⟨rfl, hz⟩ := hz
    have V1 : VX S z2 b := hV.fr fun c k1 k2 => (by obtain ⟨n1, f1, _, _, _, _, _, a5⟩ := hz; exact a5.at (by omega))
    dsimp only at *
    simp (disch := omega) only [fX2_cutSpans_b2, fX2_cutSpans_j38, V1.1.2.2.2.1, zi_lit, zi_m, zi_m1, nI_add, zi_sub, zi_mul, zi_addm, zi_m_lt, zi_lt_m, zi_m_le, zi_le_m, zi_eq_m, zi_m_eq, nI_ltI, nI_leI, nI_eq, nI_clamp, zi_div, lt_eq, bm_s, bi_s, bl_s, bw_s, gd, if_pos, if_neg, ite_true, ite_false, or_false, false_or, and_true, true_and, not_true, not_false_iff, true_or, or_true, Nat.not_lt_zero]
    rw [wp_some]
    exact hz
theorem X2_cutRegisters (hfu : 200000 ≤ fu) (hc : cap ≤ 2000) (hE : EdS M e n f A) (hA : A ≤ 2000) (hn : n + 20 ≤ cap) (hV : VX S M b) (hG : Gd S) (hd : b + 9 ≤ e ∨ e + 2 ≤ b) : Wp (fX2_cutRegisters fu cap e b M) (fun M' => Cu M e n f A (2 * S 141) (fun y => ∃ i, i < S 141 ∧ (y = S (38 + 3 * i) ∨ y = S (38 + 3 * i) + S (39 + 3 * i))) M') := by
  unfold fX2_cutRegisters fX2_cutRegisters_l2
  have h1 := hG.1
  refine lp_ho (fun k z => z.1 = nI k ∧ Cu M e n f A (2 * k) (fun y => ∃ i, i < k ∧ (y = S (38 + 3 * i) ∨ y = S (38 + 3 * i) + S (39 + 3 * i))) z.2) _ (S 141) (i := 0) (by omega) (by omega) ⟨rfl, n, f, hE, by omega, by omega, fun y h => h, fun y h => (by obtain ⟨i, hi, _⟩ := h; omega), Fr.rf _ _ _⟩ (fun k z hk hz rec hrec => ?_) (fun z hz rec => ?_)
  · obtain ⟨z1, z2⟩ := z
    obtain ⟨rfl, n1, f1, E1, a1, a2, a3, a4, a5⟩ := hz
    dsimp only at *
    have V1 : VX S z2 b := hV.fr fun c k1 k2 => a5.at (by omega)
    have g2 := hG.2.1 (38 + 3 * k)
    have g3 := hG.2.1 (39 + 3 * k)
    simp (disch := omega) only [fX2_cutRegisters_b2, V1.1.2.1, (V1.2.2.2.1 k hk).1, zi_lit, zi_m, zi_m1, nI_add, zi_sub, zi_mul, zi_addm, zi_m_lt, zi_lt_m, zi_m_le, zi_le_m, zi_eq_m, zi_m_eq, nI_ltI, nI_leI, nI_eq, nI_clamp, zi_div, lt_eq, bm_s, bi_s, bl_s, bw_s, gd, if_pos, if_neg, ite_true, ite_false, or_false, false_or, and_true, true_and, not_true, not_false_iff, true_or, or_true, Nat.not_lt_zero]
    rw [wp_bm]
    refine (X2_cut hfu hc E1 hA (by omega) (by omega)).mono fun M2 q => ?_
    obtain ⟨n2, f2, E2, b1, b2, b3, b4, b5⟩ := q
    have V2 : VX S M2 b := V1.fr fun c k1 k2 => b5.at (by omega)
    simp (disch := omega) only [(V2.2.2.2.1 k hk).2.1, (V2.2.2.2.1 k hk).1, zi_lit, zi_m, zi_m1, nI_add, zi_sub, zi_mul, zi_addm, zi_m_lt, zi_lt_m, zi_m_le, zi_le_m, zi_eq_m, zi_m_eq, nI_ltI, nI_leI, nI_eq, nI_clamp, zi_div, lt_eq, bm_s, bi_s, bl_s, bw_s, gd]
    rw [wp_bm]
    refine (X2_cut hfu hc E2 hA (by omega) (by omega)).mono fun M3 q => ?_
    obtain ⟨n3, f3, E3, d1, d2, d3, d4, d5⟩ := q
    refine hrec _ ⟨rfl, n3, f3, E3, by omega, by omega, fun y hy => d3 _ (b3 _ (a3 _ hy)), fun y hy => ?_, (a5.tr b5).tr d5⟩
    obtain ⟨i, hi, hy⟩ := hy
    by_cases ci : i = k
    · subst ci
      rcases hy with rfl | rfl
      · exact fun p1 p2 => d3 _ (b4 p1 p2)
      · exact d4
    · exact fun p1 p2 => d3 _ (b3 _ (a4 y ⟨i, by omega, hy⟩ p1 p2))
  · obtain ⟨z1, z2⟩ := z
    obtain ⟨rfl, hz⟩ := hz
    have V1 : VX S z2 b := hV.fr fun c k1 k2 => (by obtain ⟨n1, f1, _, _, _, _, _, a5⟩ := hz; exact a5.at (by omega))
    dsimp only at *
    simp (disch := omega) only [fX2_cutRegisters_b2, fX2_cutRegisters_j43, V1.1.2.1, zi_lit, zi_m, zi_m1, nI_add, zi_sub, zi_mul, zi_addm, zi_m_lt, zi_lt_m, zi_m_le, zi_le_m, zi_eq_m, zi_m_eq, nI_ltI, nI_leI, nI_eq, nI_clamp, zi_div, lt_eq, bm_s, bi_s, bl_s, bw_s, gd, if_pos, if_neg, ite_true, ite_false, or_false, false_or, and_true, true_and, not_true, not_false_iff, true_or, or_true, Nat.not_lt_zero]
    rw [wp_some]
    exact hz
theorem X2_cutParts (hfu : 200000 ≤ fu) (hc : cap ≤ 2000) (hE : EdS M e n f A) (hA : A ≤ 2000) (hn : n + 8 ≤ cap) (hV : VX S M b) (hG : Gd S) (hd : b + 9 ≤ e ∨ e + 2 ≤ b) : Wp (fX2_cutParts fu cap e b M) (fun M' => Cu M e n f A 8 (fun y => ∃ i, 1 ≤ i ∧ i ≤ 8 ∧ y = S 142 / 8 * i) M') := by
  unfold fX2_cutParts fX2_cutParts_l2
  have h1 := hG.1
  have g2 := hG.2.1 142
  refine lp_ho (fun k z => z.1 = nI (k + 1) ∧ Cu M e n f A k (fun y => ∃ i, 1 ≤ i ∧ i ≤ k ∧ y = S 142 / 8 * i) z.2) _ 8 (i := 0) (by omega) (by omega) ⟨rfl, n, f, hE, by omega, by omega, fun y h => h, fun y h => (by obtain ⟨i, hi, _⟩ := h; omega), Fr.rf _ _ _⟩ (fun k z hk hz rec hrec => ?_) (fun z hz rec => ?_)
  · obtain ⟨z1, z2⟩ := z
    obtain ⟨rfl, n1, f1, E1, a1, a2, a3, a4, a5⟩ := hz
    dsimp only at *
    have V1 : VX S z2 b := hV.fr fun c k1 k2 => a5.at (by omega)
    have g3 : S 142 / 8 * (k + 1) ≤ 128 * 8 := Nat.mul_le_mul (by omega) (by omega)
    simp (disch := omega) only [fX2_cutParts_b2, V1.1.2.2.2.2, zi_lit, zi_m, zi_m1, nI_add, zi_sub, zi_mul, zi_addm, zi_m_lt, zi_lt_m, zi_m_le, zi_le_m, zi_eq_m, zi_m_eq, nI_ltI, nI_leI, nI_eq, nI_clamp, zi_div, lt_eq, bm_s, bi_s, bl_s, bw_s, gd, if_pos, if_neg, ite_true, ite_false, or_false, false_or, and_true, true_and, not_true, not_false_iff, true_or, or_true, Nat.not_lt_zero]
    rw [wp_bm]
    refine (X2_cut hfu hc E1 hA (by omega) (by omega)).mono fun M2 q => ?_
    obtain ⟨n2, f2, E2, b1, b2, b3, b4, b5⟩ := q
    refine hrec _ ⟨rfl, n2, f2, E2, by omega, by omega, fun y hy => b3 _ (a3 _ hy), fun y hy => ?_, a5.tr b5⟩
    obtain ⟨i, hi, hi2, hy⟩ := hy
    by_cases ci : i = k + 1
    · subst ci
      subst hy
      exact b4
    · exact fun p1 p2 => b3 _ (a4 y ⟨i, by omega, by omega, hy⟩ p1 p2)
  · obtain ⟨z1, z2⟩ := z
    obtain ⟨rfl, hz⟩ := hz
    dsimp only at *
    simp (disch := omega) only [fX2_cutParts_b2, fX2_cutParts_j27, zi_lit, zi_m, zi_m1, nI_add, zi_sub, zi_mul, zi_addm, zi_m_lt, zi_lt_m, zi_m_le, zi_le_m, zi_eq_m, zi_m_eq, nI_ltI, nI_leI, nI_eq, nI_clamp, zi_div, lt_eq, bm_s, bi_s, bl_s, bw_s, gd, if_pos, if_neg, ite_true, ite_false, or_false, false_or, and_true, true_and, not_true, not_false_iff, true_or, or_true, Nat.not_lt_zero]
    rw [wp_some]
    exact hz
theorem X2_cutPages (hfu : 200000 ≤ fu) (hc : cap ≤ 2000) (hE : EdS M e n f A) (hA : A ≤ 2000) (hn : n + 63 ≤ cap) (hV : VX S M b) (hG : Gd S) (hd : b + 9 ≤ e ∨ e + 2 ≤ b) : Wp (fX2_cutPages fu cap e b M) (fun M' => Cu M e n f A 63 (fun y => ∃ i, 1 ≤ i ∧ i < 2 ^ S 140 / 16 ∧ y = i * 16) M') := by
  unfold fX2_cutPages fX2_cutPages_l2
  have h1 := hG.1
  have g2 := hG.ad
  refine lp_ho (fun k z => z.1 = nI (k + 1) ∧ Cu M e n f A k (fun y => ∃ i, 1 ≤ i ∧ i ≤ k ∧ y = i * 16) z.2) _ (2 ^ S 140 / 16 - 1) (i := 0) (by omega) (by omega) ⟨rfl, n, f, hE, by omega, by omega, fun y h => h, fun y h => (by obtain ⟨i, hi, _⟩ := h; omega), Fr.rf _ _ _⟩ (fun k z hk hz rec hrec => ?_) (fun z hz rec => ?_)
  · obtain ⟨z1, z2⟩ := z
    obtain ⟨rfl, n1, f1, E1, a1, a2, a3, a4, a5⟩ := hz
    dsimp only at *
    have V1 : VX S z2 b := hV.fr fun c k1 k2 => a5.at (by omega)
    simp (disch := omega) only [fX2_cutPages_b2, X8_pages V1 hG, zi_lit, zi_m, zi_m1, nI_add, zi_sub, zi_mul, zi_addm, zi_m_lt, zi_lt_m, zi_m_le, zi_le_m, zi_eq_m, zi_m_eq, nI_ltI, nI_leI, nI_eq, nI_clamp, zi_div, lt_eq, bm_s, bi_s, bl_s, bw_s, gd, if_pos, if_neg, ite_true, ite_false, or_false, false_or, and_true, true_and, not_true, not_false_iff, true_or, or_true, Nat.not_lt_zero]
    rw [wp_bm]
    refine (X2_cut hfu hc E1 hA (by omega) (by omega)).mono fun M2 q => ?_
    obtain ⟨n2, f2, E2, b1, b2, b3, b4, b5⟩ := q
    refine hrec _ ⟨rfl, n2, f2, E2, by omega, by omega, fun y hy => b3 _ (a3 _ hy), fun y hy => ?_, a5.tr b5⟩
    obtain ⟨i, hi, hi2, hy⟩ := hy
    by_cases ci : i = k + 1
    · subst ci
      subst hy
      exact b4
    · exact fun p1 p2 => b3 _ (a4 y ⟨i, by omega, by omega, hy⟩ p1 p2)
  · obtain ⟨z1, z2⟩ := z
    obtain ⟨rfl, n1, f1, E1, a1, a2, a3, a4, a5⟩ := hz
    have V1 : VX S z2 b := hV.fr fun c k1 k2 => a5.at (by omega)
    dsimp only at *
    simp (disch := omega) only [fX2_cutPages_b2, fX2_cutPages_j24, X8_pages V1 hG, zi_lit, zi_m, zi_m1, nI_add, zi_sub, zi_mul, zi_addm, zi_m_lt, zi_lt_m, zi_m_le, zi_le_m, zi_eq_m, zi_m_eq, nI_ltI, nI_leI, nI_eq, nI_clamp, zi_div, lt_eq, bm_s, bi_s, bl_s, bw_s, gd, if_pos, if_neg, ite_true, ite_false, or_false, false_or, and_true, true_and, not_true, not_false_iff, true_or, or_true, Nat.not_lt_zero]
    rw [wp_some]
    exact ⟨n1, f1, E1, a1, by omega, a3, fun y hy => a4 y (by obtain ⟨i, p1, p2, p3⟩ := hy; exact ⟨i, p1, by omega, p3⟩), a5⟩
end ED
