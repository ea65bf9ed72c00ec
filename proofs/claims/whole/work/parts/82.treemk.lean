/-! The cut tree is made. -/
def TV (w : Nat → Nat) (t : Nat) (M : Mm) (r : Nat) : Prop := M.1 r 5 = nI (NN w t 0) ∧ ∀ k, k < NN w t 0 → Nd w M r (lo w t 0 k).1 (lo w t 0 k).2 k
theorem TV.fr {w : Nat → Nat} {t r : Nat} {M M' : Mm} (h : TV w t M r) (hf : ∀ c, r ≤ c → c ≤ r + 5 → M'.1 c = M.1 c) : TV w t M' r := by
  unfold TV Nd at h ⊢
  rw [hf r (by omega) (by omega), hf (r + 1) (by omega) (by omega), hf (r + 2) (by omega) (by omega), hf (r + 3) (by omega) (by omega), hf (r + 4) (by omega) (by omega), hf (r + 5) (by omega) (by omega)]
  exact h
theorem wi_lt {S : Sto} (hG : Gd S) {d : Nat} (hd : d < 5) (x : Nat) : wi S d x < 10 := by
  unfold wi
  have := wtS_lt hG hd x
  split <;> omega
theorem Al.wj {S : Sto} {n A i x d : Nat} {f : Nat → Nat} (h : Al n f i x) (hI : Inc n f) (hA : f (n - 1) = A) (hs : SpC S A n f) (hf : MemC A n f (S 142)) : wi S d x = wi S d (f i) := by
  have h1 := h.tl hI hA hf
  have h2 := h.wt hI hA hs d
  unfold wi
  by_cases c : x < S 142
  · rw [if_pos c, if_pos (h1.mp c)]
  · rw [if_neg c, if_neg (fun q => c (h1.mpr q)), h2]
section TM
variable {fu r b n d : Nat} {S : Sto} {M : Mm} {f : Nat → Nat}
theorem X9_joinAlike (hfu : 200000 ≤ fu) (hV : VX S M b) (hG : Gd S) (hE : EdS M (r + 6) n f (2 ^ S 140)) (hn : n ≤ 27) (hs : SpC S (2 ^ S 140) n f) (hf : MemC (2 ^ S 140) n f (S 142)) (h6 : M.1 r 6 = nI d) (hd5 : d < 5) (h7 : M.1 r 7 = nI (S 142)) (hd : b + 9 ≤ r ∨ r + 10 ≤ b) :
    Wp (fX9_joinAlike fu r b M) (fun M' => CV (wi S d) (2 ^ S 140) M' r ∧ (∀ c, c ≠ r → c ≠ r + 8 → c ≠ r + 9 → M'.1 c = M.1 c) ∧ (∀ j, j ≠ 11 → M'.1 r j = M.1 r j) ∧ M'.2 = M.2) := by
  obtain ⟨⟨ev1, ev2⟩, inc, n2, f0, fA⟩ := id hE
  have hA := hG.ad
  have hF := hG.2.1 142
  generalize hw : wi S d = w
  unfold fX9_joinAlike fX9_joinAlike_l7
  rw [lt_eq]
  refine lp_ho (fun k z => z.1 = nI k ∧ (z.2.1 r 11 = nI (smN (chD w) (f k)) ∧ ∀ x, x < f k → chD w x = 1 → z.2.1 (r + 8) (smN (chD w) x) = nI x ∧ z.2.1 (r + 9) (smN (chD w) x) = wE (w x)) ∧ (∀ c, c ≠ r → c ≠ r + 8 → c ≠ r + 9 → z.2.1 c = M.1 c) ∧ (∀ j, j ≠ 11 → z.2.1 r j = M.1 r j) ∧ z.2.2 = M.2) _ (n - 1) (i := 0) (by omega) (by omega) ⟨rfl, ⟨?_, fun x hx => ?_⟩, fun c h1 h2 h3 => ?_, fun j hj => ?_, rfl⟩ (fun k z hk hz rec hrec => ?_) (fun z hz rec => ?_)
  · rw [f0]
    simp (disch := omega) only [wI_ne, wI_eq, wI_nk, wIs_ne, wIs_eq]
    rfl
  · rw [f0] at hx
    exact absurd hx (Nat.not_lt_zero _)
  · simp (disch := omega) only [wI_ne, wI_eq, wI_nk, wIs_ne, wIs_eq]
  · simp (disch := omega) only [wI_ne, wI_eq, wI_nk, wIs_ne, wIs_eq]
  · obtain ⟨z1, z2⟩ := z
    obtain ⟨rfl, ⟨r1, r2⟩, g1, g2, g3⟩ := hz
    dsimp only at *
    have gc : z2.1 (r + 6) 1 = nI n := by rw [g1 (r + 6) (by omega) (by omega) (by omega)]; exact ev1
    have ge : ∀ i, i < n → z2.1 (r + 6 + 1) i = nI (f i) := fun i hi => by rw [g1 (r + 6 + 1) (by omega) (by omega) (by omega)]; exact ev2 i hi
    have z6 := g2 6 (by omega)
    have z7 := g2 7 (by omega)
    rw [h6] at z6
    rw [h7] at z7
    have Vz : VX S z2 b := hV.fr fun c k1 k2 => g1 c (by omega) (by omega) (by omega)
    have hlt := inc k (k + 1) (by omega) (by omega)
    have hle := hE.le (i := k) (by omega)
    have flat : ∀ x, f k ≤ x → x < f (k + 1) → w x = w (f k) := fun x h1 h2 => by rw [← hw]; exact Al.wj ⟨by omega, h1, h2⟩ inc fA hs hf
    have hz0 : ∀ x, f k < x → x < f (k + 1) → chD w x = 0 := fun x h1 h2 => by
      unfold chD
      rw [if_neg]
      rw [flat x (by omega) h2, flat (x - 1) (by omega) (by omega)]
      simp
      omega
    have hsum := smN_hd (g := chD w) hlt hz0
    have h26 : smN (chD w) (f k + 1) ≤ 26 := by rw [← hw]; exact ch_wi hG d _
    have h26' : smN (chD w) (f k + 1) = smN (chD w) (f k) + chD w (f k) := rfl
    have hwish : ∀ Q : Mm → Prop, Wp (fX9_joinAlike_j51 fu (fun x2 M => rec (x2, M)) r b (nI k) (nI (f k)) (wE (w (f k))) z2) Q → Wp (fX9_joinAlike_b7 fu (fun x2 M => rec (x2, M)) r b (nI k) z2) Q := fun Q h => by
      have hwk : w (f k) = if f k < S 142 then 9 else wtS S d (f k) := by rw [← hw]; rfl
      have hwl := wtS_lt hG hd5 (f k)
      simp (disch := omega) only [fX9_joinAlike_b7, gc, zi_li, zi_m, zi_m1, nI_add, zi_sub, zi_mul, zi_addm, zi_m_lt, zi_lt_m, zi_m_le, zi_le_m, zi_eq_m, zi_m_eq, nI_ltI, nI_leI, nI_eq, nI_clamp, zi_div, lt_eq, bm_s, bi_s, bl_s, bw_s, gd, if_pos, if_neg, ite_true, ite_false, or_false, false_or, and_true, true_and, not_true, not_false_iff, true_or, or_true, Nat.not_lt_zero, ge k, z7, z6, X8_wantedAt hfu Vz hG (x := f k) (d := d)]
      by_cases c : f k < S 142
      · rw [if_neg (by omega)]
        rw [hwk, if_pos c] at h
        exact h
      · rw [if_pos (by omega)]
        rw [hwk, if_neg c] at h
        unfold wE at h
        rw [if_neg (by omega)] at h
        exact h
    refine hwish _ ?_
    have push : chD w (f k) = 1 → Wp (fX9_joinAlike_j76 fu (fun x2 M => rec (x2, M)) r b (nI k) (nI (f k)) (wE (w (f k))) z2) (fun M' => CV w (2 ^ S 140) M' r ∧ (∀ c, c ≠ r → c ≠ r + 8 → c ≠ r + 9 → M'.1 c = M.1 c) ∧ (∀ j, j ≠ 11 → M'.1 r j = M.1 r j) ∧ M'.2 = M.2) := fun h1 => by
      simp (disch := omega) only [fX9_joinAlike_j76, fX9_joinAlike_j107, r1, zi_li, zi_m, zi_m1, nI_add, zi_sub, zi_mul, zi_addm, zi_m_lt, zi_lt_m, zi_m_le, zi_le_m, zi_eq_m, zi_m_eq, nI_ltI, nI_leI, nI_eq, nI_clamp, zi_div, lt_eq, bm_s, bi_s, bl_s, bw_s, gd, if_pos, if_neg, ite_true, ite_false, or_false, false_or, and_true, true_and, not_true, not_false_iff, true_or, or_true, Nat.not_lt_zero, wI_ne, wI_eq, wI_nk, wIs_ne, wIs_eq]
      refine hrec _ ⟨rfl, ⟨?_, fun x hx hx1 => ?_⟩, fun c q1 q2 q3 => ?_, fun j hj => ?_, g3⟩
      · simp (disch := omega) only [wI_ne, wI_eq, wI_nk, wIs_ne, wIs_eq]
        rw [hsum, h1]
      · dsimp only
        by_cases c : x < f k
        · have := smN_lt (g := chD w) c (by omega)
          simp (disch := omega) only [wI_ne, wI_eq, wI_nk, wIs_ne, wIs_eq]
          exact r2 x c hx1
        · by_cases c2 : x = f k
          · subst c2
            simp (disch := omega) only [wI_ne, wI_eq, wI_nk, wIs_ne, wIs_eq]
            exact ⟨trivial, trivial⟩
          · have := hz0 x (by omega) hx; omega
      · simp (disch := omega) only [wI_ne, wI_eq, wI_nk, wIs_ne, wIs_eq]
        exact g1 c q1 q2 q3
      · simp (disch := omega) only [wI_ne, wI_eq, wI_nk, wIs_ne, wIs_eq]
        exact g2 j hj
    unfold fX9_joinAlike_j51
    rw [r1]
    by_cases c0 : k = 0
    · subst c0
      have hz : nI (smN (chD w) (f 0)) = 0 := by rw [f0]; exact nI_0
      rw [if_pos hz]
      exact push (by rw [f0]; rfl)
    · have h1 := inc (k - 1) k (by omega) (by omega)
      obtain ⟨y, y1, y2, y3, y4⟩ := ci_at w (f k - 1)
      have y5 := ci_p w (f k - 1)
      rw [Nat.sub_add_cancel (by omega)] at y5
      have y6 := (r2 y (by omega) y2).2
      have y7 : smN (chD w) (f k) - 1 = smN (chD w) y := by omega
      have lw1 : w (f k) < 10 := by rw [← hw]; exact wi_lt hG hd5 _
      have lw2 : w y < 10 := by rw [← hw]; exact wi_lt hG hd5 _
      simp (disch := omega) only [zi_li, zi_m, zi_m1, nI_add, zi_sub, zi_mul, zi_addm, zi_m_lt, zi_lt_m, zi_m_le, zi_le_m, zi_eq_m, zi_m_eq, nI_ltI, nI_leI, nI_eq, nI_clamp, zi_div, lt_eq, bm_s, bi_s, bl_s, bw_s, gd, if_pos, if_neg, ite_true, ite_false, or_false, false_or, and_true, true_and, not_true, not_false_iff, true_or, or_true, Nat.not_lt_zero, y7, y6, wE_inj]
      by_cases c1 : w y = w (f k)
      · rw [if_pos c1]
        have h0 : chD w (f k) = 0 := by
          unfold chD
          rw [if_neg]
          rw [← y4, c1]
          simp
          omega
        simp (disch := omega) only [fX9_joinAlike_j107, zi_li, zi_m, zi_m1, nI_add, zi_sub, zi_mul, zi_addm, zi_m_lt, zi_lt_m, zi_m_le, zi_le_m, zi_eq_m, zi_m_eq, nI_ltI, nI_leI, nI_eq, nI_clamp, zi_div, lt_eq, bm_s, bi_s, bl_s, bw_s, gd]
        refine hrec _ ⟨rfl, ⟨?_, fun x hx hx1 => ?_⟩, g1, g2, g3⟩
        · rw [hsum, h0]; exact r1
        · by_cases c : x < f k
          · exact r2 x c hx1
          · by_cases c2 : x = f k
            · subst c2; omega
            · have := hz0 x (by omega) hx; omega
      · rw [if_neg c1]
        refine push ?_
        unfold chD
        rw [if_pos (Or.inr (by rw [← y4]; exact fun q => c1 q.symm))]
  · obtain ⟨z1, z2⟩ := z
    obtain ⟨rfl, ⟨r1, r2⟩, g1, g2, g3⟩ := hz
    dsimp only at *
    have gc : z2.1 (r + 6) 1 = nI n := by rw [g1 (r + 6) (by omega) (by omega) (by omega)]; exact ev1
    have Vz : VX S z2 b := hV.fr fun c k1 k2 => g1 c (by omega) (by omega) (by omega)
    have h26 : smN (chD w) (2 ^ S 140) ≤ 26 := by rw [← hw]; exact ch_wi hG d _
    rw [fA] at r1 r2
    simp (disch := omega) only [fX9_joinAlike_b7, fX9_joinAlike_j113, gc, zi_li, zi_m, zi_m1, nI_add, zi_sub, zi_mul, zi_addm, zi_m_lt, zi_lt_m, zi_m_le, zi_le_m, zi_eq_m, zi_m_eq, nI_ltI, nI_leI, nI_eq, nI_clamp, zi_div, lt_eq, bm_s, bi_s, bl_s, bw_s, gd, if_pos, if_neg, ite_true, ite_false, or_false, false_or, and_true, true_and, not_true, not_false_iff, true_or, or_true, Nat.not_lt_zero, r1, Vz.1.1]
    rw [wp_some]
    refine ⟨⟨?_, fun x hx hx1 => ?_, ?_⟩, fun c q1 q2 q3 => ?_, fun j hj => ?_, g3⟩
    · simp (disch := omega) only [wI_ne, wI_eq, wI_nk, wIs_ne, wIs_eq]
      exact r1
    · have := smN_lt (g := chD w) hx (by omega)
      simp (disch := omega) only [wI_ne, wI_eq, wI_nk, wIs_ne, wIs_eq]
      exact r2 x hx hx1
    · simp (disch := omega) only [wI_ne, wI_eq, wI_nk, wIs_ne, wIs_eq]
    · simp (disch := omega) only [wI_ne, wI_eq, wI_nk, wIs_ne, wIs_eq]
      exact g1 c q1 q2 q3
    · simp (disch := omega) only [wI_ne, wI_eq, wI_nk, wIs_ne, wIs_eq]
      exact g2 j hj
theorem X9_make (hfu : 200000 ≤ fu) (hV : VX S M b) (hG : Gd S) (hd5 : d < 5) (hd : b + 9 ≤ r ∨ r + 10 ≤ b) : Wp (fX9_make fu r b (nI d) M) (fun M' => TV (wi S d) (S 140) M' r ∧ M'.1 r 6 = nI d ∧ M'.1 r 7 = nI (S 142) ∧ Fr r 10 M M') := by
  have hA := hG.ad
  have hG1 := hG.1
  have hF := hG.2.1 142
  unfold fX9_make
  simp (disch := omega) only [lt_eq, wI_ne, wI_eq, wI_nk, wIs_ne, wIs_eq, hV.1.2.2.2.2, hV.1.1]
  generalize hM0 : wI (wI M r 6 (nI d)) r 7 (nI (S 142)) = M0
  have F0 : Fr r 10 M M0 := by rw [← hM0]; exact (Fr.w1 _ _ _ _ (by omega) (by omega)).tr (Fr.w1 _ _ _ _ (by omega) (by omega))
  have m6 : M0.1 r 6 = nI d := by rw [← hM0]; simp (disch := omega) only [wI_ne, wI_eq, wI_nk, wIs_ne, wIs_eq]
  have m7 : M0.1 r 7 = nI (S 142) := by rw [← hM0]; simp (disch := omega) only [wI_ne, wI_eq, wI_nk, wIs_ne, wIs_eq]
  have V0 : VX S M0 b := hV.fr fun c k1 k2 => F0.at (by omega)
  rw [wp_bm]
  refine (X2_begin (by omega) (by omega)).mono fun M1 q => ?_
  obtain ⟨E1, F1⟩ := q
  have V1 : VX S M1 b := V0.fr fun c k1 k2 => F1.at (by omega)
  rw [wp_bm]
  refine (X2_cutSpans hfu (by omega) E1 (by omega) (by omega) V1 hG (by omega)).mono fun M2 q => ?_
  obtain ⟨n2, f2, E2, _, a2, a3, a4, F2⟩ := q
  have V2 : VX S M2 b := V1.fr fun c k1 k2 => F2.at (by omega)
  have m27 : M2.1 r 7 = nI (S 142) := by rw [F2.at (by omega), F1.at (by omega)]; exact m7
  rw [m27, wp_bm]
  refine (X2_cut hfu (by omega) E2 (by omega) (by omega) (by omega)).mono fun M3 q => ?_
  obtain ⟨n3, f3, E3, _, b2, b3, b4, F3⟩ := q
  have V3 : VX S M3 b := V2.fr fun c k1 k2 => F3.at (by omega)
  have m37 : M3.1 r 7 = nI (S 142) := by rw [F3.at (by omega)]; exact m27
  have m36 : M3.1 r 6 = nI d := by rw [F3.at (by omega), F2.at (by omega), F1.at (by omega)]; exact m6
  rw [wp_bm]
  refine (X9_joinAlike hfu V3 hG E3 (by omega) (fun i hi => ⟨(a4 _ ⟨i, hi, Or.inl rfl⟩).mo b3, (a4 _ ⟨i, hi, Or.inr rfl⟩).mo b3⟩) b4 m36 hd5 m37 hd).mono fun M4 q => ?_
  obtain ⟨c1, c2, c3, c4⟩ := q
  have V4 : VX S M4 b := V3.fr fun c k1 k2 => c2 c (by omega) (by omega) (by omega)
  have F4 : Fr r 10 M M4 := (((F0.tr (F1.wd (by omega) (by omega))).tr (F2.wd (by omega) (by omega))).tr (F3.wd (by omega) (by omega))).tr (fun c hc => ⟨c2 c (by omega) (by omega) (by omega), by rw [c4], by rw [c4]⟩)
  simp (disch := omega) only [lt_eq, wI_ne, wI_eq, wI_nk, wIs_ne, wIs_eq, V4.1.1]
  generalize hM5 : wI (wI M4 r 5 0) r 12 0 = M5
  have g5 : Gf r 0 M4 M5 := by rw [← hM5]; exact (Gf.w0 _ _ (Or.inl rfl)).tr (Gf.w0 _ _ (Or.inr rfl)) (Nat.le_refl _)
  have h28 := ch_wi hG d (2 ^ S 140)
  have hNN := NN_wi hG d
  have gr := X9_grow (fu := fu) (r := r) (A := 2 ^ S 140) (w := wi S d) hfu (by omega) (by omega) (S 140) 0 16 0 0 0 M5 (by omega) (c1.fr g5) (by omega) (by rw [← hM5]; simp (disch := omega) only [wI_ne, wI_eq, wI_nk, wIs_ne, wIs_eq]; rfl) (by rw [← hM5]; simp (disch := omega) only [wI_ne, wI_eq, wI_nk, wIs_ne, wIs_eq]; rfl) (by omega) (by omega) (by omega)
  rw [Nat.zero_mul] at gr
  rw [wp_bw]
  refine gr.mono fun z hz => ?_
  obtain ⟨_, z5, _, zN, zG⟩ := hz
  rw [wp_some]
  have G := g5.tr zG (Nat.le_refl _)
  rw [Nat.zero_add] at z5
  refine ⟨⟨z5, fun k hk => ?_⟩, ?_, ?_, F4.tr (fun c hc => ⟨G.1 c (by omega), by rw [G.2.2.2], by rw [G.2.2.2]⟩)⟩
  · have := zN k hk
    rw [Nat.zero_add] at this
    exact this
  · rw [G.2.1 6 (by omega) (by omega), c3 6 (by omega)]
    exact m36
  · rw [G.2.1 7 (by omega) (by omega), c3 7 (by omega)]
    exact m37
end TM
