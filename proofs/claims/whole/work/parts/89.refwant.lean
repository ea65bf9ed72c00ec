/-! The reference's wants, its costs. -/
theorem up_ne {S : Sto} {k v j : Nat} (h : j ≠ k) : upS S k v j = S j := if_neg h
theorem up_eq {S : Sto} {k v : Nat} : upS S k v k = v := if_pos rfl
theorem Gd.up0 {S : Sto} (hG : Gd S) {d : Nat} (hd : d < 5) : Gd (upS S 0 d) := by
  obtain ⟨⟨a1, a2, a3, a4, a5, a6⟩, b, c1, c2, c3, c4, c5, c6⟩ := hG
  have e140 : upS S 0 d 140 = S 140 := up_ne (by omega)
  have e141 : upS S 0 d 141 = S 141 := up_ne (by omega)
  have e142 : upS S 0 d 142 = S 142 := up_ne (by omega)
  have e1 : upS S 0 d 1 = S 1 := up_ne (by omega)
  unfold Gd
  rw [e140, e141, e142, e1, up_eq]
  refine ⟨⟨a1, a2, a3, a4, hd, a6⟩, fun k => ?_, c1, fun i hi => ?_, fun r hr => ?_, fun r q hr hq hne h0 => ?_, fun h p hp => ?_, fun p hp => ?_⟩
  · by_cases c : k = 0
    · subst c; rw [up_eq]; omega
    · rw [up_ne c]; exact b k
  · rw [up_ne (by omega), up_ne (by omega), up_ne (by omega)]; exact c2 i hi
  · rw [up_ne (by omega), up_ne (by omega), up_ne (by omega)]; exact c3 r hr
  · rw [up_ne (by omega)] at h0
    rw [up_ne (by omega), up_ne (by omega), up_ne (by omega), up_ne (by omega)]; exact c4 r q hr hq hne h0
  · rw [up_ne (by omega)]; exact c5 h p hp
  · rw [up_ne (by omega)]; exact c6 p hp
theorem wtN_up0 {S : Sto} {d v x : Nat} : ∀ n, wtN (upS S 0 v) d x n = wtN S d x n
  | 0 => rfl
  | n + 1 => by
    unfold wtN
    rw [up_ne (by omega), up_ne (by omega), up_ne (by omega), wtN_up0 n]
theorem wtS_up0 {S : Sto} {d v x : Nat} : wtS (upS S 0 v) d x = wtS S d x := by
  unfold wtS
  rw [up_ne (by omega), wtN_up0]
/-- what the reference may spoil while it plans -/
def Sc (m : Nat) (M M' : Mm) : Prop := (∀ c, c ≠ m → (c < m + 8 ∨ m + 27 ≤ c) → M'.1 c = M.1 c) ∧ (∀ j, j ≠ 25 → j ≠ 32 → j ≠ 33 → j ≠ 39 → j ≠ 40 → j ≠ 41 → j ≠ 42 → M'.1 m j = M.1 m j) ∧ M'.2 = M.2
theorem Sc.rf (m : Nat) (M : Mm) : Sc m M M := ⟨fun _ _ _ => rfl, fun _ _ _ _ _ _ _ _ => rfl, rfl⟩
theorem Sc.tr {m : Nat} {M M' M'' : Mm} (h : Sc m M M') (h' : Sc m M' M'') : Sc m M M'' := ⟨fun c h1 h2 => (h'.1 c h1 h2).trans (h.1 c h1 h2), fun j a1 a2 a3 a4 a5 a6 a7 => (h'.2.1 j a1 a2 a3 a4 a5 a6 a7).trans (h.2.1 j a1 a2 a3 a4 a5 a6 a7), h'.2.2.trans h.2.2⟩
theorem Sc.o1 {m c0 : Nat} {M M' : Mm} (h : O1 c0 M M') (h1 : m + 8 ≤ c0) (h2 : c0 < m + 27) : Sc m M M' := ⟨fun c _ hc => h.1 c (by omega), fun j _ _ _ _ _ _ _ => by rw [h.1 m (by omega)], h.2⟩
theorem Sc.w {m : Nat} (M : Mm) {j : Nat} (v : Int32) (hj : j = 25 ∨ j = 32 ∨ j = 33 ∨ j = 39 ∨ j = 40 ∨ j = 41 ∨ j = 42) : Sc m M (wI M m j v) := ⟨fun c hc _ => wI_ne hc, fun k _ _ _ _ _ _ _ => wI_nk (by omega), rfl⟩
theorem VM.sc {S : Sto} {M M' : Mm} {m : Nat} (h : VM S M m) (g : Sc m M M') : VM S M' m := by
  unfold VM at h ⊢
  rw [g.2.1 5 (by omega) (by omega) (by omega) (by omega) (by omega) (by omega) (by omega), g.1 (m + 1) (by omega) (by omega), g.1 (m + 2) (by omega) (by omega), g.1 (m + 3) (by omega) (by omega), g.1 (m + 4) (by omega) (by omega)]
  exact h
section RW
variable {fu m d : Nat} {S : Sto} {M : Mm}
theorem VM.up0 (hV : VM S M m) (d : Nat) : VM (upS S 0 d) (wI M (m + 1) 0 (nI d)) m := by
  obtain ⟨⟨k, hk, e1, e2, e3, e4⟩, h⟩ := hV
  refine ⟨⟨k, hk, ?_, ?_, ?_, ?_⟩, fun j hj => ?_⟩
  · simp (disch := omega) only [wI_ne, wI_eq, wI_nk, wIs_ne, wIs_eq]; exact e1
  · rw [up_ne (by omega)]; simp (disch := omega) only [wI_ne, wI_eq, wI_nk, wIs_ne, wIs_eq]; exact e2
  · rw [up_ne (by omega)]; simp (disch := omega) only [wI_ne, wI_eq, wI_nk, wIs_ne, wIs_eq]; exact e3
  · rw [up_ne (by omega)]; simp (disch := omega) only [wI_ne, wI_eq, wI_nk, wIs_ne, wIs_eq]; exact e4
  · by_cases c : j = 0
    · subst c; rw [up_eq]; simp (disch := omega) only [wI_ne, wI_eq, wI_nk, wIs_ne, wIs_eq]
    · rw [up_ne c]; simp (disch := omega) only [wI_ne, wI_eq, wI_nk, wIs_ne, wIs_eq]; exact h j hj
theorem eW_wi {x : Nat} : eW (wi S d x) = if x < S 142 then nm2 else eW (wtS S d x) := by
  unfold wi
  by_cases c : x < S 142
  · rw [if_pos c, if_pos c]; rfl
  · rw [if_neg c, if_neg c]
theorem X11_layWants (hfu : 200000 ≤ fu) (hV : VM S M m) (hG : Gd S) (hd : d < 5) : Wp (fX11_layWants fu m (nI d) M) (fun M' => WV (wi S d) (S 140) M' m ∧ M'.1 m 25 = nI d ∧ (∀ c, c ≠ m → c ≠ m + 8 → M'.1 c = M.1 c) ∧ (∀ j, j ≠ 25 → M'.1 m j = M.1 m j) ∧ M'.2 = M.2) := by
  have hA := hG.ad
  have ht := hG.1.2.1
  have ht2 := pw1 (S 140)
  have hw := (wi_G hG hd).1
  have hF := hG.2.1 142
  have G' := hG.up0 hd
  have e0 : ix 0 = 0 := by decide +kernel
  have s140 : upS S 0 d 140 = S 140 := up_ne (by omega)
  have s142 : upS S 0 d 142 = S 142 := up_ne (by omega)
  unfold fX11_layWants
  rw [e0, hV.2 0 (by omega)]
  simp (disch := omega) only [lt_eq]
  generalize hM1 : wI (wI M (m + 1) 0 (nI d)) m 25 (nI d) = M1
  have V1 : VM (upS S 0 d) M1 m := by
    rw [← hM1]
    exact (hV.up0 d).sc (Sc.w _ _ (Or.inl rfl))
  have ad1 := X11_addresses (fu := fu) V1 G'
  rw [s140] at ad1
  rw [ad1, bi_s]
  have c25 : M1.1 m 25 = nI d := by rw [← hM1]; simp (disch := omega) only [wI_ne, wI_eq, wI_nk, wIs_ne, wIs_eq]
  have fr1 : ∀ c, c ≠ m → c ≠ m + 1 → M1.1 c = M.1 c := fun c h1 h2 => by rw [← hM1]; simp (disch := omega) only [wI_ne, wI_eq, wI_nk, wIs_ne, wIs_eq]
  have fr2 : ∀ j, j ≠ 25 → M1.1 m j = M.1 m j := fun j hj => by rw [← hM1]; simp (disch := omega) only [wI_ne, wI_eq, wI_nk, wIs_ne, wIs_eq]
  have fr3 : M1.2 = M.2 := by rw [← hM1]; rfl
  have fr4 : ∀ j, j ≠ 0 → M1.1 (m + 1) j = M.1 (m + 1) j := fun j hj => by rw [← hM1]; simp (disch := omega) only [wI_ne, wI_eq, wI_nk, wIs_ne, wIs_eq]
  clear hM1
  unfold fX11_layWants_l27
  refine lp_ho (fun i z => z.1 = nI i ∧ O1 (m + 8) M1 z.2 ∧ ∀ x, x < i → z.2.1 (m + 8) (2 ^ S 140 + x) = eW (wi S d x)) _ (2 ^ S 140) (i := 0) (by omega) (by omega) ⟨rfl, O1.rf _ _, fun x hx => absurd hx (by omega)⟩ (fun i z hi hz rec hrec => ?_) (fun z hz rec => ?_)
  · obtain ⟨z1, z2⟩ := z
    obtain ⟨rfl, g1, g2⟩ := hz
    dsimp only at *
    have Vz := V1.o1 g1 (by omega)
    have f1 := X11_isFixed (fu := fu) Vz G' (x := i) (by omega)
    have f2 := X11_wantedAt hfu Vz G' (x := i) (by omega)
    have hwt := wtS_lt hG hd i
    rw [up_eq, wtS_up0] at f2
    rw [s142] at f1
    simp (disch := omega) only [fX11_layWants_b27, fX11_layWants_j61, f1, f2, bI_0, zi_li, zi_m, zi_m1, nI_add, zi_sub, zi_mul, zi_addm, zi_m_lt, zi_lt_m, zi_m_le, zi_le_m, zi_eq_m, zi_m_eq, nI_ltI, nI_leI, nI_eq, nI_clamp, zi_div, lt_eq, bm_s, bi_s, bl_s, bw_s, gd, if_pos, if_neg, ite_true, ite_false, or_false, false_or, and_true, true_and, not_true, not_false_iff, true_or, or_true, Nat.not_lt_zero]
    have go : ∀ v, v = eW (wi S d i) → Wp (rec (nI (i + 1), wI z2 (m + 8) (2 ^ S 140 + i) v)) (fun M' => WV (wi S d) (S 140) M' m ∧ M'.1 m 25 = nI d ∧ (∀ c, c ≠ m → c ≠ m + 8 → M'.1 c = M.1 c) ∧ (∀ j, j ≠ 25 → M'.1 m j = M.1 m j) ∧ M'.2 = M.2) := fun v hv => by
      subst hv
      refine hrec _ ⟨rfl, g1.tr (O1.w _ _ _), fun x hx => ?_⟩
      by_cases c : x = i
      · subst c
        simp (disch := omega) only [wI_ne, wI_eq, wI_nk, wIs_ne, wIs_eq]
      · simp (disch := omega) only [wI_ne, wI_eq, wI_nk, wIs_ne, wIs_eq]
        exact g2 x (by omega)
    by_cases c : i < S 142
    · rw [if_neg (fun q => q c)]
      exact go _ (by rw [eW_wi, if_pos c]; rfl)
    · rw [if_pos c]
      refine go _ ?_
      rw [eW_wi, if_neg c]
      unfold eW
      rw [if_neg (by omega), if_neg (by omega)]
  · obtain ⟨z1, z2⟩ := z
    obtain ⟨rfl, g1, g2⟩ := hz
    dsimp only at *
    unfold fX11_layWants_b27 fX11_layWants_j68 fX11_layWants_l73
    simp (disch := omega) only [zi_li, zi_m, zi_m1, nI_add, zi_sub, zi_mul, zi_addm, zi_m_lt, zi_lt_m, zi_m_le, zi_le_m, zi_eq_m, zi_m_eq, nI_ltI, nI_leI, nI_eq, nI_clamp, zi_div, lt_eq, bm_s, bi_s, bl_s, bw_s, gd, if_pos, if_neg, ite_true, ite_false, or_false, false_or, and_true, true_and, not_true, not_false_iff, true_or, or_true, Nat.not_lt_zero]
    refine lp_ho (fun k y => y.1 = nI (2 ^ S 140 - 1 - k) ∧ O1 (m + 8) M1 y.2 ∧ ∀ e q, e ≤ S 140 → q < 2 ^ (S 140 - e) → 2 ^ S 140 - 1 - k < 2 ^ (S 140 - e) + q → y.2.1 (m + 8) (2 ^ (S 140 - e) + q) = eW (WC (wi S d) e q)) _ (2 ^ S 140 - 1) (i := 0) (by omega) (by omega) ⟨rfl, g1, fun e q h1 h2 h3 => ?_⟩ (fun k y hk hy rec2 hrec2 => ?_) (fun y hy rec2 => ?_)
    · have := nd_0 h1 h2
      have he : e = 0 := by omega
      subst he
      rw [Nat.sub_zero] at h2 ⊢
      exact g2 q h2
    · obtain ⟨y1, y2⟩ := y
      obtain ⟨rfl, u1, u2⟩ := hy
      dsimp only at *
      obtain ⟨e, q, he, hq, hn⟩ := nd_ex (S 140) (2 ^ S 140 - 1 - k) (by omega) (by omega)
      have he0 := nd_0 he hq
      obtain ⟨e, rfl⟩ : ∃ e1, e = e1 + 1 := ⟨e - 1, by omega⟩
      obtain ⟨k1, k2⟩ := nd_k he hq
      have hnz := pwp (S 140 - (e + 1))
      have w1 := u2 e (2 * q) (by omega) (by omega) (by omega)
      have w2 := u2 e (2 * q + 1) (by omega) (by omega) (by omega)
      have l1 := WC_lt hw e (2 * q)
      have l2 := WC_lt hw e (2 * q + 1)
      rw [hn] at u2 ⊢
      have i1 : 2 ^ (S 140 - e) + 2 * q = 2 * (2 ^ (S 140 - (e + 1)) + q) := by omega
      have i2 : 2 ^ (S 140 - e) + (2 * q + 1) = 2 * (2 ^ (S 140 - (e + 1)) + q) + 1 := by omega
      rw [i1] at w1
      rw [i2] at w2
      have go : ∀ v, v = eW (WC (wi S d) (e + 1) q) → Wp (fX11_layWants_j140 fu (fun x4 M => rec2 (x4, M)) m (nI (S 0)) (nI (2 ^ (S 140 - (e + 1)) + q)) (m + 8) (nI (2 ^ (S 140 - (e + 1)) + q)) v y2) (fun M' => WV (wi S d) (S 140) M' m ∧ M'.1 m 25 = nI d ∧ (∀ c, c ≠ m → c ≠ m + 8 → M'.1 c = M.1 c) ∧ (∀ j, j ≠ 25 → M'.1 m j = M.1 m j) ∧ M'.2 = M.2) := fun v hv => by
        subst hv
        simp (disch := omega) only [fX11_layWants_j140, zi_li, zi_m, zi_m1, nI_add, zi_sub, zi_mul, zi_addm, zi_m_lt, zi_lt_m, zi_m_le, zi_le_m, zi_eq_m, zi_m_eq, nI_ltI, nI_leI, nI_eq, nI_clamp, zi_div, lt_eq, bm_s, bi_s, bl_s, bw_s, gd, if_pos, if_neg, ite_true, ite_false, or_false, false_or, and_true, true_and, not_true, not_false_iff, true_or, or_true, Nat.not_lt_zero]
        refine hrec2 _ ⟨?_, u1.tr (O1.w _ _ _), fun e' q' h1 h2 h3 => ?_⟩
        · show nI (2 ^ (S 140 - (e + 1)) + q - 1) = _
          congr 1
          omega
        · by_cases c : 2 ^ (S 140 - e') + q' = 2 ^ (S 140 - (e + 1)) + q
          · obtain ⟨a1, a2⟩ := nd_in h2 hq c
            have : e' = e + 1 := by omega
            subst this
            subst a2
            simp (disch := omega) only [wI_ne, wI_eq, wI_nk, wIs_ne, wIs_eq]
          · simp (disch := omega) only [wI_ne, wI_eq, wI_nk, wIs_ne, wIs_eq]
            exact u2 e' q' h1 h2 (by omega)
      unfold fX11_layWants_b73 fX11_layWants_j134
      rw [show (-2 : Int32) = nm2 from rfl]
      simp (disch := omega) only [zi_li, zi_m, zi_m1, nI_add, zi_sub, zi_mul, zi_addm, zi_m_lt, zi_lt_m, zi_m_le, zi_le_m, zi_eq_m, zi_m_eq, nI_ltI, nI_leI, nI_eq, nI_clamp, zi_div, lt_eq, bm_s, bi_s, bl_s, bw_s, gd, if_pos, if_neg, ite_true, ite_false, or_false, false_or, and_true, true_and, not_true, not_false_iff, true_or, or_true, Nat.not_lt_zero, w1, w2]
      have wd : WC (wi S d) (e + 1) q = if WC (wi S d) e (2 * q) = 9 then WC (wi S d) e (2 * q + 1) else if WC (wi S d) e (2 * q + 1) = 9 then WC (wi S d) e (2 * q) else if WC (wi S d) e (2 * q) = WC (wi S d) e (2 * q + 1) then WC (wi S d) e (2 * q) else 8 := rfl
      have x1 := eW_9 (WC (wi S d) e (2 * q)) (by omega)
      have x2 := eW_9 (WC (wi S d) e (2 * q + 1)) (by omega)
      have x3 := eW_in (WC (wi S d) e (2 * q)) (by omega) (WC (wi S d) e (2 * q + 1)) (by omega)
      by_cases c1 : WC (wi S d) e (2 * q) = 9
      · rw [if_pos (x1.mpr c1)]
        exact go _ (by rw [wd, if_pos c1])
      rw [if_neg (fun q => c1 (x1.mp q))]
      by_cases c2 : WC (wi S d) e (2 * q + 1) = 9
      · rw [if_pos (x2.mpr c2)]
        exact go _ (by rw [wd, if_neg c1, if_pos c2])
      rw [if_neg (fun q => c2 (x2.mp q))]
      by_cases c3 : WC (wi S d) e (2 * q) = WC (wi S d) e (2 * q + 1)
      · rw [if_pos (x3.mpr c3)]
        exact go _ (by rw [wd, if_neg c1, if_neg c2, if_pos c3])
      · rw [if_neg (fun q => c3 (x3.mp q))]
        exact go _ (by rw [wd, if_neg c1, if_neg c2, if_neg c3]; rfl)
    · obtain ⟨y1, y2⟩ := y
      obtain ⟨rfl, u1, u2⟩ := hy
      dsimp only at *
      rw [Nat.sub_self]
      unfold fX11_layWants_b73 fX11_layWants_j147
      simp (disch := omega) only [zi_li, zi_m, zi_m1, nI_add, zi_sub, zi_mul, zi_addm, zi_m_lt, zi_lt_m, zi_m_le, zi_le_m, zi_eq_m, zi_m_eq, nI_ltI, nI_leI, nI_eq, nI_clamp, zi_div, lt_eq, bm_s, bi_s, bl_s, bw_s, gd, if_pos, if_neg, ite_true, ite_false, or_false, false_or, and_true, true_and, not_true, not_false_iff, true_or, or_true, Nat.not_lt_zero, nI_clamp]
      rw [wp_some]
      refine ⟨fun e q h1 h2 => ?_, ?_, fun c h1 h2 => ?_, fun j hj => ?_, u1.2.trans fr3⟩
      · have := pwp (S 140 - e)
        simp (disch := omega) only [wI_ne, wI_eq, wI_nk, wIs_ne, wIs_eq]
        exact u2 e q h1 h2 (by omega)
      · simp (disch := omega) only [wI_ne, wI_eq, wI_nk, wIs_ne, wIs_eq]
        rw [u1.1 m (by omega)]
        exact c25
      · by_cases c1 : c = m + 1
        · subst c1
          funext j
          by_cases c2 : j = 0
          · subst c2
            simp (disch := omega) only [wI_ne, wI_eq, wI_nk, wIs_ne, wIs_eq]
            exact (hV.2 0 (by omega)).symm
          · simp (disch := omega) only [wI_ne, wI_eq, wI_nk, wIs_ne, wIs_eq]
            rw [u1.1 (m + 1) (by omega)]
            exact fr4 j c2
        · simp (disch := omega) only [wI_ne, wI_eq, wI_nk, wIs_ne, wIs_eq]
          rw [u1.1 c h2]
          exact fr1 c h1 c1
      · simp (disch := omega) only [wI_ne, wI_eq, wI_nk, wIs_ne, wIs_eq]
        rw [u1.1 m (by omega)]
        exact fr2 j hj
/-- after a cost is asked for -/
def Cs (S : Sto) (d : Nat) (M : Mm) (m : Nat) : Prop := WV (wi S d) (S 140) M m ∧ M.1 m 25 = nI d ∧ FV (wi S d) d 5 (S 140) M m
theorem X11_costBy (hfu : 200000 ≤ fu) (hV : VM S M m) (hG : Gd S) (hd : d < 5) : Wp (fX11_costBy fu m (nI d) M) (fun z => z.1 = nI (cvS S d) ∧ Cs S d z.2 m ∧ Sc m M z.2) := by
  have hw := (wi_G hG hd).1
  unfold fX11_costBy
  rw [wp_bm]
  refine (X11_layWants hfu hV hG hd).mono fun M1 h1 => ?_
  obtain ⟨a1, a2, a3, a4, a5⟩ := h1
  have s1 : Sc m M M1 := ⟨fun c h1 h2 => a3 c h1 (by omega), fun j h1 _ _ _ _ _ _ => a4 j h1, a5⟩
  have V1 := hV.sc s1
  rw [wp_bm]
  refine (X11_layFewest (pk := 5) hfu V1 hG hw hd (by omega) a1 a2).mono fun M2 h2 => ?_
  obtain ⟨b1, b2⟩ := h2
  have e11 : ix 11 = 11 := by decide +kernel
  have := b1 (S 140) 0 5 (Nat.le_refl _) (by rw [Nat.sub_self]; decide) (by omega)
  rw [Nat.sub_self] at this
  rw [e11, wp_some]
  refine ⟨this, ⟨fun e q h1 h2 => ?_, ?_, b1⟩, s1.tr (Sc.o1 b2 (by omega) (by omega))⟩
  · rw [b2.1 (m + 8) (by omega)]
    exact a1 e q h1 h2
  · rw [b2.1 m (by omega)]
    exact a2
end RW
