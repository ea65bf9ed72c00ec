/-! mend, tidy. -/
theorem wtN_cg {S T : Sto} (d x : Nat) : ∀ n, (∀ j, 2 ≤ j → j < 2 + 3 * n → T j = S j) → wtN T d x n = wtN S d x n
  | 0, _ => rfl
  | n + 1, h => by
    unfold wtN
    rw [wtN_cg d x n (fun j h1 h2 => h j h1 (by omega)), h (2 + 3 * n) (by omega) (by omega), h (3 + 3 * n) (by omega) (by omega), h (4 + 3 * n) (by omega) (by omega)]
theorem ksN_cg {S T : Sto} (x but : Nat) : ∀ n, (∀ j, 38 ≤ j → j < 38 + 3 * n → T j = S j) → ksN T x but n = ksN S x but n
  | 0, _ => rfl
  | n + 1, h => by
    unfold ksN
    rw [ksN_cg x but n (fun j h1 h2 => h j h1 (by omega)), h (38 + 3 * n) (by omega) (by omega), h (39 + 3 * n) (by omega) (by omega), h (40 + 3 * n) (by omega) (by omega)]
theorem wtS_cg {S T : Sto} (hG : Gd S) (h : ∀ j, j < 38 → T j = S j) (d x : Nat) : wtS T d x = wtS S d x := by
  have h12 := hG.1.2.2.2.2.2
  unfold wtS
  rw [h 1 (by omega)]
  exact wtN_cg d x _ (fun j _ h2 => h j (by omega))
theorem wS_cg {S T : Sto} (hG : Gd S) (h : ∀ j, j < 38 → T j = S j) (x : Nat) : wS T x = wS S x := by
  unfold wS
  rw [h 0 (by omega)]
  exact wtS_cg hG h _ x
theorem kdS_cg {S T : Sto} (hG : Gd S) (h : ∀ j, (j < 76 ∨ 140 ≤ j) → T j = S j) (x but : Nat) : kdS T x but = kdS S x but := by
  have h10 := hG.1.2.2.2.1
  have hk : ksS T x but = ksS S x but := by
    unfold ksS
    rw [h 141 (by omega)]
    exact ksN_cg x but _ (fun j _ h2 => h j (by omega))
  unfold kdS
  rw [h 142 (by omega), h 0 (by omega), hk]
  by_cases c : x < S 142
  · have := fx8 hG c
    rw [if_pos c, if_pos c, h _ (by omega)]
  · rw [if_neg c, if_neg c]
theorem mdS_cg {S T : Sto} (hG : Gd S) (h : ∀ j, (j < 76 ∨ 140 ≤ j) → T j = S j) (p : Nat) : mdS T p = mdS S p := by
  have hb : ∀ pk, bdS T pk = bdS S pk := fun pk => by
    funext x
    unfold bdS
    rw [h 142 (by omega), kdS_cg hG h, wS_cg hG (fun j hj => h j (by omega))]
  unfold mdS okS
  simp only [hb]
theorem mdS_c (S : Sto) (p : Nat) : mdS S p = mI ∨ ∃ k, k ≤ 5 ∧ mdS S p = nI k := by
  unfold mdS trN
  split
  · exact Or.inr ⟨5, by omega, rfl⟩
  split
  · exact Or.inr ⟨0, by omega, rfl⟩
  split
  · exact Or.inr ⟨1, by omega, rfl⟩
  split
  · exact Or.inr ⟨2, by omega, rfl⟩
  split
  · exact Or.inr ⟨3, by omega, rfl⟩
  split
  · exact Or.inr ⟨4, by omega, rfl⟩
  · exact Or.inl rfl
def mnR (S : Sto) : Nat → Sto × Nat
  | 0 => (S, 0)
  | i + 1 => if mdS S i = mI ∨ mdS S i = nI (S (76 + i)) then mnR S i else (upS (mnR S i).1 (76 + i) (ix (mdS S i)), (mnR S i).2 + 1)
theorem mnR_y {S : Sto} {i : Nat} (h : mdS S i = mI ∨ mdS S i = nI (S (76 + i))) : mnR S (i + 1) = mnR S i := if_pos h
theorem mnR_n {S : Sto} {i : Nat} (h : ¬ (mdS S i = mI ∨ mdS S i = nI (S (76 + i)))) : mnR S (i + 1) = (upS (mnR S i).1 (76 + i) (ix (mdS S i)), (mnR S i).2 + 1) := if_neg h
theorem mnR_e (S : Sto) : ∀ i j, (j < 76 ∨ 76 + i ≤ j) → (mnR S i).1 j = S j
  | 0, _, _ => rfl
  | i + 1, j, h => by
    by_cases c : mdS S i = mI ∨ mdS S i = nI (S (76 + i))
    · rw [mnR_y c]
      exact mnR_e S i j (by omega)
    · rw [mnR_n c]
      show upS (mnR S i).1 (76 + i) _ j = S j
      rw [upS_n (by omega)]
      exact mnR_e S i j (by omega)
theorem mnR_le (S : Sto) : ∀ i, (mnR S i).2 ≤ i
  | 0 => Nat.le_refl _
  | i + 1 => by
    have := mnR_le S i
    by_cases c : mdS S i = mI ∨ mdS S i = nI (S (76 + i))
    · rw [mnR_y c]
      omega
    · rw [mnR_n c]
      show (mnR S i).2 + 1 ≤ i + 1
      omega
theorem mnR_g (S : Sto) {i : Nat} (hi : i ≤ 64) : Gm S (mnR S i).1 := ⟨mnR_e S i _ (by omega), mnR_e S i _ (by omega), mnR_e S i _ (by omega)⟩
theorem Gd.mn {S : Sto} (hG : Gd S) : ∀ i, i ≤ 64 → Gd (mnR S i).1
  | 0, _ => hG
  | i + 1, h => by
    have ih := Gd.mn hG i (by omega)
    by_cases c : mdS S i = mI ∨ mdS S i = nI (S (76 + i))
    · rw [mnR_y c]
      exact ih
    · rw [mnR_n c]
      rcases mdS_c S i with d | ⟨k, hk, d⟩
      · exact absurd (Or.inl d) c
      · rw [d, ix_n (by omega)]
        exact ih.up76 (by omega) hk
section MN
variable {fu a b m k u n : Nat} {S : Sto} {M M1 : Mm} {Hs : Nat → Sto} {f : Nat → Nat}
theorem X10_mend (hfu : 200000 ≤ fu) (hG : Gd S) (e : fX10_piecesNow fu a M = some M1) (hV : VX S M1 (a + 12)) (hP : PV S M1 (a + 198) n f) (hH : HX Hs k u M1 (a + 21)) : Wp (fX10_mend fu a M) (XK a Hs k M1 (mnR S (2 ^ S 140 / 16)).1 (nI (mnR S (2 ^ S 140 / 16)).2)) := by
  have h10 := hG.1.2.2.2.1
  have h12 := hG.1.2.2.2.2.2
  have hA := hG.ad
  unfold fX10_mend
  rw [e, bm_s]
  unfold fX10_mend_l9
  refine lp_ho (fun i z => z.1 = nI (mnR S i).2 ∧ z.2.1 = nI i ∧ VX (mnR S i).1 z.2.2 (a + 12) ∧ Fr (a + 12) 9 M1 z.2.2) _ (2 ^ S 140 / 16) (i := 0) (by omega) (by omega) ⟨rfl, rfl, show VX (mnR S 0).1 M1 (a + 12) from hV, Fr.rf _ _ _⟩ (fun i z hi hz rec hrec => ?_) (fun z hz rec => ?_)
  · obtain ⟨z0, z1, z2⟩ := z
    obtain ⟨rfl, rfl, g1, g2⟩ := hz
    dsimp only at *
    have g := mnR_g S (i := i) (by omega)
    have eb : z2.1 (a + 12) 0 = nI (2 ^ S 140) := by rw [g1.1.1, g.1]
    have ep : fX8_pages fu (a + 12) z2 = some (nI (2 ^ S 140 / 16)) := by
      simp (disch := omega) only [fX8_pages, eb, zi_lit, zi_m, zi_m1, nI_add, zi_sub, zi_mul, zi_addm, zi_m_lt, zi_lt_m, zi_m_le, zi_le_m, zi_eq_m, zi_m_eq, nI_ltI, nI_leI, nI_eq, nI_clamp, zi_div, lt_eq, bm_s, bi_s, bl_s, bw_s, gd]
    have hPz : PV S z2 (a + 198) n f := hP.fr fun c k1 k2 _ => g2.at (by omega)
    have e8 : z2.1 (a + 12 + 8) i = nI (S (76 + i)) := by
      have := g1.2.2.2.2 i (by rw [g.1]; exact hi)
      rw [mnR_e S i _ (by omega)] at this
      exact this
    have h76 := hG.2.1 (76 + i)
    unfold fX10_mend_b9 fX10_mend_j61
    rw [ep, bi_s, if_neg (nI_ge hi (by omega)), X5_mendingKind hfu hPz hG hi, bi_s, if_neg (nI_in (by omega) (by omega)), ix_n (by omega), e8, lt_eq, nI_1]
    by_cases c1 : mdS S i = mI
    · rw [if_pos (show mdS S i = (-1 : Int32) from c1)]
      exact hrec _ ⟨by rw [mnR_y (Or.inl c1)], rfl, by rw [mnR_y (Or.inl c1)]; exact g1, g2⟩
    · rw [if_neg (show ¬ mdS S i = (-1 : Int32) from c1)]
      by_cases c2 : mdS S i = nI (S (76 + i))
      · rw [if_pos c2]
        exact hrec _ ⟨by rw [mnR_y (Or.inr c2)], rfl, by rw [mnR_y (Or.inr c2)]; exact g1, g2⟩
      · rw [if_neg c2, lt_eq, lt_eq, lt_eq, nI_1]
        rcases mdS_c S i with d | ⟨v, hv, d⟩
        · exact absurd d c1
        · refine hrec _ ⟨by rw [mnR_n (fun z => z.elim c1 c2)], rfl, ?_, g2.tr (Fr.w1 _ _ _ _ (by omega) (by omega))⟩
          rw [mnR_n (fun z => z.elim c1 c2), d, ix_n (by omega)]
          exact g1.up76 (by rw [g.2.1]; exact h10) (by rw [mnR_e S i _ (by omega)]; exact h12) v (by omega)
  · obtain ⟨z0, z1, z2⟩ := z
    obtain ⟨rfl, rfl, g1, g2⟩ := hz
    dsimp only at *
    have g := mnR_g S (i := 2 ^ S 140 / 16) (by omega)
    have eb : z2.1 (a + 12) 0 = nI (2 ^ S 140) := by rw [g1.1.1, g.1]
    have ep : fX8_pages fu (a + 12) z2 = some (nI (2 ^ S 140 / 16)) := by
      simp (disch := omega) only [fX8_pages, eb, zi_lit, zi_m, zi_m1, nI_add, zi_sub, zi_mul, zi_addm, zi_m_lt, zi_lt_m, zi_m_le, zi_le_m, zi_eq_m, zi_m_eq, nI_ltI, nI_leI, nI_eq, nI_clamp, zi_div, lt_eq, bm_s, bi_s, bl_s, bw_s, gd]
    unfold fX10_mend_b9 fX10_mend_j67
    rw [ep, bi_s, if_pos (Int32.le_refl _), wp_bm]
    refine (X10_kindsDone g1 (hG.mn _ (by omega)) (hH.pre g2)).mono fun M3 p => ?_
    obtain ⟨p1, p2, p3⟩ := p
    rw [wp_some]
    exact ⟨rfl, p1, p2, p3.pre g2⟩
theorem X11_mend (hfu : 200000 ≤ fu) (hV : VM S M m) (hG : Gd S) (hH : HM Hs k u M m) (hk : Hs k = S) : Wp (fX11_mend fu m M) (RA m Hs k M (mnR S (2 ^ S 140 / 16)).1 (nI (mnR S (2 ^ S 140 / 16)).2)) := by
  have hA := hG.ad
  unfold fX11_mend
  rw [wp_bm]
  refine (X11_keepAct hfu hH (hV.hk hk)).mono fun M1 q => ?_
  have V1 := hV.ka q.2
  unfold fX11_mend_l8
  refine lp_ho (fun i z => z.1 = nI (mnR S i).2 ∧ z.2.1 = nI i ∧ (∀ j, j < 140 → z.2.2.1 (m + 1) j = nI ((mnR S i).1 j)) ∧ O1 (m + 1) M1 z.2.2) _ (2 ^ S 140 / 16) (i := 0) (by omega) (by omega) ⟨rfl, rfl, V1.2, ⟨fun _ _ => rfl, rfl⟩⟩ (fun i z hi hz rec hrec => ?_) (fun z hz rec => ?_)
  · obtain ⟨z0, z1, z2⟩ := z
    obtain ⟨rfl, rfl, g1, g2⟩ := hz
    dsimp only at *
    have g := mnR_g S (i := i) (by omega)
    have Gz := hG.mn i (by omega)
    have Vz : VM (mnR S i).1 z2 m := V1.o g g2 g1
    have ep : fX11_pages fu m z2 = some (nI (2 ^ S 140 / 16)) := by
      have := X11_pages (fu := fu) Vz Gz
      rw [g.1] at this
      exact this
    have em : fX11_mendable fu m (nI i) z2 = some (mdS S i) := by
      rw [X11_mendable hfu Vz Gz (page := i) (by rw [g.1]; exact hi)]
      congr 1
      exact mdS_cg hG (fun j hj => mnR_e S i j (by omega)) i
    have e76 : (76 : Int32) + nI i = nI (76 + i) := nI_add 76 i
    have e8 : z2.1 (m + 1) (76 + i) = nI (S (76 + i)) := by
      rw [g1 _ (by omega), mnR_e S i _ (by omega)]
    have h76 := hG.2.1 (76 + i)
    unfold fX11_mend_b8 fX11_mend_j55
    rw [ep, bi_s, if_neg (nI_ge hi (by omega)), em, bi_s, e76, if_neg (nI_in (by omega) (by omega)), ix_n (by omega), e8, lt_eq, nI_1]
    rcases mdS_c S i with d | ⟨v, hv, d⟩
    · rw [if_pos (show mdS S i < 0 by rw [d]; decide)]
      exact hrec _ ⟨by rw [mnR_y (Or.inl d)], rfl, by rw [mnR_y (Or.inl d)]; exact g1, g2⟩
    · have c1 : ¬ mdS S i = mI := fun z => by
        rw [d, zi_eq_m (by omega)] at z
        exact z
      rw [if_neg (show ¬ mdS S i < 0 by rw [d]; exact nI_pos (by omega))]
      by_cases c2 : nI (S (76 + i)) = mdS S i
      · rw [if_pos c2]
        exact hrec _ ⟨by rw [mnR_y (Or.inr c2.symm)], rfl, by rw [mnR_y (Or.inr c2.symm)]; exact g1, g2⟩
      · have c3 : ¬ (mdS S i = mI ∨ mdS S i = nI (S (76 + i))) := fun z => z.elim c1 (fun z => c2 z.symm)
        rw [if_neg c2, lt_eq, lt_eq, lt_eq, nI_1]
        refine hrec _ ⟨by rw [mnR_n c3], rfl, fun j hj => ?_, ⟨fun c hc => ?_, g2.2⟩⟩
        · rw [mnR_n c3, d, ix_n (by omega)]
          show _ = nI (upS (mnR S i).1 (76 + i) v j)
          by_cases c : j = 76 + i
          · subst c
            rw [upS_y, wI_eq]
          · rw [upS_n c, wI_nk c]
            exact g1 j hj
        · rw [wI_ne hc]
          exact g2.1 c hc
  · obtain ⟨z0, z1, z2⟩ := z
    obtain ⟨rfl, rfl, g1, g2⟩ := hz
    dsimp only at *
    have g := mnR_g S (i := 2 ^ S 140 / 16) (by omega)
    have Gz := hG.mn (2 ^ S 140 / 16) (by omega)
    have Vz : VM (mnR S (2 ^ S 140 / 16)).1 z2 m := V1.o g g2 g1
    have ep : fX11_pages fu m z2 = some (nI (2 ^ S 140 / 16)) := by
      have := X11_pages (fu := fu) Vz Gz
      rw [g.1] at this
      exact this
    unfold fX11_mend_b8 fX11_mend_j61
    rw [ep, bi_s, if_pos (Int32.le_refl _), wp_some]
    exact RA_of hV g q g2 g1
end MN
-- tidy
def tdR (S : Sto) : Nat → Sto
  | 0 => upS S 1 0
  | i + 1 => if wS S (ruS S i) = S 0 then tdR S i else adS (tdR S i) (ruS S i) (ruS S (i + 1) - 1) (wS S (ruS S i))
theorem tdR_y {S : Sto} {i : Nat} (h : wS S (ruS S i) = S 0) : tdR S (i + 1) = tdR S i := if_pos h
theorem tdR_n {S : Sto} {i : Nat} (h : ¬ wS S (ruS S i) = S 0) : tdR S (i + 1) = adS (tdR S i) (ruS S i) (ruS S (i + 1) - 1) (wS S (ruS S i)) := if_neg h
theorem tdR_m (S : Sto) : ∀ i j, i ≤ j → tdR S i 1 ≤ tdR S j 1
  | i, 0, h => by
    have : i = 0 := by omega
    subst this
    exact Nat.le_refl _
  | i, j + 1, h => by
    by_cases c : i = j + 1
    · subst c
      exact Nat.le_refl _
    · have ih := tdR_m S i j (by omega)
      by_cases d : wS S (ruS S j) = S 0
      · rw [tdR_y d]
        exact ih
      · rw [tdR_n d]
        show _ ≤ tdR S j 1 + 1
        omega
theorem tdR_1 (S : Sto) : ∀ i, tdR S i 1 ≤ i
  | 0 => by
    show upS S 1 0 1 ≤ 0
    rw [upS_y]
    exact Nat.le_refl _
  | i + 1 => by
    have := tdR_1 S i
    by_cases d : wS S (ruS S i) = S 0
    · rw [tdR_y d]
      omega
    · rw [tdR_n d]
      show tdR S i 1 + 1 ≤ i + 1
      omega
theorem tdR_e (S : Sto) : ∀ i, tdR S i 1 ≤ 12 → ∀ j, (38 ≤ j ∨ j = 0) → tdR S i j = S j
  | 0, _, j, hj => upS_n (by omega)
  | i + 1, h, j, hj => by
    have hm := tdR_m S i (i + 1) (by omega)
    have ih := tdR_e S i (by omega) j hj
    by_cases d : wS S (ruS S i) = S 0
    · rw [tdR_y d]
      exact ih
    · rw [tdR_n d] at h ⊢
      have h : tdR S i 1 + 1 ≤ 12 := h
      rw [adS_e (by omega) _ _ _ j hj]
      exact ih
theorem tdR_o (S : Sto) : ∀ i j, 2 + 3 * tdR S i 1 ≤ j → tdR S i j = S j
  | 0, j, hj => upS_n (by omega)
  | i + 1, j, h => by
    by_cases d : wS S (ruS S i) = S 0
    · rw [tdR_y d] at h ⊢
      exact tdR_o S i j h
    · rw [tdR_n d] at h ⊢
      have h : 2 + 3 * (tdR S i 1 + 1) ≤ j := h
      unfold adS
      rw [if_neg (by omega), if_neg (by omega), if_neg (by omega), if_neg (by omega)]
      exact tdR_o S i j (by omega)
theorem Gd.td {S : Sto} (hG : Gd S) : ∀ i, i ≤ rnS S → tdR S i 1 ≤ 12 → Gd (tdR S i)
  | 0, _, _ => by
    show Gd (upS S 1 0)
    refine hG.of (upS_g (by omega)) ?_ ?_ (upS_l hG (by omega)) (fun i hi => ?_) (fun r hr => ?_) (fun r q hr hq hrq h0 => ?_) (fun h p hp => ?_) (fun p hp => ?_)
    · rw [upS_n (by omega)]; exact hG.1.2.2.2.2.1
    · rw [upS_y]; omega
    · rw [upS_y] at hi; omega
    · rw [upS_n (by omega), upS_n (by omega), upS_n (by omega)]
      exact hG.2.2.2.2.1 r hr
    · rw [upS_n (by omega)] at h0
      rw [upS_n (by omega), upS_n (by omega), upS_n (by omega), upS_n (by omega)]
      exact hG.2.2.2.2.2.1 r q hr hq hrq h0
    · rw [upS_n (by omega)]
      exact hG.2.2.2.2.2.2.1 h p hp
    · rw [upS_n (by omega)]
      exact hG.2.2.2.2.2.2.2 p hp
  | i + 1, hi, h => by
    have hm := tdR_m S i (i + 1) (by omega)
    have ih := Gd.td hG i (by omega) (by omega)
    by_cases d : wS S (ruS S i) = S 0
    · rw [tdR_y d]
      exact ih
    · have hu := ru_up (S := S) (i := i) (by omega)
      have hl := ru_le S (i + 1)
      have e140 : tdR S i 140 = S 140 := tdR_e S i (by omega) _ (by omega)
      rw [tdR_n d] at h ⊢
      have h : tdR S i 1 + 1 ≤ 12 := h
      exact ih.ads (by omega) (by omega) (by rw [e140]; omega) (wS_lt hG _)
