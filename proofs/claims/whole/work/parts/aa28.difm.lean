/-! differs, the reference's side. -/
theorem df1_S (g : Nat → Nat) (n : Nat) : df1 g (n + 1) = if smN g n = 0 ∧ ¬ g n = 0 then nI n else df1 g n := by
  unfold df1
  have h : smN g (n + 1) = smN g n + g n := rfl
  by_cases c : smN g n = 0
  · by_cases d : g n = 0
    · rw [if_pos (by omega), if_neg (fun z => z.2 d), if_pos c]
    · rw [if_neg (by omega), if_pos ⟨c, d⟩]
      unfold fsN
      rw [if_pos ⟨c, d⟩]
  · rw [if_neg (by omega), if_neg (fun z => c z.1), if_neg c]
    show (if smN g n = 0 ∧ g n ≠ 0 then nI n else fsN g n) = _
    rw [if_neg (fun z => c z.1)]
theorem df1_m {g : Nat → Nat} {n : Nat} (hn : n < 2 ^ 31) : df1 g n = nm2 ↔ smN g n = 0 := by
  unfold df1
  by_cases c : smN g n = 0
  · rw [if_pos c]
    exact ⟨fun _ => c, fun _ => rfl⟩
  · rw [if_neg c]
    refine ⟨fun z => ?_, fun z => absurd z c⟩
    obtain ⟨j, hj, e⟩ := fsN_p c
    rw [e] at z
    have h1 : (nI j).toInt = (j : Int) := nI_toInt (by omega)
    rw [z] at h1
    have h2 : nm2.toInt = -2 := by decide +kernel
    omega
section DM
variable {fu a m : Nat} {S T : Sto} {M : Mm}
theorem X11_dif_3 (hfu : 200000 ≤ fu) {x2 r0 r1 r2 : Int32} : Wp (fX11_differs_j221 fu m x2 r0 r1 r2 M) (fun z => z.1 = (if x2 = nI 0 then r0 else if x2 = nI 1 then r1 else r2) ∧ (∀ j, z.2.1 (m + 1) j = if j < 140 then M.1 (m + 26) j else M.1 (m + 1) j) ∧ O1 (m + 1) M z.2) := by
  unfold fX11_differs_j221 fX11_differs_l224
  refine lp_ho (fun i z => z.1 = nI i ∧ (∀ j, z.2.1 (m + 1) j = if j < i then M.1 (m + 26) j else M.1 (m + 1) j) ∧ O1 (m + 1) M z.2) _ 140 (i := 0) (by omega) (by omega) ⟨rfl, fun j => by rw [if_neg (by omega)], ⟨fun _ _ => rfl, rfl⟩⟩ (fun i z hi hz rec hrec => ?_) (fun z hz rec => ?_)
  · obtain ⟨z1, z2⟩ := z
    obtain ⟨rfl, g1, g2⟩ := hz
    dsimp only at *
    have c0 : ¬ (140 : Int32) ≤ nI i := nI_ge (b := 140) hi (by omega)
    unfold fX11_differs_b224
    rw [if_neg c0, if_neg (nI_in (by omega) (by omega)), ix_n (by omega), g2.1 (m + 26) (by omega), lt_eq, lt_eq, nI_1]
    refine hrec _ ⟨rfl, fun j => ?_, ⟨fun c hc => by rw [wI_ne hc]; exact g2.1 c hc, g2.2⟩⟩
    by_cases c : j = i
    · subst c
      rw [wI_eq, if_pos (by omega)]
    · rw [wI_nk c, g1 j]
      by_cases c2 : j < i
      · rw [if_pos c2, if_pos (by omega)]
      · rw [if_neg c2, if_neg (by omega)]
  · obtain ⟨z1, z2⟩ := z
    obtain ⟨rfl, g1, g2⟩ := hz
    dsimp only at *
    unfold fX11_differs_b224 fX11_differs_j252 fX11_differs_j272
    rw [if_pos (show (140 : Int32) ≤ nI 140 from Int32.le_refl _)]
    show Wp (if x2 = nI 0 then _ else if x2 = nI 1 then _ else _) _
    by_cases c0 : x2 = nI 0
    · rw [if_pos c0, if_pos c0]
      exact ⟨(_, z2), rfl, rfl, g1, g2⟩
    · rw [if_neg c0, if_neg c0]
      by_cases c1 : x2 = nI 1
      · rw [if_pos c1, if_pos c1]
        exact ⟨(_, z2), rfl, rfl, g1, g2⟩
      · rw [if_neg c1, if_neg c1]
        exact ⟨(_, z2), rfl, rfl, g1, g2⟩
theorem X11_dif_2 (hfu : 200000 ≤ fu) (hT : VM T M m) (hGT : Gd T) (hG : Gd S) (g : Gm S T) (hk : ∀ x, x < 2 ^ S 140 → M.1 (m + 24) x = nI (kdS S x 99) ∧ M.1 (m + 25) x = nI (wS S x)) (x2 : Int32) : fX11_differs_j112 fu m x2 M = fX11_differs_j221 fu m x2 (nI (smN (dkS S T) (2 ^ S 140))) (nI (smN (dwS S T) (2 ^ S 140))) (df1 (dkS S T) (2 ^ S 140)) M := by
  have hA := hG.ad
  have had : fX11_addresses fu m M = some (nI (2 ^ S 140)) := by
    rw [X11_addresses hT hGT, g.1]
  unfold fX11_differs_j112 fX11_differs_l124
  refine lp_ue (fun i => (nI (smN (dkS S T) i), nI (smN (dwS S T) i), df1 (dkS S T) i, nI i)) (2 ^ S 140) rfl (by omega) (fun i hi rec => ?_) (fun rec => ?_)
  · have k1 : fX11_kindAt fu m (nI i) M = some (nI (kdS T i 99)) := X11_kindAt hfu hT hGT (by omega)
    have k2 : fX11_wantedAt fu m (nI i) M = some (nI (wS T i)) := X11_wantedAt hfu hT hGT (by omega)
    obtain ⟨k3, k4⟩ := hk i hi
    have s1 := kdS_le hG i 99
    have s2 := kdS_le hGT i 99
    have s3 := wS_lt hG i
    have s4 := wS_lt hGT i
    have b1 : smN (dkS S T) (i + 1) = smN (dkS S T) i + dkS S T i := rfl
    have b2 : smN (dwS S T) (i + 1) = smN (dwS S T) i + dwS S T i := rfl
    have b3 := df1_S (dkS S T) i
    have b4 := df1_m (g := dkS S T) (n := i) (by omega)
    have cK : (nI (kdS S i 99) = nI (kdS T i 99)) ↔ kdS S i 99 = kdS T i 99 := nI_eq (by omega) (by omega)
    have cW : (nI (wS S i) = nI (wS T i)) ↔ wS S i = wS T i := nI_eq (by omega) (by omega)
    show fX11_differs_b124 fu _ m x2 (nI (smN (dkS S T) i)) (nI (smN (dwS S T) i)) (df1 (dkS S T) i) (nI i) M = rec (nI (smN (dkS S T) (i + 1)), nI (smN (dwS S T) (i + 1)), df1 (dkS S T) (i + 1), nI (i + 1))
    have tail : ∀ t0 : Int32, t0 = df1 (dkS S T) (i + 1) → fX11_differs_j163 fu (fun x3 x4 x5 x6 => rec (x3, x4, x5, x6)) m x2 (nI (smN (dkS S T) i)) (nI (smN (dwS S T) i)) (nI i) t0 M = rec (nI (smN (dkS S T) (i + 1)), nI (smN (dwS S T) (i + 1)), df1 (dkS S T) (i + 1), nI (i + 1)) := fun t0 ht => by
      have last : ∀ t : Int32, t = nI (dkS S T i) → fX11_differs_j187 fu (fun x3 x4 x5 x6 => rec (x3, x4, x5, x6)) m x2 (nI (smN (dwS S T) i)) t0 (nI i) (nI (smN (dkS S T) i)) t M = rec (nI (smN (dkS S T) (i + 1)), nI (smN (dwS S T) (i + 1)), df1 (dkS S T) (i + 1), nI (i + 1)) := fun t ht2 => by
        subst ht ht2
        unfold fX11_differs_j187 fX11_differs_j212
        rw [lt_eq, if_neg (nI_in (by omega) (by omega)), ix_n (by omega), k2, bi_s, k4, lt_eq, lt_eq, lt_eq, lt_eq, nI_1, nI_add, b1, b2]
        unfold dwS
        by_cases c : wS S i = wS T i
        · rw [if_pos (cW.mpr c), if_pos c]
          show rec (_, nI (smN (dwS S T) i) + nI 0, _, _) = _
          rw [nI_add]
          rfl
        · rw [if_neg (fun z => c (cW.mp z)), if_neg c]
          show rec (_, nI (smN (dwS S T) i) + nI 1, _, _) = _
          rw [nI_add]
          rfl
      unfold fX11_differs_j163
      rw [if_neg (nI_in (by omega) (by omega)), ix_n (by omega), k1, bi_s, k3]
      by_cases c : kdS S i 99 = kdS T i 99
      · rw [if_pos (cK.mpr c)]
        exact last 0 (by rw [show dkS S T i = 0 from if_pos c]; rfl)
      · rw [if_neg (fun z => c (cK.mp z))]
        exact last 1 (by rw [show dkS S T i = 1 from if_neg c]; rfl)
    unfold fX11_differs_b124 fX11_differs_j161
    rw [had, bi_s, if_neg (nI_ge hi (by omega)), show (-2 : Int32) = nm2 from rfl, if_neg (nI_in (by omega) (by omega)), ix_n (by omega), k1, bi_s, k3]
    by_cases c0 : smN (dkS S T) i = 0
    · rw [if_pos (b4.mpr c0)]
      by_cases c : kdS S i 99 = kdS T i 99
      · have : dkS S T i = 0 := if_pos c
        rw [if_pos (cK.mpr c)]
        exact tail _ (by rw [b3, if_neg (fun z => z.2 this)])
      · have : dkS S T i = 1 := if_neg c
        rw [if_neg (fun z => c (cK.mp z))]
        exact tail _ (by rw [b3, if_pos ⟨c0, by omega⟩])
    · rw [if_neg (fun z => c0 (b4.mp z))]
      exact tail _ (by rw [b3, if_neg (fun z => c0 z.1)])
  · show fX11_differs_b124 fu _ m x2 _ _ _ (nI (2 ^ S 140)) M = _
    unfold fX11_differs_b124
    rw [had, bi_s, if_pos (Int32.le_refl _)]
theorem X11_differs_y {B : Nat → Sto} {bx : Nat → Nat} (hfu : 200000 ≤ fu) (hV : VM S M m) (hG : Gd S) (hB : BM B bx M m) {j : Nat} (hj : j < 2) (hbx : bx j = 1) (hGT : Gd (B j)) (g : Gm S (B j)) (x2 : Int32) : Wp (fX11_differs fu m (nI j) x2 M) (fun z => z.1 = dfA S (B j) x2 ∧ Sc m M z.2) := by
  have hA := hG.ad
  have hb : M.1 (m + 29) j = nI 1 ∧ ∀ i, i < 140 → M.1 (m + 28) (140 * j + i) = nI (B j i) := by
    rcases hB j hj with ⟨b0, _⟩ | ⟨_, b2⟩
    · omega
    · exact b2
  have n27 : fX11_differs_j27 fu M = some (mI, M) := rfl
  unfold fX11_differs
  show Wp (bi (fX11_isIn fu (nI j) (nI 0) (nI 1)) _) _
  rw [X11_isIn, bI_t (isIn_y (j := j) (by omega) rfl (by omega)), bi_s, if_neg (by decide), if_neg (nI_in (by omega) (by omega)), ix_n (by omega), hb.1, if_neg (by decide), n27]
  show Wp (bi (fX11_isIn fu x2 (nI 0) (nI 2)) _) _
  rw [X11_isIn, bi_s]
  by_cases c : nI 0 ≤ x2 ∧ x2 ≤ nI 2
  · rw [bI_t c, if_neg (by decide)]
    unfold fX11_differs_l31
    refine lp_ho (fun i z => z.1 = nI i ∧ (∀ x, x < i → z.2.1 (m + 24) x = nI (kdS S x 99) ∧ z.2.1 (m + 25) x = nI (wS S x)) ∧ (∀ c, c ≠ m + 24 → c ≠ m + 25 → z.2.1 c = M.1 c) ∧ z.2.2 = M.2) _ (2 ^ S 140) (i := 0) (by omega) (by omega) ⟨rfl, fun x hx => by omega, fun _ _ _ => rfl, rfl⟩ (fun i z hi hz rec hrec => ?_) (fun z hz rec => ?_)
    · obtain ⟨z1, z2⟩ := z
      obtain ⟨rfl, g1, g2, g3⟩ := hz
      dsimp only at *
      have sc : ∀ M2 : Mm, (∀ c, c ≠ m + 24 → c ≠ m + 25 → M2.1 c = M.1 c) → M2.2 = M.2 → VM S M2 m := fun M2 h1 h2 => hV.sc ⟨fun c k1 k2 => h1 c (by omega) (by omega), fun j _ _ _ _ _ _ _ => by rw [h1 m (by omega) (by omega)], h2⟩
      have k1 : fX11_kindAt fu m (nI i) z2 = some (nI (kdS S i 99)) := X11_kindAt hfu (sc z2 g2 g3) hG (by omega)
      have k2 : fX11_wantedAt fu m (nI i) (wI z2 (m + 24) i (nI (kdS S i 99))) = some (nI (wS S i)) := X11_wantedAt (x := i) hfu (sc (wI z2 (m + 24) i (nI (kdS S i 99))) (fun c h1 h2 => by rw [wI_ne h1]; exact g2 c h1 h2) g3) hG (by omega)
      unfold fX11_differs_b31
      rw [X11_addresses (sc z2 g2 g3) hG, bi_s, if_neg (nI_ge hi (by omega)), k1, bi_s, if_neg (nI_in (by omega) (by omega)), ix_n (by omega), lt_eq, k2, bi_s, lt_eq, lt_eq, nI_1]
      refine hrec _ ⟨rfl, fun x hx => ?_, fun c h1 h2 => by rw [wI_ne h2, wI_ne h1]; exact g2 c h1 h2, g3⟩
      by_cases cx : x = i
      · subst cx
        simp (disch := omega) only [wI_ne, wI_eq, wI_nk, wIs_ne, wIs_eq]
        exact ⟨trivial, trivial⟩
      · simp (disch := omega) only [wI_ne, wI_eq, wI_nk, wIs_ne, wIs_eq]
        exact g1 x (by omega)
    · obtain ⟨z1, z2⟩ := z
      obtain ⟨rfl, g1, g2, g3⟩ := hz
      dsimp only at *
      have V2 : VM S z2 m := hV.sc ⟨fun c k1 k2 => g2 c (by omega) (by omega), fun j _ _ _ _ _ _ _ => by rw [g2 m (by omega) (by omega)], g3⟩
      unfold fX11_differs_b31 fX11_differs_j67 fX11_differs_l69
      rw [X11_addresses V2 hG, bi_s, if_pos (Int32.le_refl _)]
      refine lp_ho (fun i z => z.1 = nI i ∧ (∀ y, z.2.1 (m + 26) y = if y < i then M.1 (m + 1) y else z2.1 (m + 26) y) ∧ (∀ y, z.2.1 (m + 1) y = if y < i then nI (B j y) else M.1 (m + 1) y) ∧ (∀ c, c ≠ m + 26 → c ≠ m + 1 → z.2.1 c = z2.1 c) ∧ z.2.2 = M.2) _ 140 (i := 0) (by omega) (by omega) ⟨rfl, fun y => by rw [if_neg (by omega)], fun y => by rw [if_neg (by omega), g2 (m + 1) (by omega) (by omega)], fun _ _ _ => rfl, g3⟩ (fun i z hi hz rec hrec => ?_) (fun z hz rec => ?_)
      · obtain ⟨z1, z3⟩ := z
        obtain ⟨rfl, l1, l2, l3, l4⟩ := hz
        dsimp only at *
        have c0 : ¬ (140 : Int32) ≤ nI i := nI_ge (b := 140) hi (by omega)
        have e1 : (140 : Int32) * nI j + nI i = nI (140 * j + i) := by
          rw [show (140 : Int32) * nI j = nI (140 * j) from zi_mul 140 j, nI_add]
        have e28 : (wI z3 (m + 26) i (z3.1 (m + 1) i)).1 (m + 28) (140 * j + i) = nI (B j i) := by
          rw [wI_ne (by omega), l3 (m + 28) (by omega) (by omega), g2 (m + 28) (by omega) (by omega)]
          exact hb.2 i hi
        unfold fX11_differs_b69
        rw [if_neg c0, if_neg (nI_in (by omega) (by omega)), ix_n (by omega), lt_eq, e1, if_neg (nI_in (by omega) (by omega)), ix_n (by omega), e28, lt_eq, lt_eq, nI_1]
        refine hrec _ ⟨rfl, fun y => ?_, fun y => ?_, fun c h1 h2 => by rw [wI_ne h2, wI_ne h1]; exact l3 c h1 h2, l4⟩
        · by_cases cy : y = i
          · subst cy
            simp (disch := omega) only [wI_ne, wI_eq, wI_nk, wIs_ne, wIs_eq]
            rw [if_pos (by omega), l2, if_neg (by omega)]
          · simp (disch := omega) only [wI_ne, wI_eq, wI_nk, wIs_ne, wIs_eq]
            rw [l1]
            by_cases c2 : y < i
            · rw [if_pos c2, if_pos (by omega)]
            · rw [if_neg c2, if_neg (by omega)]
        · by_cases cy : y = i
          · subst cy
            simp (disch := omega) only [wI_ne, wI_eq, wI_nk, wIs_ne, wIs_eq]
            rw [if_pos (by omega)]
          · simp (disch := omega) only [wI_ne, wI_eq, wI_nk, wIs_ne, wIs_eq]
            rw [l2]
            by_cases c2 : y < i
            · rw [if_pos c2, if_pos (by omega)]
            · rw [if_neg c2, if_neg (by omega)]
      · obtain ⟨z1, z3⟩ := z
        obtain ⟨rfl, l1, l2, l3, l4⟩ := hz
        dsimp only at *
        have T3 : VM (B j) z3 m := V2.ch g (by rw [l3 m (by omega) (by omega)]) (l3 _ (by omega) (by omega)) (l3 _ (by omega) (by omega)) (l3 _ (by omega) (by omega)) (fun k hk => by rw [l2, if_pos hk])
        unfold fX11_differs_b69
        rw [if_pos (show (140 : Int32) ≤ nI 140 from Int32.le_refl _), X11_dif_2 hfu T3 hGT hG g (fun x hx => by rw [l3 (m + 24) (by omega) (by omega), l3 (m + 25) (by omega) (by omega)]; exact g1 x hx)]
        refine (X11_dif_3 hfu).mono fun z r => ?_
        obtain ⟨r0, M4⟩ := z
        obtain ⟨r1, r2, r3⟩ := r
        dsimp only at *
        obtain ⟨w, hw, rfl⟩ := (isIn_c (by omega)).mp c
        refine ⟨?_, fun c h1 h2 => ?_, fun i _ _ _ _ _ _ _ => ?_, r3.2.trans l4⟩
        · rw [r1]
          unfold dfA
          by_cases c0 : nI w = nI 0
          · rw [if_pos c0, if_pos c0]
          · rw [if_neg c0, if_neg c0]
            by_cases c1 : nI w = nI 1
            · rw [if_pos c1, if_pos c1]
            · have : w = 2 := by
                have : w ≠ 0 := fun z => c0 (by rw [z])
                have : w ≠ 1 := fun z => c1 (by rw [z])
                omega
              rw [if_neg c1, if_neg c1, if_pos (by rw [this])]
        · by_cases cm : c = m + 1
          · subst cm
            funext y
            rw [r2]
            by_cases cy : y < 140
            · rw [if_pos cy, l1, if_pos cy]
            · rw [if_neg cy, l2, if_neg cy]
          · rw [r3.1 c cm, l3 c (by omega) cm, g2 c (by omega) (by omega)]
        · rw [r3.1 m (by omega), l3 m (by omega) (by omega), g2 m (by omega) (by omega)]
  · rw [bI_f c, if_pos (by decide)]
    refine ⟨(_, M), rfl, ?_, Sc.rf m M⟩
    unfold dfA
    rw [if_neg (fun q => c (isIn_y (j := 0) (by omega) q (by omega))), if_neg (fun q => c (isIn_y (j := 1) (by omega) q (by omega))), if_neg (fun q => c (isIn_y (j := 2) (by omega) q (by omega)))]
theorem X11_differs_n {B : Nat → Sto} {bx : Nat → Nat} (hB : BM B bx M m) {x1 : Int32} (h : ¬ ∃ j, j < 2 ∧ x1 = nI j ∧ bx j = 1) (x2 : Int32) : fX11_differs fu m x1 x2 M = some (mI, M) := by
  have n27 : fX11_differs_j27 fu M = some (mI, M) := rfl
  unfold fX11_differs
  rw [n27]
  show bi (fX11_isIn fu x1 (nI 0) (nI 1)) _ = _
  rw [X11_isIn, bi_s]
  by_cases c : nI 0 ≤ x1 ∧ x1 ≤ nI 1
  · obtain ⟨j, hj, rfl⟩ := (isIn_c (by omega)).mp c
    rw [bI_t c, if_neg (by decide), if_neg (nI_in (by omega) (by omega)), ix_n (by omega)]
    rcases hB j (by omega) with ⟨_, b1⟩ | ⟨b0, _⟩
    · rw [b1, if_pos (show nI 0 = (0 : Int32) from rfl)]
    · exact absurd ⟨j, by omega, rfl, b0⟩ h
  · rw [bI_f c, if_pos (by decide)]
end DM
