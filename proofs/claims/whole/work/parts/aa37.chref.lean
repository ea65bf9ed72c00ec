/-! Changes: the reference lays steps and edges. -/
section RS
variable {fu m : Nat} {S : Sto} {l : List Bk} {M : Mm}
theorem bk_M (hB : MB M m l) {i : Nat} (hi : i < l.length) : M.1 (m + 14) i = nI (bk l i).1 ∧ M.1 (m + 15) i = nI (bk l i).2.1 ∧ M.1 (m + 16) i = nI (bk l i).2.2 := by
  rw [bk_y (List.getElem?_eq_getElem hi)]
  exact hB.2 i _ (List.getElem?_eq_getElem hi)
theorem X11_isInPlan (hfu : 200000 ≤ fu) (hV : VM S M m) (hG : Gd S) (hB : MB M m l) (hL : Lb (S 140) l) (hl : l.length ≤ 2100) {r : Nat} (hr : r < S 141) : fX11_isInPlan fu m (nI r) M = some (bI (¬ sty S l r = 0)) := by
  have h10 := hG.1.2.2.2.1
  have g1 := hG.2.1 (38 + 3 * r)
  have g2 := hG.2.1 (39 + 3 * r)
  have g3 := hG.2.1 (40 + 3 * r)
  have key : Wp (fX11_isInPlan fu m (nI r) M) (fun v => v = bI (¬ sty S l r = 0)) := by
    unfold fX11_isInPlan fX11_isInPlan_l2
    refine lp_ho (fun k z => z = nI k ∧ ∀ i, i < k → sam S l r i = 0) _ l.length (i := 0) (by omega) (by omega) ⟨rfl, fun i hi => absurd hi (by omega)⟩ (fun k z hk hz rec hrec => ?_) (fun z hz rec => ?_)
    · obtain ⟨rfl, hz⟩ := hz
      obtain ⟨b1, b2, b3⟩ := bk_M hB hk
      obtain ⟨r1, r2, r3, _⟩ := Rg_le hG.1.2.1 (bk_Rg hL k)
      have nxt : sam S l r k = 0 → Wp (rec (nI (k + 1))) (fun v => v = bI (¬ sty S l r = 0)) := fun h0 => by
        refine hrec _ ⟨rfl, fun i hi => ?_⟩
        by_cases e : i = k
        · subst e; exact h0
        · exact hz i (by omega)
      unfold fX11_isInPlan_b2 fX11_isInPlan_j54 fX11_isInPlan_j52
      rw [hB.1, if_neg (nI_ge hk (by omega)), if_neg (nI_in (by omega) (by omega)), ix_n (by omega), X11_baseOf hV (by omega), bi_s, b1, X11_sizeOf hV (by omega), bi_s, b2, X11_kindOf hV (by omega), bi_s, b3, lt_eq, nI_1]
      by_cases c1 : (bk l k).1 = S (38 + 3 * r)
      · rw [if_pos (by rw [c1])]
        by_cases c2 : (bk l k).2.1 = S (39 + 3 * r)
        · rw [if_pos (by rw [c2])]
          by_cases c3 : (bk l k).2.2 = S (40 + 3 * r)
          · have : sam S l r k = 1 := if_pos ⟨c1.symm, c2.symm, c3.symm⟩
            rw [if_pos (by rw [c3]), wp_some, bI_t]
            · rfl
            · intro z
              have := smN_nz.mp z k hk
              omega
          · rw [if_neg (fun z => c3 ((nI_eq (by omega) (by omega)).mp z))]
            exact nxt (if_neg (fun z => c3 z.2.2.symm))
        · rw [if_neg (fun z => c2 ((nI_eq (by omega) (by omega)).mp z))]
          exact nxt (if_neg (fun z => c2 z.2.1.symm))
      · rw [if_neg (fun z => c1 ((nI_eq (by omega) (by omega)).mp z))]
        exact nxt (if_neg (fun z => c1 z.1.symm))
    · obtain ⟨rfl, hz⟩ := hz
      unfold fX11_isInPlan_b2 fX11_isInPlan_j60
      rw [hB.1, if_pos (Int32.le_refl _), wp_some, bI_f (fun z => z (show sty S l r = 0 from smN_z hz))]
      rfl
  obtain ⟨v, e, rfl⟩ := key
  exact e
theorem X11_isInRegisters (hfu : 200000 ≤ fu) (hV : VM S M m) (hG : Gd S) (hB : MB M m l) (hL : Lb (S 140) l) (hl : l.length ≤ 2100) {i : Nat} (hi : i < l.length) : fX11_isInRegisters fu m (nI i) M = some (bI (¬ thr S l i = 0)) := by
  have h10 := hG.1.2.2.2.1
  obtain ⟨b1, b2, b3⟩ := bk_M hB hi
  obtain ⟨r1, r2, r3, _⟩ := Rg_le hG.1.2.1 (bk_Rg hL i)
  have key : Wp (fX11_isInRegisters fu m (nI i) M) (fun v => v = bI (¬ thr S l i = 0)) := by
    unfold fX11_isInRegisters fX11_isInRegisters_l2
    refine lp_ho (fun k z => z = nI k ∧ ∀ r, r < k → sam S l r i = 0) _ (S 141) (i := 0) (by omega) (by omega) ⟨rfl, fun i hi => absurd hi (by omega)⟩ (fun k z hk hz rec hrec => ?_) (fun z hz rec => ?_)
    · obtain ⟨rfl, hz⟩ := hz
      have g1 := hG.2.1 (38 + 3 * k)
      have g2 := hG.2.1 (39 + 3 * k)
      have g3 := hG.2.1 (40 + 3 * k)
      have nxt : sam S l k i = 0 → Wp (rec (nI (k + 1))) (fun v => v = bI (¬ thr S l i = 0)) := fun h0 => by
        refine hrec _ ⟨rfl, fun r hr => ?_⟩
        by_cases e : r = k
        · subst e; exact h0
        · exact hz r (by omega)
      unfold fX11_isInRegisters_b2 fX11_isInRegisters_j54 fX11_isInRegisters_j52
      rw [X11_registersNow hV, bi_s, if_neg (nI_ge hk (by omega)), if_neg (nI_in (by omega) (by omega)), ix_n (by omega), X11_baseOf hV (by omega), bi_s, b1, X11_sizeOf hV (by omega), bi_s, b2, X11_kindOf hV (by omega), bi_s, b3, lt_eq, nI_1]
      by_cases c1 : (bk l i).1 = S (38 + 3 * k)
      · rw [if_pos (by rw [c1])]
        by_cases c2 : (bk l i).2.1 = S (39 + 3 * k)
        · rw [if_pos (by rw [c2])]
          by_cases c3 : (bk l i).2.2 = S (40 + 3 * k)
          · have : sam S l k i = 1 := if_pos ⟨c1.symm, c2.symm, c3.symm⟩
            rw [if_pos (by rw [c3]), wp_some, bI_t]
            · rfl
            · intro z
              have := smN_nz.mp z k hk
              omega
          · rw [if_neg (fun z => c3 ((nI_eq (by omega) (by omega)).mp z))]
            exact nxt (if_neg (fun z => c3 z.2.2.symm))
        · rw [if_neg (fun z => c2 ((nI_eq (by omega) (by omega)).mp z))]
          exact nxt (if_neg (fun z => c2 z.2.1.symm))
      · rw [if_neg (fun z => c1 ((nI_eq (by omega) (by omega)).mp z))]
        exact nxt (if_neg (fun z => c1 z.1.symm))
    · obtain ⟨rfl, hz⟩ := hz
      unfold fX11_isInRegisters_b2 fX11_isInRegisters_j60
      rw [X11_registersNow hV, bi_s, if_pos (Int32.le_refl _), wp_some, bI_f (fun z => z (show thr S l i = 0 from smN_z hz))]
      rfl
  obtain ⟨v, e, rfl⟩ := key
  exact e
/-- how many steps, which they are -/
def StM (S : Sto) (l : List Bk) (M : Mm) (m : Nat) : Prop := M.1 m 39 = nI (nnS S l) ∧ M.1 m 40 = nI (gnS S l) ∧ (∀ r, r < S 141 → gof S l r = 1 → M.1 (m + 20) (smN (gof S l) r) = nI r) ∧ ∀ i, i < l.length → cof S l i = 1 → gnS S l + smN (cof S l) i < 32 → M.1 (m + 20) (gnS S l + smN (cof S l) i) = nI i
/-- only the steps -/
def Ls (m : Nat) (M M' : Mm) : Prop := (∀ c, c ≠ m → c ≠ m + 20 → M'.1 c = M.1 c) ∧ (∀ j, j ≠ 39 → j ≠ 40 → M'.1 m j = M.1 m j) ∧ M'.2 = M.2
theorem Ls.sc {M' : Mm} (h : Ls m M M') : Sc m M M' := ⟨fun c h1 h2 => h.1 c h1 (by omega), fun j _ _ _ h1 h2 _ _ => h.2.1 j h1 h2, h.2.2⟩
theorem MB.ls {M' : Mm} (hB : MB M m l) (h : Ls m M M') : MB M' m l := by
  unfold MB at hB ⊢
  rw [h.2.1 33 (by omega) (by omega), h.1 (m + 14) (by omega) (by omega), h.1 (m + 15) (by omega) (by omega), h.1 (m + 16) (by omega) (by omega)]
  exact hB
theorem X11_laySteps (hfu : 200000 ≤ fu) (hV : VM S M m) (hG : Gd S) : Wp (fX11_laySteps fu m M) (fun M' => MB M' m (plS S) ∧ StM S (plS S) M' m ∧ Sc m M M') := by
  have hL := plS_Lb hG
  have hlen := plS_len hG
  have hcv := cvS_le hG hG.1.2.2.2.2.1
  have h10 := hG.1.2.2.2.1
  have hgn := gn_le (l := plS S) hG
  unfold fX11_laySteps
  rw [wp_bm]
  refine (X11_layPlan hfu hV hG).mono fun M1 q => ?_
  obtain ⟨q1, q2⟩ := q
  have V1 := hV.sc q2
  generalize plS S = l at *
  rw [lt_eq]
  unfold fX11_laySteps_l11
  refine lp_ho (fun k z => z.1 = nI k ∧ z.2.1 m 39 = nI (smN (gof S l) k) ∧ (∀ r, r < k → gof S l r = 1 → z.2.1 (m + 20) (smN (gof S l) r) = nI r) ∧ Ls m M1 z.2) _ (S 141) (i := 0) (by omega) (by omega) ⟨rfl, by simp (disch := omega) only [wI_ne, wI_eq, wI_nk, wIs_ne, wIs_eq]; rfl, fun r hr => absurd hr (by omega), ⟨fun c h1 h2 => wI_ne h1, fun j h1 h2 => wI_nk h1, rfl⟩⟩ (fun k z hk hz rec hrec => ?_) (fun z hz rec => ?_)
  · obtain ⟨z1, z2⟩ := z
    obtain ⟨rfl, g1, g2, g3⟩ := hz
    dsimp only at *
    have Vz : VM S z2 m := V1.sc g3.sc
    have Bz : MB z2 m l := q1.ls g3
    have hsz := hG.2.1 (39 + 3 * k)
    have e0 : smN (gof S l) (k + 1) = smN (gof S l) k + gof S l k := rfl
    have hcl : smN (gof S l) k ≤ 1 * k := smN_le fun x _ => gof_le x
    have stay : gof S l k = 0 → Wp (fX11_laySteps_j67 fu (fun x1 M => rec (x1, M)) m (nI k) z2) (fun M' => MB M' m l ∧ StM S l M' m ∧ Sc m M M') := fun h0 => by
      unfold fX11_laySteps_j67
      rw [lt_eq, nI_1]
      refine hrec _ ⟨rfl, by rw [e0, h0]; exact g1, fun r hr hr1 => ?_, g3⟩
      by_cases e : r = k
      · subst e; omega
      · exact g2 r (by omega) hr1
    unfold fX11_laySteps_b11
    rw [X11_registersNow Vz, bi_s, if_neg (nI_ge hk (by omega)), X11_sizeOf Vz (by omega), bi_s]
    by_cases c1 : S (39 + 3 * k) = 0
    · rw [c1, if_pos (show nI 0 = (0 : Int32) from rfl)]
      exact stay (if_pos c1)
    rw [if_neg (show ¬ nI (S (39 + 3 * k)) = (0 : Int32) from nI_ne0 (by omega) (by omega)), X11_isInPlan hfu Vz hG Bz hL (by omega) hk, bi_s]
    by_cases c2 : sty S l k = 0
    · have h1 : gof S l k = 1 := by
        unfold gof
        rw [if_neg c1, if_pos c2]
      have c32 : ¬ (32 : Int32) ≤ nI (smN (gof S l) k) := nI_ge (b := 32) (by omega) (by omega)
      rw [bI_f (by omega), if_pos (by decide), g1, if_neg c32, if_neg (nI_in (by omega) (by omega)), ix_n (by omega), lt_eq]
      unfold fX11_laySteps_j57 fX11_laySteps_j67
      rw [wI_ne (show m ≠ m + 20 by omega), g1, nI_1, lt_eq, lt_eq, nI_1]
      refine hrec _ ⟨rfl, by rw [wI_eq, e0, h1], fun r hr hr1 => ?_, ⟨fun c h1 h2 => by rw [wI_ne h1, wI_ne h2]; exact g3.1 c h1 h2, fun j h1 h2 => by rw [wI_nk h1, wI_ne (by omega)]; exact g3.2.1 j h1 h2, g3.2.2⟩⟩
      rw [wI_ne (show m + 20 ≠ m by omega)]
      by_cases e : r = k
      · subst e
        rw [wI_eq]
      · have := smN_lt (g := gof S l) (a := r) (b := k) (by omega) (by omega)
        rw [wI_nk (by omega)]
        exact g2 r (by omega) hr1
    · rw [bI_t c2, if_neg (by decide)]
      refine stay ?_
      unfold gof
      rw [if_neg c1, if_neg c2]
  · obtain ⟨z1, z2⟩ := z
    obtain ⟨rfl, g1, g2, g3⟩ := hz
    dsimp only at *
    have Vz : VM S z2 m := V1.sc g3.sc
    have eg : smN (gof S l) (S 141) = gnS S l := rfl
    rw [eg] at g1
    unfold fX11_laySteps_b11 fX11_laySteps_j73 fX11_laySteps_l83
    rw [X11_registersNow Vz, bi_s, if_pos (Int32.le_refl _), lt_eq, g1]
    refine lp_ho (fun k z => z.1 = nI k ∧ z.2.1 m 39 = nI (gnS S l + smN (cof S l) k) ∧ z.2.1 m 40 = nI (gnS S l) ∧ (∀ r, r < S 141 → gof S l r = 1 → z.2.1 (m + 20) (smN (gof S l) r) = nI r) ∧ (∀ i, i < k → cof S l i = 1 → gnS S l + smN (cof S l) i < 32 → z.2.1 (m + 20) (gnS S l + smN (cof S l) i) = nI i) ∧ Ls m M1 z.2) _ l.length (i := 0) (by omega) (by omega) ⟨rfl, by rw [wI_nk (by omega), g1]; rfl, wI_eq, fun r hr hr1 => by rw [wI_ne (by omega)]; exact g2 r hr hr1, fun i hi => absurd hi (by omega), ⟨fun c h1 h2 => by rw [wI_ne h1]; exact g3.1 c h1 h2, fun j h1 h2 => by rw [wI_nk h2]; exact g3.2.1 j h1 h2, g3.2.2⟩⟩ (fun k z hk hz rec hrec => ?_) (fun z hz rec => ?_)
    · obtain ⟨y1, y2⟩ := z
      obtain ⟨rfl, k1, k2, k3, k4, k5⟩ := hz
      dsimp only at *
      have Vy : VM S y2 m := V1.sc k5.sc
      have By : MB y2 m l := q1.ls k5
      have e0 : smN (cof S l) (k + 1) = smN (cof S l) k + cof S l k := rfl
      have hcl : smN (cof S l) k ≤ 1 * k := smN_le fun x _ => cof_le x
      unfold fX11_laySteps_b83
      rw [By.1, if_neg (nI_ge hk (by omega)), X11_isInRegisters hfu Vy hG By hL (by omega) hk, bi_s]
      by_cases c2 : thr S l k = 0
      · have h1 : cof S l k = 1 := if_pos c2
        rw [bI_f (by omega), if_pos (by decide), k1]
        by_cases c3 : gnS S l + smN (cof S l) k < 32
        · have c32 : ¬ (32 : Int32) ≤ nI (gnS S l + smN (cof S l) k) := nI_ge (b := 32) c3 (by omega)
          rw [if_neg c32, if_neg (nI_in c3 (by omega)), ix_n (by omega), lt_eq]
          unfold fX11_laySteps_j121 fX11_laySteps_j131
          rw [wI_ne (show m ≠ m + 20 by omega), k1, nI_1, lt_eq, lt_eq, nI_1]
          refine hrec _ ⟨rfl, by rw [wI_eq, e0, h1]; rfl, by rw [wI_nk (by omega), wI_ne (by omega)]; exact k2, fun r hr hr1 => ?_, fun i hi hi1 hi2 => ?_, ⟨fun c h1 h2 => by rw [wI_ne h1, wI_ne h2]; exact k5.1 c h1 h2, fun j h1 h2 => by rw [wI_nk h1, wI_ne (by omega)]; exact k5.2.1 j h1 h2, k5.2.2⟩⟩
          · have := gof_cnt hr hr1
            rw [wI_ne (show m + 20 ≠ m by omega), wI_nk (by omega)]
            exact k3 r hr hr1
          · rw [wI_ne (show m + 20 ≠ m by omega)]
            by_cases e : i = k
            · subst e
              rw [wI_eq]
            · have := smN_lt (g := cof S l) (a := i) (b := k) (by omega) (by omega)
              rw [wI_nk (by omega)]
              exact k4 i (by omega) hi1 hi2
        · have c32 : (32 : Int32) ≤ nI (gnS S l + smN (cof S l) k) := nI_le (a := 32) (by omega) (by omega)
          rw [if_pos c32]
          unfold fX11_laySteps_j121 fX11_laySteps_j131
          rw [k1, nI_1, lt_eq, lt_eq, nI_1]
          refine hrec _ ⟨rfl, by rw [wI_eq, e0, h1]; rfl, by rw [wI_nk (by omega)]; exact k2, fun r hr hr1 => by rw [wI_ne (by omega)]; exact k3 r hr hr1, fun i hi hi1 hi2 => ?_, ⟨fun c h1 h2 => by rw [wI_ne h1]; exact k5.1 c h1 h2, fun j h1 h2 => by rw [wI_nk h1]; exact k5.2.1 j h1 h2, k5.2.2⟩⟩
          rw [wI_ne (by omega)]
          by_cases e : i = k
          · subst e
            omega
          · exact k4 i (by omega) hi1 hi2
      · have h1 : cof S l k = 0 := if_neg c2
        rw [bI_t c2, if_neg (by decide)]
        unfold fX11_laySteps_j131
        rw [lt_eq, nI_1]
        refine hrec _ ⟨rfl, by rw [e0, h1]; exact k1, k2, k3, fun i hi hi1 hi2 => ?_, k5⟩
        by_cases e : i = k
        · subst e; omega
        · exact k4 i (by omega) hi1 hi2
    · obtain ⟨y1, y2⟩ := z
      obtain ⟨rfl, k1, k2, k3, k4, k5⟩ := hz
      dsimp only at *
      have By : MB y2 m l := q1.ls k5
      unfold fX11_laySteps_b83 fX11_laySteps_j137
      rw [By.1, if_pos (Int32.le_refl _), wp_some]
      exact ⟨By, ⟨k1, k2, k3, k4⟩, q2.tr k5.sc⟩
/-- edges: each address that is one -/
def EM (M : Mm) (m ne A : Nat) (e : Nat → Nat) : Prop := M.1 m 41 = nI ne ∧ ∀ j, j < ne → M.1 (m + 21) j = nI (e j) ∧ e j < A
def Le (m : Nat) (M M' : Mm) : Prop := (∀ c, c ≠ m → c ≠ m + 21 → M'.1 c = M.1 c) ∧ (∀ j, j ≠ 41 → M'.1 m j = M.1 m j) ∧ M'.2 = M.2
theorem Le.rf (m : Nat) (M : Mm) : Le m M M := ⟨fun _ _ _ => rfl, fun _ _ => rfl, rfl⟩
theorem Le.tr {M' M'' : Mm} (h : Le m M M') (h' : Le m M' M'') : Le m M M'' := ⟨fun c h1 h2 => (h'.1 c h1 h2).trans (h.1 c h1 h2), fun j h1 => (h'.2.1 j h1).trans (h.2.1 j h1), h'.2.2.trans h.2.2⟩
theorem Le.sc {M' : Mm} (h : Le m M M') : Sc m M M' := ⟨fun c h1 h2 => h.1 c h1 (by omega), fun j _ _ _ _ _ h1 _ => h.2.1 j h1, h.2.2⟩
theorem MB.le {M' : Mm} (hB : MB M m l) (h : Le m M M') : MB M' m l := by
  unfold MB at hB ⊢
  rw [h.2.1 33 (by omega), h.1 (m + 14) (by omega) (by omega), h.1 (m + 15) (by omega) (by omega), h.1 (m + 16) (by omega) (by omega)]
  exact hB
theorem StM.le {M' : Mm} (hB : StM S l M m) (h : Le m M M') : StM S l M' m := by
  unfold StM at hB ⊢
  rw [h.2.1 39 (by omega), h.2.1 40 (by omega), h.1 (m + 20) (by omega) (by omega)]
  exact hB
theorem X11_addEdge (hfu : 200000 ≤ fu) (hV : VM S M m) (hG : Gd S) {ne x : Nat} {e : Nat → Nat} (hE : EM M m ne (2 ^ S 140) e) (hn : ne < 100) (hx : x < 2 ^ 20) : Wp (fX11_addEdge fu m (nI x) M) (fun M' => ∃ ne' e', EM M' m ne' (2 ^ S 140) e' ∧ ne' ≤ ne + 1 ∧ (∀ j, j < ne → ∃ j', j' < ne' ∧ e' j' = e j) ∧ (x < 2 ^ S 140 → ∃ j', j' < ne' ∧ e' j' = x) ∧ Le m M M') := by
  have hA := hG.ad
  unfold fX11_addEdge fX11_addEdge_l2
  refine lp_ho (fun k z => z = nI k ∧ ∀ j, j < k → ¬ e j = x) _ ne (i := 0) (by omega) (by omega) ⟨rfl, fun j hj => absurd hj (by omega)⟩ (fun k z hk hz rec hrec => ?_) (fun z hz rec => ?_)
  · obtain ⟨rfl, hz⟩ := hz
    obtain ⟨e1, e2⟩ := hE.2 k hk
    unfold fX11_addEdge_b2 fX11_addEdge_j20
    rw [hE.1, if_neg (nI_ge hk (by omega)), if_neg (nI_in (by omega) (by omega)), ix_n (by omega), e1, lt_eq, nI_1]
    by_cases c : e k = x
    · rw [if_pos (by rw [c]), wp_some]
      exact ⟨ne, e, hE, by omega, fun j hj => ⟨j, hj, rfl⟩, fun _ => ⟨k, hk, c⟩, Le.rf m M⟩
    · rw [if_neg (fun z => c ((nI_eq (by omega) (by omega)).mp z))]
      refine hrec _ ⟨rfl, fun j hj => ?_⟩
      by_cases ej : j = k
      · subst ej; exact c
      · exact hz j (by omega)
  · obtain ⟨rfl, hz⟩ := hz
    unfold fX11_addEdge_b2 fX11_addEdge_j27
    rw [hE.1, if_pos (Int32.le_refl _), X11_addresses hV hG, bi_s]
    by_cases c : x < 2 ^ S 140
    · rw [if_pos (nI_lt c (by omega)), if_neg (nI_in (by omega) (by omega)), ix_n (by omega), lt_eq, lt_eq, wI_ne (show m ≠ m + 21 by omega), hE.1, nI_1, wp_some]
      refine ⟨ne + 1, fun j => if j = ne then x else e j, ⟨wI_eq, fun j hj => ?_⟩, by omega, fun j hj => ⟨j, by omega, if_neg (by omega)⟩, fun _ => ⟨ne, by omega, if_pos rfl⟩, ⟨fun c h1 h2 => by rw [wI_ne h1, wI_ne h2], fun j h1 => by rw [wI_nk h1, wI_ne (by omega)], rfl⟩⟩
      rw [wI_ne (show m + 21 ≠ m by omega)]
      dsimp only
      by_cases ej : j = ne
      · subst ej
        rw [wI_eq, if_pos rfl]
        exact ⟨rfl, c⟩
      · rw [wI_nk ej, if_neg ej]
        exact hE.2 j (by omega)
    · rw [if_neg (nI_nlt (by omega) (by omega)), wp_some]
      exact ⟨ne, e, hE, by omega, fun j hj => ⟨j, hj, rfl⟩, fun z => absurd z c, Le.rf m M⟩
/-- all that are edges stand there -/
def EA (S : Sto) (l : List Bk) (ne : Nat) (e : Nat → Nat) (kr kl : Nat) : Prop := (∃ j, j < ne ∧ e j = 0) ∧ (S 142 < 2 ^ S 140 → ∃ j, j < ne ∧ e j = S 142) ∧ (∀ r, r < kr → 0 < S (39 + 3 * r) → (S (38 + 3 * r) < 2 ^ S 140 → ∃ j, j < ne ∧ e j = S (38 + 3 * r)) ∧ (S (38 + 3 * r) + S (39 + 3 * r) < 2 ^ S 140 → ∃ j, j < ne ∧ e j = S (38 + 3 * r) + S (39 + 3 * r))) ∧ ∀ i, i < kl → ((bk l i).1 < 2 ^ S 140 → ∃ j, j < ne ∧ e j = (bk l i).1) ∧ ((bk l i).1 + (bk l i).2.1 < 2 ^ S 140 → ∃ j, j < ne ∧ e j = (bk l i).1 + (bk l i).2.1)
theorem EA.mo {ne ne' kr kl : Nat} {e e' : Nat → Nat} (h : EA S l ne e kr kl) (hm : ∀ j, j < ne → ∃ j', j' < ne' ∧ e' j' = e j) : EA S l ne' e' kr kl := by
  have tr : ∀ y, (∃ j, j < ne ∧ e j = y) → ∃ j, j < ne' ∧ e' j = y := fun y hy => by
    obtain ⟨j, hj, rfl⟩ := hy
    exact hm j hj
  obtain ⟨h1, h2, h3, h4⟩ := h
  exact ⟨tr _ h1, fun z => tr _ (h2 z), fun r hr hs => ⟨fun z => tr _ ((h3 r hr hs).1 z), fun z => tr _ ((h3 r hr hs).2 z)⟩, fun i hi => ⟨fun z => tr _ ((h4 i hi).1 z), fun z => tr _ ((h4 i hi).2 z)⟩⟩
theorem X11_layEdges (hfu : 200000 ≤ fu) (hV : VM S M m) (hG : Gd S) (hB : MB M m l) (hL : Lb (S 140) l) (hl : l.length ≤ 10) : Wp (fX11_layEdges fu m M) (fun M' => (∃ ne e, ne < 100 ∧ EM M' m ne (2 ^ S 140) e ∧ EA S l ne e (S 141) l.length) ∧ Le m M M') := by
  have hA := hG.ad
  have h10 := hG.1.2.2.2.1
  have hF := hG.2.1 142
  unfold fX11_layEdges
  rw [lt_eq, wp_bm]
  have l0 : Le m M (wI M m 41 0) := ⟨fun c h1 _ => wI_ne h1, fun j h1 => wI_nk h1, rfl⟩
  have E0 : EM (wI M m 41 0) m 0 (2 ^ S 140) (fun _ => 0) := ⟨wI_eq, fun j hj => absurd hj (by omega)⟩
  refine (X11_addEdge (x := 0) hfu (hV.sc l0.sc) hG E0 (by omega) (by omega)).mono fun M1 q => ?_
  obtain ⟨n1, e1, E1, a1, a2, a3, a4⟩ := q
  have l1 := l0.tr a4
  have V1 := hV.sc l1.sc
  obtain ⟨⟨bb, hb, b1, b2, b3, b4⟩, _⟩ := id V1
  rw [b1, if_neg (nI_in (by omega) (by omega)), ix_n (by omega), b4, wp_bm]
  refine (X11_addEdge (x := S 142) hfu V1 hG E1 (by omega) (by omega)).mono fun M2 q => ?_
  obtain ⟨n2, e2, E2, c1, c2, c3, c4⟩ := q
  have l2 := l1.tr c4
  have A2 : EA S l n2 e2 0 0 := ⟨by
    obtain ⟨j, hj, ej⟩ := a3 (by omega)
    obtain ⟨j', hj', ej'⟩ := c2 j hj
    exact ⟨j', hj', by rw [ej', ej]⟩, c3, fun r hr => absurd hr (by omega), fun i hi => absurd hi (by omega)⟩
  unfold fX11_layEdges_l25
  refine lp_ho (fun k z => z.1 = nI k ∧ Le m M z.2 ∧ ∃ ne e, ne ≤ 2 + 2 * k ∧ EM z.2 m ne (2 ^ S 140) e ∧ EA S l ne e k 0) _ (S 141) (i := 0) (by omega) (by omega) ⟨rfl, l2, n2, e2, by omega, E2, A2⟩ (fun k z hk hz rec hrec => ?_) (fun z hz rec => ?_)
  · obtain ⟨z1, z2⟩ := z
    obtain ⟨rfl, g1, ne, e, g2, g3, g4⟩ := hz
    dsimp only at *
    have Vz := hV.sc g1.sc
    have s1 := hG.2.1 (38 + 3 * k)
    have s2 := hG.2.1 (39 + 3 * k)
    unfold fX11_layEdges_b25 fX11_layEdges_j68
    rw [X11_registersNow Vz, bi_s, if_neg (nI_ge hk (by omega)), X11_sizeOf Vz (by omega), bi_s, lt_eq, nI_1]
    by_cases cs : S (39 + 3 * k) = 0
    · rw [cs, if_pos (show nI 0 = (0 : Int32) from rfl)]
      refine hrec _ ⟨rfl, g1, ne, e, by omega, g3, g4.1, g4.2.1, fun r hr hs => ?_, g4.2.2.2⟩
      by_cases er : r = k
      · subst er; omega
      · exact g4.2.2.1 r (by omega) hs
    · rw [if_neg (show ¬ nI (S (39 + 3 * k)) = (0 : Int32) from nI_ne0 (by omega) (by omega)), X11_baseOf Vz (by omega), bi_s, wp_bm]
      refine (X11_addEdge hfu Vz hG g3 (by omega) (by omega)).mono fun M4 q => ?_
      obtain ⟨n4, e4, E4, d1, d2, d3, d4⟩ := q
      have V4 := hV.sc (g1.tr d4).sc
      rw [X11_baseOf V4 (by omega), bi_s, X11_sizeOf V4 (by omega), bi_s, nI_add, wp_bm]
      refine (X11_addEdge hfu V4 hG E4 (by omega) (by omega)).mono fun M5 q => ?_
      obtain ⟨n5, e5, E5, f1, f2, f3, f4⟩ := q
      have A5 := (g4.mo d2).mo f2
      rw [lt_eq]
      refine hrec _ ⟨rfl, (g1.tr d4).tr f4, n5, e5, by omega, E5, A5.1, A5.2.1, fun r hr hs => ?_, A5.2.2.2⟩
      by_cases er : r = k
      · subst er
        refine ⟨fun z => ?_, f3⟩
        obtain ⟨j, hj, ej⟩ := d3 z
        obtain ⟨j', hj', ej'⟩ := f2 j hj
        exact ⟨j', hj', by rw [ej', ej]⟩
      · exact A5.2.2.1 r (by omega) hs
  · obtain ⟨z1, z2⟩ := z
    obtain ⟨rfl, g1, ne, e, g2, g3, g4⟩ := hz
    dsimp only at *
    have Vz := hV.sc g1.sc
    unfold fX11_layEdges_b25 fX11_layEdges_j74 fX11_layEdges_l76
    rw [X11_registersNow Vz, bi_s, if_pos (Int32.le_refl _)]
    refine lp_ho (fun k z => z.1 = nI k ∧ Le m M z.2 ∧ ∃ ne e, ne ≤ 22 + 2 * k ∧ EM z.2 m ne (2 ^ S 140) e ∧ EA S l ne e (S 141) k) _ l.length (i := 0) (by omega) (by omega) ⟨rfl, g1, ne, e, by omega, g3, g4⟩ (fun k z hk hz rec hrec => ?_) (fun z hz rec => ?_)
    · obtain ⟨y1, y2⟩ := z
      obtain ⟨rfl, k1, ny, ey, k2, k3, k4⟩ := hz
      dsimp only at *
      have Vy := hV.sc k1.sc
      have By := hB.le k1
      obtain ⟨x1, x2, x3⟩ := bk_M By hk
      obtain ⟨r1, r2, r3, r4, r5⟩ := Rg_le hG.1.2.1 (bk_Rg hL k)
      unfold fX11_layEdges_b76
      rw [By.1, if_neg (nI_ge hk (by omega)), if_neg (nI_in (by omega) (by omega)), ix_n (by omega), x1, wp_bm]
      refine (X11_addEdge hfu Vy hG k3 (by omega) (by omega)).mono fun M4 q => ?_
      obtain ⟨n4, e4, E4, d1, d2, d3, d4⟩ := q
      have V4 := hV.sc (k1.tr d4).sc
      obtain ⟨w1, w2, w3⟩ := bk_M (By.le d4) hk
      rw [w1, w2, nI_add, wp_bm]
      refine (X11_addEdge hfu V4 hG E4 (by omega) (by omega)).mono fun M5 q => ?_
      obtain ⟨n5, e5, E5, f1, f2, f3, f4⟩ := q
      have A5 := (k4.mo d2).mo f2
      rw [lt_eq, nI_1]
      refine hrec _ ⟨rfl, (k1.tr d4).tr f4, n5, e5, by omega, E5, A5.1, A5.2.1, A5.2.2.1, fun i hi => ?_⟩
      by_cases er : i = k
      · subst er
        refine ⟨fun z => ?_, f3⟩
        obtain ⟨j, hj, ej⟩ := d3 z
        obtain ⟨j', hj', ej'⟩ := f2 j hj
        exact ⟨j', hj', by rw [ej', ej]⟩
      · exact A5.2.2.2 i (by omega)
    · obtain ⟨y1, y2⟩ := z
      obtain ⟨rfl, k1, ny, ey, k2, k3, k4⟩ := hz
      dsimp only at *
      have By := hB.le k1
      unfold fX11_layEdges_b76 fX11_layEdges_j117
      rw [By.1, if_pos (Int32.le_refl _), wp_some]
      exact ⟨⟨ny, ey, by omega, k3, k4⟩, k1⟩
end RS
