/-! Changes: the class's search, and what it keeps. -/
section CM
variable {fu c b Q cap n : Nat} {S : Sto} {l : List Bk} {f : Nat → Nat}
/-- what a search leaves -/
def SR (S : Sto) (l : List Bk) (c D dep : Nat) (M : Mm) (z : Int32 × Mm) : Prop := z.1 = bI (FE S l D = true) ∧ FF c M z.2 ∧ Dd S l z.2 c ∧ (∀ j, j < dep → z.2.1 (c + 1) j = M.1 (c + 1) j) ∧ (FE S l D = true → ∀ j, dep + j < nnS S l → z.2.1 (c + 1) (dep + j) = nI (fst S l (dnF S l D j)))
theorem X1_finds (hfu : 200000 ≤ fu) (hG : Gd S) (hL : Lb (S 140) l) (hN : nnS S l ≤ 12) : ∀ (dp D dep : Nat) (M : Mm), dep ≤ nnS S l → nnS S l - dep < dp → pcN D 0 12 = dep → D < 2 ^ nnS S l → CG S l M c n f → Dd S l M c → Wp (fX1_finds fu dp c (nI D) (nI dep) M) (SR S l c D dep M)
  | 0, _, _, _, _, h, _, _, _, _ => absurd h (Nat.not_lt_zero _)
  | dp + 1, D, dep, M, h1, h2, h3, h4, h5, h6 => by
    have IH := X1_finds hfu hG hL hN dp
    have hnn : nnS S l = gnS S l + cnS S l := rfl
    have hp : 2 ^ nnS S l ≤ 2 ^ 12 := Nat.pow_le_pow_right (by decide) hN
    have h0 : 0 < 2 ^ nnS S l := Nat.two_pow_pos _
    have hfe := FE_eq (D := D) hN
    show Wp (fX1_finds_R fu (fX1_finds fu dp) c (nI D) (nI dep) M) _
    unfold fX1_finds_R
    rw [X1_allSteps h5.1.2.2.1.1 h5.1.2.2.1.2 hN, bi_s]
    by_cases cl : D = 2 ^ nnS S l - 1
    · have hf1 : FE S l D = true := by rw [hfe, decide_eq_true cl, Bool.true_or]
      have hdep : dep = nnS S l := by rw [← h3, cl, pc_last hN]
      rw [if_pos (by rw [cl]), wp_some]
      refine ⟨by rw [bI_t hf1]; rfl, FF.rf c M, h6, fun _ _ => rfl, fun _ j hj => absurd hj (by omega)⟩
    · have hdep : dep < nnS S l := by
        refine Decidable.not_not.mp fun z => cl (pc_full hN h4 ?_)
        omega
      rw [if_neg (fun z => cl ((nI_eq (by omega) (by omega)).mp z))]
      unfold fX1_finds_l12
      refine lp_ho (fun k z => z.1 = nI k ∧ FF c M z.2 ∧ Dd S l z.2 c ∧ (∀ j, j < dep → z.2.1 (c + 1) j = M.1 (c + 1) j) ∧ ∀ j, j < k → stp S l D j = false) _ (nnS S l) (i := 0) (by omega) (by omega) ⟨rfl, FF.rf c M, h6, fun _ _ => rfl, fun j hj => absurd hj (by omega)⟩ (fun k z hk hz rec hrec => ?_) (fun z hz rec => ?_)
      · obtain ⟨z1, z2⟩ := z
        obtain ⟨rfl, g1, g2, g3, g4⟩ := hz
        dsimp only at *
        have G2 := h5.ff g1
        have hD' := or_lt h4 hk
        have hpk : 2 ^ k < 2 ^ 12 := Nat.pow_lt_pow_right (by decide) (by omega)
        have esh : (1 : Int32) <<< (nI k &&& 31) = nI (2 ^ k) := by
          have := zi_shl (n := 1) (k := k) (by omega) (by omega)
          rw [Nat.one_mul] at this
          exact this
        have e12 : ¬ (12 : Int32) ≤ nI dep := nI_ge (b := 12) (by omega) (by omega)
        have e6 : nI (D ||| 2 ^ k) >>> ((6 : Int32) &&& 31) = nI ((D ||| 2 ^ k) / 64) := zi_shr (k := 6) (by omega) (by omega)
        have e63 : nI (D ||| 2 ^ k) &&& 63 = nI ((D ||| 2 ^ k) % 64) := by
          have := zi_and (a := D ||| 2 ^ k) (b := 63) (by omega) (by omega)
          rw [show (D ||| 2 ^ k) &&& 63 = (D ||| 2 ^ k) % 64 from Nat.and_two_pow_sub_one_eq_mod _ 6] at this
          exact this
        -- on, without a mark
        have on0 : stp S l D k = false → Wp (fX1_finds_j111 fu (fX1_finds fu dp) (fun x3 M => rec (x3, M)) c (nI D) (nI dep) (nI k) (nI (D ||| 2 ^ k)) 0 z2) (SR S l c D dep M) := fun hs => by
          unfold fX1_finds_j111 fX1_finds_j136
          rw [if_pos rfl, lt_eq, nI_1]
          refine hrec _ ⟨rfl, g1, g2, g3, fun j hj => ?_⟩
          by_cases e : j = k
          · subst e; exact hs
          · exact g4 j (by omega)
        -- on, with a mark
        have on1 : ∀ M3, FF c M M3 → Dd S l M3 c → (∀ j, j < dep → M3.1 (c + 1) j = M.1 (c + 1) j) → okB S l (D ||| 2 ^ k) = false → Wp (fX1_finds_j111 fu (fX1_finds fu dp) (fun x3 M => rec (x3, M)) c (nI D) (nI dep) (nI k) (nI (D ||| 2 ^ k)) 1 M3) (SR S l c D dep M) := fun M3 k1 k2 k3 ho => by
          unfold fX1_finds_j111 fX1_finds_j136
          rw [if_neg (show ¬ (1 : Int32) = 0 by decide), e6, if_neg (nI_in (by omega) (by omega)), ix_n (by omega), e63, lt_eq, lt_eq, nI_1]
          refine hrec _ ⟨rfl, k1.tr ⟨fun _ _ => rfl, fun c' hc => ?_, rfl⟩, k2.mk (by omega) ho, k3, fun j hj => ?_⟩
          · funext y
            rw [wJ_2, if_neg (fun z => hc z.1)]
          · by_cases e : j = k
            · subst e
              unfold stp
              rw [ho, Bool.and_false]
            · exact g4 j (by omega)
        have no : cnB S l D k = false → Wp (fX1_finds_j64 fu (fX1_finds fu dp) (fun x3 M => rec (x3, M)) c (nI D) (nI dep) (nI k) (nI (D ||| 2 ^ k)) z2) (SR S l c D dep M) := fun hc => by
          unfold fX1_finds_j64 fX1_finds_j65
          rw [if_pos rfl]
          refine on0 ?_
          unfold stp
          rw [hc, Bool.false_and]
        have yes : cnB S l D k = true → Wp (fX1_finds_j60 fu (fX1_finds fu dp) (fun x3 M => rec (x3, M)) c (nI D) (nI dep) (nI k) (nI (D ||| 2 ^ k)) z2) (SR S l c D dep M) := fun hc => by
          unfold fX1_finds_j60 fX1_finds_j65 fX1_finds_j109
          rw [if_neg (show ¬ (1 : Int32) = 0 by decide), X1_isDeadEnd (by omega), bi_s]
          by_cases cd : dB (z2.2.1 (c + 7) ((D ||| 2 ^ k) / 64)) ((D ||| 2 ^ k) % 64) = true
          · rw [bI_t cd, if_neg (by decide)]
            exact on1 z2 g1 g2 g3 (g2 _ (by omega) cd)
          rw [bI_f cd, if_pos (by decide), X1_isSafe hfu G2 hG hL hN hD', bi_s]
          by_cases cs : usS S l (D ||| 2 ^ k) = 0
          · rw [bI_t cs, if_neg (by decide), if_neg (nI_in (by omega) (by omega)), ix_n (by omega), lt_eq, nI_1, wp_bw]
            have g5 : FF c M (wI z2 (c + 1) dep (nI k)) := g1.tr ⟨fun c' hc => wI_ne hc, fun _ _ => rfl, rfl⟩
            have hpc : pcN (D ||| 2 ^ k) 0 12 = dep + 1 := by rw [pc_or (cn_bit hc) (by omega), h3]
            refine (IH (D ||| 2 ^ k) (dep + 1) (wI z2 (c + 1) dep (nI k)) (by omega) (by omega) hpc hD' (h5.ff g5) g2).mono fun z q => ?_
            obtain ⟨r1, M4⟩ := z
            obtain ⟨q1, q2, q3, q4, q5⟩ := q
            dsimp only at *
            have pre : ∀ j, j < dep → M4.1 (c + 1) j = M.1 (c + 1) j := fun j hj => by
              rw [q4 j (by omega), wI_nk (by omega)]
              exact g3 j hj
            by_cases cf : FE S l (D ||| 2 ^ k) = true
            · have hst : stp S l D k = true := by
                unfold stp okB
                rw [hc, cf, decide_eq_true cs]
                rfl
              have hfst : fst S l D = k := fsB_eq hk hst g4
              have hf1 : FE S l D = true := by rw [hfe, exB_y hk hst, Bool.or_true]
              rw [q1, bI_t cf, if_neg (by decide), wp_some]
              refine ⟨by rw [bI_t hf1]; rfl, g5.tr q2, q3, pre, fun _ j hj => ?_⟩
              cases j with
              | zero =>
                show M4.1 (c + 1) dep = nI (fst S l D)
                rw [q4 dep (by omega), wI_eq, hfst]
              | succ j =>
                have := q5 cf j (by omega)
                show M4.1 (c + 1) (dep + (j + 1)) = _
                rw [show dep + (j + 1) = dep + 1 + j by omega, this, ← dnF_s, hfst]
            · have cf' : FE S l (D ||| 2 ^ k) = false := by
                cases hx : FE S l (D ||| 2 ^ k) with
                | false => rfl
                | true => exact absurd hx cf
              rw [q1, bI_f cf, if_pos (by decide)]
              refine on1 M4 (g5.tr q2) q3 pre ?_
              unfold okB
              rw [cf', Bool.and_false]
          · rw [bI_f cs, if_pos (by decide)]
            refine on1 z2 g1 g2 g3 ?_
            unfold okB
            rw [decide_eq_false cs, Bool.false_and]
        unfold fX1_finds_b12
        rw [G2.1.2.2.1.1, G2.1.2.2.1.2, nI_add, show gnS S l + cnS S l = nnS S l from rfl, if_neg (nI_ge hk (by omega)), if_neg e12, esh, zi_or (by omega) (by omega), lt_eq]
        by_cases cb : D.testBit k = true
        · rw [if_pos (by rw [or_eq.mpr cb])]
          refine no ?_
          unfold cnB
          rw [cb]
          rfl
        · have cb' : D.testBit k = false := by
            cases hx : D.testBit k with
            | false => rfl
            | true => exact absurd hx cb
          rw [if_neg (fun z => cb (or_eq.mp ((nI_eq (by omega) (by omega)).mp z)))]
          by_cases cg : k < gnS S l
          · rw [if_pos (nI_lt cg (by omega))]
            refine yes ?_
            unfold cnB
            rw [cb', decide_eq_true cg]
            rfl
          · rw [if_neg (nI_nlt (by omega) (by omega)), X1_hasRoom G2 hG hN h4, bi_s]
            by_cases cr : rmB S l D = true
            · rw [bI_t cr, if_neg (by decide)]
              refine yes ?_
              unfold cnB
              rw [cb', cr, Bool.or_true]
              rfl
            · have cr' : rmB S l D = false := by
                cases hx : rmB S l D with
                | false => rfl
                | true => exact absurd hx cr
              rw [bI_f cr, if_pos (by decide)]
              refine no ?_
              unfold cnB
              rw [cr', decide_eq_false cg, Bool.or_false, Bool.and_false]
      · obtain ⟨z1, z2⟩ := z
        obtain ⟨rfl, g1, g2, g3, g4⟩ := hz
        dsimp only at *
        have G2 := h5.ff g1
        have hf0 : FE S l D = false := by rw [hfe, decide_eq_false cl, exB_n g4]; rfl
        unfold fX1_finds_b12 fX1_finds_j142
        rw [G2.1.2.2.1.1, G2.1.2.2.1.2, nI_add, show gnS S l + cnS S l = nnS S l from rfl, if_pos (Int32.le_refl _), wp_some]
        refine ⟨by rw [hf0, bI_f (by decide)]; rfl, g1, g2, g3, fun z => ?_⟩
        rw [hf0] at z
        cases z
/-- what a change keeps -/
def CW (S : Sto) (M : Mm) (c : Nat) : Prop := M.1 c 0 = nI (gnS S (plS S)) ∧ M.1 c 1 = nI (cnS S (plS S)) ∧ ((M.1 c 2 = nI 0 ∧ M.1 c 3 = nI 0 ∧ ¬ ((plS S).length ≤ S 141 ∧ nnS S (plS S) ≤ 12)) ∨ (M.1 c 2 = nI 1 ∧ ((plS S).length ≤ S 141 ∧ nnS S (plS S) ≤ 12) ∧ M.1 c 3 = bI (FE S (plS S) 0 = true) ∧ (FE S (plS S) 0 = true → ∀ j, j < nnS S (plS S) → M.1 (c + 1) j = nI (fst S (plS S) (dnN S (plS S) j))) ∧ ∃ n f, CR S (plS S) M c n f))
theorem CW.fr {M M' : Mm} (h : CW S M c) (hf : ∀ c', c ≤ c' → c' < c + 8 → M'.1 c' = M.1 c') : CW S M' c := by
  have e0 := hf c (by omega) (by omega)
  have e1 := hf (c + 1) (by omega) (by omega)
  obtain ⟨h1, h2, h3⟩ := h
  refine ⟨by rw [e0]; exact h1, by rw [e0]; exact h2, ?_⟩
  rcases h3 with ⟨k1, k2, k3⟩ | ⟨k1, k2, k3, k4, n, f, k5, k6, k7, k8, k9⟩
  · exact Or.inl ⟨by rw [e0]; exact k1, by rw [e0]; exact k2, k3⟩
  · refine Or.inr ⟨by rw [e0]; exact k1, k2, by rw [e0]; exact k3, fun z j hj => by rw [e1]; exact k4 z j hj, n, f, k5.fr (hf _ (by omega) (by omega)) (hf _ (by omega) (by omega)), fun j k q1 q2 => ?_, by rw [e0]; exact k7, by rw [e0]; exact k8, by rw [e0]; exact k9⟩
    rw [hf (c + 4) (by omega) (by omega)]
    exact k6 j k q1 q2
theorem X1_make {M : Mm} (hfu : 200000 ≤ fu) (hV : VX S M b) (hG : Gd S) (hB : BV M Q (plS S)) (hd : b + 9 ≤ c ∨ c + 8 ≤ b) (hd2 : Q + 4 ≤ c ∨ c + 8 ≤ Q) : Wp (fX1_make fu c b 160 Q M) (fun M' => CW S M' c ∧ Fr c 8 M M') := by
  have hL := plS_Lb hG
  have hlen := plS_len hG
  have hcv := cvS_le hG hG.1.2.2.2.2.1
  have h10 := hG.1.2.2.2.1
  have hgn := gn_le (l := plS S) hG
  have hcn : cnS S (plS S) ≤ 157 := by
    have : cnS S (plS S) ≤ 1 * (plS S).length := smN_le fun x _ => cof_le x
    omega
  have hnn : nnS S (plS S) = gnS S (plS S) + cnS S (plS S) := rfl
  generalize hl : plS S = l at *
  have ng : ∀ t : Int32, t = 0 ∨ t = 1 → ∀ x : Option Mm, gd (t = 0 ∨ t = 1) x = x := fun t ht x => if_pos ht
  unfold fX1_make
  rw [wp_bm]
  refine (X1_countSteps hfu hV hG hB hL (by omega) (by omega) (by omega) (by omega)).mono fun M1 q => ?_
  obtain ⟨q1, q2, q3⟩ := q
  have V1 : VX S M1 b := hV.fr fun c' k1 k2 => q3.1 c' (by omega)
  have B1 : BV M1 Q l := hB.fr fun c' k1 k2 => q3.1 c' (by omega)
  have F1 : Fr c 8 M M1 := fun c' hc => ⟨q3.1 c' (by omega), by rw [q3.2], by rw [q3.2]⟩
  have out : ¬ (l.length ≤ S 141 ∧ nnS S l ≤ 12) → Wp (fX1_make_j36 fu c b 160 Q c M1) (fun M' => CW S M' c ∧ Fr c 8 M M') := fun hno => by
    unfold fX1_make_j36 fX1_make_j37
    rw [ng 0 (Or.inl rfl), lt_eq, lt_eq, wI_nk (by omega), wI_eq, if_pos rfl, wp_some]
    refine ⟨⟨?_, ?_, Or.inl ⟨?_, ?_, by rw [hl]; exact hno⟩⟩, F1.tr ((Fr.w1 _ _ _ _ (by omega) (by omega)).tr (Fr.w1 _ _ _ _ (by omega) (by omega)))⟩
    · rw [hl]; simp (disch := omega) only [wI_ne, wI_eq, wI_nk, wIs_ne, wIs_eq]; exact q1
    · rw [hl]; simp (disch := omega) only [wI_ne, wI_eq, wI_nk, wIs_ne, wIs_eq]; exact q2
    · simp (disch := omega) only [wI_ne, wI_eq, wI_nk, wIs_ne, wIs_eq]; rfl
    · simp (disch := omega) only [wI_ne, wI_eq, wI_nk, wIs_ne, wIs_eq]; rfl
  rw [V1.1.2.1, B1.1, q1, q2, nI_add]
  by_cases c1 : S 141 < l.length
  · rw [if_pos (nI_lt c1 (by omega))]
    exact out (by omega)
  rw [if_neg (nI_nlt (by omega) (by omega))]
  by_cases c2 : 12 < nnS S l
  · have c2' : (12 : Int32) < nI (gnS S l + cnS S l) := nI_lt (a := 12) (by omega) (by omega)
    rw [if_pos c2']
    exact out (by omega)
  have c2' : ¬ (12 : Int32) < nI (gnS S l + cnS S l) := fun z => by
    have := (nI_ltI (a := 12) (b := gnS S l + cnS S l) (by omega) (by omega)).mp z
    omega
  rw [if_neg c2']
  have hN : nnS S l ≤ 12 := by omega
  have hp : 2 ^ nnS S l ≤ 2 ^ 12 := Nat.pow_le_pow_right (by decide) hN
  have hp0 : 0 < 2 ^ nnS S l := Nat.two_pow_pos _
  have hF := hG.2.1 142
  have hcs := csN_le S (S 141)
  unfold fX1_make_j37
  rw [ng 1 (Or.inr rfl), lt_eq, lt_eq, wI_nk (by omega), wI_eq, if_neg (show ¬ (1 : Int32) = 0 by decide), lt_eq, lt_eq]
  generalize hM2 : wI (wI M1 c 2 1) c 3 0 = M2
  have V2 : VX S M2 b := by rw [← hM2]; exact V1.fr fun c' k1 k2 => by simp (disch := omega) only [wI_ne, wI_eq, wI_nk, wIs_ne, wIs_eq]
  have e2 : ∀ j, j ≠ 2 → j ≠ 3 → M2.1 c j = M1.1 c j := fun j h1 h2 => by rw [← hM2]; simp (disch := omega) only [wI_ne, wI_eq, wI_nk, wIs_ne, wIs_eq]
  have e22 : M2.1 c 2 = nI 1 := by rw [← hM2]; simp (disch := omega) only [wI_ne, wI_eq, wI_nk, wIs_ne, wIs_eq]; rfl
  have e23 : M2.1 c 3 = nI 0 := by rw [← hM2]; simp (disch := omega) only [wI_ne, wI_eq, wI_nk, wIs_ne, wIs_eq]; rfl
  have o2 : ∀ c', c' ≠ c → M2.1 c' = M1.1 c' := fun c' hc => by rw [← hM2, wI_ne hc, wI_ne hc]
  have p2 : M2.2 = M1.2 := by rw [← hM2]; rfl
  clear hM2
  have V3 : VX S (wI (wI M2 c 10 (M2.1 b 4)) c 11 ((wI M2 c 10 (M2.1 b 4)).1 b 2)) b := V2.fr fun c' k1 k2 => by simp (disch := omega) only [wI_ne, wI_eq, wI_nk, wIs_ne, wIs_eq]
  rw [X8_countSet hfu V3 hG, bi_s, V3.1.2.1, zi_sub hcs, lt_eq, wI_ne (show b ≠ c by omega), V2.1.2.2.2.2, V2.1.2.2.1]
  generalize hM4 : wI (wI (wI M2 c 10 (nI (S 142))) c 11 (nI (S 0))) c 12 (nI (S 141 - csN S (S 141))) = M4
  have o4 : ∀ c', c' ≠ c → M4.1 c' = M1.1 c' := fun c' hc => by rw [← hM4, wI_ne hc, wI_ne hc, wI_ne hc]; exact o2 c' hc
  have e40 : M4.1 c 0 = nI (gnS S l) := by rw [← hM4]; simp (disch := omega) only [wI_ne, wI_eq, wI_nk, wIs_ne, wIs_eq]; rw [e2 0 (by omega) (by omega)]; exact q1
  have e41 : M4.1 c 1 = nI (cnS S l) := by rw [← hM4]; simp (disch := omega) only [wI_ne, wI_eq, wI_nk, wIs_ne, wIs_eq]; rw [e2 1 (by omega) (by omega)]; exact q2
  have e42 : M4.1 c 2 = nI 1 := by rw [← hM4]; simp (disch := omega) only [wI_ne, wI_eq, wI_nk, wIs_ne, wIs_eq]; exact e22
  have e410 : M4.1 c 10 = nI (S 142) := by rw [← hM4]; simp (disch := omega) only [wI_ne, wI_eq, wI_nk, wIs_ne, wIs_eq]
  have e411 : M4.1 c 11 = nI (S 0) := by rw [← hM4]; simp (disch := omega) only [wI_ne, wI_eq, wI_nk, wIs_ne, wIs_eq]
  have e412 : M4.1 c 12 = nI (S 141 - csN S (S 141)) := by rw [← hM4]; simp (disch := omega) only [wI_ne, wI_eq, wI_nk, wIs_ne, wIs_eq]
  have p4 : M4.2 = M1.2 := by rw [← hM4]; exact p2
  clear hM4 V3
  have V4 : VX S M4 b := V1.fr fun c' k1 k2 => o4 c' (by omega)
  have B4 : BV M4 Q l := B1.fr fun c' k1 k2 => o4 c' (by omega)
  have F4 : Fr c 8 M M4 := F1.tr fun c' hc => ⟨o4 c' (by omega), by rw [p4], by rw [p4]⟩
  rw [wp_bm]
  refine (X1_cutPieces hfu V4 hG B4 hL (by omega) (by omega) (by omega) hd hd2).mono fun M5 q => ?_
  obtain ⟨⟨n, f, q4⟩, q5⟩ := q
  have V5 : VX S M5 b := V4.fr fun c' k1 k2 => q5.at (by omega)
  have B5 : BV M5 Q l := B4.fr fun c' k1 k2 => q5.at (by omega)
  rw [wp_bm]
  refine (X1_placeSteps hfu V5 hG B5 hL (by omega) (by omega) (by omega) hd hd2 q4 hN).mono fun M6 q => ?_
  obtain ⟨q6, q7⟩ := q
  have em : M6.1 c = M4.1 c := by rw [q7.1 c (by omega), q5.at (by omega)]
  have R6 : CR S l M6 c n f := ⟨q4.fr (q7.1 _ (by omega)) (q7.1 _ (by omega)), q6, ⟨by rw [em]; exact e40, by rw [em]; exact e41⟩, by rw [em]; exact e410, by rw [em]; exact e411⟩
  have F6 : Fr c 8 M M6 := (F4.tr (q5.wd (by omega) (by omega))).tr fun c' hc => ⟨q7.1 c' (by omega), by rw [q7.2], by rw [q7.2]⟩
  have n44 := q4.2.1
  have n2 := q4.1.2.2.1
  unfold fX1_make_l96
  refine lp_ho (fun i z => z.1 = nI i ∧ CR S l z.2 c n f ∧ z.2.1 c = M4.1 c ∧ (∀ j, j < i → z.2.1 (c + 5) j = nI (kB S l 0 (f j)) ∧ z.2.1 (c + 6) j = nI (kB S l (2 ^ nnS S l - 1) (f j))) ∧ Fr c 8 M z.2) _ (n - 1) (i := 0) (by omega) (by omega) ⟨rfl, R6, em, fun j hj => absurd hj (by omega), F6⟩ (fun i z hi hz rec hrec => ?_) (fun z hz rec => ?_)
  · obtain ⟨z1, z2⟩ := z
    obtain ⟨rfl, g1, g2, g3, g4⟩ := hz
    dsimp only at *
    have G3 : CR S l (wI z2 (c + 5) i (nI (kB S l 0 (f i)))) c n f := g1.fr (fun c' _ k2 _ _ => wI_ne k2) ⟨by rw [wI_ne (by omega)], by rw [wI_ne (by omega)], by rw [wI_ne (by omega)], by rw [wI_ne (by omega)]⟩
    have kk : fX1_kindBehind fu c (nI i) 0 z2 = some (nI (kB S l 0 (f i))) := X1_kindBehind (D := 0) hfu g1 hG hL hN hp0 (by omega)
    unfold fX1_make_b96
    rw [nI_1, g1.1.1.1.1, if_neg (nI_ge (by omega) (by omega)), kk, bi_s, if_neg (nI_in (by omega) (by omega)), ix_n (by omega), lt_eq, X1_allSteps G3.2.2.1.1 G3.2.2.1.2 hN, bi_s, X1_kindBehind hfu G3 hG hL hN (by omega) (by omega), bi_s, lt_eq, lt_eq]
    refine hrec _ ⟨rfl, G3.fr (fun c' _ _ k3 _ => wI_ne k3) ⟨by rw [wI_ne (by omega)], by rw [wI_ne (by omega)], by rw [wI_ne (by omega)], by rw [wI_ne (by omega)]⟩, ?_, fun j hj => ?_, (g4.tr (Fr.w1 _ _ _ _ (by omega) (by omega))).tr (Fr.w1 _ _ _ _ (by omega) (by omega))⟩
    · simp (disch := omega) only [wI_ne, wI_eq, wI_nk, wIs_ne, wIs_eq]
      exact g2
    · by_cases e : j = i
      · subst e
        simp (disch := omega) only [wI_ne, wI_eq, wI_nk, wIs_ne, wIs_eq]
        exact ⟨trivial, trivial⟩
      · simp (disch := omega) only [wI_ne, wI_eq, wI_nk, wIs_ne, wIs_eq]
        exact g3 j (by omega)
  · obtain ⟨z1, z2⟩ := z
    obtain ⟨rfl, g1, g2, g3, g4⟩ := hz
    dsimp only at *
    have CGz : CG S l z2 c n f := ⟨g1, by rw [g2]; exact e412, fun j hj => g3 j (by omega)⟩
    unfold fX1_make_b96 fX1_make_j142 fX1_make_l144
    rw [nI_1, g1.1.1.1.1, if_pos (nI_le (by omega) (by omega))]
    refine lp_ho (fun i z => z.1 = nI i ∧ z.2.1 = z2.1 ∧ (∀ j, j < i → z.2.2.1 (c + 7) j = 0) ∧ (∀ c', c' ≠ c + 7 → z.2.2.1 c' = z2.2.1 c') ∧ z.2.2.2 = z2.2.2) _ 64 (i := 0) (by omega) (by omega) ⟨rfl, rfl, fun j hj => absurd hj (by omega), fun _ _ => rfl, rfl⟩ (fun i z hi hz rec hrec => ?_) (fun z hz rec => ?_)
    · obtain ⟨y1, y2⟩ := z
      obtain ⟨rfl, k1, k2, k3, k4⟩ := hz
      dsimp only at *
      have c0 : ¬ (64 : Int32) ≤ nI i := nI_ge (b := 64) hi (by omega)
      unfold fX1_make_b144
      rw [if_neg c0, if_neg (nI_in (by omega) (by omega)), ix_n (by omega), lt_eq, lt_eq, nI_1]
      refine hrec _ ⟨rfl, k1, fun j hj => ?_, fun c' hc => ?_, k4⟩
      · rw [wJ_2]
        by_cases e : j = i
        · rw [if_pos ⟨rfl, e⟩]
        · rw [if_neg (fun z => e z.2)]
          exact k2 j (by omega)
      · funext y
        rw [wJ_2, if_neg (fun z => hc z.1), k3 c' hc]
    · obtain ⟨y1, y2⟩ := z
      obtain ⟨rfl, k1, k2, k3, k4⟩ := hz
      dsimp only at *
      have CGy : CG S l y2 c n f := CGz.ff ⟨fun c' _ => by rw [k1], k3, k4⟩
      have Ddy : Dd S l y2 c := fun D hD hb => by
        rw [k2 (D / 64) (by omega)] at hb
        unfold dB at hb
        rw [show (0 : Int64).toBitVec = 0#64 from rfl, BitVec.getLsbD_zero] at hb
        cases hb
      unfold fX1_make_b144 fX1_make_j166
      rw [if_pos (show (64 : Int32) ≤ nI 64 from Int32.le_refl _), wp_bw]
      refine (X1_finds hfu hG hL hN 16 0 0 y2 (by omega) (by omega) pc_0 hp0 CGy Ddy).mono fun z q => ?_
      obtain ⟨r0, M9⟩ := z
      obtain ⟨s1, s2, s3, s4, s5⟩ := q
      dsimp only at *
      subst s1
      have hb01 : (bI (FE S l 0 = true) = 0 ∨ bI (FE S l 0 = true) = 1) := by
        unfold bI
        split
        · exact Or.inr rfl
        · exact Or.inl rfl
      rw [ng _ hb01, lt_eq, wp_some]
      have CG9 := CGy.ff s2
      have m9 : M9.1 c = M4.1 c := by rw [s2.1 c (by omega), k1, g2]
      refine ⟨⟨?_, ?_, Or.inr ⟨?_, by rw [hl]; exact ⟨by omega, hN⟩, ?_, ?_, n, f, ?_⟩⟩, fun c' hc => ?_⟩
      · rw [hl, wI_nk (by omega), m9]; exact e40
      · rw [hl, wI_nk (by omega), m9]; exact e41
      · rw [wI_nk (by omega), m9]; exact e42
      · rw [hl, wI_eq]
      · rw [hl]
        intro hz j hj
        rw [wI_ne (by omega)]
        have := s5 hz j (by omega)
        rw [Nat.zero_add, dnF_0] at this
        exact this
      · rw [hl]
        exact CG9.1.fr (fun c' _ _ _ k4 => wI_ne k4) ⟨wI_nk (by omega), wI_nk (by omega), wI_nk (by omega), wI_nk (by omega)⟩
      · obtain ⟨a1, a2, a3⟩ := g4 c' hc
        refine ⟨?_, ?_, ?_⟩
        · rw [wI_ne (by omega), s2.1 c' (by omega), k1]
          exact a1
        · show M9.2.1 c' = _
          rw [s2.2.1 c' (by omega), k3 c' (by omega)]
          exact a2
        · show M9.2.2 c' = _
          rw [s2.2.2, k4]
          exact a3
end CM
