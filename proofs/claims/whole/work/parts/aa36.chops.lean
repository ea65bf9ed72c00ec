/-! Changes as asked of the class. -/
abbrev wkS (S : Sto) : Prop := (plS S).length ≤ S 141 ∧ nnS S (plS S) ≤ 12
def stD (S : Sto) (D D' x : Nat) : Nat := if S 142 ≤ x ∧ ¬ kB S (plS S) D x = kB S (plS S) D' x then 1 else 0
def chA (S : Sto) (x : Int32) : Int32 := if x = nI 0 then nI (nnS S (plS S)) else if x = nI 1 then nI (gnS S (plS S)) else if x = nI 2 then (if wkS S then bI (FE S (plS S) 0 = true) else mI) else mI
abbrev hsP (S : Sto) (x : Int32) : Prop := (wkS S ∧ FE S (plS S) 0 = true) ∧ inB x (nnS S (plS S))
def orA (S : Sto) (x : Int32) : Int32 := if hsP S x then nI (fst S (plS S) (dnN S (plS S) (ix x))) else mI
def srA (S : Sto) (x : Int32) : Int32 := if hsP S x then nI (smN (stD S (dnN S (plS S) (ix x)) (dnN S (plS S) (ix x + 1))) (2 ^ S 140)) else mI
def Hk (S : Sto) (M : Mm) (a : Nat) : Prop := M.1 a 18 = nI 0 ∨ (M.1 a 18 = nI 1 ∧ CW S M (a + 233))
/-- only plan and change, and their flags -/
def Hn (a : Nat) (M M' : Mm) : Prop := (∀ c, (c < a + 206 ∨ a + 224 ≤ c) → (c < a + 233 ∨ a + 241 ≤ c) → (c ≠ a → M'.1 c = M.1 c) ∧ M'.2.1 c = M.2.1 c ∧ M'.2.2 c = M.2.2 c) ∧ ∀ j, j ≠ 15 → j ≠ 18 → M'.1 a j = M.1 a j
section CO
variable {fu a c : Nat} {S : Sto} {M M1 : Mm} {L : Lay}
theorem X10_changeNow (hfu : 200000 ≤ fu) (hV : VX S M (a + 12)) (hG : Gd S) (ha : atB L (a + 220) (T0 160) = true) (hP : Lk S M a) (hC : Hk S M a) : ∃ M1, fX10_changeNow fu L a M = some M1 ∧ CW S M1 (a + 233) ∧ M1.1 a 18 = nI 1 ∧ Lk S M1 a ∧ Hn a M M1 := by
  unfold fX10_changeNow fX10_changeNow_j27
  rcases hC with h0 | ⟨h1, hc⟩
  · obtain ⟨M1, e1, b1, b2, b3⟩ := X10_planNow hfu hV hG ha hP
    have V1 : VX S M1 (a + 12) := hV.fr fun c k1 k2 => (b3.1 c (by omega)).1 (by omega)
    obtain ⟨M2, e2, w1, w2⟩ := X1_make (c := a + 233) hfu V1 hG b1 (Or.inl (by omega)) (Or.inl (by omega))
    rw [if_pos (show M.1 a 18 = 0 from h0), e1, bm_s, e2, bm_s, lt_eq]
    refine ⟨wI M2 a 18 1, rfl, w1.fr fun c k1 k2 => wI_ne (by omega), wI_eq, Or.inr ⟨?_, b1.fr fun c k1 k2 => ?_⟩, ⟨fun c k1 k2 => ⟨fun k3 => ?_, ?_, ?_⟩, fun j h1 h2 => ?_⟩⟩
    · rw [wI_nk (by omega), (w2 a (by omega)).1]
      exact b2
    · rw [wI_ne (by omega)]
      exact (w2 c (by omega)).1
    · rw [wI_ne k3, (w2 c (by omega)).1]
      exact (b3.1 c (by omega)).1 k3
    · show M2.2.1 c = _
      rw [(w2 c (by omega)).2.1]
      exact (b3.1 c (by omega)).2.1
    · show M2.2.2 c = _
      rw [(w2 c (by omega)).2.2]
      exact (b3.1 c (by omega)).2.2
    · rw [wI_nk h2, (w2 a (by omega)).1]
      exact b3.2 j h1
  · have c : ¬ M.1 a 18 = (0 : Int32) := by rw [h1]; decide
    rw [if_neg c]
    exact ⟨M, rfl, hc, h1, hP, ⟨fun _ _ _ => ⟨fun _ => rfl, rfl, rfl⟩, fun _ _ _ => rfl⟩⟩
theorem nn_le (hG : Gd S) : nnS S (plS S) ≤ 167 := by
  have h1 := gn_le (l := plS S) hG
  have hlen := plS_len hG
  have hcv := cvS_le hG hG.1.2.2.2.2.1
  have : cnS S (plS S) ≤ 1 * (plS S).length := smN_le fun x _ => cof_le x
  have : nnS S (plS S) = gnS S (plS S) + cnS S (plS S) := rfl
  omega
theorem X10_change (hG : Gd S) (e : fX10_changeNow fu L a M = some M1) (hC : CW S M1 (a + 233)) (x : Int32) : fX10_change fu L a x M = some (chA S x, M1) := by
  obtain ⟨h1, h2, h3⟩ := hC
  have hnn : nnS S (plS S) = gnS S (plS S) + cnS S (plS S) := rfl
  unfold fX10_change fX10_change_j70 chA
  rw [e, bm_s, h1, h2, nI_add, ← hnn]
  show (if x = nI 0 then _ else if x = nI 1 then _ else if x = nI 2 then _ else _) = _
  by_cases c0 : x = nI 0
  · rw [if_pos c0, if_pos c0]
  rw [if_neg c0, if_neg c0]
  by_cases c1 : x = nI 1
  · rw [if_pos c1, if_pos c1]
  rw [if_neg c1, if_neg c1]
  by_cases c2 : x = nI 2
  · rw [if_pos c2, if_pos c2]
    rcases h3 with ⟨k1, k2, k3⟩ | ⟨k1, k2, k3, _⟩
    · rw [k1, if_pos (show nI 0 = (0 : Int32) from rfl), if_neg k3]
      rfl
    · rw [k1, if_neg (by decide), if_pos k2, k3]
      by_cases cf : FE S (plS S) 0 = true
      · rw [bI_t cf, if_neg (by decide)]
        rfl
      · rw [bI_f cf, if_pos (by decide)]
        rfl
  · rw [if_neg c2, if_neg c2]
    rfl
theorem X1_hasStep (hG : Gd S) (hC : CW S M c) (x : Int32) : fX1_hasStep fu c x M = some (bI (hsP S x)) := by
  obtain ⟨h1, h2, h3⟩ := hC
  have hnn : nnS S (plS S) = gnS S (plS S) + cnS S (plS S) := rfl
  have hle := nn_le hG
  have n28 : fX1_hasStep_j28 fu M = some (nI 0) := by
    unfold fX1_hasStep_j28 fX1_hasStep_j29
    show (if ((0 : Int32) = 0 ∨ (0 : Int32) = 1) then some (0 : Int32) else none) = _
    rw [if_pos (Or.inl rfl)]
    rfl
  have n29 : fX1_hasStep_j29 fu 1 M = some (nI 1) := by
    unfold fX1_hasStep_j29
    show (if ((1 : Int32) = 0 ∨ (1 : Int32) = 1) then some (1 : Int32) else none) = _
    rw [if_pos (Or.inr rfl)]
    rfl
  unfold fX1_hasStep
  rw [n28, n29, h1, h2, nI_add, ← hnn]
  rcases h3 with ⟨k1, k2, k3⟩ | ⟨k1, k2, k3, _⟩
  · rw [k2, if_pos (show nI 0 = (0 : Int32) from rfl), bI_f (fun z => k3 z.1.1)]
  · rw [k3]
    by_cases cf : FE S (plS S) 0 = true
    · rw [bI_t cf, if_neg (by decide)]
      by_cases cx : x < 0
      · rw [if_pos cx, bI_f (fun z => z.2.1 cx)]
      · obtain ⟨i, hi, rfl⟩ := nI_of cx
        rw [if_neg cx]
        by_cases ci : i < nnS S (plS S)
        · rw [if_neg (nI_ge ci (by omega)), bI_t ⟨⟨k2, cf⟩, inB_y ci (by omega)⟩]
        · rw [if_pos (nI_le (by omega) hi), bI_f (fun z => ci (by have := z.2.2; rw [ix_n hi] at this; exact this))]
    · rw [bI_f cf, if_pos (by decide), bI_f (fun z => cf z.1.2)]
theorem X10_order (hG : Gd S) (e : fX10_changeNow fu L a M = some M1) (hC : CW S M1 (a + 233)) (x : Int32) : fX10_order fu L a x M = some (orA S x, M1) := by
  unfold fX10_order fX10_order_j23 orA
  rw [e, bm_s, X1_hasStep hG hC, bi_s]
  by_cases ch : hsP S x
  · obtain ⟨i, hi, h31, rfl⟩ := inB_of ch.2
    have hw := ch.1.1.2
    rw [bI_t ch, if_neg (by decide), if_neg (nI_in (by omega) (by omega)), if_pos ch, ix_n h31]
    rcases hC.2.2 with ⟨k1, k2, k3⟩ | ⟨k1, k2, k3, k4, _⟩
    · exact absurd ch.1.1 k3
    · rw [k4 ch.1.2 i hi]
  · rw [bI_f ch, if_pos (by decide), if_neg ch]
    rfl
theorem fst_lt {j : Nat} (hw : wkS S) (hf : FE S (plS S) 0 = true) (hj : j < nnS S (plS S)) : fst S (plS S) (dnN S (plS S) j) < nnS S (plS S) := (fsB_ok (dn_st hw.2 hf hj)).1
theorem X1_stirredBy (hfu : 200000 ≤ fu) (hG : Gd S) (hC : CW S M c) (hw : wkS S) (hf : FE S (plS S) 0 = true) {i : Nat} (hi : i < nnS S (plS S)) : fX1_stirredBy fu c (nI i) M = some (nI (smN (stD S (dnN S (plS S) i) (dnN S (plS S) (i + 1))) (2 ^ S 140))) := by
  have hA := hG.ad
  have hF := hG.2.1 142
  have hN := hw.2
  have hL := plS_Lb hG
  rcases hC.2.2 with ⟨k1, k2, k3⟩ | ⟨k1, k2, k3, k4, n, f, hR⟩
  · exact absurd hw k3
  have hp : 2 ^ nnS S (plS S) ≤ 2 ^ 12 := Nat.pow_le_pow_right (by decide) hN
  have hE := hR.1
  have n44 := hE.2.1
  have n2 := hE.1.2.2.1
  have orr : ∀ j, j < nnS S (plS S) → nI (dnN S (plS S) j) ||| ((1 : Int32) <<< (M.1 (c + 1) j &&& 31)) = nI (dnN S (plS S) (j + 1)) := fun j hj => by
    have h1 := (dn_ok hN hf j (by omega)).1
    have h2 := fst_lt hw hf hj
    have hpk : 2 ^ fst S (plS S) (dnN S (plS S) j) < 2 ^ 12 := Nat.pow_lt_pow_right (by decide) (by omega)
    have esh : (1 : Int32) <<< (nI (fst S (plS S) (dnN S (plS S) j)) &&& 31) = nI (2 ^ fst S (plS S) (dnN S (plS S) j)) := by
      have := zi_shl (n := 1) (k := fst S (plS S) (dnN S (plS S) j)) (by omega) (by omega)
      rw [Nat.one_mul] at this
      exact this
    rw [k4 hf j hj, esh, zi_or (by omega) (by omega)]
    rfl
  have hD := (dn_ok hN hf i (by omega)).1
  have hD' := (dn_ok hN hf (i + 1) (by omega)).1
  unfold fX1_stirredBy fX1_stirredBy_l4
  refine lp_ue (fun j => (nI (dnN S (plS S) j), nI j)) i rfl (by omega) (fun j hj rec => ?_) (fun rec => ?_)
  · show fX1_stirredBy_b4 fu _ c (nI i) (nI (dnN S (plS S) j)) (nI j) M = rec (nI (dnN S (plS S) (j + 1)), nI (j + 1))
    unfold fX1_stirredBy_b4
    rw [if_neg (nI_ge hj (by omega)), if_neg (nI_in (by omega) (by omega)), ix_n (by omega), orr j (by omega), lt_eq, lt_eq, nI_1]
  · show fX1_stirredBy_b4 fu _ c (nI i) (nI (dnN S (plS S) i)) (nI i) M = _
    unfold fX1_stirredBy_b4 fX1_stirredBy_j26 fX1_stirredBy_l43
    rw [if_pos (Int32.le_refl _), if_neg (nI_in (by omega) (by omega)), ix_n (by omega), orr i hi, lt_eq]
    generalize dnN S (plS S) i = D at hD
    generalize dnN S (plS S) (i + 1) = D' at hD'
    refine lp_ue (fun j => (nI (smN (stD S D D') (f j)), nI j)) (n - 1) (by rw [hE.1.2.2.2.1]; rfl) (by omega) (fun j hj rec => ?_) (fun rec => ?_)
    · have hle := hE.1.le (i := j + 1) (by omega)
      have hlt := hE.1.2.1 j (j + 1) (by omega) (by omega)
      have b1 := kB_le (l := plS S) hG D (f j)
      have b2 := kB_le (l := plS S) hG D' (f j)
      have su : smN (stD S D D') (f (j + 1)) = smN (stD S D D') (f j) + stD S D D' (f j) * (f (j + 1) - f j) := smN_flat (Nat.le_of_lt hlt) fun x h1 h2 => by
        unfold stD
        rw [kB_cg (hE.sm ⟨by omega, h1, h2⟩) D, kB_cg (hE.sm ⟨by omega, h1, h2⟩) D']
        simp only [hE.fx ⟨by omega, h1, h2⟩]
      have e5 : nI (f (j + 1)) - nI (f j) = nI (f (j + 1) - f j) := zi_sub (by omega)
      show fX1_stirredBy_b43 fu _ c (nI D) (nI D') (nI (smN (stD S D D') (f j))) (nI j) M = rec (nI (smN (stD S D D') (f (j + 1))), nI (j + 1))
      unfold fX1_stirredBy_b43 fX1_stirredBy_j119
      rw [nI_1, hE.1.1.1, if_neg (nI_ge (by omega) (by omega)), if_neg (nI_in (by omega) (by omega)), ix_n (by omega), hE.1.1.2 j (by omega), hR.2.2.2.1, lt_eq, su]
      by_cases c1 : f j < S 142
      · have : stD S D D' (f j) = 0 := if_neg (fun z => absurd z.1 (by omega))
        rw [if_pos (nI_lt c1 (by omega)), this, Nat.zero_mul]
        rfl
      rw [if_neg (nI_nlt (by omega) (by omega)), X1_kindBehind hfu hR hG hL hN hD (by omega), bi_s, X1_kindBehind hfu hR hG hL hN hD' (by omega), bi_s]
      by_cases c2 : kB S (plS S) D (f j) = kB S (plS S) D' (f j)
      · have : stD S D D' (f j) = 0 := if_neg (fun z => z.2 c2)
        rw [if_pos (by rw [c2]), this, Nat.zero_mul]
        rfl
      · have : stD S D D' (f j) = 1 := if_pos ⟨by omega, c2⟩
        rw [if_neg (fun z => c2 ((nI_eq (by omega) (by omega)).mp z)), if_neg (nI_in (by omega) (by omega)), ix_n (by omega), hE.1.1.2 (j + 1) (by omega), e5, nI_add, lt_eq, lt_eq, this, Nat.one_mul]
    · show fX1_stirredBy_b43 fu _ c (nI D) (nI D') (nI (smN (stD S D D') (f (n - 1)))) (nI (n - 1)) M = _
      unfold fX1_stirredBy_b43
      rw [nI_1, hE.1.1.1, if_pos (nI_le (by omega) (by omega)), hE.1.2.2.2.2]
      rfl
theorem X10_stir (hfu : 200000 ≤ fu) (hG : Gd S) (e : fX10_changeNow fu L a M = some M1) (hC : CW S M1 (a + 233)) (x : Int32) : fX10_stir fu L a x M = some (srA S x, M1) := by
  unfold fX10_stir fX10_stir_j22 srA
  rw [e, bm_s, X1_hasStep hG hC, bi_s]
  by_cases ch : hsP S x
  · obtain ⟨i, hi, h31, rfl⟩ := inB_of ch.2
    rw [bI_t ch, if_neg (by decide), X1_stirredBy hfu hG hC ch.1.1 ch.1.2 hi, bi_s, if_pos ch, ix_n h31]
  · rw [bI_f ch, if_pos (by decide), if_neg ch]
    rfl
end CO
