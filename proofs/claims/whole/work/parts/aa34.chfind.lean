/-! Changes: the class looks for an order. -/
theorem dd_sh : ∀ k, k < 64 → (((nI k).toInt64 &&& 63).toBitVec.smod 64).toNat = k := by decide +kernel
theorem b1_0 (x : BitVec 64) : x &&& 1#64 = 0#64 ↔ x.getLsbD 0 = false := by
  constructor
  · intro h
    have := congrArg (fun z => BitVec.getLsbD z 0) h
    simpa using this
  · intro h
    apply BitVec.eq_of_getLsbD_eq
    intro i hi
    rw [BitVec.getLsbD_and]
    by_cases c : i = 0
    · subst c
      rw [h]
      simp
    · have : (1#64).getLsbD i = false := by
        rw [BitVec.getLsbD_one]
        simp [c]
      rw [this]
      simp
def dB (v : Int64) (k : Nat) : Bool := v.toBitVec.getLsbD k
theorem dB_t {v : Int64} {k : Nat} (hk : k < 64) : (lg_cmp ((v >>> ((nI k).toInt64 &&& 63)) &&& 1) 0 = 0) ↔ dB v k = false := by
  rw [lg_cmp_eq, ← Int64.toBitVec_inj]
  show BitVec.sshiftRight' v.toBitVec (((nI k).toInt64 &&& 63).toBitVec.smod 64) &&& 1#64 = 0#64 ↔ _
  rw [b1_0, BitVec.getLsbD_sshiftRight', dd_sh k hk, if_pos (by omega)]
  unfold dB
  simp
theorem dB_s {v : Int64} {k k' : Nat} (hk : k < 64) (hk' : k' < 64) (h : dB (v ||| ((1 : Int64) <<< ((nI k).toInt64 &&& 63))) k' = true) : dB v k' = true ∨ k' = k := by
  unfold dB at h ⊢
  have e : (v ||| ((1 : Int64) <<< ((nI k).toInt64 &&& 63))).toBitVec = v.toBitVec ||| (1#64 <<< (((nI k).toInt64 &&& 63).toBitVec.smod 64)) := rfl
  rw [e, BitVec.getLsbD_or, BitVec.getLsbD_shiftLeft', dd_sh k hk, BitVec.getLsbD_one] at h
  by_cases c : k' = k
  · exact Or.inr c
  · left
    by_cases c2 : k' < k
    · simpa [c2] using h
    · have : ¬ k' - k = 0 := by omega
      simpa [this] using h
theorem bc_0 : ∀ n, n < 1024 → fJ6_bitCount_0f7a4 0 (nI n) = some (nI (pcN n 0 12)) := by decide +kernel
theorem bc_1 : ∀ n, n < 1024 → fJ6_bitCount_0f7a4 0 (nI (n + 1024)) = some (nI (pcN (n + 1024) 0 12)) := by decide +kernel
theorem bc_2 : ∀ n, n < 1024 → fJ6_bitCount_0f7a4 0 (nI (n + 2048)) = some (nI (pcN (n + 2048) 0 12)) := by decide +kernel
theorem bc_3 : ∀ n, n < 1024 → fJ6_bitCount_0f7a4 0 (nI (n + 3072)) = some (nI (pcN (n + 3072) 0 12)) := by decide +kernel
theorem bc_n (fu : Nat) {n : Nat} (h : n < 4096) : fJ6_bitCount_0f7a4 fu (nI n) = some (nI (pcN n 0 12)) := by
  show fJ6_bitCount_0f7a4 0 (nI n) = _
  by_cases c0 : n < 1024
  · exact bc_0 n c0
  by_cases c1 : n < 2048
  · have := bc_1 (n - 1024) (by omega)
    rw [show n - 1024 + 1024 = n by omega] at this
    exact this
  by_cases c2 : n < 3072
  · have := bc_2 (n - 2048) (by omega)
    rw [show n - 2048 + 2048 = n by omega] at this
    exact this
  · have := bc_3 (n - 3072) (by omega)
    rw [show n - 3072 + 3072 = n by omega] at this
    exact this
theorem pc_lo {D g : Nat} (hg : g ≤ 12) : pcN (D &&& (2 ^ g - 1)) 0 12 = pcN D 0 g := by
  unfold pcN
  have h1 := smN_flat (g := fun j => if (D &&& (2 ^ g - 1)).testBit (0 + j) = true then 1 else 0) (a := g) (b := 12) (v := 0) hg (fun x h _ => by
    rw [Nat.zero_add, Nat.testBit_and, Nat.testBit_two_pow_sub_one, decide_eq_false (p := x < g) (by omega), Bool.and_false]
    rfl)
  rw [h1, Nat.zero_mul, Nat.add_zero]
  refine smN_cg fun x hx => ?_
  rw [Nat.zero_add, Nat.testBit_and, Nat.testBit_two_pow_sub_one, decide_eq_true hx, Bool.and_true]
theorem pc_hi {D g n : Nat} (hn : g + n ≤ 12) (hD : D < 2 ^ (g + n)) : pcN (D / 2 ^ g) 0 12 = pcN D g n := by
  unfold pcN
  have h1 := smN_flat (g := fun j => if (D / 2 ^ g).testBit (0 + j) = true then 1 else 0) (a := n) (b := 12) (v := 0) (by omega) (fun x h _ => by
    rw [Nat.zero_add, Nat.testBit_div_two_pow, Nat.testBit_lt_two_pow (Nat.lt_of_lt_of_le hD (Nat.pow_le_pow_right (by decide) (by omega)))]
    rfl)
  rw [h1, Nat.zero_mul, Nat.add_zero]
  refine smN_cg fun x hx => ?_
  rw [Nat.zero_add, Nat.testBit_div_two_pow, Nat.add_comm]
theorem pc_full {D n : Nat} (hn : n ≤ 12) (hD : D < 2 ^ n) (h : pcN D 0 12 = n) : D = 2 ^ n - 1 := by
  have h1 := smN_flat (g := fun j => if D.testBit (0 + j) = true then 1 else 0) (a := n) (b := 12) (v := 0) hn (fun x h _ => by
    rw [Nat.zero_add, Nat.testBit_lt_two_pow (Nat.lt_of_lt_of_le hD (Nat.pow_le_pow_right (by decide) h))]
    rfl)
  have h2 : smN (fun j => (if D.testBit (0 + j) = true then 1 else 0) + (if D.testBit (0 + j) = true then 0 else 1)) n = smN (fun _ => 1) n := smN_cg fun x _ => by split <;> rfl
  rw [smN_sum, smN_const] at h2
  unfold pcN at h
  have h3 : smN (fun j => if D.testBit (0 + j) = true then 0 else 1) n = 0 := by omega
  have h4 := smN_nz.mp h3
  refine Nat.eq_of_testBit_eq fun b => ?_
  rw [Nat.testBit_two_pow_sub_one]
  by_cases c : b < n
  · have := h4 b c
    rw [Nat.zero_add] at this
    rw [decide_eq_true c]
    cases hb : D.testBit b with
    | true => rfl
    | false => rw [hb] at this; exact absurd this (by decide)
  · rw [decide_eq_false c]
    exact Nat.testBit_lt_two_pow (Nat.lt_of_lt_of_le hD (Nat.pow_le_pow_right (by decide) (by omega)))
theorem or_eq {D k : Nat} : D ||| 2 ^ k = D ↔ D.testBit k = true := by
  constructor
  · intro h
    rw [← h, Nat.testBit_or, Nat.testBit_two_pow]
    simp
  · intro h
    refine Nat.eq_of_testBit_eq fun b => ?_
    rw [Nat.testBit_or, Nat.testBit_two_pow]
    by_cases c : k = b
    · subst c
      rw [h]
      simp
    · rw [decide_eq_false c, Bool.or_false]
def dnF (S : Sto) (l : List Bk) (D : Nat) : Nat → Nat
  | 0 => D
  | j + 1 => dnF S l D j ||| 2 ^ fst S l (dnF S l D j)
theorem dnF_s (S : Sto) (l : List Bk) (D : Nat) : ∀ j, dnF S l (D ||| 2 ^ fst S l D) j = dnF S l D (j + 1)
  | 0 => rfl
  | j + 1 => by
    show dnF S l (D ||| 2 ^ fst S l D) j ||| 2 ^ fst S l (dnF S l (D ||| 2 ^ fst S l D) j) = _
    rw [dnF_s S l D j]
    rfl
theorem dnF_0 (S : Sto) (l : List Bk) : ∀ j, dnF S l 0 j = dnN S l j
  | 0 => rfl
  | j + 1 => by
    show dnF S l 0 j ||| 2 ^ fst S l (dnF S l 0 j) = dnN S l j ||| 2 ^ fst S l (dnN S l j)
    rw [dnF_0 S l j]
/-- pieces and steps as they stand -/
def CR (S : Sto) (l : List Bk) (M : Mm) (c n : Nat) (f : Nat → Nat) : Prop := CE S l M c n f ∧ OW (fun j k => ovC S l (f j) k l.length) n c M ∧ (M.1 c 0 = nI (gnS S l) ∧ M.1 c 1 = nI (cnS S l)) ∧ M.1 c 10 = nI (S 142) ∧ M.1 c 11 = nI (S 0)
def CG (S : Sto) (l : List Bk) (M : Mm) (c n : Nat) (f : Nat → Nat) : Prop := CR S l M c n f ∧ M.1 c 12 = nI (S 141 - csN S (S 141)) ∧ ∀ j, j + 1 < n → M.1 (c + 5) j = nI (kB S l 0 (f j)) ∧ M.1 (c + 6) j = nI (kB S l (2 ^ nnS S l - 1) (f j))
def Dd (S : Sto) (l : List Bk) (M : Mm) (c : Nat) : Prop := ∀ D, D < 4096 → dB (M.2.1 (c + 7) (D / 64)) (D % 64) = true → okB S l D = false
/-- only the order, and the dead ends -/
def FF (c : Nat) (M M' : Mm) : Prop := (∀ c', c' ≠ c + 1 → M'.1 c' = M.1 c') ∧ (∀ c', c' ≠ c + 7 → M'.2.1 c' = M.2.1 c') ∧ M'.2.2 = M.2.2
theorem FF.rf (c : Nat) (M : Mm) : FF c M M := ⟨fun _ _ => rfl, fun _ _ => rfl, rfl⟩
theorem FF.tr {c : Nat} {M M' M'' : Mm} (h : FF c M M') (h' : FF c M' M'') : FF c M M'' := ⟨fun x hx => (h'.1 x hx).trans (h.1 x hx), fun x hx => (h'.2.1 x hx).trans (h.2.1 x hx), h'.2.2.trans h.2.2⟩
section CF
variable {fu c n : Nat} {S : Sto} {l : List Bk} {M : Mm} {f : Nat → Nat}
theorem CR.fr {M' : Mm} (h : CR S l M c n f) (hf : ∀ c', c' ≠ c + 1 → c' ≠ c + 5 → c' ≠ c + 6 → c' ≠ c → M'.1 c' = M.1 c') (h0 : M'.1 c 0 = M.1 c 0 ∧ M'.1 c 1 = M.1 c 1 ∧ M'.1 c 10 = M.1 c 10 ∧ M'.1 c 11 = M.1 c 11) : CR S l M' c n f := by
  obtain ⟨h1, h2, ⟨h3, h4⟩, h5, h6⟩ := h
  refine ⟨h1.fr (hf _ (by omega) (by omega) (by omega) (by omega)) (hf _ (by omega) (by omega) (by omega) (by omega)), fun j k k1 k2 => ?_, ⟨?_, ?_⟩, ?_, ?_⟩
  · rw [hf (c + 4) (by omega) (by omega) (by omega) (by omega)]
    exact h2 j k k1 k2
  · rw [h0.1]; exact h3
  · rw [h0.2.1]; exact h4
  · rw [h0.2.2.1]; exact h5
  · rw [h0.2.2.2]; exact h6
theorem CG.ff {M' : Mm} (h : CG S l M c n f) (hf : FF c M M') : CG S l M' c n f := by
  have em := hf.1 c (by omega)
  refine ⟨h.1.fr (fun c' k1 _ _ _ => hf.1 c' k1) ⟨by rw [em], by rw [em], by rw [em], by rw [em]⟩, by rw [em]; exact h.2.1, fun j hj => ?_⟩
  rw [hf.1 (c + 5) (by omega), hf.1 (c + 6) (by omega)]
  exact h.2.2 j hj
theorem X1_allGoes (h : M.1 c 0 = nI (gnS S l)) (hg : gnS S l ≤ 12) : fX1_allGoes fu c M = some (nI (2 ^ gnS S l - 1)) := by
  have hp : 2 ^ gnS S l ≤ 2 ^ 12 := Nat.pow_le_pow_right (by decide) hg
  have h0 : 0 < 2 ^ gnS S l := Nat.two_pow_pos _
  have e1 : (1 : Int32) <<< (nI (gnS S l) &&& 31) = nI (2 ^ gnS S l) := by
    have := zi_shl (n := 1) (k := gnS S l) (by omega) (by omega)
    rw [Nat.one_mul] at this
    exact this
  unfold fX1_allGoes
  rw [h, e1, show nI (2 ^ gnS S l) - 1 = nI (2 ^ gnS S l - 1) from zi_sub (b := 1) (by omega)]
theorem X1_allSteps (h : M.1 c 0 = nI (gnS S l)) (h1 : M.1 c 1 = nI (cnS S l)) (hg : nnS S l ≤ 12) : fX1_allSteps fu c M = some (nI (2 ^ nnS S l - 1)) := by
  have hp : 2 ^ nnS S l ≤ 2 ^ 12 := Nat.pow_le_pow_right (by decide) hg
  have h0 : 0 < 2 ^ nnS S l := Nat.two_pow_pos _
  have e1 : (1 : Int32) <<< (nI (nnS S l) &&& 31) = nI (2 ^ nnS S l) := by
    have := zi_shl (n := 1) (k := nnS S l) (by omega) (by omega)
    rw [Nat.one_mul] at this
    exact this
  unfold fX1_allSteps
  rw [h, h1, nI_add, show gnS S l + cnS S l = nnS S l from rfl, e1, show nI (2 ^ nnS S l) - 1 = nI (2 ^ nnS S l - 1) from zi_sub (b := 1) (by omega)]
theorem X1_kindBehind (hfu : 200000 ≤ fu) (h : CR S l M c n f) (hG : Gd S) (hL : Lb (S 140) l) (hN : nnS S l ≤ 12) {D i : Nat} (hD : D < 2 ^ nnS S l) (hi : i + 1 < n) : fX1_kindBehind fu c (nI i) (nI D) M = some (nI (kB S l D (f i))) := by
  obtain ⟨h1, h2, ⟨h3, h4⟩, h5, h6⟩ := h
  have hn44 := h1.2.1
  have hnn : nnS S l = gnS S l + cnS S l := rfl
  have hp : 2 ^ nnS S l ≤ 2 ^ 12 := Nat.pow_le_pow_right (by decide) hN
  have hp2 : 2 ^ gnS S l ≤ 2 ^ 12 := Nat.pow_le_pow_right (by decide) (by omega)
  have hth := thN_lt hN hD
  have hx : D ^^^ (2 ^ gnS S l - 1) < 2 ^ 12 := Nat.xor_lt_two_pow (by omega) (by omega)
  have e1 : (nI D ^^^ nI (2 ^ gnS S l - 1)) ||| 4096 = nI (thN S l D) := by
    rw [zi_xor (by omega) (by omega)]
    exact zi_or (b := 4096) (by omega) (by omega)
  unfold fX1_kindBehind
  rw [X1_allGoes h3 (by omega), bi_s, lt_eq, e1]
  unfold fX1_kindBehind_l17
  refine lp_ue (fun k => (nI (clN S l D (f i) k), nI k)) 5 rfl (by omega) (fun k hk rec => ?_) (fun rec => ?_)
  · have hov := ovC_lt hN (f i) k l.length (Nat.le_refl _)
    have hcl := clN_lt (S := S) (l := l) D (f i) k
    have hcl2 : 2 ^ k ≤ 2 ^ 5 := Nat.pow_le_pow_right (by decide) (by omega)
    have c0 : ¬ (5 : Int32) ≤ nI k := nI_ge (b := 5) hk (by omega)
    have e5 : nI i * 5 + nI k = nI (i * 5 + k) := by
      rw [show nI i * 5 = nI (i * 5) from zi_mul i 5, nI_add]
    have ho := h2 i k hi hk
    dsimp only at ho
    have ha : ovC S l (f i) k l.length &&& thN S l D < 2 ^ 13 := Nat.and_lt_two_pow _ (by omega)
    have esh : (1 : Int32) <<< (nI k &&& 31) = nI (2 ^ k) := by
      have := zi_shl (n := 1) (k := k) (by omega) (by omega)
      rw [Nat.one_mul] at this
      exact this
    show fX1_kindBehind_b17 fu _ c (nI i) (nI (thN S l D)) (nI (clN S l D (f i) k)) (nI k) M = rec (nI (clN S l D (f i) (k + 1)), nI (k + 1))
    unfold fX1_kindBehind_b17 fX1_kindBehind_j49
    rw [if_neg c0, e5, if_neg (nI_in (by omega) (by omega)), ix_n (by omega), ho, zi_and (by omega) (by omega), esh]
    show _ = rec (nI (clN S l D (f i) k ||| (if ovC S l (f i) k l.length &&& thN S l D = 0 then 0 else 2 ^ k)), nI (k + 1))
    by_cases d : ovC S l (f i) k l.length &&& thN S l D = 0
    · rw [d, if_pos (show nI 0 = (0 : Int32) from rfl), if_pos rfl, lt_eq, lt_eq, nI_1]
      show rec (nI (clN S l D (f i) k) ||| nI 0, _) = _
      rw [zi_or (by omega) (by omega)]
    · rw [if_neg (show ¬ nI (ovC S l (f i) k l.length &&& thN S l D) = (0 : Int32) from nI_ne0 (by omega) (by omega)), if_neg d, lt_eq, lt_eq, nI_1, zi_or (by omega) (by omega)]
  · have hcl := clN_lt (S := S) (l := l) D (f i) 5
    show fX1_kindBehind_b17 fu _ c (nI i) (nI (thN S l D)) (nI (clN S l D (f i) 5)) (nI 5) M = _
    unfold fX1_kindBehind_b17 fX1_kindBehind_j58
    rw [if_pos (show (5 : Int32) ≤ nI 5 from Int32.le_refl _), h6, X10_together (by omega), bi_s, clN_5 hG hL hN hD]
    rfl
theorem CE.us (h : CE S l M c n f) {D i : Nat} (hi : i + 1 < n) : ∀ x, f i ≤ x → x < f (i + 1) → bad S l D x = bad S l D (f i) := fun x h1 h2 => bad_cg (h.sm ⟨hi, h1, h2⟩) (h.fx ⟨hi, h1, h2⟩) D
theorem X1_isSafe (hfu : 200000 ≤ fu) (h : CG S l M c n f) (hG : Gd S) (hL : Lb (S 140) l) (hN : nnS S l ≤ 12) {D : Nat} (hD : D < 2 ^ nnS S l) : fX1_isSafe fu c (nI D) M = some (bI (usS S l D = 0)) := by
  have hA := hG.ad
  have hF := hG.2.1 142
  have hE := h.1.1
  have hn44 := hE.2.1
  have n2 := hE.1.2.2.1
  have key : Wp (fX1_isSafe fu c (nI D) M) (fun v => v = bI (usS S l D = 0)) := by
    unfold fX1_isSafe fX1_isSafe_l2
    refine lp_ho (fun i z => z = nI i ∧ ∀ x, x < f i → bad S l D x = 0) _ (n - 1) (i := 0) (by omega) (by omega) ⟨rfl, fun x hx => by rw [hE.1.2.2.2.1] at hx; omega⟩ (fun i z hi hz rec hrec => ?_) (fun z hz rec => ?_)
    · obtain ⟨rfl, hz⟩ := hz
      have hle := hE.1.le (i := i + 1) (by omega)
      have hlt := hE.1.2.1 i (i + 1) (by omega) (by omega)
      obtain ⟨k1, k2⟩ := h.2.2 i (by omega)
      have b1 := kB_le (l := l) hG D (f i)
      have b2 := kB_le (l := l) hG 0 (f i)
      have b3 := kB_le (l := l) hG (2 ^ nnS S l - 1) (f i)
      have nxt : bad S l D (f i) = 0 → Wp (rec (nI (i + 1))) (fun v => v = bI (usS S l D = 0)) := fun h0 => by
        refine hrec _ ⟨rfl, fun x hx => ?_⟩
        by_cases cx : x < f i
        · exact hz x cx
        · rw [hE.us (by omega) x (by omega) hx]
          exact h0
      unfold fX1_isSafe_b2 fX1_isSafe_j64 fX1_isSafe_j62
      rw [nI_1, hE.1.1.1, if_neg (nI_ge (by omega) (by omega)), if_neg (nI_in (by omega) (by omega)), ix_n (by omega), hE.1.1.2 i (by omega), h.1.2.2.2.1, lt_eq]
      by_cases c1 : f i < S 142
      · rw [if_pos (nI_lt c1 (by omega))]
        exact nxt (if_neg (fun z => absurd z.1 (by omega)))
      rw [if_neg (nI_nlt (by omega) (by omega)), X1_kindBehind hfu h.1 hG hL hN hD (by omega), bi_s, k1, k2]
      by_cases c2 : kB S l D (f i) = 0
      · rw [c2, if_pos (show nI 0 = (0 : Int32) from rfl)]
        exact nxt (if_neg (fun z => z.2.1 c2))
      rw [if_neg (show ¬ nI (kB S l D (f i)) = (0 : Int32) from nI_ne0 (by omega) (by omega))]
      by_cases c3 : kB S l D (f i) = kB S l 0 (f i)
      · rw [if_pos (by rw [c3])]
        exact nxt (if_neg (fun z => z.2.2.1 c3))
      rw [if_neg (fun z => c3 ((nI_eq (by omega) (by omega)).mp z))]
      by_cases c4 : kB S l D (f i) = kB S l (2 ^ nnS S l - 1) (f i)
      · rw [if_pos (by rw [c4])]
        exact nxt (if_neg (fun z => z.2.2.2 c4))
      rw [if_neg (fun z => c4 ((nI_eq (by omega) (by omega)).mp z)), wp_some, bI_f]
      · rfl
      · intro z
        have h1 := smN_nz.mp z (f i) (by omega)
        have h2 : bad S l D (f i) = 1 := if_pos ⟨by omega, c2, c3, c4⟩
        omega
    · obtain ⟨rfl, hz⟩ := hz
      unfold fX1_isSafe_b2 fX1_isSafe_j70
      rw [hE.1.2.2.2.2] at hz
      rw [nI_1, hE.1.1.1, if_pos (nI_le (by omega) (by omega)), wp_some, bI_t (show usS S l D = 0 from smN_z hz)]
      rfl
  obtain ⟨v, e, rfl⟩ := key
  exact e
theorem X1_hasRoom (h : CG S l M c n f) (hG : Gd S) (hN : nnS S l ≤ 12) {D : Nat} (hD : D < 2 ^ nnS S l) : fX1_hasRoom fu c (nI D) M = some (bI (rmB S l D = true)) := by
  have h10 := hG.1.2.2.2.1
  have hnn : nnS S l = gnS S l + cnS S l := rfl
  have hp : 2 ^ nnS S l ≤ 2 ^ 12 := Nat.pow_le_pow_right (by decide) hN
  have hp2 : 2 ^ gnS S l ≤ 2 ^ 12 := Nat.pow_le_pow_right (by decide) (by omega)
  have ha : D &&& (2 ^ gnS S l - 1) < 2 ^ 12 := Nat.and_lt_two_pow _ (by omega)
  have hdv : D / 2 ^ gnS S l ≤ D := Nat.div_le_self _ _
  have e1 : nI D >>> (nI (gnS S l) &&& 31) = nI (D / 2 ^ gnS S l) := zi_shr (by omega) (by omega)
  have q1 := pc_le D 0 (gnS S l)
  have q2 := pc_le D (gnS S l) (cnS S l)
  have n31 : ∀ t : Int32, t = 0 ∨ t = 1 → fX1_hasRoom_j31 fu t M = some t := fun t ht => by
    unfold fX1_hasRoom_j31
    show (if _ then some t else none) = _
    rw [if_pos ht]
  unfold fX1_hasRoom
  rw [X1_allGoes h.1.2.2.1.1 (by omega), bi_s, zi_and (by omega) (by omega), bc_n fu (by omega), bi_s, h.1.2.2.1.1, e1, bc_n fu (by omega), bi_s, pc_lo (by omega), pc_hi (by omega) hD, h.2.1, nI_add, n31 0 (Or.inl rfl), n31 1 (Or.inr rfl)]
  unfold rmB
  by_cases d : pcN D (gnS S l) (cnS S l) < S 141 - csN S (S 141) + pcN D 0 (gnS S l)
  · rw [if_neg (nI_ge d (by omega)), bI_t (decide_eq_true d)]
    rfl
  · rw [if_pos (nI_le (by omega) (by omega)), bI_f (fun z => d (of_decide_eq_true z))]
    rfl
theorem X1_isDeadEnd {D : Nat} (hD : D < 4096) : fX1_isDeadEnd fu c (nI D) M = some (bI (dB (M.2.1 (c + 7) (D / 64)) (D % 64) = true)) := by
  have e6 : nI D >>> ((6 : Int32) &&& 31) = nI (D / 64) := zi_shr (k := 6) (by omega) (by omega)
  have e63 : nI D &&& 63 = nI (D % 64) := by
    have := zi_and (a := D) (b := 63) (by omega) (by omega)
    rw [show D &&& 63 = D % 64 from Nat.and_two_pow_sub_one_eq_mod D 6] at this
    exact this
  have n26 : ∀ t : Int32, t = 0 ∨ t = 1 → fX1_isDeadEnd_j26 fu t M = some t := fun t ht => by
    unfold fX1_isDeadEnd_j26
    show (if _ then some t else none) = _
    rw [if_pos ht]
  unfold fX1_isDeadEnd
  rw [e6, if_neg (nI_in (by omega) (by omega)), ix_n (by omega), e63, n26 0 (Or.inl rfl), n26 1 (Or.inr rfl)]
  cases hb : dB (M.2.1 (c + 7) (D / 64)) (D % 64) with
  | false =>
    rw [if_pos ((dB_t (Nat.mod_lt _ (by decide))).mpr hb), bI_f (by decide)]
    rfl
  | true =>
    rw [if_neg (fun z => by rw [(dB_t (Nat.mod_lt _ (by decide))).mp z] at hb; cases hb), bI_t rfl]
    rfl
theorem Dd.mk {D : Nat} (h : Dd S l M c) (hD : D < 4096) (ho : okB S l D = false) : Dd S l (wJ M (c + 7) (D / 64) (M.2.1 (c + 7) (D / 64) ||| ((1 : Int64) <<< ((nI (D % 64)).toInt64 &&& 63)))) c := fun D' hD' hb => by
  rw [wJ_2] at hb
  by_cases e : D' / 64 = D / 64
  · rw [if_pos ⟨rfl, e⟩] at hb
    rcases dB_s (Nat.mod_lt _ (by decide)) (Nat.mod_lt _ (by decide)) hb with q | q
    · rw [← e] at q
      exact h D' hD' q
    · have : D' = D := by omega
      rw [this]
      exact ho
  · rw [if_neg (fun z => e z.2)] at hb
    exact h D' hD' hb
end CF
