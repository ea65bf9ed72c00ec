/-! Changes: sets of kinds, as both sides lay them. -/
section CS
variable {S : Sto} {l : List Bk}
theorem setR_t (D x k : Nat) : ∀ n, (setR S l D x n).testBit k = true ↔ ∃ r, r < n ∧ (S (38 + 3 * r) ≤ x ∧ x < S (38 + 3 * r) + S (39 + 3 * r)) ∧ gon S l D r = false ∧ S (40 + 3 * r) = k
  | 0 => by
    unfold setR
    rw [Nat.zero_testBit]
    constructor
    · intro h; cases h
    · intro ⟨r, hr, _⟩; omega
  | n + 1 => by
    have ih := setR_t D x k n
    unfold setR
    by_cases c : (S (38 + 3 * n) ≤ x ∧ x < S (38 + 3 * n) + S (39 + 3 * n)) ∧ gon S l D n = false
    · rw [if_pos c, Nat.testBit_or, Nat.testBit_two_pow, Bool.or_eq_true, ih, decide_eq_true_iff]
      constructor
      · rintro (⟨r, h1, h2⟩ | h)
        · exact ⟨r, by omega, h2⟩
        · exact ⟨n, by omega, c.1, c.2, h⟩
      · intro ⟨r, h1, h2, h3, h4⟩
        by_cases e : r = n
        · subst e; exact Or.inr h4
        · exact Or.inl ⟨r, by omega, h2, h3, h4⟩
    · rw [if_neg c, ih]
      constructor
      · intro ⟨r, h1, h2⟩
        exact ⟨r, by omega, h2⟩
      · intro ⟨r, h1, h2, h3, h4⟩
        by_cases e : r = n
        · subst e; exact absurd ⟨h2, h3⟩ c
        · exact ⟨r, by omega, h2, h3, h4⟩
/-- a kind is there by a register, or by a block that came -/
def byR (S : Sto) (l : List Bk) (D x k : Nat) : Prop := ∃ r, r < S 141 ∧ (S (38 + 3 * r) ≤ x ∧ x < S (38 + 3 * r) + S (39 + 3 * r)) ∧ gon S l D r = false ∧ S (40 + 3 * r) = k
def byC (S : Sto) (l : List Bk) (D x k n : Nat) : Prop := ∃ i, i < n ∧ (cof S l i = 1 ∧ D.testBit (gnS S l + smN (cof S l) i) = true) ∧ ((bk l i).1 ≤ x ∧ x < (bk l i).1 + (bk l i).2.1) ∧ (bk l i).2.2 = k
theorem setC_t (D x k : Nat) : ∀ n, (setC S l D x n).testBit k = true ↔ byR S l D x k ∨ byC S l D x k n
  | 0 => by
    unfold setC
    rw [setR_t]
    constructor
    · intro h; exact Or.inl h
    · rintro (h | ⟨r, hr, _⟩)
      · exact h
      · omega
  | n + 1 => by
    have ih := setC_t D x k n
    unfold setC
    by_cases c : (cof S l n = 1 ∧ D.testBit (gnS S l + smN (cof S l) n) = true) ∧ (bk l n).1 ≤ x ∧ x < (bk l n).1 + (bk l n).2.1
    · rw [if_pos c, Nat.testBit_or, Nat.testBit_two_pow, Bool.or_eq_true, ih, decide_eq_true_iff]
      constructor
      · rintro ((h | ⟨r, h1, h2⟩) | h)
        · exact Or.inl h
        · exact Or.inr ⟨r, by omega, h2⟩
        · exact Or.inr ⟨n, by omega, c.1, c.2, h⟩
      · rintro (h | ⟨r, h1, h2, h3, h4⟩)
        · exact Or.inl (Or.inl h)
        · by_cases e : r = n
          · subst e; exact Or.inr h4
          · exact Or.inl (Or.inr ⟨r, by omega, h2, h3, h4⟩)
    · rw [if_neg c, ih]
      constructor
      · rintro (h | ⟨r, h1, h2⟩)
        · exact Or.inl h
        · exact Or.inr ⟨r, by omega, h2⟩
      · rintro (h | ⟨r, h1, h2, h3, h4⟩)
        · exact Or.inl h
        · by_cases e : r = n
          · subst e; exact absurd ⟨h2, h3⟩ c
          · exact Or.inr ⟨r, by omega, h2, h3, h4⟩
theorem setB_t (D x k : Nat) : (setB S l D x).testBit k = true ↔ byR S l D x k ∨ byC S l D x k l.length := setC_t D x k _
theorem bk_k5 (hL : Lb (S 140) l) (hG : Gd S) (i : Nat) : (bk l i).2.2 < 5 := (Rg_le hG.1.2.1 (bk_Rg hL i)).2.2.2.1
theorem setR_lt (hG : Gd S) (D x : Nat) : ∀ n, n ≤ S 141 → setR S l D x n < 32
  | 0, _ => by unfold setR; omega
  | n + 1, h => by
    have ih := setR_lt hG D x n (by omega)
    unfold setR
    split
    · exact Nat.or_lt_two_pow (n := 5) ih (pow2_lt32 (hG.rk (by omega)))
    · exact ih
theorem setC_lt (hG : Gd S) (hL : Lb (S 140) l) (D x : Nat) : ∀ n, setC S l D x n < 32
  | 0 => setR_lt hG D x _ (Nat.le_refl _)
  | n + 1 => by
    have ih := setC_lt hG hL D x n
    unfold setC
    split
    · exact Nat.or_lt_two_pow (n := 5) ih (pow2_lt32 (bk_k5 hL hG n))
    · exact ih
theorem setB_lt (hG : Gd S) (hL : Lb (S 140) l) (D x : Nat) : setB S l D x < 32 := setC_lt hG hL D x _
theorem kB_le (hG : Gd S) (D x : Nat) : kB S l D x ≤ 5 := tgN_le hG.1.2.2.2.2.1
-- alike
def Sm (S : Sto) (l : List Bk) (x y : Nat) : Prop := (∀ r, r < S 141 → (S (38 + 3 * r) ≤ x ↔ S (38 + 3 * r) ≤ y) ∧ (x < S (38 + 3 * r) + S (39 + 3 * r) ↔ y < S (38 + 3 * r) + S (39 + 3 * r))) ∧ ∀ i, i < l.length → ((bk l i).1 ≤ x ↔ (bk l i).1 ≤ y) ∧ (x < (bk l i).1 + (bk l i).2.1 ↔ y < (bk l i).1 + (bk l i).2.1)
theorem setR_cg {x y : Nat} (h : Sm S l x y) (D : Nat) : ∀ n, n ≤ S 141 → setR S l D x n = setR S l D y n
  | 0, _ => rfl
  | n + 1, hn => by
    have ih := setR_cg h D n (by omega)
    obtain ⟨a, b⟩ := h.1 n (by omega)
    unfold setR
    rw [ih]
    simp only [a, b]
theorem setC_cg {x y : Nat} (h : Sm S l x y) (D : Nat) : ∀ n, n ≤ l.length → setC S l D x n = setC S l D y n
  | 0, _ => setR_cg h D _ (Nat.le_refl _)
  | n + 1, hn => by
    have ih := setC_cg h D n (by omega)
    obtain ⟨a, b⟩ := h.2 n (by omega)
    unfold setC
    rw [ih]
    simp only [a, b]
theorem kB_cg {x y : Nat} (h : Sm S l x y) (D : Nat) : kB S l D x = kB S l D y := by
  unfold kB setB
  rw [setC_cg h D _ (Nat.le_refl _)]
theorem bad_cg {x y : Nat} (h : Sm S l x y) (hf : S 142 ≤ x ↔ S 142 ≤ y) (D : Nat) : bad S l D x = bad S l D y := by
  unfold bad
  rw [kB_cg h, kB_cg h, kB_cg h]
  simp only [hf]
-- the class's bits
def ovR (S : Sto) (l : List Bk) (x k : Nat) : Nat → Nat
  | 0 => 0
  | r + 1 => if (S (38 + 3 * r) ≤ x ∧ x < S (38 + 3 * r) + S (39 + 3 * r)) ∧ S (40 + 3 * r) = k then ovR S l x k r ||| (if gof S l r = 1 then 2 ^ smN (gof S l) r else 4096) else ovR S l x k r
def ovC (S : Sto) (l : List Bk) (x k : Nat) : Nat → Nat
  | 0 => ovR S l x k (S 141)
  | i + 1 => if cof S l i = 1 ∧ ((bk l i).1 ≤ x ∧ x < (bk l i).1 + (bk l i).2.1) ∧ (bk l i).2.2 = k then ovC S l x k i ||| 2 ^ (gnS S l + smN (cof S l) i) else ovC S l x k i
def thN (S : Sto) (l : List Bk) (D : Nat) : Nat := (D ^^^ (2 ^ gnS S l - 1)) ||| 4096
def clN (S : Sto) (l : List Bk) (D x : Nat) : Nat → Nat
  | 0 => 0
  | k + 1 => clN S l D x k ||| (if ovC S l x k l.length &&& thN S l D = 0 then 0 else 2 ^ k)
theorem ovR_t (x k b : Nat) : ∀ n, (ovR S l x k n).testBit b = true ↔ ∃ r, r < n ∧ (S (38 + 3 * r) ≤ x ∧ x < S (38 + 3 * r) + S (39 + 3 * r)) ∧ S (40 + 3 * r) = k ∧ (if gof S l r = 1 then smN (gof S l) r else 12) = b
  | 0 => by
    unfold ovR
    rw [Nat.zero_testBit]
    constructor
    · intro h; cases h
    · intro ⟨r, hr, _⟩; omega
  | n + 1 => by
    have ih := ovR_t x k b n
    have e : (if gof S l n = 1 then 2 ^ smN (gof S l) n else 4096) = 2 ^ (if gof S l n = 1 then smN (gof S l) n else 12) := by
      split <;> rfl
    unfold ovR
    by_cases c : (S (38 + 3 * n) ≤ x ∧ x < S (38 + 3 * n) + S (39 + 3 * n)) ∧ S (40 + 3 * n) = k
    · rw [if_pos c, e, Nat.testBit_or, Nat.testBit_two_pow, Bool.or_eq_true, ih, decide_eq_true_iff]
      constructor
      · rintro (⟨r, h1, h2⟩ | h)
        · exact ⟨r, by omega, h2⟩
        · exact ⟨n, by omega, c.1, c.2, h⟩
      · intro ⟨r, h1, h2, h3, h4⟩
        by_cases e : r = n
        · subst e; exact Or.inr h4
        · exact Or.inl ⟨r, by omega, h2, h3, h4⟩
    · rw [if_neg c, ih]
      constructor
      · intro ⟨r, h1, h2⟩
        exact ⟨r, by omega, h2⟩
      · intro ⟨r, h1, h2, h3, h4⟩
        by_cases e : r = n
        · subst e; exact absurd ⟨h2, h3⟩ c
        · exact ⟨r, by omega, h2, h3, h4⟩
theorem ovC_t (x k b : Nat) : ∀ n, (ovC S l x k n).testBit b = true ↔ (∃ r, r < S 141 ∧ (S (38 + 3 * r) ≤ x ∧ x < S (38 + 3 * r) + S (39 + 3 * r)) ∧ S (40 + 3 * r) = k ∧ (if gof S l r = 1 then smN (gof S l) r else 12) = b) ∨ ∃ i, i < n ∧ cof S l i = 1 ∧ ((bk l i).1 ≤ x ∧ x < (bk l i).1 + (bk l i).2.1) ∧ (bk l i).2.2 = k ∧ gnS S l + smN (cof S l) i = b
  | 0 => by
    unfold ovC
    rw [ovR_t]
    constructor
    · intro h; exact Or.inl h
    · rintro (h | ⟨r, hr, _⟩)
      · exact h
      · omega
  | n + 1 => by
    have ih := ovC_t x k b n
    unfold ovC
    by_cases c : cof S l n = 1 ∧ ((bk l n).1 ≤ x ∧ x < (bk l n).1 + (bk l n).2.1) ∧ (bk l n).2.2 = k
    · rw [if_pos c, Nat.testBit_or, Nat.testBit_two_pow, Bool.or_eq_true, ih, decide_eq_true_iff]
      constructor
      · rintro ((h | ⟨r, h1, h2⟩) | h)
        · exact Or.inl h
        · exact Or.inr ⟨r, by omega, h2⟩
        · exact Or.inr ⟨n, by omega, c.1, c.2.1, c.2.2, h⟩
      · rintro (h | ⟨r, h1, h2, h3, h4, h5⟩)
        · exact Or.inl (Or.inl h)
        · by_cases e : r = n
          · subst e; exact Or.inr h5
          · exact Or.inl (Or.inr ⟨r, by omega, h2, h3, h4, h5⟩)
    · rw [if_neg c, ih]
      constructor
      · rintro (h | ⟨r, h1, h2⟩)
        · exact Or.inl h
        · exact Or.inr ⟨r, by omega, h2⟩
      · rintro (h | ⟨r, h1, h2, h3, h4, h5⟩)
        · exact Or.inl h
        · by_cases e : r = n
          · subst e; exact absurd ⟨h2, h3, h4⟩ c
          · exact Or.inr ⟨r, by omega, h2, h3, h4, h5⟩
theorem thN_t (D b : Nat) : (thN S l D).testBit b = ((D.testBit b ^^ decide (b < gnS S l)) || decide (12 = b)) := by
  unfold thN
  rw [Nat.testBit_or, Nat.testBit_xor, Nat.testBit_two_pow_sub_one, show (4096 : Nat) = 2 ^ 12 from rfl, Nat.testBit_two_pow]
theorem and_0 {a b : Nat} : a &&& b = 0 ↔ ∀ i, ¬ (a.testBit i = true ∧ b.testBit i = true) := by
  constructor
  · intro h i hi
    have := congrArg (fun z => Nat.testBit z i) h
    simp only [Nat.testBit_and, Nat.zero_testBit, hi.1, hi.2] at this
    cases this
  · intro h
    refine Nat.eq_of_testBit_eq fun i => ?_
    rw [Nat.testBit_and, Nat.zero_testBit]
    cases h1 : a.testBit i with
    | false => rfl
    | true =>
      cases h2 : b.testBit i with
      | false => rfl
      | true => exact absurd ⟨h1, h2⟩ (h i)
theorem gof_cnt {r : Nat} (hr : r < S 141) (h : gof S l r = 1) : smN (gof S l) r < gnS S l := smN_lt hr (by omega)
theorem cof_cnt {i : Nat} (hi : i < l.length) (h : cof S l i = 1) : smN (cof S l) i < cnS S l := smN_lt hi (by omega)
theorem ov_and {D x k : Nat} (hn : nnS S l ≤ 12) (hD : D < 2 ^ nnS S l) : (ovC S l x k l.length &&& thN S l D = 0) ↔ (setB S l D x).testBit k = false := by
  have hnn : nnS S l = gnS S l + cnS S l := rfl
  have h12 : ∀ b, 12 ≤ b → D.testBit b = false := fun b hb => Nat.testBit_lt_two_pow (Nat.lt_of_lt_of_le hD (Nat.pow_le_pow_right (by decide) (by omega)))
  rw [and_0, ← Bool.not_eq_true, setB_t]
  constructor
  · rintro h (⟨r, h1, h2, h3, h4⟩ | ⟨i, h1, ⟨h2, h3⟩, h4, h5⟩)
    · refine h (if gof S l r = 1 then smN (gof S l) r else 12) ⟨(ovC_t x k _ _).mpr (Or.inl ⟨r, h1, h2, h4, rfl⟩), ?_⟩
      rw [thN_t]
      by_cases c : gof S l r = 1
      · have := gof_cnt h1 c
        have h3' : D.testBit (smN (gof S l) r) = false := by
          unfold gon at h3
          rw [decide_eq_true c, Bool.true_and] at h3
          exact h3
        rw [if_pos c, h3', decide_eq_true this]
        rfl
      · rw [if_neg c]
        simp
    · have := cof_cnt h1 h2
      refine h (gnS S l + smN (cof S l) i) ⟨(ovC_t x k _ _).mpr (Or.inr ⟨i, h1, h2, h4, h5, rfl⟩), ?_⟩
      rw [thN_t, h3, decide_eq_false (p := gnS S l + smN (cof S l) i < gnS S l) (by omega)]
      rfl
  · intro h b hb
    rw [thN_t] at hb
    obtain ⟨hb1, hb2⟩ := hb
    rcases (ovC_t x k b _).mp hb1 with ⟨r, h1, h2, h3, h4⟩ | ⟨i, h1, h2, h3, h4, h5⟩
    · refine h (Or.inl ⟨r, h1, h2, ?_, h3⟩)
      unfold gon
      by_cases c : gof S l r = 1
      · have hc := gof_cnt h1 c
        rw [if_pos c] at h4
        subst h4
        rw [decide_eq_true hc, decide_eq_false (p := 12 = smN (gof S l) r) (by omega), Bool.or_false, Bool.xor_true] at hb2
        rw [decide_eq_true c, Bool.true_and]
        cases hx : D.testBit (smN (gof S l) r) with
        | false => rfl
        | true => rw [hx] at hb2; cases hb2
      · rw [decide_eq_false c]
        rfl
    · have hc := cof_cnt h1 h2
      subst h5
      rw [decide_eq_false (p := gnS S l + smN (cof S l) i < gnS S l) (by omega), decide_eq_false (p := 12 = gnS S l + smN (cof S l) i) (by omega), Bool.or_false, Bool.xor_false] at hb2
      exact h (Or.inr ⟨i, h1, ⟨h2, hb2⟩, h3, h4⟩)
theorem clN_t {D x : Nat} (hn : nnS S l ≤ 12) (hD : D < 2 ^ nnS S l) (b : Nat) : ∀ n, (clN S l D x n).testBit b = (decide (b < n) && (setB S l D x).testBit b)
  | 0 => by
    unfold clN
    rw [Nat.zero_testBit]
    rfl
  | n + 1 => by
    have ih := clN_t hn hD b n (x := x)
    unfold clN
    rw [Nat.testBit_or, ih]
    have oa := ov_and (x := x) (k := n) hn hD
    by_cases c : ovC S l x n l.length &&& thN S l D = 0
    · rw [if_pos c, Nat.zero_testBit, Bool.or_false]
      by_cases e : b = n
      · subst e
        rw [oa.mp c, Bool.and_false, Bool.and_false]
      · by_cases e2 : b < n
        · rw [decide_eq_true e2, decide_eq_true (p := b < n + 1) (by omega)]
        · rw [decide_eq_false e2, decide_eq_false (p := b < n + 1) (by omega)]
    · have ht : (setB S l D x).testBit n = true := by
        cases hx : (setB S l D x).testBit n with
        | true => rfl
        | false => exact absurd (oa.mpr hx) c
      rw [if_neg c, Nat.testBit_two_pow]
      by_cases e : b = n
      · subst e
        rw [ht]
        simp
      · rw [decide_eq_false (p := n = b) (fun z => e z.symm), Bool.or_false]
        by_cases e2 : b < n
        · rw [decide_eq_true e2, decide_eq_true (p := b < n + 1) (by omega)]
        · rw [decide_eq_false e2, decide_eq_false (p := b < n + 1) (by omega)]
theorem clN_5 (hG : Gd S) (hL : Lb (S 140) l) {D x : Nat} (hn : nnS S l ≤ 12) (hD : D < 2 ^ nnS S l) : clN S l D x 5 = setB S l D x := by
  refine Nat.eq_of_testBit_eq fun b => ?_
  rw [clN_t hn hD]
  by_cases c : b < 5
  · rw [decide_eq_true c, Bool.true_and]
  · rw [decide_eq_false c, Bool.false_and]
    symm
    refine Nat.testBit_lt_two_pow (Nat.lt_of_lt_of_le (setB_lt hG hL D x) ?_)
    show 2 ^ 5 ≤ 2 ^ b
    exact Nat.pow_le_pow_right (by decide) (by omega)
theorem clN_lt (D x : Nat) : ∀ n, clN S l D x n < 2 ^ n
  | 0 => by unfold clN; omega
  | n + 1 => by
    have ih := clN_lt D x n
    unfold clN
    refine Nat.or_lt_two_pow (Nat.lt_of_lt_of_le ih (Nat.pow_le_pow_right (by decide) (by omega))) ?_
    split
    · exact Nat.two_pow_pos _
    · exact Nat.pow_lt_pow_right (by decide) (by omega)
theorem ovR_lt (hn : nnS S l ≤ 12) (x k : Nat) : ∀ n, n ≤ S 141 → ovR S l x k n < 8192
  | 0, _ => by unfold ovR; omega
  | n + 1, h => by
    have ih := ovR_lt hn x k n (by omega)
    have hnn : nnS S l = gnS S l + cnS S l := rfl
    unfold ovR
    split
    · refine Nat.or_lt_two_pow (n := 13) ih ?_
      split
      · rename_i c
        have := gof_cnt (S := S) (l := l) (r := n) (by omega) c
        exact Nat.pow_lt_pow_right (by decide) (by omega)
      · decide
    · exact ih
theorem ovC_lt (hn : nnS S l ≤ 12) (x k : Nat) : ∀ n, n ≤ l.length → ovC S l x k n < 8192
  | 0, _ => ovR_lt hn x k _ (Nat.le_refl _)
  | n + 1, h => by
    have ih := ovC_lt hn x k n (by omega)
    have hnn : nnS S l = gnS S l + cnS S l := rfl
    unfold ovC
    split
    · rename_i c
      have := cof_cnt (S := S) (l := l) (i := n) (by omega) c.1
      exact Nat.or_lt_two_pow (n := 13) ih (Nat.pow_lt_pow_right (by decide) (by omega))
    · exact ih
theorem thN_lt {D : Nat} (hn : nnS S l ≤ 12) (hD : D < 2 ^ nnS S l) : thN S l D < 8192 := by
  have hnn : nnS S l = gnS S l + cnS S l := rfl
  have h1 : D < 2 ^ 13 := Nat.lt_of_lt_of_le hD (Nat.pow_le_pow_right (by decide) (by omega))
  have h2 : 2 ^ gnS S l ≤ 2 ^ 12 := Nat.pow_le_pow_right (by decide) (by omega)
  have h3 : 0 < 2 ^ gnS S l := Nat.two_pow_pos _
  exact Nat.or_lt_two_pow (n := 13) (Nat.xor_lt_two_pow h1 (by omega)) (by decide)
end CS
