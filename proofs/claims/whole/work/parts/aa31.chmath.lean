/-! Changes: numbers alone. -/
theorem smN_z {f : Nat → Nat} : ∀ {n : Nat}, (∀ x, x < n → f x = 0) → smN f n = 0
  | 0, _ => rfl
  | n + 1, h => by
    unfold smN
    rw [smN_z (n := n) (fun x hx => h x (by omega)), h n (by omega)]
theorem smN_1 {f : Nat → Nat} : ∀ {n : Nat}, (∀ x, x < n → f x ≤ 1) → (∀ x y, x < n → y < n → ¬ f x = 0 → ¬ f y = 0 → x = y) → smN f n ≤ 1
  | 0, _, _ => Nat.zero_le _
  | n + 1, h1, h2 => by
    have b := h1 n (by omega)
    unfold smN
    by_cases c : f n = 0
    · have := smN_1 (n := n) (fun x hx => h1 x (by omega)) (fun x y hx hy => h2 x y (by omega) (by omega))
      omega
    · have : smN f n = 0 := smN_z fun x hx => by
        refine Decidable.not_not.mp fun d => ?_
        have := h2 x n (by omega) (by omega) d c
        omega
      omega
theorem smN_nz {f : Nat → Nat} {n : Nat} : smN f n = 0 ↔ ∀ x, x < n → f x = 0 := by
  refine ⟨fun h x hx => ?_, smN_z⟩
  refine Decidable.not_not.mp fun c => ?_
  have := smN_lt (g := f) hx (by omega)
  omega
theorem smN_sw (f : Nat → Nat → Nat) (m : Nat) : ∀ n, smN (fun r => smN (f r) m) n = smN (fun i => smN (fun r => f r i) n) m
  | 0 => by
    symm
    exact smN_z fun x _ => rfl
  | n + 1 => by
    show smN (fun r => smN (f r) m) n + smN (f n) m = _
    rw [smN_sw f m n, ← smN_sum]
    rfl
section CH
variable (S : Sto) (l : List Bk)
def sam (r i : Nat) : Nat := if S (38 + 3 * r) = (bk l i).1 ∧ S (39 + 3 * r) = (bk l i).2.1 ∧ S (40 + 3 * r) = (bk l i).2.2 then 1 else 0
def sty (r : Nat) : Nat := smN (sam S l r) l.length
def thr (i : Nat) : Nat := smN (fun r => sam S l r i) (S 141)
def gof (r : Nat) : Nat := if S (39 + 3 * r) = 0 then 0 else if sty S l r = 0 then 1 else 0
def cof (i : Nat) : Nat := if thr S l i = 0 then 1 else 0
def gnS : Nat := smN (gof S l) (S 141)
def cnS : Nat := smN (cof S l) l.length
def nnS : Nat := gnS S l + cnS S l
def gon (D r : Nat) : Bool := decide (gof S l r = 1) && D.testBit (smN (gof S l) r)
def setR (D x : Nat) : Nat → Nat
  | 0 => 0
  | r + 1 => if (S (38 + 3 * r) ≤ x ∧ x < S (38 + 3 * r) + S (39 + 3 * r)) ∧ gon S l D r = false then setR D x r ||| 2 ^ S (40 + 3 * r) else setR D x r
def setC (D x : Nat) : Nat → Nat
  | 0 => setR S l D x (S 141)
  | i + 1 => if (cof S l i = 1 ∧ D.testBit (gnS S l + smN (cof S l) i) = true) ∧ (bk l i).1 ≤ x ∧ x < (bk l i).1 + (bk l i).2.1 then setC D x i ||| 2 ^ (bk l i).2.2 else setC D x i
def setB (D x : Nat) : Nat := setC S l D x l.length
def kB (D x : Nat) : Nat := tgN (setB S l D x) (S 0)
def bad (D x : Nat) : Nat := if S 142 ≤ x ∧ ¬ kB S l D x = 0 ∧ ¬ kB S l D x = kB S l 0 x ∧ ¬ kB S l D x = kB S l (2 ^ nnS S l - 1) x then 1 else 0
def usS (D : Nat) : Nat := smN (bad S l D) (2 ^ S 140)
end CH
def pcN (D lo n : Nat) : Nat := smN (fun j => if D.testBit (lo + j) = true then 1 else 0) n
def exB (p : Nat → Bool) : Nat → Bool
  | 0 => false
  | n + 1 => exB p n || p n
def fsB (p : Nat → Bool) : Nat → Nat
  | 0 => 0
  | n + 1 => if exB p n = true then fsB p n else n
theorem exB_y {p : Nat → Bool} : ∀ {n k : Nat}, k < n → p k = true → exB p n = true
  | n + 1, k, h, hp => by
    unfold exB
    by_cases c : k = n
    · subst c
      rw [hp, Bool.or_true]
    · rw [exB_y (n := n) (k := k) (by omega) hp, Bool.true_or]
theorem exB_n {p : Nat → Bool} : ∀ {n : Nat}, (∀ k, k < n → p k = false) → exB p n = false
  | 0, _ => rfl
  | n + 1, h => by
    unfold exB
    rw [exB_n (n := n) (fun k hk => h k (by omega)), h n (by omega)]
    rfl
theorem fsB_ok {p : Nat → Bool} : ∀ {n : Nat}, exB p n = true → fsB p n < n ∧ p (fsB p n) = true ∧ ∀ j, j < fsB p n → p j = false
  | n + 1, h => by
    unfold fsB
    by_cases c : exB p n = true
    · rw [if_pos c]
      obtain ⟨h1, h2, h3⟩ := fsB_ok c
      exact ⟨by omega, h2, h3⟩
    · rw [if_neg c]
      have hn : p n = true := by
        unfold exB at h
        have c' : exB p n = false := by
          cases hx : exB p n with
          | true => exact absurd hx c
          | false => rfl
        rw [c', Bool.false_or] at h
        exact h
      refine ⟨by omega, hn, fun j hj => ?_⟩
      cases hp : p j with
      | true => exact absurd (exB_y hj hp) c
      | false => rfl
theorem fsB_eq {p : Nat → Bool} {n k : Nat} (hk : k < n) (hp : p k = true) (hj : ∀ j, j < k → p j = false) : fsB p n = k := by
  obtain ⟨h1, h2, h3⟩ := fsB_ok (exB_y hk hp)
  rcases Nat.lt_trichotomy (fsB p n) k with c | c | c
  · rw [hj _ c] at h2
    cases h2
  · exact c
  · have := h3 k c
    rw [hp] at this
    cases this
theorem exB_of {p : Nat → Bool} {n : Nat} (h : ∀ k, k < n → p k = false) : exB p n = false := exB_n h
section CI
variable (S : Sto) (l : List Bk)
def rmB (D : Nat) : Bool := decide (pcN D (gnS S l) (cnS S l) < S 141 - csN S (S 141) + pcN D 0 (gnS S l))
def cnB (D k : Nat) : Bool := !(D.testBit k) && (decide (k < gnS S l) || rmB S l D)
def feN : Nat → Nat → Bool
  | 0, _ => false
  | f + 1, D => decide (D = 2 ^ nnS S l - 1) || exB (fun k => cnB S l D k && (decide (usS S l (D ||| 2 ^ k) = 0) && feN f (D ||| 2 ^ k))) (nnS S l)
def FE (D : Nat) : Bool := feN S l (13 - pcN D 0 12) D
def okB (D : Nat) : Bool := decide (usS S l D = 0) && FE S l D
def stp (D k : Nat) : Bool := cnB S l D k && okB S l (D ||| 2 ^ k)
def fst (D : Nat) : Nat := fsB (stp S l D) (nnS S l)
def dnN : Nat → Nat
  | 0 => 0
  | j + 1 => dnN j ||| 2 ^ fst S l (dnN j)
end CI
theorem pc_le (D lo n : Nat) : pcN D lo n ≤ n := by
  have : pcN D lo n ≤ 1 * n := smN_le fun x _ => by split <;> omega
  omega
theorem pc_or {D k n : Nat} (h : D.testBit k = false) (hk : k < n) : pcN (D ||| 2 ^ k) 0 n = pcN D 0 n + 1 := by
  unfold pcN
  have e : smN (fun j => if (D ||| 2 ^ k).testBit (0 + j) = true then 1 else 0) n = smN (fun j => (if D.testBit (0 + j) = true then 1 else 0) + if j = k then 1 else 0) n := smN_cg fun j _ => by
    rw [Nat.zero_add, Nat.testBit_or, Nat.testBit_two_pow]
    by_cases c : j = k
    · subst c
      rw [h]
      simp
    · have : decide (k = j) = false := decide_eq_false (fun z => c z.symm)
      rw [this, Bool.or_false, if_neg c, Nat.add_zero]
  rw [e, smN_sum, smN_one, if_pos hk]
section CJ
variable {S : Sto} {l : List Bk}
theorem FE_eq {D : Nat} (hn : nnS S l ≤ 12) : FE S l D = (decide (D = 2 ^ nnS S l - 1) || exB (stp S l D) (nnS S l)) := by
  have h := pc_le D 0 12
  unfold FE
  obtain ⟨f, hf⟩ : ∃ f, 13 - pcN D 0 12 = f + 1 := ⟨12 - pcN D 0 12, by omega⟩
  rw [hf]
  show (decide (D = 2 ^ nnS S l - 1) || exB _ (nnS S l)) = _
  congr 1
  have key : ∀ m, m ≤ nnS S l → exB (fun k => cnB S l D k && (decide (usS S l (D ||| 2 ^ k) = 0) && feN S l f (D ||| 2 ^ k))) m = exB (stp S l D) m := by
    intro m
    induction m with
    | zero => intro _; rfl
    | succ m ih =>
      intro hm
      unfold exB
      rw [ih (by omega)]
      congr 1
      unfold stp okB
      cases hc : cnB S l D m with
      | false => rfl
      | true =>
        have hb : D.testBit m = false := by
          unfold cnB at hc
          cases hb : D.testBit m with
          | false => rfl
          | true => rw [hb] at hc; cases hc
        have e : 13 - pcN (D ||| 2 ^ m) 0 12 = f := by
          rw [pc_or hb (by omega)]
          omega
        unfold FE
        rw [e]
  exact key _ (Nat.le_refl _)
theorem cn_bit {D k : Nat} (h : cnB S l D k = true) : D.testBit k = false := by
  unfold cnB at h
  cases hb : D.testBit k with
  | false => rfl
  | true => rw [hb] at h; cases h
theorem pc_last {n : Nat} (hn : n ≤ 12) : pcN (2 ^ n - 1) 0 12 = n := by
  unfold pcN
  have e : smN (fun j => if (2 ^ n - 1).testBit (0 + j) = true then 1 else 0) 12 = smN (fun j => if j < n then 1 else 0) 12 := smN_cg fun j _ => by
    rw [Nat.zero_add, Nat.testBit_two_pow_sub_one]
    by_cases c : j < n
    · rw [if_pos c, if_pos (decide_eq_true c)]
    · rw [if_neg c, decide_eq_false c]
      rfl
  rw [e]
  have h1 := smN_flat (g := fun j => if j < n then 1 else 0) (a := 0) (b := n) (v := 1) (by omega) (fun x _ h => if_pos h)
  have h2 := smN_flat (g := fun j => if j < n then 1 else 0) (a := n) (b := 12) (v := 0) hn (fun x h _ => if_neg (by omega))
  have h3 : smN (fun j => if j < n then 1 else 0) 0 = 0 := rfl
  omega
theorem pc_0 : pcN 0 0 12 = 0 := by
  unfold pcN
  exact smN_z fun x _ => by rw [Nat.zero_testBit]; rfl
theorem or_lt {D k n : Nat} (hD : D < 2 ^ n) (hk : k < n) : D ||| 2 ^ k < 2 ^ n := Nat.or_lt_two_pow hD (Nat.pow_lt_pow_right (by decide) hk)
/-- along the order -/
theorem dn_ok (hn : nnS S l ≤ 12) (h0 : FE S l 0 = true) : ∀ j, j ≤ nnS S l → dnN S l j < 2 ^ nnS S l ∧ pcN (dnN S l j) 0 12 = j ∧ FE S l (dnN S l j) = true
  | 0, _ => ⟨Nat.two_pow_pos _, pc_0, h0⟩
  | j + 1, hj => by
    obtain ⟨h1, h2, h3⟩ := dn_ok hn h0 j (by omega)
    have hx : exB (stp S l (dnN S l j)) (nnS S l) = true := by
      rw [FE_eq hn] at h3
      have : decide (dnN S l j = 2 ^ nnS S l - 1) = false := decide_eq_false fun z => by
        rw [z, pc_last hn] at h2
        omega
      rw [this, Bool.false_or] at h3
      exact h3
    obtain ⟨k1, k2, k3⟩ := fsB_ok hx
    have hst : stp S l (dnN S l j) (fst S l (dnN S l j)) = true := k2
    unfold stp at hst
    rw [Bool.and_eq_true] at hst
    obtain ⟨s1, s2⟩ := hst
    unfold okB at s2
    rw [Bool.and_eq_true] at s2
    have hk : fst S l (dnN S l j) < nnS S l := k1
    refine ⟨or_lt h1 hk, ?_, s2.2⟩
    show pcN (dnN S l j ||| 2 ^ fst S l (dnN S l j)) 0 12 = _
    rw [pc_or (cn_bit s1) (by omega), h2]
theorem dn_st (hn : nnS S l ≤ 12) (h0 : FE S l 0 = true) {j : Nat} (hj : j < nnS S l) : exB (stp S l (dnN S l j)) (nnS S l) = true := by
  obtain ⟨h1, h2, h3⟩ := dn_ok hn h0 j (by omega)
  rw [FE_eq hn] at h3
  have : decide (dnN S l j = 2 ^ nnS S l - 1) = false := decide_eq_false fun z => by
    rw [z, pc_last hn] at h2
    omega
  rw [this, Bool.false_or] at h3
  exact h3
-- how many go and come
theorem sam_le (r i : Nat) : sam S l r i ≤ 1 := by
  unfold sam
  split <;> omega
theorem sam_y {r i : Nat} (h : ¬ sam S l r i = 0) : S (38 + 3 * r) = (bk l i).1 ∧ S (39 + 3 * r) = (bk l i).2.1 ∧ S (40 + 3 * r) = (bk l i).2.2 := by
  unfold sam at h
  by_cases c : S (38 + 3 * r) = (bk l i).1 ∧ S (39 + 3 * r) = (bk l i).2.1 ∧ S (40 + 3 * r) = (bk l i).2.2
  · exact c
  · rw [if_neg c] at h
    exact absurd rfl h
theorem sty_le (hL : Lb (S 140) l) (r : Nat) : sty S l r ≤ 1 := smN_1 (fun x _ => sam_le r x) fun x y hx hy h1 h2 => by
  refine Decidable.not_not.mp fun c => ?_
  have a := sam_y h1
  have b := sam_y h2
  rw [bk_y (List.getElem?_eq_getElem hx)] at a
  rw [bk_y (List.getElem?_eq_getElem hy)] at b
  exact bR_ne hL.1 hx hy c ⟨a.1.symm.trans b.1, a.2.1.symm.trans b.2.1⟩
theorem bk_pos (hL : Lb (S 140) l) {i : Nat} (hi : i < l.length) : 0 < (bk l i).2.1 := by
  rw [bk_y (List.getElem?_eq_getElem hi)]
  exact (hL.2 _ (List.getElem_mem hi)).2
theorem thr_le (hG : Gd S) (hL : Lb (S 140) l) {i : Nat} (hi : i < l.length) : thr S l i ≤ 1 := smN_1 (fun x _ => sam_le x i) fun x y hx hy h1 h2 => by
  refine Decidable.not_not.mp fun c => ?_
  have a := sam_y h1
  have b := sam_y h2
  have p := bk_pos hL hi
  exact hG.2.2.2.2.2.1 x y hx hy c (by omega) ⟨a.1.trans b.1.symm, a.2.1.trans b.2.1.symm⟩
theorem sty_0 (hL : Lb (S 140) l) {r : Nat} (h : S (39 + 3 * r) = 0) : sty S l r = 0 := smN_z fun i hi => by
  refine Decidable.not_not.mp fun c => ?_
  have a := sam_y c
  have p := bk_pos hL hi
  omega
theorem csN_sm (S : Sto) : ∀ n, csN S n = smN (fun r => if S (39 + 3 * r) = 0 then 0 else 1) n
  | 0 => rfl
  | n + 1 => by
    unfold csN smN
    rw [csN_sm S n]
theorem cn_count (hG : Gd S) (hL : Lb (S 140) l) : cnS S l + csN S (S 141) = l.length + gnS S l := by
  have e1 : csN S (S 141) = smN (sty S l) (S 141) + gnS S l := by
    rw [csN_sm, gnS, ← smN_sum]
    refine smN_cg fun r _ => ?_
    have h1 := sty_le hL r
    unfold gof
    by_cases c : S (39 + 3 * r) = 0
    · rw [if_pos c, if_pos c, sty_0 hL c]
    · rw [if_neg c, if_neg c]
      by_cases d : sty S l r = 0
      · rw [d, if_pos rfl]
      · rw [if_neg d]
        omega
  have e2 : l.length = smN (thr S l) l.length + cnS S l := by
    rw [cnS, ← smN_sum]
    have : smN (fun x => thr S l x + cof S l x) l.length = smN (fun _ => 1) l.length := smN_cg fun i hi => by
      have h1 := thr_le hG hL hi
      unfold cof
      by_cases d : thr S l i = 0
      · rw [d, if_pos rfl]
      · rw [if_neg d]
        omega
    rw [this, smN_const]
    omega
  have e3 : smN (sty S l) (S 141) = smN (thr S l) l.length := smN_sw (sam S l) l.length (S 141)
  omega
theorem gof_le (r : Nat) : gof S l r ≤ 1 := by
  unfold gof
  split
  · omega
  · split <;> omega
theorem cof_le (i : Nat) : cof S l i ≤ 1 := by
  unfold cof
  split <;> omega
end CJ
