/-! Sums over addresses, signed numbers, pieces that are alike. -/
def smN (g : Nat → Nat) : Nat → Nat
  | 0 => 0
  | n + 1 => smN g n + g n
theorem smN_cg {g h : Nat → Nat} : ∀ {n : Nat}, (∀ x, x < n → g x = h x) → smN g n = smN h n
  | 0, _ => rfl
  | n + 1, hh => by
    unfold smN
    rw [smN_cg (n := n) (fun x hx => hh x (by omega)), hh n (by omega)]
theorem smN_add (g : Nat → Nat) (a : Nat) : ∀ k, smN g (a + k) = smN g a + smN (fun x => g (a + x)) k
  | 0 => rfl
  | k + 1 => by
    show smN g (a + k) + g (a + k) = smN g a + (smN (fun x => g (a + x)) k + g (a + k))
    rw [smN_add g a k]
    omega
theorem smN_const (v : Nat) : ∀ k, smN (fun _ => v) k = v * k
  | 0 => rfl
  | k + 1 => by
    show smN (fun _ => v) k + v = _
    rw [smN_const v k, Nat.mul_succ]
theorem smN_flat {g : Nat → Nat} {a b v : Nat} (hab : a ≤ b) (h : ∀ x, a ≤ x → x < b → g x = v) : smN g b = smN g a + v * (b - a) := by
  obtain ⟨k, rfl⟩ : ∃ k, b = a + k := ⟨b - a, by omega⟩
  rw [smN_add, smN_cg (h := fun _ => v) (n := k) (fun x hx => h (a + x) (by omega) (by omega)), smN_const, Nat.add_sub_cancel_left]
theorem smN_le {g : Nat → Nat} {c : Nat} : ∀ {n : Nat}, (∀ x, x < n → g x ≤ c) → smN g n ≤ c * n
  | 0, _ => Nat.zero_le _
  | n + 1, h => by
    have h1 := smN_le (n := n) (fun x hx => h x (by omega))
    have h2 := h n (by omega)
    unfold smN
    rw [Nat.mul_succ]
    omega
theorem smN_mono (g : Nat → Nat) {a b : Nat} (h : a ≤ b) : smN g a ≤ smN g b := by
  obtain ⟨k, rfl⟩ : ∃ k, b = a + k := ⟨b - a, by omega⟩
  rw [smN_add]
  omega
theorem smN_lt {g : Nat → Nat} {a b : Nat} (h : a < b) (hg : 0 < g a) : smN g a < smN g b := by
  have h1 := smN_mono g (a := a + 1) (b := b) h
  have h2 : smN g (a + 1) = smN g a + g a := rfl
  omega
theorem smN_sum (g h : Nat → Nat) : ∀ n, smN (fun x => g x + h x) n = smN g n + smN h n
  | 0 => rfl
  | n + 1 => by
    unfold smN
    rw [smN_sum g h n]
    omega
theorem smN_ls {g h : Nat → Nat} : ∀ {n : Nat}, (∀ x, x < n → g x ≤ h x) → smN g n ≤ smN h n
  | 0, _ => Nat.le_refl _
  | n + 1, hh => by
    have h1 := smN_ls (n := n) (fun x hx => hh x (by omega))
    have h2 := hh n (by omega)
    unfold smN
    omega
theorem smN_one (c : Nat) : ∀ n, smN (fun x => if x = c then 1 else 0) n = if c < n then 1 else 0
  | 0 => rfl
  | n + 1 => by
    unfold smN
    rw [smN_one c n]
    by_cases h1 : c < n
    · rw [if_pos h1, if_neg (by omega), if_pos (by omega)]
    · by_cases h2 : n = c
      · rw [if_neg h1, if_pos h2, if_pos (by omega)]
      · rw [if_neg h1, if_neg h2, if_neg (by omega)]
theorem smN_find {g : Nat → Nat} (hg : ∀ x, g x ≤ 1) {j : Nat} : ∀ {n : Nat}, j < smN g n → ∃ x, x < n ∧ g x = 1 ∧ smN g x = j
  | 0, h => absurd h (Nat.not_lt_zero _)
  | n + 1, h => by
    have h0 : smN g (n + 1) = smN g n + g n := rfl
    have h1 := hg n
    by_cases c : j < smN g n
    · obtain ⟨x, a1, a2, a3⟩ := smN_find hg c
      exact ⟨x, by omega, a2, a3⟩
    · exact ⟨n, by omega, by omega, by omega⟩
theorem smN_un {g : Nat → Nat} {x y : Nat} (hx : g x = 1) (hy : g y = 1) (h : smN g x = smN g y) : x = y := by
  rcases Nat.lt_trichotomy x y with c | c | c
  · have := smN_lt (g := g) c (by omega); omega
  · exact c
  · have := smN_lt (g := g) c (by omega); omega
-- signed
def smZ (g : Nat → Int) : Nat → Int
  | 0 => 0
  | n + 1 => smZ g n + g n
theorem smZ_cg {g h : Nat → Int} : ∀ {n : Nat}, (∀ x, x < n → g x = h x) → smZ g n = smZ h n
  | 0, _ => rfl
  | n + 1, hh => by
    unfold smZ
    rw [smZ_cg (n := n) (fun x hx => hh x (by omega)), hh n (by omega)]
theorem smZ_add (g : Nat → Int) (a : Nat) : ∀ k, smZ g (a + k) = smZ g a + smZ (fun x => g (a + x)) k
  | 0 => (Int.add_zero _).symm
  | k + 1 => by
    show smZ g (a + k) + g (a + k) = smZ g a + (smZ (fun x => g (a + x)) k + g (a + k))
    rw [smZ_add g a k]
    omega
theorem smZ_const (v : Int) : ∀ k : Nat, smZ (fun _ => v) k = v * k
  | 0 => (Int.mul_zero v).symm
  | k + 1 => by
    show smZ (fun _ => v) k + v = v * ((k + 1 : Nat) : Int)
    rw [smZ_const v k, Int.natCast_succ, Int.mul_add, Int.mul_one]
theorem smZ_flat {g : Nat → Int} {a b : Nat} {v : Int} (hab : a ≤ b) (h : ∀ x, a ≤ x → x < b → g x = v) : smZ g b = smZ g a + v * ((b - a : Nat) : Int) := by
  obtain ⟨k, rfl⟩ : ∃ k, b = a + k := ⟨b - a, by omega⟩
  rw [smZ_add, smZ_cg (h := fun _ => v) (n := k) (fun x hx => h (a + x) (by omega) (by omega)), smZ_const, Nat.add_sub_cancel_left]
theorem smZ_bd {g : Nat → Int} : ∀ {n : Nat}, (∀ x, x < n → -1 ≤ g x ∧ g x ≤ 1) → -(n : Int) ≤ smZ g n ∧ smZ g n ≤ n
  | 0, _ => ⟨Int.le_refl _, Int.le_refl _⟩
  | n + 1, h => by
    have h1 := smZ_bd (n := n) (fun x hx => h x (by omega))
    have h2 := h n (by omega)
    unfold smZ
    omega
def zZ (z : Int) : Int32 := Int32.ofInt z
theorem zZ_n (n : Nat) : zZ (n : Int) = nI n := Int32.ofInt_eq_ofNat
theorem zZ_add (a b : Int) : zZ a + zZ b = zZ (a + b) := by
  apply Int32.toBitVec_inj.mp
  show BitVec.ofInt 32 a + BitVec.ofInt 32 b = BitVec.ofInt 32 (a + b)
  exact (BitVec.ofInt_add a b).symm
theorem zZ_mul (a b : Int) : zZ a * zZ b = zZ (a * b) := by
  apply Int32.toBitVec_inj.mp
  show BitVec.ofInt 32 a * BitVec.ofInt 32 b = BitVec.ofInt 32 (a * b)
  exact (BitVec.ofInt_mul a b).symm
theorem zZ_toInt {a : Int} (h1 : -2 ^ 31 ≤ a) (h2 : a < 2 ^ 31) : (zZ a).toInt = a := Int32.toInt_ofInt_of_le h1 h2
theorem zZ_of {x : Int32} {a : Int} (h : x.toInt = a) : x = zZ a := by
  subst h
  exact (Int32.ofInt_toInt x).symm
theorem zZ_le {a b : Int} (h1 : -2 ^ 31 ≤ a) (h2 : a < 2 ^ 31) (h3 : -2 ^ 31 ≤ b) (h4 : b < 2 ^ 31) : zZ a ≤ zZ b ↔ a ≤ b := by
  rw [Int32.le_iff_toInt_le, zZ_toInt h1 h2, zZ_toInt h3 h4]
-- pieces
theorem ed_at {n : Nat} {f : Nat → Nat} {A : Nat} (hI : Inc n f) (h0 : f 0 = 0) (hA : f (n - 1) = A) {x : Nat} (hx : x < A) : ∃ i, i + 1 < n ∧ f i ≤ x ∧ x < f (i + 1) := by
  have key : ∀ k, k < n → x < f k → ∃ i, i + 1 < n ∧ f i ≤ x ∧ x < f (i + 1) := by
    intro k
    induction k with
    | zero => intro _ h; rw [h0] at h; exact absurd h (Nat.not_lt_zero _)
    | succ k ih =>
      intro hk h
      by_cases c : x < f k
      · exact ih (by omega) c
      · exact ⟨k, hk, by omega, h⟩
  by_cases c : n = 0
  · subst c
    rw [← hA, h0] at hx
    exact absurd hx (Nat.not_lt_zero _)
  · exact key (n - 1) (by omega) (by omega)
/-- an address in a piece -/
def Al (n : Nat) (f : Nat → Nat) (i x : Nat) : Prop := i + 1 < n ∧ f i ≤ x ∧ x < f (i + 1)
theorem Al.th {n : Nat} {f : Nat → Nat} {A i x y : Nat} (h : Al n f i x) (hI : Inc n f) (hA : f (n - 1) = A) (hy : MemC A n f y) : y ≤ x ↔ y ≤ f i := by
  obtain ⟨h1, h2, h3⟩ := h
  refine ⟨fun hyx => ?_, fun q => Nat.le_trans q h2⟩
  by_cases c : y ≤ f i
  · exact c
  have hle : f (i + 1) ≤ A := by
    by_cases d : i + 1 = n - 1
    · rw [d, hA]; exact Nat.le_refl _
    · rw [← hA]; exact Nat.le_of_lt (hI (i + 1) (n - 1) (by omega) (by omega))
  obtain ⟨j, hj, hfj⟩ := hy (by omega) (by omega)
  rcases Nat.lt_trichotomy j i with d | d | d
  · have := hI j i d (by omega); omega
  · subst d; omega
  · by_cases d2 : j = i + 1
    · subst d2; omega
    · have := hI (i + 1) j (by omega) hj; omega
theorem Al.tl {n : Nat} {f : Nat → Nat} {A i x y : Nat} (h : Al n f i x) (hI : Inc n f) (hA : f (n - 1) = A) (hy : MemC A n f y) : x < y ↔ f i < y := by
  have := h.th hI hA hy
  omega
def SpC (S : Sto) (A n : Nat) (f : Nat → Nat) : Prop := ∀ i, i < S 1 → MemC A n f (S (2 + 3 * i)) ∧ MemC A n f (S (3 + 3 * i) + 1)
def RgC (S : Sto) (A n : Nat) (f : Nat → Nat) : Prop := ∀ i, i < S 141 → MemC A n f (S (38 + 3 * i)) ∧ MemC A n f (S (38 + 3 * i) + S (39 + 3 * i))
def PtC (S : Sto) (A n : Nat) (f : Nat → Nat) : Prop := ∀ i, 1 ≤ i → i ≤ 8 → MemC A n f (S 142 / 8 * i)
def PgC (S : Sto) (A n : Nat) (f : Nat → Nat) : Prop := ∀ i, 1 ≤ i → i < 2 ^ S 140 / 16 → MemC A n f (i * 16)
section AL
variable {S : Sto} {n A i x : Nat} {f : Nat → Nat}
theorem Al.wk (h : Al n f i x) (hI : Inc n f) (hA : f (n - 1) = A) (hs : SpC S A n f) (d : Nat) : ∀ k, k ≤ S 1 → wtN S d x k = wtN S d (f i) k
  | 0, _ => rfl
  | k + 1, hk => by
    have ih := Al.wk h hI hA hs d k (by omega)
    have t1 := h.th hI hA (hs k (by omega)).1
    have t2 := h.tl hI hA (hs k (by omega)).2
    unfold wtN
    by_cases c : S (2 + 3 * k) ≤ x ∧ x ≤ S (3 + 3 * k)
    · rw [if_pos c, if_pos (by omega)]
    · rw [if_neg c, if_neg (by omega), ih]
theorem Al.wt (h : Al n f i x) (hI : Inc n f) (hA : f (n - 1) = A) (hs : SpC S A n f) (d : Nat) : wtS S d x = wtS S d (f i) := h.wk hI hA hs d _ (Nat.le_refl _)
theorem Al.kk (h : Al n f i x) (hI : Inc n f) (hA : f (n - 1) = A) (hs : RgC S A n f) (but : Nat) : ∀ k, k ≤ S 141 → ksN S x but k = ksN S (f i) but k
  | 0, _ => rfl
  | k + 1, hk => by
    have ih := Al.kk h hI hA hs but k (by omega)
    have t1 := h.th hI hA (hs k (by omega)).1
    have t2 := h.tl hI hA (hs k (by omega)).2
    unfold ksN
    by_cases c : k ≠ but ∧ S (38 + 3 * k) ≤ x ∧ x < S (38 + 3 * k) + S (39 + 3 * k)
    · rw [if_pos c, if_pos ⟨c.1, by omega, by omega⟩, ih]
    · rw [if_neg c, if_neg (fun q => c ⟨q.1, by omega, by omega⟩), ih]
theorem Al.ks (h : Al n f i x) (hI : Inc n f) (hA : f (n - 1) = A) (hs : RgC S A n f) (but : Nat) : ksS S x but = ksS S (f i) but := h.kk hI hA hs but _ (Nat.le_refl _)
theorem fx_mul {S : Sto} (hG : Gd S) : S 142 / 8 * 8 = S 142 := by
  rcases hG.2.2.1 with h0 | ⟨n, h1, h2, h3⟩
  · rw [h0]
  · obtain ⟨j, rfl⟩ : ∃ j, n = j + 3 := ⟨n - 3, by omega⟩
    rw [h3, Nat.pow_add]
    omega
theorem Al.fx (h : Al n f i x) (hG : Gd S) (hI : Inc n f) (hA : f (n - 1) = A) (hp : PtC S A n f) : x < S 142 ↔ f i < S 142 := by
  have := h.tl hI hA (hp 8 (by omega) (by omega))
  rw [fx_mul hG] at this
  exact this
theorem Al.pt (h : Al n f i x) (hG : Gd S) (hI : Inc n f) (hA : f (n - 1) = A) (hp : PtC S A n f) (hx : x < S 142) : x * 8 / S 142 = f i * 8 / S 142 := by
  have hx2 := (h.fx hG hI hA hp).mp hx
  obtain ⟨a1, a2, a3⟩ := fx_div hG hx
  obtain ⟨b1, b2, b3⟩ := fx_div hG hx2
  have f8 := fx8 hG hx
  rw [← a2] at f8 ⊢
  rw [← b2]
  have hle : f i / (S 142 / 8) ≤ x / (S 142 / 8) := Nat.div_le_div_right h.2.1
  by_cases c : f i / (S 142 / 8) = x / (S 142 / 8)
  · exact c.symm
  · have k1 : f i / (S 142 / 8) < x / (S 142 / 8) := Nat.lt_of_le_of_ne hle c
    have k2 : 1 ≤ x / (S 142 / 8) := Nat.lt_of_le_of_lt (Nat.zero_le _) k1
    have t := (h.th hI hA (hp (x / (S 142 / 8)) k2 (Nat.le_of_lt f8))).mp (Nat.mul_div_le _ _)
    have k3 : x / (S 142 / 8) ≤ f i / (S 142 / 8) := by
      rw [Nat.le_div_iff_mul_le (by omega), Nat.mul_comm]
      exact t
    exact absurd k1 (Nat.not_lt.mpr k3)
theorem Al.kd (h : Al n f i x) (hG : Gd S) (hI : Inc n f) (hA : f (n - 1) = A) (hp : PtC S A n f) (hr : RgC S A n f) (but : Nat) : kdS S x but = kdS S (f i) but := by
  unfold kdS
  have := h.fx hG hI hA hp
  by_cases c : x < S 142
  · rw [if_pos c, if_pos (this.mp c), h.pt hG hI hA hp c]
  · rw [if_neg c, if_neg (fun q => c (this.mpr q)), h.ks hI hA hr]
theorem Al.pg (h : Al n f i x) (hG : Gd S) (hI : Inc n f) (hA : f (n - 1) = 2 ^ S 140) (hp : PgC S (2 ^ S 140) n f) (hx : x < 2 ^ S 140) : x / 16 = f i / 16 := by
  have hle : f i / 16 ≤ x / 16 := Nat.div_le_div_right h.2.1
  by_cases c : f i / 16 = x / 16
  · exact c.symm
  · have h2 := pg_div hG hx
    have t := (h.th hI hA (hp (x / 16) (by omega) h2)).mp (by omega)
    omega
theorem Al.sd (h : Al n f i x) (hG : Gd S) (hI : Inc n f) (hA : f (n - 1) = 2 ^ S 140) (hp : PtC S (2 ^ S 140) n f) (hr : RgC S (2 ^ S 140) n f) (hq : PgC S (2 ^ S 140) n f) (hx : x < 2 ^ S 140) : sdS S x = sdS S (f i) := by
  unfold sdS
  rw [h.pg hG hI hA hq hx, h.kd hG hI hA hp hr]
end AL
-- how often it changes what is wanted
def chD (w : Nat → Nat) (x : Nat) : Nat := if x = 0 ∨ w x ≠ w (x - 1) then 1 else 0
theorem chD_le (w : Nat → Nat) (x : Nat) : chD w x ≤ 1 := by
  unfold chD
  split <;> omega
theorem chD_wt (S : Sto) (d A : Nat) : ∀ k, smN (chD (fun x => wtN S d x k)) A ≤ 1 + 2 * k
  | 0 => by
    have h1 : smN (chD (fun x => wtN S d x 0)) A ≤ smN (fun x => if x = 0 then 1 else 0) A := smN_ls fun x _ => by
      unfold chD
      show (if x = 0 ∨ d ≠ d then 1 else 0) ≤ _
      by_cases c : x = 0 <;> simp [c]
    rw [smN_one] at h1
    split at h1 <;> omega
  | k + 1 => by
    have ih := chD_wt S d A k
    have h1 : smN (chD (fun x => wtN S d x (k + 1))) A ≤ smN (fun x => chD (fun x => wtN S d x k) x + ((if x = S (2 + 3 * k) then 1 else 0) + (if x = S (3 + 3 * k) + 1 then 1 else 0))) A := smN_ls fun x _ => by
      show (if x = 0 ∨ wtN S d x (k + 1) ≠ wtN S d (x - 1) (k + 1) then 1 else 0) ≤ (if x = 0 ∨ wtN S d x k ≠ wtN S d (x - 1) k then 1 else 0) + ((if x = S (2 + 3 * k) then 1 else 0) + (if x = S (3 + 3 * k) + 1 then 1 else 0))
      by_cases c0 : x = 0
      · rw [if_pos (Or.inl c0), if_pos (Or.inl c0)]; omega
      by_cases c1 : x = S (2 + 3 * k)
      · have e1 : (if x = S (2 + 3 * k) then 1 else 0) = 1 := if_pos c1
        rw [e1]
        split <;> omega
      by_cases c2 : x = S (3 + 3 * k) + 1
      · have e1 : (if x = S (3 + 3 * k) + 1 then 1 else 0) = 1 := if_pos c2
        rw [e1]
        split <;> omega
      rw [if_neg c1, if_neg c2]
      by_cases c : S (2 + 3 * k) ≤ x ∧ x ≤ S (3 + 3 * k)
      · have e1 : wtN S d x (k + 1) = S (4 + 3 * k) := if_pos c
        have e2 : wtN S d (x - 1) (k + 1) = S (4 + 3 * k) := if_pos (by omega)
        rw [if_neg (by rw [e1, e2]; simp [c0])]
        exact Nat.zero_le _
      · have e1 : wtN S d x (k + 1) = wtN S d x k := if_neg c
        have e2 : wtN S d (x - 1) (k + 1) = wtN S d (x - 1) k := if_neg (by omega)
        rw [e1, e2]
        exact Nat.le_refl _
    rw [smN_sum, smN_sum, smN_one, smN_one] at h1
    split at h1 <;> split at h1 <;> omega
