/-! The cost of a block by what lies above it: numbers alone. -/
def md (h k : Nat) : Nat := if h = 5 then k else if h = 0 then 9 else if k = 0 then 0 else if h = 4 ∧ k = 2 then 2 else 9
def kb (d h : Nat) : Nat := if h = 5 then d else h
def rA (w : Nat → Nat) (d pk h x : Nat) : Bool := decide (w x = 9 ∨ snN pk (kb d h) = w x)
def lift (g : Nat → Nat) (h : Nat) : Nat :=
  if h = 0 then g 0 else if h = 5 then min (g 5) (1 + min (min (g 0) (g 1)) (min (min (g 2) (g 3)) (g 4))) else if h = 4 then min (g 4) (1 + min (g 0) (g 2)) else min (g h) (1 + g 0)
theorem lift_0 (g : Nat → Nat) : lift g 0 = g 0 := rfl
theorem lift_1 (g : Nat → Nat) : lift g 1 = min (g 1) (1 + g 0) := rfl
theorem lift_2 (g : Nat → Nat) : lift g 2 = min (g 2) (1 + g 0) := rfl
theorem lift_3 (g : Nat → Nat) : lift g 3 = min (g 3) (1 + g 0) := rfl
theorem lift_4 (g : Nat → Nat) : lift g 4 = min (g 4) (1 + min (g 0) (g 2)) := rfl
theorem lift_5 (g : Nat → Nat) : lift g 5 = min (g 5) (1 + min (min (g 0) (g 1)) (min (min (g 2) (g 3)) (g 4))) := rfl
theorem h6 {h : Nat} (hh : h < 6) : h = 0 ∨ h = 1 ∨ h = 2 ∨ h = 3 ∨ h = 4 ∨ h = 5 := by omega
theorem lift_le (g : Nat → Nat) {h : Nat} (hh : h < 6) : lift g h ≤ g h := by
  rcases h6 hh with rfl | rfl | rfl | rfl | rfl | rfl
  · rw [lift_0]; exact Nat.le_refl _
  · rw [lift_1]; omega
  · rw [lift_2]; omega
  · rw [lift_3]; omega
  · rw [lift_4]; omega
  · rw [lift_5]; omega
theorem lift_z (g : Nat → Nat) {h : Nat} (hh : h < 6) : lift g h = 0 ↔ g h = 0 := by
  rcases h6 hh with rfl | rfl | rfl | rfl | rfl | rfl
  · rw [lift_0]
  · rw [lift_1]; omega
  · rw [lift_2]; omega
  · rw [lift_3]; omega
  · rw [lift_4]; omega
  · rw [lift_5]; omega
theorem lift_cg {g g' : Nat → Nat} (hg : ∀ h, h < 6 → g h = g' h) {h : Nat} (hh : h < 6) : lift g h = lift g' h := by
  have e0 := hg 0 (by omega)
  have e1 := hg 1 (by omega)
  have e2 := hg 2 (by omega)
  have e3 := hg 3 (by omega)
  have e4 := hg 4 (by omega)
  have e5 := hg 5 (by omega)
  rcases h6 hh with rfl | rfl | rfl | rfl | rfl | rfl
  · rw [lift_0, lift_0, e0]
  · rw [lift_1, lift_1, e0, e1]
  · rw [lift_2, lift_2, e0, e2]
  · rw [lift_3, lift_3, e0, e3]
  · rw [lift_4, lift_4, e0, e2, e4]
  · rw [lift_5, lift_5, e0, e1, e2, e3, e4, e5]
/-- of what is alike: nothing, one, or it can't be -/
theorem lift_b {g : Nat → Nat} (hg : ∀ h, h < 6 → g h = 0 ∨ g h = 1048576) {h : Nat} (hh : h < 6) : lift g h = 0 ∨ lift g h = 1 ∨ lift g h = 1048576 := by
  have e0 := hg 0 (by omega)
  have e1 := hg 1 (by omega)
  have e2 := hg 2 (by omega)
  have e3 := hg 3 (by omega)
  have e4 := hg 4 (by omega)
  have e5 := hg 5 (by omega)
  rcases h6 hh with rfl | rfl | rfl | rfl | rfl | rfl
  · rw [lift_0]; omega
  · rw [lift_1]; omega
  · rw [lift_2]; omega
  · rw [lift_3]; omega
  · rw [lift_4]; omega
  · rw [lift_5]; omega
def gB (b0 b1 b2 b3 b4 b5 : Bool) (k : Nat) : Nat := if k = 0 then cond b0 0 1048576 else if k = 1 then cond b1 0 1048576 else if k = 2 then cond b2 0 1048576 else if k = 3 then cond b3 0 1048576 else if k = 4 then cond b4 0 1048576 else cond b5 0 1048576
theorem lift_iB : ∀ b0 b1 b2 b3 b4 b5 : Bool, ∀ h, h < 6 → lift (fun h => min 1048576 (lift (gB b0 b1 b2 b3 b4 b5) h + lift (gB b0 b1 b2 b3 b4 b5) h)) h = lift (gB b0 b1 b2 b3 b4 b5) h := by decide +kernel
theorem lift_i {g : Nat → Nat} (hg : ∀ h, h < 6 → g h = 0 ∨ g h = 1048576) {h : Nat} (hh : h < 6) : lift (fun h => min 1048576 (lift g h + lift g h)) h = lift g h := by
  have key : ∀ k, (g k = 0 ∨ g k = 1048576) → g k = cond (decide (g k = 0)) 0 1048576 := fun k hk => by
    rcases hk with e | e <;> simp [e]
  have hG : ∀ k, k < 6 → g k = gB (decide (g 0 = 0)) (decide (g 1 = 0)) (decide (g 2 = 0)) (decide (g 3 = 0)) (decide (g 4 = 0)) (decide (g 5 = 0)) k := fun k hk => by
    rcases h6 hk with rfl | rfl | rfl | rfl | rfl | rfl
    · exact key 0 (hg 0 (by omega))
    · exact key 1 (hg 1 (by omega))
    · exact key 2 (hg 2 (by omega))
    · exact key 3 (hg 3 (by omega))
    · exact key 4 (hg 4 (by omega))
    · exact key 5 (hg 5 (by omega))
  rw [lift_cg (g := fun h => min 1048576 (lift g h + lift g h)) (fun k hk => by rw [lift_cg hG hk]) hh, lift_iB _ _ _ _ _ _ h hh, ← lift_cg hG hh]
def bsA (w : Nat → Nat) (d pk x h : Nat) : Nat := if rA w d pk h x then 0 else 1048576
def Fw (w : Nat → Nat) (d pk : Nat) : Nat → Nat → Nat → Nat
  | 0, q, h => lift (bsA w d pk q) h
  | e + 1, q, h => lift (fun h => min 1048576 (Fw w d pk e (2 * q) h + Fw w d pk e (2 * q + 1) h)) h
/-- by halves -/
def Fh (w : Nat → Nat) (d pk e q h : Nat) : Nat := min 1048576 (Fw w d pk e (2 * q) h + Fw w d pk e (2 * q + 1) h)
theorem Fw_S (w : Nat → Nat) (d pk e q h : Nat) : Fw w d pk (e + 1) q h = lift (Fh w d pk e q) h := rfl
theorem bsA_b (w : Nat → Nat) (d pk x h : Nat) : bsA w d pk x h = 0 ∨ bsA w d pk x h = 1048576 := by
  unfold bsA
  split
  · exact Or.inl rfl
  · exact Or.inr rfl
theorem Fw_le (w : Nat → Nat) (d pk e q : Nat) {h : Nat} (hh : h < 6) : Fw w d pk e q h ≤ 1048576 := by
  cases e with
  | zero =>
    have h1 := lift_le (bsA w d pk q) hh
    have h2 := bsA_b w d pk q h
    show lift (bsA w d pk q) h ≤ _
    omega
  | succ e =>
    have h1 := lift_le (Fh w d pk e q) hh
    have h2 : Fh w d pk e q h ≤ 1048576 := Nat.min_le_left _ _
    show lift (Fh w d pk e q) h ≤ _
    omega
theorem pw1 (e : Nat) : 2 ^ (e + 1) = 2 ^ e + 2 ^ e := by rw [Nat.pow_succ]; omega
theorem pwp (e : Nat) : 0 < 2 ^ e := Nat.two_pow_pos e
/-- the two halves of a block -/
theorem bk_l (e q : Nat) : 2 * q * 2 ^ e = q * 2 ^ (e + 1) := by rw [Nat.pow_succ, Nat.mul_comm 2 q, Nat.mul_assoc, Nat.mul_comm 2 (2 ^ e)]
theorem bk_u (e q : Nat) : (2 * q + 1) * 2 ^ e = q * 2 ^ (e + 1) + 2 ^ e := by rw [Nat.add_mul, bk_l, Nat.one_mul]
theorem bk_h {e q x : Nat} (h1 : q * 2 ^ (e + 1) ≤ x) (h2 : x < q * 2 ^ (e + 1) + 2 ^ (e + 1)) : (2 * q * 2 ^ e ≤ x ∧ x < 2 * q * 2 ^ e + 2 ^ e) ∨ ((2 * q + 1) * 2 ^ e ≤ x ∧ x < (2 * q + 1) * 2 ^ e + 2 ^ e) := by
  rw [bk_l, bk_u]
  have := pw1 e
  omega
theorem Fw_z (w : Nat → Nat) (d pk : Nat) {h : Nat} (hh : h < 6) : ∀ e q, Fw w d pk e q h = 0 ↔ ∀ x, q * 2 ^ e ≤ x → x < q * 2 ^ e + 2 ^ e → rA w d pk h x = true
  | 0, q => by
    show lift (bsA w d pk q) h = 0 ↔ _
    rw [lift_z _ hh]
    unfold bsA
    constructor
    · intro h1 x h2 h3
      have : x = q := by omega
      subst this
      by_cases c : rA w d pk h x = true
      · exact c
      · rw [if_neg c] at h1
        omega
    · intro h1
      rw [if_pos (h1 q (by omega) (by omega))]
  | e + 1, q => by
    rw [Fw_S, lift_z _ hh]
    have i1 := Fw_z w d pk hh e (2 * q)
    have i2 := Fw_z w d pk hh e (2 * q + 1)
    have e1 := bk_l e q
    have e2 := bk_u e q
    have e3 := pw1 e
    have e4 : Fh w d pk e q h = 0 ↔ Fw w d pk e (2 * q) h = 0 ∧ Fw w d pk e (2 * q + 1) h = 0 := by unfold Fh; omega
    rw [e4, i1, i2]
    constructor
    · rintro ⟨a1, a2⟩ x h1 h2
      rcases bk_h h1 h2 with ⟨h3, h4⟩ | ⟨h3, h4⟩
      · exact a1 x h3 h4
      · exact a2 x h3 h4
    · intro a
      exact ⟨fun x h1 h2 => a x (by omega) (by omega), fun x h1 h2 => a x (by omega) (by omega)⟩
/-- a block that is alike -/
def Un (w : Nat → Nat) (e q v : Nat) : Prop := ∀ x, q * 2 ^ e ≤ x → x < q * 2 ^ e + 2 ^ e → w x = v
theorem Un.lo {w : Nat → Nat} {e q v : Nat} (h : Un w (e + 1) q v) : Un w e (2 * q) v := fun x h1 h2 => by
  have := bk_l e q
  have := pw1 e
  exact h x (by omega) (by omega)
theorem Un.hi {w : Nat → Nat} {e q v : Nat} (h : Un w (e + 1) q v) : Un w e (2 * q + 1) v := fun x h1 h2 => by
  have := bk_u e q
  have := pw1 e
  exact h x (by omega) (by omega)
def bsV (v d pk h : Nat) : Nat := if v = 9 ∨ snN pk (kb d h) = v then 0 else 1048576
theorem bsV_b (v d pk h : Nat) : bsV v d pk h = 0 ∨ bsV v d pk h = 1048576 := by
  unfold bsV
  split
  · exact Or.inl rfl
  · exact Or.inr rfl
theorem Fw_un (w : Nat → Nat) (d pk v : Nat) {h : Nat} : ∀ e q, Un w e q v → h < 6 → Fw w d pk e q h = lift (bsV v d pk) h
  | 0, q, hu, hh => by
    show lift (bsA w d pk q) h = _
    have := hu q (by omega) (by omega)
    refine lift_cg (fun h _ => ?_) hh
    unfold bsA bsV rA
    rw [this]
    by_cases c : v = 9 ∨ snN pk (kb d h) = v
    · rw [if_pos (by simpa using c), if_pos c]
    · rw [if_neg (by simpa using c), if_neg c]
  | e + 1, q, hu, hh => by
    rw [Fw_S, ← lift_i (g := bsV v d pk) (fun h _ => bsV_b v d pk h) hh]
    refine lift_cg (fun h hh => ?_) hh
    unfold Fh
    rw [Fw_un w d pk v e (2 * q) hu.lo hh, Fw_un w d pk v e (2 * q + 1) hu.hi hh]
-- changes within a block
def ic (w : Nat → Nat) (e q : Nat) : Nat := smN (chD w) (q * 2 ^ e + 2 ^ e) - smN (chD w) (q * 2 ^ e + 1)
theorem ic_0 (w : Nat → Nat) (q : Nat) : ic w 0 q = 0 := by
  unfold ic
  rw [Nat.pow_zero]
  omega
theorem ic_S (w : Nat → Nat) (e q : Nat) : ic w (e + 1) q = ic w e (2 * q) + chD w ((2 * q + 1) * 2 ^ e) + ic w e (2 * q + 1) := by
  unfold ic
  have e1 := bk_l e q
  have e2 := bk_u e q
  have e3 := pw1 e
  have e4 := pwp e
  have h1 : smN (chD w) ((2 * q + 1) * 2 ^ e + 1) = smN (chD w) ((2 * q + 1) * 2 ^ e) + chD w ((2 * q + 1) * 2 ^ e) := rfl
  have h2 : 2 * q * 2 ^ e + 2 ^ e = (2 * q + 1) * 2 ^ e := by omega
  have h3 := smN_mono (chD w) (a := 2 * q * 2 ^ e + 1) (b := (2 * q + 1) * 2 ^ e) (by omega)
  have h4 := smN_mono (chD w) (a := (2 * q + 1) * 2 ^ e + 1) (b := (2 * q + 1) * 2 ^ e + 2 ^ e) (by omega)
  have h5 : q * 2 ^ (e + 1) + 2 ^ (e + 1) = (2 * q + 1) * 2 ^ e + 2 ^ e := by omega
  rw [h5, h2, ← e1]
  omega
theorem ic_un {w : Nat → Nat} {e q : Nat} (h : ic w e q = 0) : Un w e q (w (q * 2 ^ e)) := by
  have key : ∀ k, k < 2 ^ e → w (q * 2 ^ e + k) = w (q * 2 ^ e) := by
    intro k
    induction k with
    | zero => intro _; rfl
    | succ k ih =>
      intro hk
      rw [← ih (by omega)]
      have h1 := smN_mono (chD w) (a := q * 2 ^ e + 1) (b := q * 2 ^ e + (k + 1)) (by omega)
      have h2 := smN_mono (chD w) (a := q * 2 ^ e + (k + 1) + 1) (b := q * 2 ^ e + 2 ^ e) (by omega)
      have h3 : smN (chD w) (q * 2 ^ e + (k + 1) + 1) = smN (chD w) (q * 2 ^ e + (k + 1)) + chD w (q * 2 ^ e + (k + 1)) := rfl
      unfold ic at h
      have h4 : chD w (q * 2 ^ e + (k + 1)) = 0 := by omega
      unfold chD at h4
      by_cases c : w (q * 2 ^ e + (k + 1)) = w (q * 2 ^ e + k)
      · exact c
      · rw [if_pos (Or.inr (by rw [show q * 2 ^ e + (k + 1) - 1 = q * 2 ^ e + k by omega]; exact c))] at h4
        omega
  intro x h1 h2
  have := key (x - q * 2 ^ e) (by omega)
  rw [show q * 2 ^ e + (x - q * 2 ^ e) = x by omega] at this
  exact this
theorem un_ic {w : Nat → Nat} {e q v : Nat} (h : Un w e q v) : ic w e q = 0 := by
  unfold ic
  have e4 := pwp e
  have h1 := smN_flat (g := chD w) (a := q * 2 ^ e + 1) (b := q * 2 ^ e + 2 ^ e) (v := 0) (by omega) (fun x h1 h2 => by
    unfold chD
    rw [if_neg]
    rintro (h3 | h3)
    · omega
    · exact h3 (by rw [h x (by omega) (by omega), h (x - 1) (by omega) (by omega)]))
  omega
/-- blocks that are halved -/
def IN (w : Nat → Nat) : Nat → Nat → Nat
  | 0, _ => 0
  | e + 1, q => if ic w (e + 1) q = 0 then 0 else 1 + IN w e (2 * q) + IN w e (2 * q + 1)
theorem IN_1 (w : Nat → Nat) : ∀ e q, IN w e q ≤ e * ic w e q
  | 0, q => Nat.zero_le _
  | e + 1, q => by
    unfold IN
    split
    · exact Nat.zero_le _
    · rename_i h
      have i1 := IN_1 w e (2 * q)
      have i2 := IN_1 w e (2 * q + 1)
      have h2 := ic_S w e q
      have h3 : e * ic w e (2 * q) + e * ic w e (2 * q + 1) ≤ e * ic w (e + 1) q := by
        rw [← Nat.mul_add]
        exact Nat.mul_le_mul_left e (by omega)
      rw [Nat.add_mul]
      omega
theorem IN_2 (w : Nat → Nat) : ∀ j q, IN w (5 + j) q ≤ 2 ^ j - 1 + 5 * ic w (5 + j) q
  | 0, q => by
    have := IN_1 w 5 q
    show IN w 5 q ≤ 2 ^ 0 - 1 + 5 * ic w 5 q
    omega
  | j + 1, q => by
    show IN w (5 + j + 1) q ≤ _
    unfold IN
    split
    · exact Nat.zero_le _
    · rename_i h
      have i1 := IN_2 w j (2 * q)
      have i2 := IN_2 w j (2 * q + 1)
      have h2 := ic_S w (5 + j) q
      have h3 := pw1 j
      have h4 := pwp j
      have h5 : ic w (5 + (j + 1)) q = ic w (5 + j + 1) q := rfl
      omega
theorem IN_t (w : Nat → Nat) {t : Nat} (ht : t ≤ 10) (hc : ic w t 0 ≤ 25) : IN w t 0 ≤ 156 := by
  by_cases c : t ≤ 5
  · have h1 := IN_1 w t 0
    have h2 : t * ic w t 0 ≤ 5 * 25 := Nat.mul_le_mul c hc
    omega
  · obtain ⟨j, rfl⟩ : ∃ j, t = 5 + j := ⟨t - 5, by omega⟩
    have h1 := IN_2 w j 0
    have h2 : 2 ^ j ≤ 2 ^ 5 := Nat.pow_le_pow_right (by decide) (by omega)
    omega
/-- nodes of the cut tree -/
def NN (w : Nat → Nat) (e q : Nat) : Nat := 1 + 2 * IN w e q
theorem NN_p (w : Nat → Nat) (e q : Nat) : 0 < NN w e q := by unfold NN; omega
theorem NN_u {w : Nat → Nat} {e q : Nat} (h : ic w e q = 0) : NN w e q = 1 := by
  unfold NN
  cases e with
  | zero => rfl
  | succ e => unfold IN; rw [if_pos h]
theorem NN_h {w : Nat → Nat} {e q : Nat} (h : ¬ ic w (e + 1) q = 0) : NN w (e + 1) q = 1 + NN w e (2 * q) + NN w e (2 * q + 1) := by
  unfold NN
  show 1 + 2 * (if ic w (e + 1) q = 0 then 0 else 1 + IN w e (2 * q) + IN w e (2 * q + 1)) = _
  rw [if_neg h]
  omega
/-- which block is the k-th node of a block's tree -/
def lo (w : Nat → Nat) : Nat → Nat → Nat → Nat × Nat
  | 0, q, _ => (0, q)
  | e + 1, q, k => if k = 0 then (e + 1, q) else if k ≤ NN w e (2 * q) then lo w e (2 * q) (k - 1) else lo w e (2 * q + 1) (k - 1 - NN w e (2 * q))
theorem lo_0 (w : Nat → Nat) (e q : Nat) : lo w e q 0 = (e, q) := by
  cases e with
  | zero => rfl
  | succ e => unfold lo; rw [if_pos rfl]
theorem lo_l {w : Nat → Nat} {e q k : Nat} (hk : k < NN w e (2 * q)) : lo w (e + 1) q (1 + k) = lo w e (2 * q) k := by
  show (if 1 + k = 0 then (e + 1, q) else if 1 + k ≤ NN w e (2 * q) then lo w e (2 * q) (1 + k - 1) else lo w e (2 * q + 1) (1 + k - 1 - NN w e (2 * q))) = _
  rw [if_neg (by omega), if_pos (by omega), Nat.add_sub_cancel_left]
theorem lo_u {w : Nat → Nat} {e q k : Nat} : lo w (e + 1) q (1 + NN w e (2 * q) + k) = lo w e (2 * q + 1) k := by
  show (if 1 + NN w e (2 * q) + k = 0 then (e + 1, q) else if 1 + NN w e (2 * q) + k ≤ NN w e (2 * q) then lo w e (2 * q) (1 + NN w e (2 * q) + k - 1) else lo w e (2 * q + 1) (1 + NN w e (2 * q) + k - 1 - NN w e (2 * q))) = _
  rw [if_neg (by omega), if_neg (by omega)]
  congr 1
  omega
/-- a node's own tree stands from it on -/
theorem lo_sh (w : Nat → Nat) : ∀ e q k e1 q1, k < NN w e q → lo w e q k = (e1, q1) → e1 ≤ e ∧ k + NN w e1 q1 ≤ NN w e q ∧ (q * 2 ^ e ≤ q1 * 2 ^ e1 ∧ q1 * 2 ^ e1 + 2 ^ e1 ≤ q * 2 ^ e + 2 ^ e) ∧ ∀ j, j < NN w e1 q1 → lo w e q (k + j) = lo w e1 q1 j
  | 0, q, k, e1, q1, hk, h => by
    have h1 : NN w 0 q = 1 := rfl
    have h2 : k = 0 := by omega
    subst h2
    rw [lo_0] at h
    cases h
    exact ⟨Nat.le_refl _, by omega, ⟨Nat.le_refl _, Nat.le_refl _⟩, fun j _ => by rw [Nat.zero_add]⟩
  | e + 1, q, k, e1, q1, hk, h => by
    by_cases c0 : k = 0
    · subst c0
      rw [lo_0] at h
      cases h
      exact ⟨Nat.le_refl _, by omega, ⟨Nat.le_refl _, Nat.le_refl _⟩, fun j _ => by rw [Nat.zero_add]⟩
    by_cases c1 : ic w (e + 1) q = 0
    · have := NN_u c1
      omega
    have hN := NN_h c1
    have e1' := bk_l e q
    have e2' := bk_u e q
    have e3' := pw1 e
    have e4' := pwp e
    by_cases c2 : k ≤ NN w e (2 * q)
    · obtain ⟨k', rfl⟩ : ∃ k', k = 1 + k' := ⟨k - 1, by omega⟩
      rw [lo_l (by omega)] at h
      obtain ⟨a1, a2, a3, a4⟩ := lo_sh w e (2 * q) k' e1 q1 (by omega) h
      refine ⟨by omega, by omega, ⟨by omega, by omega⟩, fun j hj => ?_⟩
      rw [Nat.add_assoc, lo_l (by omega)]
      exact a4 j hj
    · obtain ⟨k', rfl⟩ : ∃ k', k = 1 + NN w e (2 * q) + k' := ⟨k - 1 - NN w e (2 * q), by omega⟩
      rw [lo_u] at h
      obtain ⟨a1, a2, a3, a4⟩ := lo_sh w e (2 * q + 1) k' e1 q1 (by omega) h
      refine ⟨by omega, by omega, ⟨by omega, by omega⟩, fun j hj => ?_⟩
      rw [Nat.add_assoc, lo_u]
      exact a4 j hj
/-- the halves of a node -/
theorem lo_kid {w : Nat → Nat} {e q k e1 q1 : Nat} (hk : k < NN w e q) (h : lo w e q k = (e1 + 1, q1)) (hi : ¬ ic w (e1 + 1) q1 = 0) : lo w e q (k + 1) = (e1, 2 * q1) ∧ lo w e q (k + 1 + NN w e1 (2 * q1)) = (e1, 2 * q1 + 1) ∧ k + 1 + NN w e1 (2 * q1) + NN w e1 (2 * q1 + 1) ≤ NN w e q := by
  obtain ⟨a1, a2, a3, a4⟩ := lo_sh w e q k (e1 + 1) q1 hk h
  have hN := NN_h hi
  have p1 := NN_p w e1 (2 * q1)
  have p2 := NN_p w e1 (2 * q1 + 1)
  refine ⟨?_, ?_, by omega⟩
  · rw [a4 1 (by omega), ← lo_0 w e1 (2 * q1), ← lo_l (w := w) (q := q1) (k := 0) p1]
  · rw [Nat.add_assoc, a4 (1 + NN w e1 (2 * q1)) (by omega), ← lo_0 w e1 (2 * q1 + 1), ← lo_u (w := w) (q := q1) (k := 0)]
    rfl
-- what is wanted, or untouched
def wi (S : Sto) (d x : Nat) : Nat := if x < S 142 then 9 else wtS S d x
theorem ch_wi {S : Sto} (hG : Gd S) (d A : Nat) : smN (chD (wi S d)) A ≤ 26 := by
  have h1 : smN (chD (wi S d)) A ≤ smN (fun x => chD (fun x => wtN S d x (S 1)) x + (if x = S 142 then 1 else 0)) A := smN_ls fun x _ => by
    unfold chD
    by_cases c0 : x = 0
    · rw [if_pos (Or.inl c0), if_pos (Or.inl c0)]; omega
    by_cases c1 : x = S 142
    · have e1 : (if x = S 142 then 1 else 0) = 1 := if_pos c1
      rw [e1]
      split <;> omega
    rw [if_neg c1]
    unfold wi
    by_cases c2 : x < S 142
    · rw [if_pos c2, if_pos (show x - 1 < S 142 by omega)]
      rw [if_neg (by simp [c0])]
      exact Nat.zero_le _
    · rw [if_neg c2, if_neg (show ¬ x - 1 < S 142 by omega)]
      exact Nat.le_refl _
  rw [smN_sum, smN_one] at h1
  have h2 := chD_wt S d A (S 1)
  have h3 := hG.1.2.2.2.2.2
  split at h1 <;> omega
theorem ic_wi {S : Sto} (hG : Gd S) (d : Nat) : ic (wi S d) (S 140) 0 ≤ 25 := by
  unfold ic
  have h1 := ch_wi hG d (0 * 2 ^ S 140 + 2 ^ S 140)
  have h2 : smN (chD (wi S d)) (0 * 2 ^ S 140 + 1) = 1 := by rw [Nat.zero_mul]; rfl
  omega
theorem NN_wi {S : Sto} (hG : Gd S) (d : Nat) : NN (wi S d) (S 140) 0 ≤ 313 := by
  have := IN_t (wi S d) hG.1.2.1 (ic_wi hG d)
  unfold NN
  omega
