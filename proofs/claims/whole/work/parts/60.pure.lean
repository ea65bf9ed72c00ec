/-! The pure layer's words: numbers, memory, weakest answers, loops. -/
theorem zi_lit (n : Nat) : (no_index (OfNat.ofNat n : Int32)) = nI (OfNat.ofNat n) := rfl
def mI : Int32 := -1
theorem zi_m : (-(nI 1)) = mI := by decide +kernel
theorem zi_m1 : (-1 : Int32) = mI := rfl
theorem mI_toInt : mI.toInt = -1 := by decide +kernel
theorem zi_sub {a b : Nat} (h : b ≤ a) : nI a - nI b = nI (a - b) := by
  have : nI a = nI (a - b) + nI b := by rw [nI_add]; congr 1; omega
  rw [this, Int32.add_sub_cancel]
theorem zi_mul (a b : Nat) : nI a * nI b = nI (a * b) := (Int32.ofNat_mul a b).symm
theorem zi_addm {a : Nat} (h : 1 ≤ a) : nI a + mI = nI (a - 1) := by
  have : nI a = nI (a - 1) + nI 1 := by rw [nI_add]; congr 1; omega
  rw [this, Int32.add_assoc]
  have : nI 1 + mI = 0 := by decide +kernel
  rw [this, Int32.add_zero]
theorem zi_m_lt {a : Nat} (h : a < 2 ^ 31) : (mI < nI a) = True := eq_true (by rw [Int32.lt_iff_toInt_lt, mI_toInt, nI_toInt h]; omega)
theorem zi_lt_m {a : Nat} (h : a < 2 ^ 31) : (nI a < mI) = False := eq_false (by rw [Int32.lt_iff_toInt_lt, mI_toInt, nI_toInt h]; omega)
theorem zi_m_le {a : Nat} (h : a < 2 ^ 31) : (mI ≤ nI a) = True := eq_true (by rw [Int32.le_iff_toInt_le, mI_toInt, nI_toInt h]; omega)
theorem zi_le_m {a : Nat} (h : a < 2 ^ 31) : (nI a ≤ mI) = False := eq_false (by rw [Int32.le_iff_toInt_le, mI_toInt, nI_toInt h]; omega)
theorem zi_eq_m {a : Nat} (h : a < 2 ^ 31) : (nI a = mI) = False := eq_false (fun e => by
  have := congrArg Int32.toInt e
  rw [mI_toInt, nI_toInt h] at this
  omega)
theorem zi_m_eq {a : Nat} (h : a < 2 ^ 31) : (mI = nI a) = False := eq_false (fun e => by
  have := congrArg Int32.toInt e
  rw [mI_toInt, nI_toInt h] at this
  omega)
theorem zi_div {a b : Nat} (ha : a < 2 ^ 31) (hb : b < 2 ^ 31) : nI a / nI b = nI (a / b) := by
  apply Int32.toInt_inj.mp
  have h1 : a / b < 2 ^ 31 := Nat.lt_of_le_of_lt (Nat.div_le_self a b) ha
  rw [Int32.toInt_div, nI_toInt ha, nI_toInt hb, nI_toInt h1, ← Int.ofNat_tdiv]
  generalize a / b = q at h1
  exact Int.bmod_eq_of_le (by omega) (by omega)
theorem zi_and {a b : Nat} (ha : a < 2 ^ 31) (hb : b < 2 ^ 31) : nI a &&& nI b = nI (a &&& b) := by
  have h1 : a &&& b < 2 ^ 31 := Nat.and_lt_two_pow a hb
  apply Int32.toBitVec_inj.mp
  show BitVec.ofNat 32 a &&& BitVec.ofNat 32 b = BitVec.ofNat 32 (a &&& b)
  apply BitVec.eq_of_toNat_eq
  simp only [BitVec.toNat_and, BitVec.toNat_ofNat]
  rw [Nat.mod_eq_of_lt (by omega), Nat.mod_eq_of_lt (by omega), Nat.mod_eq_of_lt (by omega)]
theorem zi_or {a b : Nat} (ha : a < 2 ^ 31) (hb : b < 2 ^ 31) : nI a ||| nI b = nI (a ||| b) := by
  have h1 : a ||| b < 2 ^ 31 := Nat.or_lt_two_pow ha hb
  apply Int32.toBitVec_inj.mp
  show BitVec.ofNat 32 a ||| BitVec.ofNat 32 b = BitVec.ofNat 32 (a ||| b)
  apply BitVec.eq_of_toNat_eq
  simp only [BitVec.toNat_or, BitVec.toNat_ofNat]
  rw [Nat.mod_eq_of_lt (by omega), Nat.mod_eq_of_lt (by omega), Nat.mod_eq_of_lt (by omega)]
theorem zi_xor {a b : Nat} (ha : a < 2 ^ 31) (hb : b < 2 ^ 31) : nI a ^^^ nI b = nI (a ^^^ b) := by
  have h1 : a ^^^ b < 2 ^ 31 := Nat.xor_lt_two_pow ha hb
  apply Int32.toBitVec_inj.mp
  show BitVec.ofNat 32 a ^^^ BitVec.ofNat 32 b = BitVec.ofNat 32 (a ^^^ b)
  apply BitVec.eq_of_toNat_eq
  simp only [BitVec.toNat_xor, BitVec.toNat_ofNat]
  rw [Nat.mod_eq_of_lt (by omega), Nat.mod_eq_of_lt (by omega), Nat.mod_eq_of_lt (by omega)]
theorem zi_s31 : ∀ k : Nat, k < 32 → ((nI k &&& nI 31).toBitVec.smod 32).toNat = k := by decide +kernel
theorem zi_shl {n k : Nat} (hk : k < 32) (h : n * 2 ^ k < 2 ^ 32) : nI n <<< (nI k &&& nI 31) = nI (n * 2 ^ k) := pk_shlN _ k (zi_s31 k hk) h
theorem zi_shr {n k : Nat} (hk : k < 32) (h : n < 2 ^ 31) : nI n >>> (nI k &&& nI 31) = nI (n / 2 ^ k) := pk_shrN h _ k (zi_s31 k hk)
-- memory
theorem wI_1 (M : Mm) (a k : Nat) (v : Int32) (b j : Nat) : (wI M a k v).1 b j = if b = a ∧ j = k then v else M.1 b j := by
  simp only [wI]
  by_cases h : b = a
  · by_cases h2 : j = k <;> simp [h, h2, upd]
  · simp [h]
theorem wI_2 (M : Mm) (a k : Nat) (v : Int32) : (wI M a k v).2 = M.2 := rfl
theorem wIs_1 (M : Mm) (a : Nat) (f : Nat → Int32) (b j : Nat) : (wIs M a f).1 b j = if b = a then f j else M.1 b j := by
  simp only [wIs]
  by_cases h : b = a <;> simp [h]
theorem wIs_2 (M : Mm) (a : Nat) (f : Nat → Int32) : (wIs M a f).2 = M.2 := rfl
theorem wJ_1 (M : Mm) (a k : Nat) (v : Int64) : (wJ M a k v).1 = M.1 := rfl
theorem wJ_2 (M : Mm) (a k : Nat) (v : Int64) (b j : Nat) : (wJ M a k v).2.1 b j = if b = a ∧ j = k then v else M.2.1 b j := by
  simp only [wJ]
  by_cases h : b = a
  · by_cases h2 : j = k <;> simp [h, h2, vp_updL]
  · simp [h]
theorem wJ_3 (M : Mm) (a k : Nat) (v : Int64) : (wJ M a k v).2.2 = M.2.2 := rfl
theorem wR_1 (M : Mm) (a k : Nat) (v : Option Nat) : (wR M a k v).1 = M.1 := rfl
theorem wR_2 (M : Mm) (a k : Nat) (v : Option Nat) : (wR M a k v).2.1 = M.2.1 := rfl
theorem wR_3 (M : Mm) (a k : Nat) (v : Option Nat) (b j : Nat) : (wR M a k v).2.2 b j = if b = a ∧ j = k then v else M.2.2 b j := by
  simp only [wR]
  by_cases h : b = a
  · by_cases h2 : j = k <;> simp [h, h2, va_up]
  · simp [h]
-- what stays: all outside the cells lo .. lo + n - 1
def Fr (lo n : Nat) (M M' : Mm) : Prop := ∀ b, b < lo ∨ lo + n ≤ b → M'.1 b = M.1 b ∧ M'.2.1 b = M.2.1 b ∧ M'.2.2 b = M.2.2 b
theorem Fr.rf (lo n : Nat) (M : Mm) : Fr lo n M M := fun _ _ => ⟨rfl, rfl, rfl⟩
theorem Fr.tr {lo n : Nat} {M M' M'' : Mm} (h : Fr lo n M M') (h' : Fr lo n M' M'') : Fr lo n M M'' := fun b hb => by
  obtain ⟨a1, a2, a3⟩ := h b hb
  obtain ⟨b1, b2, b3⟩ := h' b hb
  exact ⟨b1.trans a1, b2.trans a2, b3.trans a3⟩
theorem Fr.wd {lo n lo' n' : Nat} {M M' : Mm} (h : Fr lo n M M') (h1 : lo' ≤ lo) (h2 : lo + n ≤ lo' + n') : Fr lo' n' M M' := fun b hb => h b (by omega)
theorem Fr.w1 {lo n : Nat} (M : Mm) (a k : Nat) (v : Int32) (h1 : lo ≤ a) (h2 : a < lo + n) : Fr lo n M (wI M a k v) := fun b hb => by
  have : b ≠ a := by omega
  simp [wI, this]
theorem Fr.w2 {lo n : Nat} (M : Mm) (a : Nat) (f : Nat → Int32) (h1 : lo ≤ a) (h2 : a < lo + n) : Fr lo n M (wIs M a f) := fun b hb => by
  have : b ≠ a := by omega
  simp [wIs, this]
theorem Fr.w3 {lo n : Nat} (M : Mm) (a k : Nat) (v : Int64) (h1 : lo ≤ a) (h2 : a < lo + n) : Fr lo n M (wJ M a k v) := fun b hb => by
  have : b ≠ a := by omega
  simp [wJ, this]
theorem Fr.w4 {lo n : Nat} (M : Mm) (a k : Nat) (v : Option Nat) (h1 : lo ≤ a) (h2 : a < lo + n) : Fr lo n M (wR M a k v) := fun b hb => by
  have : b ≠ a := by omega
  simp [wR, this]
theorem Fr.at {lo n : Nat} {M M' : Mm} (h : Fr lo n M M') {b : Nat} (hb : b < lo ∨ lo + n ≤ b) : M'.1 b = M.1 b := (h b hb).1
-- weakest answers
def Wp {ρ : Type} (x : Option ρ) (Q : ρ → Prop) : Prop := ∃ r, x = some r ∧ Q r
theorem Wp.mono {ρ : Type} {x : Option ρ} {Q Q' : ρ → Prop} (h : Wp x Q) (hh : ∀ r, Q r → Q' r) : Wp x Q' := by
  obtain ⟨r, e, q⟩ := h
  exact ⟨r, e, hh r q⟩
theorem wp_some {ρ : Type} {r : ρ} {Q : ρ → Prop} : Wp (some r) Q ↔ Q r := ⟨fun ⟨_, e, q⟩ => by cases e; exact q, fun q => ⟨r, rfl, q⟩⟩
theorem wp_eq {ρ : Type} {x : Option ρ} {r : ρ} {Q : ρ → Prop} (e : x = some r) (q : Q r) : Wp x Q := ⟨r, e, q⟩
theorem wp_lt {α ρ : Type} {x : α} {k : α → Option ρ} {Q : ρ → Prop} : Wp (lt x k) Q ↔ Wp (k x) Q := Iff.rfl
theorem lt_eq {α β : Type} (x : α) (k : α → β) : lt x k = k x := rfl
theorem wp_bm {ρ : Type} {x : Option Mm} {k : Mm → Option ρ} {Q : ρ → Prop} : Wp (bm x k) Q ↔ Wp x (fun M => Wp (k M) Q) := by
  cases x with
  | none => constructor <;> (intro h; obtain ⟨r, e, _⟩ := h; cases e)
  | some r => rw [wp_some]; rfl
theorem wp_bi {ρ : Type} {x : Option Int32} {k : Int32 → Option ρ} {Q : ρ → Prop} : Wp (bi x k) Q ↔ Wp x (fun M => Wp (k M) Q) := by
  cases x with
  | none => constructor <;> (intro h; obtain ⟨r, e, _⟩ := h; cases e)
  | some r => rw [wp_some]; rfl
theorem wp_bl {ρ : Type} {x : Option Nat} {k : Nat → Option ρ} {Q : ρ → Prop} : Wp (bl x k) Q ↔ Wp x (fun M => Wp (k M) Q) := by
  cases x with
  | none => constructor <;> (intro h; obtain ⟨r, e, _⟩ := h; cases e)
  | some r => rw [wp_some]; rfl
theorem wp_bw {ρ : Type} {x : Option (Int32 × Mm)} {k : Int32 → Mm → Option ρ} {Q : ρ → Prop} : Wp (bw x k) Q ↔ Wp x (fun r => Wp (k r.1 r.2) Q) := by
  cases x with
  | none => constructor <;> (intro h; obtain ⟨r, e, _⟩ := h; cases e)
  | some r => rw [wp_some]; rfl
theorem bm_s {ρ : Type} (M : Mm) (k : Mm → Option ρ) : bm (some M) k = k M := rfl
theorem bi_s {ρ : Type} (r : Int32) (k : Int32 → Option ρ) : bi (some r) k = k r := rfl
theorem bl_s {ρ : Type} (r : Nat) (k : Nat → Option ρ) : bl (some r) k = k r := rfl
theorem bw_s {ρ : Type} (r : Int32) (M : Mm) (k : Int32 → Mm → Option ρ) : bw (some (r, M)) k = k r M := rfl
-- loops
theorem lp_S {σ ρ : Type} (F : (σ → Option ρ) → σ → Option ρ) (n : Nat) (z : σ) : lp F (n + 1) z = F (lp F n) z := rfl
theorem lp_up {σ ρ : Type} {F : (σ → Option ρ) → σ → Option ρ} (z : Nat → σ) (n : Nat) {fu : Nat} {r : Option ρ} (hf : n < fu) (hs : ∀ i, i < n → ∀ rec, F rec (z i) = rec (z (i + 1))) (he : ∀ rec, F rec (z n) = r) : lp F fu (z 0) = r := by
  have key : ∀ k i, i + k = n → ∀ fu, k < fu → lp F fu (z i) = r := by
    intro k
    induction k with
    | zero =>
      intro i hi fu hf
      obtain ⟨f, rfl⟩ : ∃ f, fu = f + 1 := ⟨fu - 1, by omega⟩
      rw [lp_S]
      have : i = n := by omega
      subst this
      exact he _
    | succ k ih =>
      intro i hi fu hf
      obtain ⟨f, rfl⟩ : ∃ f, fu = f + 1 := ⟨fu - 1, by omega⟩
      rw [lp_S, hs i (by omega)]
      exact ih (i + 1) (by omega) f (by omega)
  exact key n 0 (by omega) fu hf
/-- a loop that may end early: what is true with i steps done, and the answer -/
theorem lp_ho {σ ρ : Type} {F : (σ → Option ρ) → σ → Option ρ} (P : Nat → σ → Prop) (Q : ρ → Prop) (n : Nat) {fu i : Nat} {z : σ} (hi : i ≤ n) (hf : n - i < fu) (h0 : P i z)
    (hs : ∀ i z, i < n → P i z → ∀ rec, (∀ z', P (i + 1) z' → Wp (rec z') Q) → Wp (F rec z) Q) (he : ∀ z, P n z → ∀ rec, Wp (F rec z) Q) : Wp (lp F fu z) Q := by
  have key : ∀ k i, i + k = n → ∀ fu, k < fu → ∀ z, P i z → Wp (lp F fu z) Q := by
    intro k
    induction k with
    | zero =>
      intro i hi fu hf z hz
      obtain ⟨f, rfl⟩ : ∃ f, fu = f + 1 := ⟨fu - 1, by omega⟩
      rw [lp_S]
      have : i = n := by omega
      subst this
      exact he z hz _
    | succ k ih =>
      intro i hi fu hf z hz
      obtain ⟨f, rfl⟩ : ∃ f, fu = f + 1 := ⟨fu - 1, by omega⟩
      rw [lp_S]
      exact hs i z (by omega) hz _ (fun z' hz' => ih (i + 1) (by omega) f (by omega) z' hz')
  exact key (n - i) i (by omega) fu hf z h0
/-- a loop with a measure -/
theorem lp_me {σ ρ : Type} {F : (σ → Option ρ) → σ → Option ρ} (P : σ → Prop) (μ : σ → Nat) (Q : ρ → Prop)
    (hs : ∀ z, P z → ∀ rec, (∀ z', P z' → μ z' < μ z → Wp (rec z') Q) → Wp (F rec z) Q) {fu : Nat} {z : σ} (hf : μ z < fu) (h0 : P z) : Wp (lp F fu z) Q := by
  induction fu generalizing z with
  | zero => omega
  | succ f ih =>
    rw [lp_S]
    exact hs z h0 _ (fun z' h1 h2 => ih (by omega) h1)
/-- a loop whose state with i steps left is z i, and whose answer from there is r i -/
theorem lp_sq {σ ρ : Type} {F : (σ → Option ρ) → σ → Option ρ} (z : Nat → σ) (r : Nat → Option ρ) (n : Nat) {fu : Nat} (hf : n < fu) (h0 : ∀ rec, F rec (z 0) = r 0) (hs : ∀ i, i < n → ∀ rec, rec (z i) = r i → F rec (z (i + 1)) = r (i + 1)) : lp F fu (z n) = r n := by
  have key : ∀ k, k ≤ n → ∀ f, k < f → lp F f (z k) = r k := by
    intro k
    induction k with
    | zero =>
      intro _ f hf
      obtain ⟨f, rfl⟩ : ∃ f', f = f' + 1 := ⟨f - 1, by omega⟩
      rw [lp_S]
      exact h0 _
    | succ k ih =>
      intro hk f hf
      obtain ⟨f, rfl⟩ : ∃ f', f = f' + 1 := ⟨f - 1, by omega⟩
      rw [lp_S]
      exact hs k (by omega) _ (ih (by omega) f (by omega))
  exact key n (Nat.le_refl _) fu hf
theorem wI_ne {M : Mm} {a k b : Nat} {v : Int32} (h : b ≠ a) : (wI M a k v).1 b = M.1 b := by simp [wI, h]
theorem wI_eq {M : Mm} {a k : Nat} {v : Int32} : (wI M a k v).1 a k = v := by simp [wI, upd]
theorem wI_nk {M : Mm} {a k j : Nat} {v : Int32} (h : j ≠ k) : (wI M a k v).1 a j = M.1 a j := by simp [wI, upd, h]
theorem wIs_ne {M : Mm} {a b : Nat} {f : Nat → Int32} (h : b ≠ a) : (wIs M a f).1 b = M.1 b := by simp [wIs, h]
theorem wIs_eq {M : Mm} {a : Nat} {f : Nat → Int32} : (wIs M a f).1 a = f := by simp [wIs]
theorem cpy_at {f g : Nat → Int32} {n j : Nat} (h : j < n) : va_cpy f g 0 0 n j = f j := by simp [va_cpy, h]
