/-! The most that so many blocks put right: numbers alone. -/
def mxk (f : Nat → Nat) (h : Nat) : Nat := max (max (max (max (if md h 0 = 9 then 0 else f (md h 0)) (if md h 1 = 9 then 0 else f (md h 1))) (if md h 2 = 9 then 0 else f (md h 2))) (if md h 3 = 9 then 0 else f (md h 3))) (if md h 4 = 9 then 0 else f (md h 4))
theorem mxk_0 (f : Nat → Nat) : mxk f 0 = 0 := rfl
theorem mxk_1 (f : Nat → Nat) : mxk f 1 = f 0 := by show max (max (max (max (f 0) 0) 0) 0) 0 = _; omega
theorem mxk_2 (f : Nat → Nat) : mxk f 2 = f 0 := by show max (max (max (max (f 0) 0) 0) 0) 0 = _; omega
theorem mxk_3 (f : Nat → Nat) : mxk f 3 = f 0 := by show max (max (max (max (f 0) 0) 0) 0) 0 = _; omega
theorem mxk_4 (f : Nat → Nat) : mxk f 4 = max (f 0) (f 2) := by show max (max (max (max (f 0) 0) (f 2)) 0) 0 = _; omega
theorem mxk_5 (f : Nat → Nat) : mxk f 5 = max (max (max (max (f 0) (f 1)) (f 2)) (f 3)) (f 4) := rfl
theorem mxk_mo {f g : Nat → Nat} {h : Nat} (hh : h < 6) (hfg : ∀ j, j < h → f j ≤ g j) : mxk f h ≤ mxk g h := by
  rcases h6 hh with rfl | rfl | rfl | rfl | rfl | rfl
  · exact Nat.le_refl _
  · rw [mxk_1, mxk_1]; exact hfg 0 (by omega)
  · rw [mxk_2, mxk_2]; exact hfg 0 (by omega)
  · rw [mxk_3, mxk_3]; exact hfg 0 (by omega)
  · rw [mxk_4, mxk_4]
    have := hfg 0 (by omega)
    have := hfg 2 (by omega)
    omega
  · rw [mxk_5, mxk_5]
    have := hfg 0 (by omega)
    have := hfg 1 (by omega)
    have := hfg 2 (by omega)
    have := hfg 3 (by omega)
    have := hfg 4 (by omega)
    omega
theorem mxk_cg {f g : Nat → Nat} {h : Nat} (hh : h < 6) (hfg : ∀ j, j < h → f j = g j) : mxk f h = mxk g h :=
  Nat.le_antisymm (mxk_mo hh fun j hj => Nat.le_of_eq (hfg j hj)) (mxk_mo hh fun j hj => Nat.le_of_eq (hfg j hj).symm)
theorem mxk_le {f : Nat → Nat} {h c : Nat} (hh : h < 6) (hf : ∀ j, j < h → f j ≤ c) : mxk f h ≤ c := by
  rcases h6 hh with rfl | rfl | rfl | rfl | rfl | rfl
  · exact Nat.zero_le _
  · rw [mxk_1]; exact hf 0 (by omega)
  · rw [mxk_2]; exact hf 0 (by omega)
  · rw [mxk_3]; exact hf 0 (by omega)
  · rw [mxk_4]
    have := hf 0 (by omega)
    have := hf 2 (by omega)
    omega
  · rw [mxk_5]
    have := hf 0 (by omega)
    have := hf 1 (by omega)
    have := hf 2 (by omega)
    have := hf 3 (by omega)
    have := hf 4 (by omega)
    omega
theorem mxk_mul (s : Nat) (f : Nat → Nat) {h : Nat} (hh : h < 6) : mxk (fun j => s * f j) h = s * mxk f h := by
  rcases h6 hh with rfl | rfl | rfl | rfl | rfl | rfl
  · rfl
  · rw [mxk_1, mxk_1]
  · rw [mxk_2, mxk_2]
  · rw [mxk_3, mxk_3]
  · rw [mxk_4, mxk_4, Nat.mul_max_mul_left]
  · rw [mxk_5, mxk_5, Nat.mul_max_mul_left, Nat.mul_max_mul_left, Nat.mul_max_mul_left, Nat.mul_max_mul_left]
/-- some kind makes it -/
theorem mxk_ex {f : Nat → Nat} {h v : Nat} (hh : h < 6) (hv : mxk f h = v) (h0 : 0 < v) : ∃ k, k < 5 ∧ ¬ md h k = 9 ∧ f (md h k) = v := by
  rcases h6 hh with rfl | rfl | rfl | rfl | rfl | rfl
  · rw [mxk_0] at hv; omega
  · rw [mxk_1] at hv; exact ⟨0, by omega, by decide, hv⟩
  · rw [mxk_2] at hv; exact ⟨0, by omega, by decide, hv⟩
  · rw [mxk_3] at hv; exact ⟨0, by omega, by decide, hv⟩
  · rw [mxk_4] at hv
    have : f 0 = v ∨ f 2 = v := by omega
    rcases this with c | c
    · exact ⟨0, by omega, by decide, c⟩
    · exact ⟨2, by omega, by decide, c⟩
  · rw [mxk_5] at hv
    have : f 0 = v ∨ f 1 = v ∨ f 2 = v ∨ f 3 = v ∨ f 4 = v := by omega
    rcases this with c | c | c | c | c
    · exact ⟨0, by omega, by decide, c⟩
    · exact ⟨1, by omega, by decide, c⟩
    · exact ⟨2, by omega, by decide, c⟩
    · exact ⟨3, by omega, by decide, c⟩
    · exact ⟨4, by omega, by decide, c⟩
def Gl (b : Nat → Nat → Nat) (h : Nat) : Nat → Nat
  | 0 => b h 0
  | r + 1 => max (b h (r + 1)) (mxk (fun j => Gl b j r) h)
theorem Gl_S (b : Nat → Nat → Nat) (h r : Nat) : Gl b h (r + 1) = max (b h (r + 1)) (mxk (fun j => Gl b j r) h) := rfl
theorem Gl_mo {b : Nat → Nat → Nat} (hb : ∀ h r, h < 6 → b h r ≤ b h (r + 1)) : ∀ r h, h < 6 → Gl b h r ≤ Gl b h (r + 1)
  | 0, h, hh => by
    rw [Gl_S]
    have := hb h 0 hh
    show b h 0 ≤ _
    omega
  | r + 1, h, hh => by
    rw [Gl_S, Gl_S b h (r + 1)]
    have h1 := hb h (r + 1) hh
    have h2 := mxk_mo (f := fun j => Gl b j r) (g := fun j => Gl b j (r + 1)) hh (fun j hj => Gl_mo hb r j (by omega))
    omega
theorem Gl_le {b : Nat → Nat → Nat} {c : Nat} (hb : ∀ h r, h < 6 → b h r ≤ c) : ∀ r h, h < 6 → Gl b h r ≤ c
  | 0, h, hh => hb h 0 hh
  | r + 1, h, hh => by
    rw [Gl_S]
    have h1 := hb h (r + 1) hh
    have h2 := mxk_le (f := fun j => Gl b j r) hh (fun j hj => Gl_le hb r j (by omega))
    omega
theorem Gl_cg {b b' : Nat → Nat → Nat} (hb : ∀ h r, h < 6 → b h r = b' h r) : ∀ r h, h < 6 → Gl b h r = Gl b' h r
  | 0, h, hh => hb h 0 hh
  | r + 1, h, hh => by
    rw [Gl_S, Gl_S, hb h (r + 1) hh, mxk_cg (g := fun j => Gl b' j r) hh (fun j hj => Gl_cg hb r j (by omega))]
/-- the best by two halves -/
def mxs (f g : Nat → Nat) (r : Nat) : Nat → Nat
  | 0 => f 0 + g r
  | x + 1 => max (mxs f g r x) (f (x + 1) + g (r - (x + 1)))
theorem mxs_ge {f g : Nat → Nat} {r : Nat} : ∀ {n x}, x ≤ n → f x + g (r - x) ≤ mxs f g r n
  | 0, x, h => by
    have : x = 0 := by omega
    subst this
    exact Nat.le_refl _
  | n + 1, x, h => by
    unfold mxs
    by_cases c : x = n + 1
    · subst c; omega
    · have := mxs_ge (f := f) (g := g) (r := r) (n := n) (x := x) (by omega)
      omega
theorem mxs_ex {f g : Nat → Nat} {r : Nat} : ∀ n, ∃ x, x ≤ n ∧ f x + g (r - x) = mxs f g r n
  | 0 => ⟨0, Nat.le_refl _, rfl⟩
  | n + 1 => by
    obtain ⟨x, h1, h2⟩ := mxs_ex (f := f) (g := g) (r := r) n
    by_cases c : f (n + 1) + g (r - (n + 1)) ≤ mxs f g r n
    · exact ⟨x, by omega, by unfold mxs; omega⟩
    · exact ⟨n + 1, Nat.le_refl _, by unfold mxs; omega⟩
theorem mxs_le {f g : Nat → Nat} {r c n : Nat} (h : ∀ x, x ≤ n → f x + g (r - x) ≤ c) : mxs f g r n ≤ c := by
  obtain ⟨x, h1, h2⟩ := mxs_ex (f := f) (g := g) (r := r) n
  rw [← h2]
  exact h x h1
theorem mxs_cg {f g f' g' : Nat → Nat} {r n : Nat} (hf : ∀ x, f x = f' x) (hg : ∀ x, g x = g' x) : mxs f g r n = mxs f' g' r n := by
  rw [funext hf, funext hg]
/-- addresses that are right, that are open, one by one -/
def oA (w : Nat → Nat) (d h x : Nat) : Nat := if w x = kb d h then 1 else 0
def oP (w : Nat → Nat) (x : Nat) : Nat := if w x = 9 then 0 else 1
def RI (w : Nat → Nat) (d e q h : Nat) : Nat := smN (oA w d h) (q * 2 ^ e + 2 ^ e) - smN (oA w d h) (q * 2 ^ e)
def OP (w : Nat → Nat) (e q : Nat) : Nat := smN (oP w) (q * 2 ^ e + 2 ^ e) - smN (oP w) (q * 2 ^ e)
theorem bk_sm (f : Nat → Nat) (e q : Nat) : smN f (q * 2 ^ (e + 1) + 2 ^ (e + 1)) - smN f (q * 2 ^ (e + 1)) = (smN f (2 * q * 2 ^ e + 2 ^ e) - smN f (2 * q * 2 ^ e)) + (smN f ((2 * q + 1) * 2 ^ e + 2 ^ e) - smN f ((2 * q + 1) * 2 ^ e)) := by
  have e1 := bk_l e q
  have e2 := bk_u e q
  have e3 := pw1 e
  have e4 := pwp e
  have h1 : 2 * q * 2 ^ e + 2 ^ e = (2 * q + 1) * 2 ^ e := by omega
  have h2 : q * 2 ^ (e + 1) + 2 ^ (e + 1) = (2 * q + 1) * 2 ^ e + 2 ^ e := by omega
  have h3 := smN_mono f (a := 2 * q * 2 ^ e) (b := (2 * q + 1) * 2 ^ e) (by omega)
  have h4 := smN_mono f (a := (2 * q + 1) * 2 ^ e) (b := (2 * q + 1) * 2 ^ e + 2 ^ e) (by omega)
  rw [h2, h1, ← e1]
  omega
theorem RI_S (w : Nat → Nat) (d e q h : Nat) : RI w d (e + 1) q h = RI w d e (2 * q) h + RI w d e (2 * q + 1) h := bk_sm _ e q
theorem OP_S (w : Nat → Nat) (e q : Nat) : OP w (e + 1) q = OP w e (2 * q) + OP w e (2 * q + 1) := bk_sm _ e q
theorem oA_P {w : Nat → Nat} {d h : Nat} (hk : kb d h < 5) (x : Nat) : oA w d h x ≤ oP w x := by
  unfold oA oP
  by_cases c : w x = kb d h
  · rw [if_pos c, if_neg (by omega)]; exact Nat.le_refl _
  · rw [if_neg c]; exact Nat.zero_le _
theorem RI_le {w : Nat → Nat} {d h : Nat} (hk : kb d h < 5) (e q : Nat) : RI w d e q h ≤ OP w e q := by
  unfold RI OP
  rw [smN_add, smN_add]
  have := smN_ls (g := fun x => oA w d h (q * 2 ^ e + x)) (h := fun x => oP w (q * 2 ^ e + x)) (n := 2 ^ e) (fun x _ => oA_P hk _)
  omega
theorem OP_le (w : Nat → Nat) (e q : Nat) : OP w e q ≤ 2 ^ e := by
  unfold OP
  rw [smN_add]
  have := smN_le (g := fun x => oP w (q * 2 ^ e + x)) (c := 1) (n := 2 ^ e) (fun x _ => by unfold oP; split <;> omega)
  omega
def bG (f g : Nat → Nat → Nat) (h r : Nat) : Nat := mxs (f h) (g h) r r
def Gw (w : Nat → Nat) (d : Nat) : Nat → Nat → Nat → Nat → Nat
  | 0, q, h, r => Gl (fun h _ => RI w d 0 q h) h r
  | e + 1, q, h, r => Gl (bG (fun h => Gw w d e (2 * q) h) (fun h => Gw w d e (2 * q + 1) h)) h r
/-- the base: as it is, or by halves -/
def gW (w : Nat → Nat) (d : Nat) : Nat → Nat → Nat → Nat → Nat
  | 0, q => fun h _ => RI w d 0 q h
  | e + 1, q => bG (fun h => Gw w d e (2 * q) h) (fun h => Gw w d e (2 * q + 1) h)
theorem Gw_d (w : Nat → Nat) (d e q h r : Nat) : Gw w d e q h r = Gl (gW w d e q) h r := by
  cases e with
  | zero => rfl
  | succ e => rfl
section GM
variable {w : Nat → Nat} {d : Nat}
theorem Gw_mo (w : Nat → Nat) (d : Nat) : ∀ e q h r, h < 6 → Gw w d e q h r ≤ Gw w d e q h (r + 1)
  | 0, q, h, r, hh => Gl_mo (fun _ _ _ => Nat.le_refl _) r h hh
  | e + 1, q, h, r, hh => by
    refine Gl_mo (fun h r hh => ?_) r h hh
    unfold bG
    refine mxs_le fun x hx => ?_
    have h1 := Gw_mo w d e (2 * q + 1) h (r - x) hh
    rw [show r - x + 1 = r + 1 - x by omega] at h1
    have h2 := mxs_ge (f := Gw w d e (2 * q) h) (g := Gw w d e (2 * q + 1) h) (r := r + 1) (n := r + 1) (x := x) (by omega)
    exact Nat.le_trans (Nat.add_le_add_left h1 _) h2
theorem Gw_ms {e q h r s : Nat} (hh : h < 6) (hrs : r ≤ s) : Gw w d e q h r ≤ Gw w d e q h s := by
  obtain ⟨k, rfl⟩ : ∃ k, s = r + k := ⟨s - r, by omega⟩
  clear hrs
  induction k with
  | zero => exact Nat.le_refl _
  | succ k ih => exact Nat.le_trans ih (Gw_mo w d e q h (r + k) hh)
theorem Gw_0 (w : Nat → Nat) (d : Nat) : ∀ e q h, Gw w d e q h 0 = RI w d e q h
  | 0, q, h => rfl
  | e + 1, q, h => by
    show Gw w d e (2 * q) h 0 + Gw w d e (2 * q + 1) h 0 = _
    rw [Gw_0 w d e (2 * q) h, Gw_0 w d e (2 * q + 1) h, RI_S]
theorem Gw_k0 (w : Nat → Nat) (d : Nat) : ∀ e q r, Gw w d e q 0 r = RI w d e q 0
  | 0, q, r => by
    cases r with
    | zero => rfl
    | succ r => show max (RI w d 0 q 0) (mxk _ 0) = _; rw [mxk_0]; omega
  | e + 1, q, r => by
    have hb : ∀ r, bG (fun h => Gw w d e (2 * q) h) (fun h => Gw w d e (2 * q + 1) h) 0 r = RI w d (e + 1) q 0 := fun r => by
      unfold bG
      obtain ⟨x, h1, h2⟩ := mxs_ex (f := Gw w d e (2 * q) 0) (g := Gw w d e (2 * q + 1) 0) (r := r) r
      rw [← h2, Gw_k0 w d e (2 * q), Gw_k0 w d e (2 * q + 1), RI_S]
    cases r with
    | zero => exact hb 0
    | succ r => show max (bG _ _ 0 (r + 1)) (mxk _ 0) = _; rw [mxk_0, hb]; omega
theorem Gw_le (hd : d < 5) : ∀ e q h r, h < 6 → Gw w d e q h r ≤ OP w e q
  | 0, q, h, r, hh => Gl_le (fun h _ hh => RI_le (kb_lt hd hh) 0 q) r h hh
  | e + 1, q, h, r, hh => by
    refine Gl_le (fun h r hh => ?_) r h hh
    unfold bG
    rw [OP_S]
    exact mxs_le fun x hx => Nat.add_le_add (Gw_le hd e (2 * q) h x hh) (Gw_le hd e (2 * q + 1) h (r - x) hh)
/-- what is alike: reached, or not -/
def ro (v d h r : Nat) : Nat := Gl (fun h _ => if v = kb d h then 1 else 0) h r
theorem ro_le (v d : Nat) {h : Nat} (hh : h < 6) (r : Nat) : ro v d h r ≤ 1 := Gl_le (fun h _ _ => by split <;> omega) r h hh
theorem ro_mo (v d : Nat) {h : Nat} (hh : h < 6) (r : Nat) : ro v d h r ≤ ro v d h (r + 1) := Gl_mo (fun _ _ _ => Nat.le_refl _) r h hh
theorem ro_ms (v d : Nat) {h r s : Nat} (hh : h < 6) (hrs : r ≤ s) : ro v d h r ≤ ro v d h s := by
  obtain ⟨k, rfl⟩ : ∃ k, s = r + k := ⟨s - r, by omega⟩
  clear hrs
  induction k with
  | zero => exact Nat.le_refl _
  | succ k ih => exact Nat.le_trans ih (ro_mo v d hh (r + k))
theorem RI_un {e q v h : Nat} (hu : Un w e q v) : RI w d e q h = 2 ^ e * (if v = kb d h then 1 else 0) := by
  unfold RI
  have := smN_flat (g := oA w d h) (a := q * 2 ^ e) (b := q * 2 ^ e + 2 ^ e) (v := if v = kb d h then 1 else 0) (Nat.le_add_right _ _) (fun x h1 h2 => by unfold oA; rw [hu x h1 h2])
  rw [this, Nat.add_sub_cancel_left, Nat.add_sub_cancel_left, Nat.mul_comm]
theorem Gw_un {v : Nat} : ∀ e q h r, Un w e q v → h < 6 → Gw w d e q h r = 2 ^ e * ro v d h r
  | 0, q, h, r, hu, hh => by
    have : Gw w d 0 q h r = Gl (fun h _ => if v = kb d h then 1 else 0) h r := Gl_cg (fun h _ _ => by rw [RI_un hu]; simp) r h hh
    rw [this]
    show _ = 2 ^ 0 * Gl _ h r
    rw [Nat.pow_zero, Nat.one_mul]
  | e + 1, q, h, r, hu, hh => by
    have hp := pw1 e
    have hb : ∀ h r, h < 6 → bG (fun h => Gw w d e (2 * q) h) (fun h => Gw w d e (2 * q + 1) h) h r = mxs (fun x => 2 ^ e * ro v d h x) (fun x => 2 ^ e * ro v d h x) r r := fun h r hh => by
      unfold bG
      exact mxs_cg (fun x => Gw_un e (2 * q) h x hu.lo hh) (fun x => Gw_un e (2 * q + 1) h x hu.hi hh)
    have key : ∀ r h, h < 6 → Gl (bG (fun h => Gw w d e (2 * q) h) (fun h => Gw w d e (2 * q + 1) h)) h r = 2 ^ (e + 1) * ro v d h r := by
      intro r
      induction r with
      | zero =>
        intro h hh
        show bG _ _ h 0 = _
        rw [hb h 0 hh]
        show 2 ^ e * ro v d h 0 + 2 ^ e * ro v d h 0 = _
        rw [hp, Nat.add_mul]
      | succ r ih =>
        intro h hh
        rw [Gl_S, hb h (r + 1) hh, mxk_cg (g := fun j => 2 ^ (e + 1) * ro v d j r) hh (fun j hj => ih j (by omega)), mxk_mul _ _ hh]
        have e1 : ro v d h (r + 1) = max (if v = kb d h then 1 else 0) (mxk (fun j => ro v d j r) h) := rfl
        have u1 : mxs (fun x => 2 ^ e * ro v d h x) (fun x => 2 ^ e * ro v d h x) (r + 1) (r + 1) ≤ 2 ^ (e + 1) * ro v d h (r + 1) := mxs_le fun x hx => by
          have a1 := Nat.mul_le_mul_left (2 ^ e) (ro_ms v d hh (r := x) (s := r + 1) hx)
          have a2 := Nat.mul_le_mul_left (2 ^ e) (ro_ms v d hh (r := r + 1 - x) (s := r + 1) (by omega))
          rw [hp, Nat.add_mul]
          omega
        have u2 : 2 ^ e * ro v d h 0 + 2 ^ e * ro v d h (r + 1) ≤ mxs (fun x => 2 ^ e * ro v d h x) (fun x => 2 ^ e * ro v d h x) (r + 1) (r + 1) := mxs_ge (f := fun x => 2 ^ e * ro v d h x) (g := fun x => 2 ^ e * ro v d h x) (r := r + 1) (n := r + 1) (x := 0) (by omega)
        have u3 : ro v d h 0 = if v = kb d h then 1 else 0 := rfl
        by_cases c : v = kb d h
        · have e2 : ro v d h (r + 1) = 1 := by
            have := ro_le v d hh (r + 1)
            rw [if_pos c] at e1
            omega
          rw [if_pos c] at u3
          rw [u3, e2] at u2
          rw [e2] at u1 ⊢
          have e3 : mxk (fun j => ro v d j r) h ≤ 1 := mxk_le hh fun j hj => ro_le v d (by omega) r
          have e4 := Nat.mul_le_mul_left (2 ^ (e + 1)) e3
          omega
        · rw [if_neg c] at e1
          have e2 : mxk (fun j => ro v d j r) h = ro v d h (r + 1) := by omega
          rw [e2]
          omega
    exact key r h hh
end GM
