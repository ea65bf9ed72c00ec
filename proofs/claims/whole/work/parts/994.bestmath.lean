/-! The best set: lists, numbers alone. -/
def fxn (f : Nat → Nat) (v : Nat) : Nat → Option Nat
  | 0 => if f 0 = v then some 0 else none
  | n + 1 => match fxn f v n with
    | some x => some x
    | none => if f (n + 1) = v then some (n + 1) else none
theorem fxn_s {f : Nat → Nat} {v : Nat} : ∀ {n x}, fxn f v n = some x → x ≤ n ∧ f x = v ∧ ∀ y, y < x → ¬ f y = v
  | 0, x, h => by
    unfold fxn at h
    by_cases c : f 0 = v
    · rw [if_pos c] at h; cases h; exact ⟨Nat.le_refl _, c, fun y hy => absurd hy (by omega)⟩
    · rw [if_neg c] at h; cases h
  | n + 1, x, h => by
    unfold fxn at h
    cases hc : fxn f v n with
    | some y =>
      rw [hc] at h
      cases h
      obtain ⟨a1, a2, a3⟩ := fxn_s hc
      exact ⟨by omega, a2, a3⟩
    | none =>
      rw [hc] at h
      dsimp only at h
      by_cases c : f (n + 1) = v
      · rw [if_pos c] at h
        cases h
        refine ⟨Nat.le_refl _, c, fun y hy => ?_⟩
        exact (show ∀ {n}, fxn f v n = none → ∀ y, y ≤ n → ¬ f y = v from fun {n} => by
          induction n with
          | zero =>
            intro h y hy
            unfold fxn at h
            have : y = 0 := by omega
            subst this
            intro z
            rw [if_pos z] at h
            cases h
          | succ n ih =>
            intro h y hy
            unfold fxn at h
            cases hd : fxn f v n with
            | some u => rw [hd] at h; cases h
            | none =>
              rw [hd] at h
              dsimp only at h
              by_cases c2 : y = n + 1
              · subst c2
                intro z
                rw [if_pos z] at h
                cases h
              · exact ih hd y (by omega)) hc y (by omega)
      · rw [if_neg c] at h; cases h
theorem fxn_n {f : Nat → Nat} {v : Nat} : ∀ {n}, fxn f v n = none → ∀ y, y ≤ n → ¬ f y = v
  | 0, h, y, hy => by
    unfold fxn at h
    have : y = 0 := by omega
    subst this
    intro z
    rw [if_pos z] at h
    cases h
  | n + 1, h, y, hy => by
    unfold fxn at h
    cases hd : fxn f v n with
    | some u => rw [hd] at h; cases h
    | none =>
      rw [hd] at h
      dsimp only at h
      by_cases c2 : y = n + 1
      · subst c2
        intro z
        rw [if_pos z] at h
        cases h
      · exact fxn_n hd y (by omega)
theorem fxn_of {f : Nat → Nat} {v n x : Nat} (h1 : x ≤ n) (h2 : f x = v) (h3 : ∀ y, y < x → ¬ f y = v) : fxn f v n = some x := by
  cases hc : fxn f v n with
  | none => exact absurd h2 (fxn_n hc x h1)
  | some y =>
    obtain ⟨a1, a2, a3⟩ := fxn_s hc
    rcases Nat.lt_trichotomy x y with c | c | c
    · exact absurd h2 (a3 x c)
    · rw [c]
    · exact absurd a2 (h3 y c)
theorem fxn_no {f : Nat → Nat} {v n : Nat} (h : ∀ y, y ≤ n → ¬ f y = v) : fxn f v n = none := by
  cases hc : fxn f v n with
  | none => rfl
  | some y =>
    obtain ⟨a1, a2, a3⟩ := fxn_s hc
    exact absurd a2 (h y a1)
/-- the first kind that comes to it -/
def fmP (G : Nat → Nat → Nat) (h r k : Nat) : Prop := ¬ md h k = 9 ∧ G (md h k) (r - 1) = G h r
def fm (G : Nat → Nat → Nat) (h r : Nat) : Nat := if ¬ md h 0 = 9 ∧ G (md h 0) (r - 1) = G h r then 0 else if ¬ md h 1 = 9 ∧ G (md h 1) (r - 1) = G h r then 1 else if ¬ md h 2 = 9 ∧ G (md h 2) (r - 1) = G h r then 2 else if ¬ md h 3 = 9 ∧ G (md h 3) (r - 1) = G h r then 3 else 4
theorem fm_ok {G : Nat → Nat → Nat} {h r : Nat} (hx : ∃ k, k < 5 ∧ fmP G h r k) : fm G h r < 5 ∧ fmP G h r (fm G h r) ∧ ∀ j, j < fm G h r → ¬ fmP G h r j := by
  obtain ⟨k, hk, hp⟩ := hx
  unfold fm
  by_cases c0 : ¬ md h 0 = 9 ∧ G (md h 0) (r - 1) = G h r
  · rw [if_pos c0]; exact ⟨by omega, c0, fun j hj => absurd hj (by omega)⟩
  rw [if_neg c0]
  by_cases c1 : ¬ md h 1 = 9 ∧ G (md h 1) (r - 1) = G h r
  · rw [if_pos c1]
    refine ⟨by omega, c1, fun j hj => ?_⟩
    have : j = 0 := by omega
    subst this; exact c0
  rw [if_neg c1]
  by_cases c2 : ¬ md h 2 = 9 ∧ G (md h 2) (r - 1) = G h r
  · rw [if_pos c2]
    refine ⟨by omega, c2, fun j hj => ?_⟩
    have : j = 0 ∨ j = 1 := by omega
    rcases this with rfl | rfl
    · exact c0
    · exact c1
  rw [if_neg c2]
  by_cases c3 : ¬ md h 3 = 9 ∧ G (md h 3) (r - 1) = G h r
  · rw [if_pos c3]
    refine ⟨by omega, c3, fun j hj => ?_⟩
    have : j = 0 ∨ j = 1 ∨ j = 2 := by omega
    rcases this with rfl | rfl | rfl
    · exact c0
    · exact c1
    · exact c2
  rw [if_neg c3]
  have : k = 4 := by
    have : k = 0 ∨ k = 1 ∨ k = 2 ∨ k = 3 ∨ k = 4 := by omega
    rcases this with rfl | rfl | rfl | rfl | rfl
    · exact absurd hp c0
    · exact absurd hp c1
    · exact absurd hp c2
    · exact absurd hp c3
    · rfl
  subst this
  refine ⟨by omega, hp, fun j hj => ?_⟩
  have : j = 0 ∨ j = 1 ∨ j = 2 ∨ j = 3 := by omega
  rcases this with rfl | rfl | rfl | rfl
  · exact c0
  · exact c1
  · exact c2
  · exact c3
def Bi (b s : Nat) (G : Nat → Nat → Nat) (R0 : Nat → Nat) (hv : Nat → Nat → Option Nat) (sub : Nat → Nat → Nat → List Bk) : Nat → Nat → List Bk
  | 0, _ => []
  | r + 1, h => if R0 h = G h (r + 1) then [] else match hv h (r + 1) with
    | some x => sub h (r + 1) x
    | none => (b, s, fm G h (r + 1)) :: Bi b s G R0 hv sub r (md h (fm G h (r + 1)))
/-- where halves come to it first -/
def hv (w : Nat → Nat) (d : Nat) : Nat → Nat → Nat → Nat → Option Nat
  | 0, _, _, _ => none
  | e + 1, q, h, r => fxn (fun x => Gw w d e (2 * q) h x + Gw w d e (2 * q + 1) h (r - x)) (Gw w d (e + 1) q h r) r
def Bl (w : Nat → Nat) (d : Nat) : Nat → Nat → Nat → Nat → List Bk
  | 0, q, h, r => Bi (q * 2 ^ 0) (2 ^ 0) (Gw w d 0 q) (RI w d 0 q) (hv w d 0 q) (fun _ _ _ => []) r h
  | e + 1, q, h, r => Bi (q * 2 ^ (e + 1)) (2 ^ (e + 1)) (Gw w d (e + 1) q) (RI w d (e + 1) q) (hv w d (e + 1) q) (fun h r x => Bl w d e (2 * q) h x ++ Bl w d e (2 * q + 1) h (r - x)) r h
section BM
variable {w : Nat → Nat} {d e q h r : Nat}
theorem Bl_0 (h0 : RI w d e q h = Gw w d e q h r) : Bl w d e q h r = [] := by
  cases r with
  | zero => cases e <;> rfl
  | succ r =>
    cases e with
    | zero => unfold Bl Bi; rw [if_pos h0]
    | succ e => unfold Bl Bi; rw [if_pos h0]
theorem Bl_r (h0 : ¬ RI w d e q h = Gw w d e q h r) : 0 < r := by
  cases r with
  | zero => exact absurd (Gw_0 w d e q h).symm h0
  | succ r => omega
theorem Bl_h {x : Nat} (h0 : ¬ RI w d (e + 1) q h = Gw w d (e + 1) q h r) (h1 : hv w d (e + 1) q h r = some x) : Bl w d (e + 1) q h r = Bl w d e (2 * q) h x ++ Bl w d e (2 * q + 1) h (r - x) := by
  have hr := Bl_r h0
  obtain ⟨r, rfl⟩ : ∃ k, r = k + 1 := ⟨r - 1, by omega⟩
  show Bi _ _ _ _ _ _ (r + 1) h = _
  unfold Bi
  rw [if_neg h0, h1]
theorem Bl_i (h0 : ¬ RI w d e q h = Gw w d e q h r) (h1 : hv w d e q h r = none) : Bl w d e q h r = (q * 2 ^ e, 2 ^ e, fm (Gw w d e q) h r) :: Bl w d e q (md h (fm (Gw w d e q) h r)) (r - 1) := by
  have hr := Bl_r h0
  obtain ⟨r, rfl⟩ : ∃ k, r = k + 1 := ⟨r - 1, by omega⟩
  cases e with
  | zero =>
    show Bi _ _ _ _ _ _ (r + 1) h = _ :: Bi _ _ _ _ _ _ (r + 1 - 1) _
    conv => lhs; unfold Bi
    rw [if_neg h0, h1]
    rfl
  | succ e =>
    show Bi _ _ _ _ _ _ (r + 1) h = _ :: Bi _ _ _ _ _ _ (r + 1 - 1) _
    conv => lhs; unfold Bi
    rw [if_neg h0, h1]
    rfl
theorem Bl_x (hh : h < 6) (h0 : ¬ RI w d e q h = Gw w d e q h r) (h1 : hv w d e q h r = none) : ∃ k, k < 5 ∧ fmP (Gw w d e q) h r k := by
  have hr := Bl_r h0
  obtain ⟨r, rfl⟩ : ∃ k, r = k + 1 := ⟨r - 1, by omega⟩
  have ms := Gw_ms (w := w) (d := d) (e := e) (q := q) hh (r := 0) (s := r + 1) (by omega)
  rw [Gw_0] at ms
  have key : mxk (fun j => Gw w d e q j r) h = Gw w d e q h (r + 1) := by
    cases e with
    | zero =>
      have h2 : Gw w d 0 q h (r + 1) = max (RI w d 0 q h) (mxk (fun j => Gw w d 0 q j r) h) := rfl
      omega
    | succ e =>
      have h2 : Gw w d (e + 1) q h (r + 1) = max (mxs (Gw w d e (2 * q) h) (Gw w d e (2 * q + 1) h) (r + 1) (r + 1)) (mxk (fun j => Gw w d (e + 1) q j r) h) := rfl
      obtain ⟨x, x1, x2⟩ := mxs_ex (f := Gw w d e (2 * q) h) (g := Gw w d e (2 * q + 1) h) (r := r + 1) (r + 1)
      have h3 := fxn_n h1 x x1
      rw [x2] at h3
      omega
  obtain ⟨k, k1, k2, k3⟩ := mxk_ex hh key (by omega)
  exact ⟨k, k1, k2, k3⟩
end BM
theorem Bl_len (w : Nat → Nat) (d : Nat) : ∀ e q n h r, r < n → h < 6 → (Bl w d e q h r).length ≤ r
  | e, q, 0, h, r, hn, _ => absurd hn (Nat.not_lt_zero _)
  | e, q, n + 1, h, r, hn, hh => by
    by_cases h0 : RI w d e q h = Gw w d e q h r
    · rw [Bl_0 h0]; exact Nat.zero_le _
    have hr := Bl_r h0
    cases hc : hv w d e q h r with
    | none =>
      obtain ⟨k1, k2, _⟩ := fm_ok (Bl_x hh h0 hc)
      have k3 := md_lt h hh _ k1 k2.1
      have := Bl_len w d e q n (md h (fm (Gw w d e q) h r)) (r - 1) (by omega) (by omega)
      rw [Bl_i h0 hc, List.length_cons]
      omega
    | some x =>
      match e, h0, hc with
      | 0, _, hc => cases hc
      | e + 1, h0, hc =>
        have hx := (fxn_s hc).1
        have i1 := Bl_len w d e (2 * q) (x + 1) h x (by omega) hh
        have i2 := Bl_len w d e (2 * q + 1) (r - x + 1) h (r - x) (by omega) hh
        rw [Bl_h h0 hc, List.length_append]
        omega
termination_by e _ n => (e, n)
-- what is alike
theorem ro_2 : ∀ v, v < 10 → ∀ d, d < 5 → ∀ h, h < 6 → ro v d h 2 = ro v d h 1 := by decide +kernel
theorem ro_1 {v d : Nat} (hv : v < 10) (hd : d < 5) : ∀ r h, h < 6 → ro v d h (r + 1) = ro v d h 1
  | 0, _, _ => rfl
  | r + 1, h, hh => by
    rw [← ro_2 v hv d hd h hh]
    show max _ (mxk (fun j => ro v d j (r + 1)) h) = max _ (mxk (fun j => ro v d j 1) h)
    rw [mxk_cg (g := fun j => ro v d j 1) hh (fun j hj => ro_1 hv hd r j (by omega))]
/-- where halves of what is alike come to it -/
theorem hv_un {w : Nat → Nat} {d e q h r v : Nat} (hu : Un w (e + 1) q v) (hv10 : v < 10) (hd : d < 5) (hh : h < 6) (h0 : ¬ RI w d (e + 1) q h = Gw w d (e + 1) q h r) : hv w d (e + 1) q h r = if r = 1 then none else some 1 := by
  have hr := Bl_r h0
  have hp := pwp e
  have hp1 := pw1 e
  have g0 : Gw w d (e + 1) q h r = 2 ^ (e + 1) * ro v d h r := Gw_un (e + 1) q h r hu hh
  have r0 : RI w d (e + 1) q h = 2 ^ (e + 1) * ro v d h 0 := by rw [← Gw_0]; exact Gw_un (e + 1) q h 0 hu hh
  have hne : ¬ ro v d h 0 = ro v d h r := fun z => h0 (by rw [r0, g0, z])
  have l0 := ro_le v d hh 0
  have lr := ro_le v d hh r
  have ms := ro_ms v d hh (r := 0) (s := r) (by omega)
  have z0 : ro v d h 0 = 0 := by omega
  have z1 : ro v d h r = 1 := by omega
  obtain ⟨r', rfl⟩ : ∃ k, r = k + 1 := ⟨r - 1, by omega⟩
  have y1 : ro v d h 1 = 1 := by rw [← ro_1 hv10 hd r' h hh]; exact z1
  have gl : ∀ x, Gw w d e (2 * q) h x = 2 ^ e * ro v d h x := fun x => Gw_un e (2 * q) h x hu.lo hh
  have gu : ∀ x, Gw w d e (2 * q + 1) h x = 2 ^ e * ro v d h x := fun x => Gw_un e (2 * q + 1) h x hu.hi hh
  show fxn _ _ _ = _
  by_cases c : r' = 0
  · subst c
    rw [if_pos rfl]
    refine fxn_no fun y hy => ?_
    rw [gl, gu, g0, z1]
    have : y = 0 ∨ y = 1 := by omega
    rcases this with rfl | rfl
    · rw [show 0 + 1 - 0 = 1 from rfl, z0, y1]; omega
    · rw [show 0 + 1 - 1 = 0 from rfl, z0, y1]; omega
  · rw [if_neg (by omega)]
    refine fxn_of (by omega) ?_ (fun y hy => ?_)
    · rw [gl, gu, g0, z1, y1, Nat.add_sub_cancel]
      obtain ⟨r2, rfl⟩ : ∃ k, r' = k + 1 := ⟨r' - 1, by omega⟩
      rw [ro_1 hv10 hd r2 h hh, y1]
      omega
    · have : y = 0 := by omega
      subst this
      rw [gl, gu, g0, z1, z0, Nat.sub_zero, z1]
      omega
