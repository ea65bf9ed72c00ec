/-! Paged plans: numbers alone. -/
theorem min5 (a0 a1 a2 a3 a4 b0 b1 b2 b3 b4 : Nat) : min (min (min a0 b0) (min a1 b1)) (min (min (min a2 b2) (min a3 b3)) (min a4 b4)) = min (min (min a0 a1) (min (min a2 a3) a4)) (min (min b0 b1) (min (min b2 b3) b4)) := by
  have h : ∀ a b c d : Nat, min (min a b) (min c d) = min (min a c) (min b d) := fun a b c d => by omega
  rw [h a0 b0 a1 b1, h a2 b2 a3 b3, h (min a2 a3) (min b2 b3) a4 b4, h]
theorem lift_mn (g g' : Nat → Nat) {h : Nat} (hh : h < 6) : lift (fun h => min (g h) (g' h)) h = min (lift g h) (lift g' h) := by
  rcases h6 hh with rfl | rfl | rfl | rfl | rfl | rfl
  · rfl
  · rw [lift_1, lift_1, lift_1]; omega
  · rw [lift_2, lift_2, lift_2]; omega
  · rw [lift_3, lift_3, lift_3]; omega
  · rw [lift_4, lift_4, lift_4]; omega
  · rw [lift_5, lift_5, lift_5, min5]
    generalize min (min (g 0) (g 1)) (min (min (g 2) (g 3)) (g 4)) = x
    generalize min (min (g' 0) (g' 1)) (min (min (g' 2) (g' 3)) (g' 4)) = y
    omega
theorem lift_mo {g g' : Nat → Nat} (hg : ∀ h, h < 6 → g h ≤ g' h) {h : Nat} (hh : h < 6) : lift g h ≤ lift g' h := by
  have e : ∀ h, h < 6 → min (g h) (g' h) = g h := fun h hh => by have := hg h hh; omega
  have h1 := lift_mn g g' hh
  rw [lift_cg (g' := g) e hh] at h1
  omega
/-- over the kinds of a page -/
def mn6 (f : Nat → Nat) : Nat := min (f 5) (min (min (min (f 0) (f 1)) (min (f 2) (f 3))) (f 4))
theorem mn6_le (f : Nat → Nat) {k : Nat} (hk : k < 6) : mn6 f ≤ f k := by
  unfold mn6
  rcases h6 hk with rfl | rfl | rfl | rfl | rfl | rfl <;> omega
theorem mn6_ex (f : Nat → Nat) : ∃ k, k < 6 ∧ f k = mn6 f := by
  unfold mn6
  have : f 5 = min (f 5) (min (min (min (f 0) (f 1)) (min (f 2) (f 3))) (f 4)) ∨ f 0 = min (f 5) (min (min (min (f 0) (f 1)) (min (f 2) (f 3))) (f 4)) ∨ f 1 = min (f 5) (min (min (min (f 0) (f 1)) (min (f 2) (f 3))) (f 4)) ∨ f 2 = min (f 5) (min (min (min (f 0) (f 1)) (min (f 2) (f 3))) (f 4)) ∨ f 3 = min (f 5) (min (min (min (f 0) (f 1)) (min (f 2) (f 3))) (f 4)) ∨ f 4 = min (f 5) (min (min (min (f 0) (f 1)) (min (f 2) (f 3))) (f 4)) := by omega
  rcases this with h | h | h | h | h | h
  · exact ⟨5, by omega, h⟩
  · exact ⟨0, by omega, h⟩
  · exact ⟨1, by omega, h⟩
  · exact ⟨2, by omega, h⟩
  · exact ⟨3, by omega, h⟩
  · exact ⟨4, by omega, h⟩
/-- the first kind of a page, by turns, that comes to the least -/
def fpk (f : Nat → Nat) : Nat := if f 5 = mn6 f then 5 else if f 0 = mn6 f then 0 else if f 1 = mn6 f then 1 else if f 2 = mn6 f then 2 else if f 3 = mn6 f then 3 else 4
theorem fpk_ok (f : Nat → Nat) : fpk f < 6 ∧ f (fpk f) = mn6 f := by
  obtain ⟨k, hk, ek⟩ := mn6_ex f
  unfold fpk
  by_cases c5 : f 5 = mn6 f
  · rw [if_pos c5]; exact ⟨by omega, c5⟩
  rw [if_neg c5]
  by_cases c0 : f 0 = mn6 f
  · rw [if_pos c0]; exact ⟨by omega, c0⟩
  rw [if_neg c0]
  by_cases c1 : f 1 = mn6 f
  · rw [if_pos c1]; exact ⟨by omega, c1⟩
  rw [if_neg c1]
  by_cases c2 : f 2 = mn6 f
  · rw [if_pos c2]; exact ⟨by omega, c2⟩
  rw [if_neg c2]
  by_cases c3 : f 3 = mn6 f
  · rw [if_pos c3]; exact ⟨by omega, c3⟩
  rw [if_neg c3]
  refine ⟨by omega, ?_⟩
  rcases h6 hk with rfl | rfl | rfl | rfl | rfl | rfl
  · exact absurd ek c0
  · exact absurd ek c1
  · exact absurd ek c2
  · exact absurd ek c3
  · exact ek
  · exact absurd ek c5
/-- by turns: which turn it is -/
def fpt (f : Nat → Nat) : Nat := if f 5 = mn6 f then 0 else if f 0 = mn6 f then 1 else if f 1 = mn6 f then 2 else if f 2 = mn6 f then 3 else if f 3 = mn6 f then 4 else 5
theorem fpt_ok (f : Nat → Nat) : fpt f < 6 ∧ tkN (fpt f) = fpk f ∧ ∀ i, i < fpt f → ¬ f (tkN i) = mn6 f := by
  unfold fpt fpk
  by_cases c5 : f 5 = mn6 f
  · rw [if_pos c5, if_pos c5]; exact ⟨by omega, rfl, fun i hi => absurd hi (by omega)⟩
  rw [if_neg c5, if_neg c5]
  by_cases c0 : f 0 = mn6 f
  · rw [if_pos c0, if_pos c0]
    refine ⟨by omega, rfl, fun i hi => ?_⟩
    have : i = 0 := by omega
    subst this; exact c5
  rw [if_neg c0, if_neg c0]
  by_cases c1 : f 1 = mn6 f
  · rw [if_pos c1, if_pos c1]
    refine ⟨by omega, rfl, fun i hi => ?_⟩
    have : i = 0 ∨ i = 1 := by omega
    rcases this with rfl | rfl
    · exact c5
    · exact c0
  rw [if_neg c1, if_neg c1]
  by_cases c2 : f 2 = mn6 f
  · rw [if_pos c2, if_pos c2]
    refine ⟨by omega, rfl, fun i hi => ?_⟩
    have : i = 0 ∨ i = 1 ∨ i = 2 := by omega
    rcases this with rfl | rfl | rfl
    · exact c5
    · exact c0
    · exact c1
  rw [if_neg c2, if_neg c2]
  by_cases c3 : f 3 = mn6 f
  · rw [if_pos c3, if_pos c3]
    refine ⟨by omega, rfl, fun i hi => ?_⟩
    have : i = 0 ∨ i = 1 ∨ i = 2 ∨ i = 3 := by omega
    rcases this with rfl | rfl | rfl | rfl
    · exact c5
    · exact c0
    · exact c1
    · exact c2
  rw [if_neg c3, if_neg c3]
  refine ⟨by omega, rfl, fun i hi => ?_⟩
  have : i = 0 ∨ i = 1 ∨ i = 2 ∨ i = 3 ∨ i = 4 := by omega
  rcases this with rfl | rfl | rfl | rfl | rfl
  · exact c5
  · exact c0
  · exact c1
  · exact c2
  · exact c3
theorem tkN_lt {i : Nat} (hi : i < 6) : tkN i < 6 := by
  unfold tkN
  split <;> omega
def Pm (w : Nat → Nat) (d q h : Nat) : Nat := mn6 (fun pk => Fw w d pk 4 q h)
def PF (w : Nat → Nat) (d : Nat) : Nat → Nat → Nat → Nat
  | 0, q, h => Pm w d q h
  | e + 1, q, h => lift (fun h => min 1048576 (PF w d e (2 * q) h + PF w d e (2 * q + 1) h)) h
def Ph (w : Nat → Nat) (d e q h : Nat) : Nat := min 1048576 (PF w d e (2 * q) h + PF w d e (2 * q + 1) h)
theorem PF_S (w : Nat → Nat) (d e q h : Nat) : PF w d (e + 1) q h = lift (Ph w d e q) h := rfl
theorem PF_le (w : Nat → Nat) (d e q : Nat) {h : Nat} (hh : h < 6) : PF w d e q h ≤ 1048576 := by
  cases e with
  | zero =>
    have h1 : PF w d 0 q h ≤ Fw w d 5 4 q h := mn6_le (fun pk => Fw w d pk 4 q h) (k := 5) (by omega)
    have h2 := Fw_le w d 5 4 q hh
    omega
  | succ e =>
    have h1 := lift_le (Ph w d e q) hh
    have h2 : Ph w d e q h ≤ 1048576 := Nat.min_le_left _ _
    show lift (Ph w d e q) h ≤ _
    omega
theorem PF_Fw (w : Nat → Nat) (d : Nat) : ∀ e q h, h < 6 → PF w d e q h ≤ Fw w d 5 (4 + e) q h
  | 0, q, h, _ => mn6_le (fun pk => Fw w d pk 4 q h) (k := 5) (by omega)
  | e + 1, q, h, hh => by
    rw [PF_S]
    show _ ≤ lift (Fh w d 5 (4 + e) q) h
    refine lift_mo (fun h hh => ?_) hh
    have i1 := PF_Fw w d e (2 * q) h hh
    have i2 := PF_Fw w d e (2 * q + 1) h hh
    unfold Ph Fh
    omega
-- what is alike over a page and more
def uV (v d h : Nat) : Nat := mn6 (fun pk => bsV v d pk h)
theorem uV_b (v d h : Nat) : uV v d h = 0 ∨ uV v d h = 1048576 := by
  obtain ⟨k, hk, ek⟩ := mn6_ex (fun pk => bsV v d pk h)
  have := bsV_b v d k h
  unfold uV
  rw [← ek]
  exact this
theorem mn6_lift (F : Nat → Nat → Nat) {h : Nat} (hh : h < 6) : mn6 (fun pk => lift (F pk) h) = lift (fun h => mn6 (fun pk => F pk h)) h := by
  unfold mn6
  rw [lift_mn _ _ hh, lift_mn _ _ hh, lift_mn _ _ hh, lift_mn _ _ hh, lift_mn _ _ hh]
theorem PF_un (w : Nat → Nat) (d v : Nat) {h : Nat} : ∀ e q, Un w (4 + e) q v → h < 6 → PF w d e q h = lift (uV v d) h
  | 0, q, hu, hh => by
    show mn6 (fun pk => Fw w d pk 4 q h) = _
    have : (fun pk => Fw w d pk 4 q h) = fun pk => lift (bsV v d pk) h := funext fun pk => Fw_un w d pk v 4 q hu hh
    rw [this, mn6_lift _ hh]
    rfl
  | e + 1, q, hu, hh => by
    rw [PF_S, ← lift_i (g := uV v d) (fun h _ => uV_b v d h) hh]
    refine lift_cg (fun h hh => ?_) hh
    unfold Ph
    rw [PF_un w d v e (2 * q) (Un.lo hu) hh, PF_un w d v e (2 * q + 1) (Un.hi hu) hh]
-- the list
def Pip (b s : Nat) (F g : Nat → Nat) (sub : Nat → List Bk) : Nat → Nat → List Bk
  | 0, _ => []
  | n + 1, h => if g h = F h then sub h else if md h (fk F h) < h then (b, s, fk F h) :: Pip b s F g sub n (md h (fk F h)) else []
theorem Pip_fu {b s : Nat} {F g : Nat → Nat} {sub : Nat → List Bk} : ∀ n m h, h < n → h < m → Pip b s F g sub n h = Pip b s F g sub m h
  | 0, _, h, h1, _ => absurd h1 (Nat.not_lt_zero _)
  | n + 1, m, h, h1, h2 => by
    obtain ⟨m, rfl⟩ : ∃ k, m = k + 1 := ⟨m - 1, by omega⟩
    unfold Pip
    by_cases c : md h (fk F h) < h
    · rw [Pip_fu n m (md h (fk F h)) (by omega) (by omega)]
    · rw [if_neg c, if_neg c]
/-- the kind of the page that q is, by what lies above it -/
def pkF (w : Nat → Nat) (d q h : Nat) : Nat := fpk (fun pk => Fw w d pk 4 q h)
def PL (w : Nat → Nat) (d : Nat) : Nat → Nat → Nat → List Bk
  | 0, q, h => Pl w d (pkF w d q h) 4 q h
  | e + 1, q, h => Pip (q * 2 ^ (4 + (e + 1))) (2 ^ (4 + (e + 1))) (PF w d (e + 1) q) (Ph w d e q) (fun h => PL w d e (2 * q) h ++ PL w d e (2 * q + 1) h) 6 h
/-- what lies above both halves, when it comes to them -/
def hE (F g : Nat → Nat) : Nat → Nat → Nat
  | 0, h => h
  | n + 1, h => if g h = F h then h else if md h (fk F h) < h then hE F g n (md h (fk F h)) else h
theorem hE_fu {F g : Nat → Nat} : ∀ n m h, h < n → h < m → hE F g n h = hE F g m h
  | 0, _, h, h1, _ => absurd h1 (Nat.not_lt_zero _)
  | n + 1, m, h, h1, h2 => by
    obtain ⟨m, rfl⟩ : ∃ k, m = k + 1 := ⟨m - 1, by omega⟩
    unfold hE
    by_cases c : md h (fk F h) < h
    · rw [hE_fu n m (md h (fk F h)) (by omega) (by omega)]
    · rw [if_neg c, if_neg c]
/-- the kind of a page in the plan -/
def PG (w : Nat → Nat) (d : Nat) : Nat → Nat → Nat → Nat → Nat
  | 0, q, h, _ => pkF w d q h
  | e + 1, q, h, p => if p < (2 * q + 1) * 2 ^ e then PG w d e (2 * q) (hE (PF w d (e + 1) q) (Ph w d e q) 6 h) p else PG w d e (2 * q + 1) (hE (PF w d (e + 1) q) (Ph w d e q) 6 h) p
section PGM
variable {w : Nat → Nat} {d e q h : Nat}
theorem PL_h (h1 : Ph w d e q h = PF w d (e + 1) q h) : PL w d (e + 1) q h = PL w d e (2 * q) h ++ PL w d e (2 * q + 1) h ∧ ∀ p, PG w d (e + 1) q h p = if p < (2 * q + 1) * 2 ^ e then PG w d e (2 * q) h p else PG w d e (2 * q + 1) h p := by
  have hh : hE (PF w d (e + 1) q) (Ph w d e q) 6 h = h := by unfold hE; rw [if_pos h1]
  refine ⟨?_, fun p => ?_⟩
  · show Pip _ _ _ _ _ 6 h = _
    unfold Pip
    rw [if_pos h1]
  · show (if p < _ then PG w d e (2 * q) (hE (PF w d (e + 1) q) (Ph w d e q) 6 h) p else PG w d e (2 * q + 1) (hE (PF w d (e + 1) q) (Ph w d e q) 6 h) p) = _
    rw [hh]
theorem PL_x (hh : h < 6) (h1 : ¬ Ph w d e q h = PF w d (e + 1) q h) : ∃ k, k < 5 ∧ fkP (PF w d (e + 1) q) h k := lift_ex (g := Ph w d e q) hh (fun c => h1 c.symm)
theorem PL_i (hh : h < 6) (h1 : ¬ Ph w d e q h = PF w d (e + 1) q h) : PL w d (e + 1) q h = (q * 2 ^ (4 + (e + 1)), 2 ^ (4 + (e + 1)), fk (PF w d (e + 1) q) h) :: PL w d (e + 1) q (md h (fk (PF w d (e + 1) q) h)) ∧ ∀ p, PG w d (e + 1) q h p = PG w d (e + 1) q (md h (fk (PF w d (e + 1) q) h)) p := by
  obtain ⟨k1, k2, _⟩ := fk_ok (PL_x hh h1)
  have k3 := md_lt h hh _ k1 k2.1
  have hh2 : hE (PF w d (e + 1) q) (Ph w d e q) 6 h = hE (PF w d (e + 1) q) (Ph w d e q) 6 (md h (fk (PF w d (e + 1) q) h)) := by
    rw [← hE_fu 5 6 (md h (fk (PF w d (e + 1) q) h)) (by omega) (by omega)]
    conv => lhs; unfold hE
    rw [if_neg h1, if_pos k3]
  refine ⟨?_, fun p => ?_⟩
  · show Pip _ _ _ _ _ 6 h = _ :: Pip _ _ _ _ _ 6 _
    rw [← Pip_fu 5 6 (md h (fk (PF w d (e + 1) q) h)) (by omega) (by omega)]
    conv => lhs; unfold Pip
    rw [if_neg h1, if_pos k3]
  · show (if p < _ then PG w d e (2 * q) (hE (PF w d (e + 1) q) (Ph w d e q) 6 h) p else PG w d e (2 * q + 1) (hE (PF w d (e + 1) q) (Ph w d e q) 6 h) p) = (if p < _ then PG w d e (2 * q) (hE (PF w d (e + 1) q) (Ph w d e q) 6 _) p else PG w d e (2 * q + 1) (hE (PF w d (e + 1) q) (Ph w d e q) 6 _) p)
    rw [hh2]
end PGM
theorem PL_len (w : Nat → Nat) (d : Nat) : ∀ e q n h, h < n → h < 6 → PF w d e q h < 1048576 → (PL w d e q h).length = PF w d e q h
  | e, q, 0, h, hn, _, _ => absurd hn (Nat.not_lt_zero _)
  | 0, q, n + 1, h, hn, hh, hf => by
    have h1 := fpk_ok (fun pk => Fw w d pk 4 q h)
    have h2 : PF w d 0 q h = mn6 (fun pk => Fw w d pk 4 q h) := rfl
    have h3 : Fw w d (pkF w d q h) 4 q h = PF w d 0 q h := h1.2
    show (Pl w d (pkF w d q h) 4 q h).length = _
    rw [Pl_len w d (pkF w d q h) 4 q 6 h hh hh (by omega), h3]
  | e + 1, q, n + 1, h, hn, hh, hf => by
    by_cases h1 : Ph w d e q h = PF w d (e + 1) q h
    · have h2 : Ph w d e q h = min 1048576 (PF w d e (2 * q) h + PF w d e (2 * q + 1) h) := rfl
      rw [(PL_h h1).1, List.length_append, PL_len w d e (2 * q) 6 h hh hh (by omega), PL_len w d e (2 * q + 1) 6 h hh hh (by omega)]
      omega
    · obtain ⟨k1, k2, _⟩ := fk_ok (PL_x hh h1)
      have k3 := md_lt h hh _ k1 k2.1
      have k4 := k2.2
      rw [(PL_i hh h1).1, List.length_cons, PL_len w d (e + 1) q n _ (by omega) (by omega) (by omega)]
      omega
termination_by e _ n => (e, n)
