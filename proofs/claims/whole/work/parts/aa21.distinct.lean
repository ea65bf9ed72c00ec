/-! A plan never lays a block twice; its blocks lie where they may. -/
def bR (p p' : Bk) : Prop := ¬ (p.1 = p'.1 ∧ p.2.1 = p'.2.1)
def Bj (e q : Nat) (p : Bk) : Prop := p.2.2 < 5 ∧ ∃ e1 q1, e1 ≤ e ∧ p.1 = q1 * 2 ^ e1 ∧ p.2.1 = 2 ^ e1 ∧ q * 2 ^ e ≤ p.1 ∧ p.1 + p.2.1 ≤ q * 2 ^ e + 2 ^ e
theorem k5 {k : Nat} (hk : k < 5) : k = 0 ∨ k = 1 ∨ k = 2 ∨ k = 3 ∨ k = 4 := by omega
theorem lift_up (g : Nat → Nat) {h k : Nat} (hh : h < 6) (hk : k < 5) (hm : ¬ md h k = 9) : lift g h ≤ 1 + g (md h k) := by
  rcases h6 hh with rfl | rfl | rfl | rfl | rfl | rfl
  · exact absurd rfl hm
  · have l := lift_1 g
    rcases k5 hk with rfl | rfl | rfl | rfl | rfl
    · show lift g 1 ≤ 1 + g 0
      omega
    all_goals exact absurd rfl hm
  · have l := lift_2 g
    rcases k5 hk with rfl | rfl | rfl | rfl | rfl
    · show lift g 2 ≤ 1 + g 0
      omega
    all_goals exact absurd rfl hm
  · have l := lift_3 g
    rcases k5 hk with rfl | rfl | rfl | rfl | rfl
    · show lift g 3 ≤ 1 + g 0
      omega
    all_goals exact absurd rfl hm
  · have l := lift_4 g
    rcases k5 hk with rfl | rfl | rfl | rfl | rfl
    · show lift g 4 ≤ 1 + g 0
      omega
    · exact absurd rfl hm
    · show lift g 4 ≤ 1 + g 2
      omega
    all_goals exact absurd rfl hm
  · have l := lift_5 g
    rcases k5 hk with rfl | rfl | rfl | rfl | rfl
    · show lift g 5 ≤ 1 + g 0
      omega
    · show lift g 5 ≤ 1 + g 1
      omega
    · show lift g 5 ≤ 1 + g 2
      omega
    · show lift g 5 ≤ 1 + g 3
      omega
    · show lift g 5 ≤ 1 + g 4
      omega
theorem md_two : ∀ h, h < 6 → ∀ k, k < 5 → ∀ k2, k2 < 5 → ¬ md h k = 9 → ¬ md (md h k) k2 = 9 → (md (md h k) k2 = 0 ∧ md h 0 = 0) ∨ (md (md h k) k2 = 2 ∧ h = 5) := by
  intro h hh k hk k2 hk2 h1 h2
  rcases h6 hh with rfl | rfl | rfl | rfl | rfl | rfl <;> rcases k5 hk with rfl | rfl | rfl | rfl | rfl <;> rcases k5 hk2 with rfl | rfl | rfl | rfl | rfl <;> first | exact absurd rfl h1 | exact absurd rfl h2 | exact Or.inl ⟨rfl, rfl⟩ | exact Or.inr ⟨rfl, rfl⟩
/-- what it lays itself it lays once -/
theorem lift_1s {g : Nat → Nat} {h k : Nat} (hh : h < 6) (hk : k < 5) (hm : ¬ md h k = 9) (he : 1 + lift g (md h k) = lift g h) : lift g (md h k) = g (md h k) := by
  refine Decidable.not_not.mp fun c => ?_
  have h1 := md_lt h hh k hk hm
  obtain ⟨k2, hk2, hm2, he2⟩ := lift_ex (g := g) (h := md h k) (by omega) c
  rcases md_two h hh k hk k2 hk2 hm hm2 with ⟨e, n0⟩ | ⟨e, e5⟩
  · have u := lift_up g hh (k := 0) (by omega) (by omega)
    rw [n0] at u
    rw [e] at he2
    have l0 := lift_0 g
    omega
  · subst e5
    have u := lift_up g hh (k := 2) (by omega) (by decide)
    have u0 := lift_up g hh (k := 0) (by omega) (by decide)
    have l2 := lift_2 g
    have u : lift g 5 ≤ 1 + g 2 := u
    have u0 : lift g 5 ≤ 1 + g 0 := u0
    rw [e] at he2
    omega
theorem Bj.lo {e q : Nat} {p : Bk} (h : Bj e (2 * q) p) : Bj (e + 1) q p ∧ p.2.1 < 2 ^ (e + 1) := by
  obtain ⟨h1, e1, q1, h2, h3, h4, h5, h6⟩ := h
  have b1 := bk_l e q
  have b2 := pw1 e
  have b3 := pwp e
  exact ⟨⟨h1, e1, q1, by omega, h3, h4, by omega, by omega⟩, by omega⟩
theorem Bj.hi {e q : Nat} {p : Bk} (h : Bj e (2 * q + 1) p) : Bj (e + 1) q p ∧ p.2.1 < 2 ^ (e + 1) := by
  obtain ⟨h1, e1, q1, h2, h3, h4, h5, h6⟩ := h
  have b1 := bk_u e q
  have b2 := pw1 e
  have b3 := pwp e
  have b4 : p.2.1 ≤ 2 ^ e := by rw [h4]; exact Nat.pow_le_pow_right (by decide) h2
  exact ⟨⟨h1, e1, q1, by omega, h3, h4, by omega, by omega⟩, by omega⟩
theorem Bj_app {e q : Nat} {l l' : List Bk} (h1 : ∀ p ∈ l, Bj e (2 * q) p) (h2 : ∀ p ∈ l', Bj e (2 * q + 1) p) (h3 : l.Pairwise bR) (h4 : l'.Pairwise bR) : (l ++ l').Pairwise bR ∧ ∀ p ∈ l ++ l', Bj (e + 1) q p ∧ p.2.1 < 2 ^ (e + 1) := by
  refine ⟨List.pairwise_append.mpr ⟨h3, h4, fun p hp p' hp' c => ?_⟩, fun p hp => ?_⟩
  · obtain ⟨_, e1, q1, _, _, a4, a5, a6⟩ := h1 p hp
    obtain ⟨_, e2, q2, _, _, b4, b5, b6⟩ := h2 p' hp'
    have b1 := bk_l e q
    have b2 := bk_u e q
    have b3 := pwp e1
    have := c.1
    omega
  · rcases List.mem_append.mp hp with c | c
    · exact (h1 p c).lo
    · exact (h2 p c).hi
theorem Bj_self {e q k : Nat} (hk : k < 5) : Bj e q (q * 2 ^ e, 2 ^ e, k) := ⟨hk, e, q, Nat.le_refl _, rfl, rfl, Nat.le_refl _, Nat.le_refl _⟩
theorem Pl_d (w : Nat → Nat) (d pk : Nat) : ∀ e q n h, h < n → h < 6 → Fw w d pk e q h < 1048576 → (Pl w d pk e q h).Pairwise bR ∧ (∀ p ∈ Pl w d pk e q h, Bj e q p) ∧ ((¬ Is w d pk e q h ∨ Fw w d pk e q h = 0) → ∀ p ∈ Pl w d pk e q h, p.2.1 < 2 ^ e)
  | e, q, 0, h, hn, _, _ => absurd hn (Nat.not_lt_zero _)
  | e, q, n + 1, h, hn, hh, hf => by
    by_cases h0 : Fw w d pk e q h = 0
    · rw [Pl_0 h0]
      exact ⟨List.Pairwise.nil, fun p hp => absurd hp List.not_mem_nil, fun _ p hp => absurd hp List.not_mem_nil⟩
    by_cases hs : Is w d pk e q h
    · obtain ⟨k1, k2, _⟩ := fk_ok (hs.ex hh h0 hf)
      have k3 := md_lt h hh _ k1 k2.1
      have k4 := k2.2
      obtain ⟨i1, i2, i3⟩ := Pl_d w d pk e q n (md h (fk (Fw w d pk e q) h)) (by omega) (by omega) (by omega)
      rw [Pl_i hs hh h0 hf]
      have i4 := i3 (by
        rcases hs with rfl | ⟨e1, rfl, hne⟩
        · have l1 : Fw w d pk 0 q = lift (bsA w d pk q) := by funext h; rfl
          rw [l1] at k1 k2 k3 k4 hf ⊢
          have l2 := lift_1s hh k1 k2.1 k4
          refine Or.inr ?_
          rcases bsA_b w d pk q (md h (fk (lift (bsA w d pk q)) h)) with c | c <;> omega
        · have l1 : Fw w d pk (e1 + 1) q = lift (Fh w d pk e1 q) := by funext h; rfl
          rw [l1] at k1 k2 k3 k4 hf ⊢
          have l2 := lift_1s hh k1 k2.1 k4
          refine Or.inl fun z => ?_
          rcases z with z | ⟨e2, z1, z2⟩
          · omega
          · have : e1 = e2 := by omega
            subst this
            rw [l1] at z2
            exact z2 l2.symm)
      refine ⟨List.pairwise_cons.mpr ⟨fun p hp c => ?_, i1⟩, fun p hp => ?_, fun z => absurd hs (fun _ => z.elim (fun z => z hs) h0)⟩
      · have a := i4 p hp
        have b : 2 ^ e = p.2.1 := c.2
        omega
      · rcases List.mem_cons.mp hp with rfl | hp
        · exact Bj_self k1
        · exact i2 p hp
    · cases e with
      | zero => exact absurd (Or.inl rfl) hs
      | succ e =>
        have h1 : Fh w d pk e q h = Fw w d pk (e + 1) q h := by
          by_cases c : Fh w d pk e q h = Fw w d pk (e + 1) q h
          · exact c
          · exact absurd (Or.inr ⟨e, rfl, c⟩) hs
        have h2 : Fh w d pk e q h = min 1048576 (Fw w d pk e (2 * q) h + Fw w d pk e (2 * q + 1) h) := rfl
        obtain ⟨a1, a2, _⟩ := Pl_d w d pk e (2 * q) 6 h hh hh (by omega)
        obtain ⟨b1, b2, _⟩ := Pl_d w d pk e (2 * q + 1) 6 h hh hh (by omega)
        rw [Pl_h h0 h1]
        obtain ⟨c1, c2⟩ := Bj_app a2 b2 a1 b1
        exact ⟨c1, fun p hp => (c2 p hp).1, fun _ p hp => (c2 p hp).2⟩
termination_by e _ n => (e, n)
theorem PL_d (w : Nat → Nat) (d : Nat) : ∀ e q n h, h < n → h < 6 → PF w d e q h < 1048576 → (PL w d e q h).Pairwise bR ∧ (∀ p ∈ PL w d e q h, Bj (4 + e) q p) ∧ ((∃ e1, e = e1 + 1 ∧ Ph w d e1 q h = PF w d e q h) → ∀ p ∈ PL w d e q h, p.2.1 < 2 ^ (4 + e))
  | e, q, 0, h, hn, _, _ => absurd hn (Nat.not_lt_zero _)
  | 0, q, n + 1, h, hn, hh, hf => by
    have h1 := fpk_ok (fun pk => Fw w d pk 4 q h)
    have h2 : PF w d 0 q h = mn6 (fun pk => Fw w d pk 4 q h) := rfl
    have h3 : Fw w d (pkF w d q h) 4 q h = PF w d 0 q h := h1.2
    obtain ⟨a1, a2, _⟩ := Pl_d w d (pkF w d q h) 4 q 6 h hh hh (by omega)
    exact ⟨a1, a2, fun z => by obtain ⟨e1, z1, _⟩ := z; omega⟩
  | e + 1, q, n + 1, h, hn, hh, hf => by
    by_cases h1 : Ph w d e q h = PF w d (e + 1) q h
    · have h2 : Ph w d e q h = min 1048576 (PF w d e (2 * q) h + PF w d e (2 * q + 1) h) := rfl
      obtain ⟨a1, a2, _⟩ := PL_d w d e (2 * q) 6 h hh hh (by omega)
      obtain ⟨b1, b2, _⟩ := PL_d w d e (2 * q + 1) 6 h hh hh (by omega)
      rw [(PL_h h1).1]
      obtain ⟨c1, c2⟩ := Bj_app a2 b2 a1 b1
      exact ⟨c1, fun p hp => (c2 p hp).1, fun _ p hp => (c2 p hp).2⟩
    · obtain ⟨k1, k2, _⟩ := fk_ok (PL_x hh h1)
      have k3 := md_lt h hh _ k1 k2.1
      have k4 := k2.2
      obtain ⟨i1, i2, i3⟩ := PL_d w d (e + 1) q n (md h (fk (PF w d (e + 1) q) h)) (by omega) (by omega) (by omega)
      have l1 : PF w d (e + 1) q = lift (Ph w d e q) := by funext h; rfl
      have l2 : PF w d (e + 1) q (md h (fk (PF w d (e + 1) q) h)) = Ph w d e q (md h (fk (PF w d (e + 1) q) h)) := by
        rw [l1] at k1 k2 k4 ⊢
        exact lift_1s hh k1 k2.1 k4
      have i4 := i3 ⟨e, rfl, l2.symm⟩
      rw [(PL_i hh h1).1]
      refine ⟨List.pairwise_cons.mpr ⟨fun p hp c => ?_, i1⟩, fun p hp => ?_, fun z => ?_⟩
      · have a := i4 p hp
        have b : 2 ^ (4 + (e + 1)) = p.2.1 := c.2
        omega
      · rcases List.mem_cons.mp hp with rfl | hp
        · exact Bj_self k1
        · exact i2 p hp
      · obtain ⟨e2, z1, z2⟩ := z
        have : e = e2 := by omega
        subst this
        exact absurd z2 h1
termination_by e _ n => (e, n)
/-- what a list of blocks must be that it can be laid -/
def Lb (t : Nat) (l : List Bk) : Prop := l.Pairwise bR ∧ ∀ p ∈ l, Rg t p.1 p.2.1 p.2.2 ∧ 0 < p.2.1
theorem Bj_Rg {t : Nat} {p : Bk} (h : Bj t 0 p) : Rg t p.1 p.2.1 p.2.2 ∧ 0 < p.2.1 := by
  obtain ⟨h1, e1, q1, h2, h3, h4, h5, h6⟩ := h
  rw [Nat.zero_mul, Nat.zero_add] at h6
  exact ⟨Or.inr ⟨h1, e1, h2, h4, q1, h3, h6⟩, by rw [h4]; exact pwp e1⟩
theorem plS_Lb {S : Sto} (hG : Gd S) : Lb (S 140) (plS S) := by
  have h := cvS_le hG hG.1.2.2.2.2.1
  have hd : cvS S (S 0) = Fw (wi S (S 0)) (S 0) 5 (S 140) 0 5 := rfl
  obtain ⟨a1, a2, _⟩ := Pl_d (wi S (S 0)) (S 0) 5 (S 140) 0 6 5 (by omega) (by omega) (by omega)
  exact ⟨a1, fun p hp => Bj_Rg (a2 p hp)⟩
theorem ppS_len {S : Sto} (hG : Gd S) : (ppS S).length = PF (wi S (S 0)) (S 0) (S 140 - 4) 0 5 ∧ PF (wi S (S 0)) (S 0) (S 140 - 4) 0 5 ≤ 157 := by
  have h := cvS_le hG hG.1.2.2.2.2.1
  have hd : cvS S (S 0) = Fw (wi S (S 0)) (S 0) 5 (S 140) 0 5 := rfl
  have h1 := PF_Fw (wi S (S 0)) (S 0) (S 140 - 4) 0 5 (by omega)
  have h4 := hG.1.1
  rw [show 4 + (S 140 - 4) = S 140 by omega] at h1
  exact ⟨PL_len _ _ _ _ 6 5 (by omega) (by omega) (by omega), by omega⟩
theorem ppS_Lb {S : Sto} (hG : Gd S) : Lb (S 140) (ppS S) := by
  have h := (ppS_len hG).2
  have h4 := hG.1.1
  obtain ⟨a1, a2, _⟩ := PL_d (wi S (S 0)) (S 0) (S 140 - 4) 0 6 5 (by omega) (by omega) (by omega)
  rw [show 4 + (S 140 - 4) = S 140 by omega] at a2
  exact ⟨a1, fun p hp => Bj_Rg (a2 p hp)⟩
