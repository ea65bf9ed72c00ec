/-! Changes: what the reference finds. -/
theorem bit_t {D k : Nat} (hD : D < 4096) (hk : k < 12) : ((nI D >>> (nI k &&& 31)) &&& 1 = (1 : Int32)) ↔ D.testBit k = true := by
  have h1 : D / 2 ^ k ≤ D := Nat.div_le_self _ _
  have e1 : nI D >>> (nI k &&& 31) = nI (D / 2 ^ k) := zi_shr (by omega) (by omega)
  have e2 : nI (D / 2 ^ k) &&& 1 = nI (D / 2 ^ k % 2) := by
    have := zi_and (a := D / 2 ^ k) (b := 1) (by omega) (by omega)
    rw [Nat.and_one_is_mod] at this
    exact this
  rw [e1, e2, Nat.testBit_eq_decide_div_mod_eq, decide_eq_true_iff]
  exact nI_eq (a := D / 2 ^ k % 2) (b := 1) (by omega) (by omega)
theorem bit_0 {D k : Nat} (hD : D < 4096) (hk : k < 12) : ((nI D >>> (nI k &&& 31)) &&& 1 = (0 : Int32)) ↔ D.testBit k = false := by
  have h1 : D / 2 ^ k ≤ D := Nat.div_le_self _ _
  have e1 : nI D >>> (nI k &&& 31) = nI (D / 2 ^ k) := zi_shr (by omega) (by omega)
  have e2 : nI (D / 2 ^ k) &&& 1 = nI (D / 2 ^ k % 2) := by
    have := zi_and (a := D / 2 ^ k) (b := 1) (by omega) (by omega)
    rw [Nat.and_one_is_mod] at this
    exact this
  rw [e1, e2, Nat.testBit_eq_decide_div_mod_eq, decide_eq_false_iff_not]
  have h2 := nI_eq (a := D / 2 ^ k % 2) (b := 0) (by omega) (by omega)
  constructor
  · intro z
    have := h2.mp z
    omega
  · intro z
    exact h2.mpr (by omega)
section RX
variable {fu m : Nat} {S : Sto} {l : List Bk} {M : Mm}
theorem X11_isGone (hfu : 200000 ≤ fu) (hG : Gd S) (hS : StM S l M m) (hN : nnS S l ≤ 12) {D r : Nat} (hD : D < 2 ^ nnS S l) (hr : r < S 141) : fX11_isGone fu m (nI r) (nI D) M = some (bI (gon S l D r = true)) := by
  have h10 := hG.1.2.2.2.1
  have hnn : nnS S l = gnS S l + cnS S l := rfl
  have hp : 2 ^ nnS S l ≤ 2 ^ 12 := Nat.pow_le_pow_right (by decide) hN
  have n34 : ∀ t : Int32, t = 0 ∨ t = 1 → fX11_isGone_j34 fu t M = some t := fun t ht => by
    unfold fX11_isGone_j34
    show (if _ then some t else none) = _
    rw [if_pos ht]
  have key : Wp (fX11_isGone fu m (nI r) (nI D) M) (fun v => v = bI (gon S l D r = true)) := by
    unfold fX11_isGone fX11_isGone_l2
    refine lp_ho (fun k z => z = nI k ∧ (gof S l r = 1 → k ≤ smN (gof S l) r)) _ (gnS S l) (i := 0) (by omega) (by omega) ⟨rfl, fun _ => by omega⟩ (fun k z hk hz rec hrec => ?_) (fun z hz rec => ?_)
    · obtain ⟨rfl, hz⟩ := hz
      obtain ⟨r', h1, h2, h3⟩ := smN_find (g := gof S l) gof_le (j := k) (n := S 141) hk
      have hs := hS.2.2.1 r' h1 h2
      rw [h3] at hs
      unfold fX11_isGone_b2 fX11_isGone_j20
      rw [hS.2.1, if_neg (nI_ge hk (by omega)), if_neg (nI_in (by omega) (by omega)), ix_n (by omega), hs, n34 0 (Or.inl rfl), n34 1 (Or.inr rfl), lt_eq, nI_1]
      by_cases c : r' = r
      · subst c
        rw [if_pos rfl]
        have bt := bit_t (D := D) (k := k) (by omega) (by omega)
        have hgn : gon S l D r' = D.testBit k := by
          unfold gon
          rw [decide_eq_true h2, Bool.true_and, h3]
        rw [hgn]
        by_cases cb : D.testBit k = true
        · rw [if_pos (bt.mpr cb), wp_some, bI_t cb]
          rfl
        · rw [if_neg (fun z => cb (bt.mp z)), wp_some, bI_f cb]
          rfl
      · rw [if_neg (fun z => c ((nI_eq (by omega) (by omega)).mp z))]
        refine hrec _ ⟨rfl, fun h => ?_⟩
        have := hz h
        by_cases e : smN (gof S l) r = k
        · exact absurd (smN_un h2 h (h3.trans e.symm)) c
        · omega
    · obtain ⟨rfl, hz⟩ := hz
      unfold fX11_isGone_b2 fX11_isGone_j41
      rw [hS.2.1, if_pos (Int32.le_refl _), wp_some, bI_f]
      · rfl
      · intro h
        unfold gon at h
        rw [Bool.and_eq_true, decide_eq_true_iff] at h
        have h1 := gof_cnt hr h.1
        have h2 := hz h.1
        omega
  obtain ⟨v, e, rfl⟩ := key
  exact e
/-- by the numbers of steps -/
def setK (S : Sto) (l : List Bk) (sp : Nat → Nat) (D x : Nat) : Nat → Nat
  | 0 => setR S l D x (S 141)
  | k + 1 => if D.testBit (gnS S l + k) = true ∧ (bk l (sp k)).1 ≤ x ∧ x < (bk l (sp k)).1 + (bk l (sp k)).2.1 then setK S l sp D x k ||| 2 ^ (bk l (sp k)).2.2 else setK S l sp D x k
theorem setK_t (sp : Nat → Nat) (D x b : Nat) : ∀ n, (setK S l sp D x n).testBit b = true ↔ byR S l D x b ∨ ∃ k, k < n ∧ D.testBit (gnS S l + k) = true ∧ ((bk l (sp k)).1 ≤ x ∧ x < (bk l (sp k)).1 + (bk l (sp k)).2.1) ∧ (bk l (sp k)).2.2 = b
  | 0 => by
    unfold setK
    rw [setR_t]
    constructor
    · intro h; exact Or.inl h
    · rintro (h | ⟨r, hr, _⟩)
      · exact h
      · omega
  | n + 1 => by
    have ih := setK_t sp D x b n
    unfold setK
    by_cases c : D.testBit (gnS S l + n) = true ∧ (bk l (sp n)).1 ≤ x ∧ x < (bk l (sp n)).1 + (bk l (sp n)).2.1
    · rw [if_pos c, Nat.testBit_or, Nat.testBit_two_pow, Bool.or_eq_true, ih, decide_eq_true_iff]
      constructor
      · rintro ((h | ⟨r, h1, h2⟩) | h)
        · exact Or.inl h
        · exact Or.inr ⟨r, by omega, h2⟩
        · exact Or.inr ⟨n, by omega, c.1, c.2, h⟩
      · rintro (h | ⟨r, h1, h2, h3, h4⟩)
        · exact Or.inl (Or.inl h)
        · by_cases e : r = n
          · subst e; exact Or.inr h4
          · exact Or.inl (Or.inr ⟨r, by omega, h2, h3, h4⟩)
    · rw [if_neg c, ih]
      constructor
      · rintro (h | ⟨r, h1, h2⟩)
        · exact Or.inl h
        · exact Or.inr ⟨r, by omega, h2⟩
      · rintro (h | ⟨r, h1, h2, h3, h4⟩)
        · exact Or.inl h
        · by_cases e : r = n
          · subst e; exact absurd ⟨h2, h3⟩ c
          · exact Or.inr ⟨r, by omega, h2, h3, h4⟩
theorem setK_B {sp : Nat → Nat} (hsp : ∀ k, k < cnS S l → sp k < l.length ∧ cof S l (sp k) = 1 ∧ smN (cof S l) (sp k) = k) (D x : Nat) : setK S l sp D x (cnS S l) = setB S l D x := by
  have iff : ∀ b, (setK S l sp D x (cnS S l)).testBit b = true ↔ (setB S l D x).testBit b = true := fun b => by
    rw [setK_t, setB_t]
    constructor
    · rintro (h | ⟨k, h1, h2, h3, h4⟩)
      · exact Or.inl h
      · obtain ⟨s1, s2, s3⟩ := hsp k h1
        exact Or.inr ⟨sp k, s1, ⟨s2, by rw [s3]; exact h2⟩, h3, h4⟩
    · rintro (h | ⟨i, h1, ⟨h2, h3⟩, h4, h5⟩)
      · exact Or.inl h
      · obtain ⟨s1, s2, s3⟩ := hsp _ (cof_cnt h1 h2)
        have e := smN_un s2 h2 s3
        exact Or.inr ⟨smN (cof S l) i, cof_cnt h1 h2, h3, by rw [e]; exact h4, by rw [e]; exact h5⟩
  refine Nat.eq_of_testBit_eq fun b => ?_
  have := iff b
  cases h1 : (setK S l sp D x (cnS S l)).testBit b with
  | true => rw [this.mp h1]
  | false =>
    cases h2 : (setB S l D x).testBit b with
    | false => rfl
    | true => rw [this.mpr h2] at h1; cases h1
theorem setK_lt (hG : Gd S) (hL : Lb (S 140) l) (sp : Nat → Nat) (D x : Nat) : ∀ n, setK S l sp D x n < 32
  | 0 => setR_lt hG D x _ (Nat.le_refl _)
  | n + 1 => by
    have ih := setK_lt hG hL sp D x n
    unfold setK
    split
    · exact Nat.or_lt_two_pow (n := 5) ih (pow2_lt32 (bk_k5 hL hG _))
    · exact ih
theorem sp_ex (hS : StM S l M m) (hN : nnS S l ≤ 12) : ∃ sp : Nat → Nat, ∀ k, k < cnS S l → (sp k < l.length ∧ cof S l (sp k) = 1 ∧ smN (cof S l) (sp k) = k) ∧ M.1 (m + 20) (gnS S l + k) = nI (sp k) := by
  have hnn : nnS S l = gnS S l + cnS S l := rfl
  have h : ∀ k, ∃ i, k < cnS S l → (i < l.length ∧ cof S l i = 1 ∧ smN (cof S l) i = k) ∧ M.1 (m + 20) (gnS S l + k) = nI i := fun k => by
    by_cases c : k < cnS S l
    · obtain ⟨i, h1, h2, h3⟩ := smN_find (g := cof S l) cof_le (j := k) (n := l.length) c
      refine ⟨i, fun _ => ⟨⟨h1, h2, h3⟩, ?_⟩⟩
      have := hS.2.2.2 i h1 h2 (by omega)
      rw [h3] at this
      exact this
    · exact ⟨0, fun z => absurd z c⟩
  exact ⟨fun k => (h k).choose, fun k hk => (h k).choose_spec hk⟩
theorem X11_kindBehind (hfu : 200000 ≤ fu) (hV : VM S M m) (hG : Gd S) (hB : MB M m l) (hL : Lb (S 140) l) (hl : l.length ≤ 10) (hS : StM S l M m) (hN : nnS S l ≤ 12) {D x : Nat} (hD : D < 2 ^ nnS S l) (hx : x < 2 ^ 20) : fX11_kindBehind fu m (nI x) (nI D) M = some (nI (kB S l D x)) := by
  have h10 := hG.1.2.2.2.1
  have hnn : nnS S l = gnS S l + cnS S l := rfl
  have hp : 2 ^ nnS S l ≤ 2 ^ 12 := Nat.pow_le_pow_right (by decide) hN
  obtain ⟨sp, hsp⟩ := sp_ex hS hN
  unfold fX11_kindBehind fX11_kindBehind_l5
  refine lp_ue (fun r => (nI (setR S l D x r), nI r)) (S 141) rfl (by omega) (fun r hr rec => ?_) (fun rec => ?_)
  · have hs := setR_lt (l := l) hG D x r (by omega)
    have hrk := hG.rk hr
    have hpk := pow2_lt32 hrk
    have esh : (1 : Int32) <<< (nI (S (40 + 3 * r)) &&& 31) = nI (2 ^ S (40 + 3 * r)) := by
      have := zi_shl (n := 1) (k := S (40 + 3 * r)) (by omega) (by omega)
      rw [Nat.one_mul] at this
      exact this
    show fX11_kindBehind_b5 fu _ m (nI x) (nI D) (nI (setR S l D x r)) (nI r) M = rec (nI (setR S l D x (r + 1)), nI (r + 1))
    unfold fX11_kindBehind_b5 fX11_kindBehind_j45
    rw [X11_registersNow hV, bi_s, if_neg (nI_ge hr (by omega)), X11_hasIt hV hG hr (by omega), bi_s, X11_isGone hfu hG hS hN hD hr, bi_s, X11_kindOf hV (by omega), bi_s, esh, zi_or (by omega) (by omega), lt_eq, lt_eq, lt_eq, nI_1]
    show _ = rec (nI (if (S (38 + 3 * r) ≤ x ∧ x < S (38 + 3 * r) + S (39 + 3 * r)) ∧ gon S l D r = false then setR S l D x r ||| 2 ^ S (40 + 3 * r) else setR S l D x r), nI (r + 1))
    by_cases c1 : S (38 + 3 * r) ≤ x ∧ x < S (38 + 3 * r) + S (39 + 3 * r)
    · rw [bI_t c1, if_neg (by decide)]
      by_cases c2 : gon S l D r = true
      · rw [bI_t c2, if_neg (by decide), if_neg (fun z => by rw [c2] at z; exact absurd z.2 (by decide))]
      · have c3 : gon S l D r = false := by
          cases h : gon S l D r with
          | false => rfl
          | true => exact absurd h c2
        rw [bI_f c2, if_pos (by decide), if_pos ⟨c1, c3⟩]
    · rw [bI_f c1, if_pos (by decide), if_neg (fun z => c1 z.1)]
  · show fX11_kindBehind_b5 fu _ m (nI x) (nI D) (nI (setR S l D x (S 141))) (nI (S 141)) M = _
    unfold fX11_kindBehind_b5 fX11_kindBehind_j51 fX11_kindBehind_l57
    rw [X11_registersNow hV, bi_s, if_pos (Int32.le_refl _), hS.2.1, lt_eq]
    refine lp_ue (fun k => (nI (setK S l sp D x k), nI (gnS S l + k))) (cnS S l) rfl (by omega) (fun k hk rec => ?_) (fun rec => ?_)
    · obtain ⟨⟨s1, s2, s3⟩, s4⟩ := hsp k hk
      obtain ⟨b1, b2, b3⟩ := bk_M hB s1
      obtain ⟨r1, r2, r3, r4, r5⟩ := Rg_le hG.1.2.1 (bk_Rg hL (sp k))
      have hpos := bk_pos hL s1
      have hs := setK_lt hG hL sp D x k
      have hpk := pow2_lt32 r4
      have bt := bit_t (D := D) (k := gnS S l + k) (by omega) (by omega)
      have esh : (1 : Int32) <<< (nI (bk l (sp k)).2.2 &&& 31) = nI (2 ^ (bk l (sp k)).2.2) := by
        have := zi_shl (n := 1) (k := (bk l (sp k)).2.2) (by omega) (by omega)
        rw [Nat.one_mul] at this
        exact this
      have esub : nI (bk l (sp k)).1 + nI (bk l (sp k)).2.1 - 1 = nI ((bk l (sp k)).1 + (bk l (sp k)).2.1 - 1) := by
        rw [nI_add]
        exact zi_sub (b := 1) (by omega)
      show fX11_kindBehind_b57 fu _ m (nI x) (nI D) (nI (setK S l sp D x k)) (nI (gnS S l + k)) M = rec (nI (setK S l sp D x (k + 1)), nI (gnS S l + (k + 1)))
      unfold fX11_kindBehind_b57 fX11_kindBehind_j139
      rw [hS.1, if_neg (nI_ge (by omega) (by omega)), if_neg (nI_in (by omega) (by omega)), ix_n (by omega), s4, if_neg (nI_in (by omega) (by omega)), ix_n (by omega), b1, b2, b3, esub, X11_isIn, bi_s, esh, zi_or (by omega) (by omega), lt_eq, lt_eq, lt_eq, nI_1, show gnS S l + k + 1 = gnS S l + (k + 1) from rfl]
      show _ = rec (nI (if D.testBit (gnS S l + k) = true ∧ (bk l (sp k)).1 ≤ x ∧ x < (bk l (sp k)).1 + (bk l (sp k)).2.1 then setK S l sp D x k ||| 2 ^ (bk l (sp k)).2.2 else setK S l sp D x k), nI (gnS S l + (k + 1)))
      by_cases c1 : D.testBit (gnS S l + k) = true
      · rw [if_pos (bt.mpr c1)]
        by_cases c2 : (bk l (sp k)).1 ≤ x ∧ x < (bk l (sp k)).1 + (bk l (sp k)).2.1
        · have : nI (bk l (sp k)).1 ≤ nI x ∧ nI x ≤ nI ((bk l (sp k)).1 + (bk l (sp k)).2.1 - 1) := ⟨nI_le c2.1 (by omega), nI_le (by omega) (by omega)⟩
          rw [bI_t this, if_neg (by decide), if_pos ⟨c1, c2⟩]
        · have : ¬ (nI (bk l (sp k)).1 ≤ nI x ∧ nI x ≤ nI ((bk l (sp k)).1 + (bk l (sp k)).2.1 - 1)) := fun z => by
            have z1 := (nI_leI (by omega) (by omega)).mp z.1
            have z2 := (nI_leI (by omega) (by omega)).mp z.2
            exact c2 ⟨z1, by omega⟩
          rw [bI_f this, if_pos (by decide), if_neg (fun z => c2 z.2)]
      · rw [if_neg (fun z => c1 (bt.mp z)), if_neg (fun z => c1 z.1)]
    · have hs := setK_lt hG hL sp D x (cnS S l)
      show fX11_kindBehind_b57 fu _ m (nI x) (nI D) (nI (setK S l sp D x (cnS S l))) (nI (gnS S l + cnS S l)) M = _
      unfold fX11_kindBehind_b57 fX11_kindBehind_j145
      rw [hS.1, ← hnn, if_pos (Int32.le_refl _), X11_together hfu hV hs, bi_s, setK_B (fun k hk => (hsp k hk).1)]
      rfl
/-- the last edge that is not behind an address -/
theorem ed_max {ne x : Nat} {e : Nat → Nat} (h0 : ∃ j, j < ne ∧ e j = 0) : ∃ j, j < ne ∧ e j ≤ x ∧ ∀ j', j' < ne → e j' ≤ x → e j' ≤ e j := by
  induction x with
  | zero =>
    obtain ⟨j, hj, ej⟩ := h0
    exact ⟨j, hj, by omega, fun j' _ h => by omega⟩
  | succ x ih =>
    by_cases c : ∃ j, j < ne ∧ e j = x + 1
    · obtain ⟨j, hj, ej⟩ := c
      exact ⟨j, hj, by omega, fun j' _ h => by omega⟩
    · obtain ⟨j, hj, h1, h2⟩ := ih
      refine ⟨j, hj, by omega, fun j' hj' h => ?_⟩
      by_cases e2 : e j' = x + 1
      · exact absurd ⟨j', hj', e2⟩ c
      · exact h2 j' hj' (by omega)
theorem EA.at {ne x : Nat} {e : Nat → Nat} (hG : Gd S) (h : EA S l ne e (S 141) l.length) (hx : x < 2 ^ S 140) : ∃ j, j < ne ∧ Sm S l x (e j) ∧ (S 142 ≤ x ↔ S 142 ≤ e j) := by
  obtain ⟨j, hj, h1, h2⟩ := ed_max (x := x) h.1
  have th : ∀ y, (y < 2 ^ S 140 → ∃ j, j < ne ∧ e j = y) → (y ≤ x ↔ y ≤ e j) := fun y hy => by
    constructor
    · intro hyx
      obtain ⟨j', hj', ej'⟩ := hy (by omega)
      have := h2 j' hj' (by omega)
      omega
    · intro hy
      omega
  refine ⟨j, hj, ⟨fun r hr => ?_, fun i hi => ?_⟩, th _ h.2.1⟩
  · by_cases c : S (39 + 3 * r) = 0
    · have hb : S (38 + 3 * r) = 0 := by
        rcases hG.2.2.2.2.1 r hr with ⟨k1, _, _⟩ | ⟨_, e', _, k3, _⟩
        · exact k1
        · have := Nat.two_pow_pos e'
          omega
      rw [c, hb]
      exact ⟨⟨fun _ => by omega, fun _ => by omega⟩, ⟨fun z => by omega, fun z => by omega⟩⟩
    · obtain ⟨a1, a2⟩ := h.2.2.1 r hr (by omega)
      refine ⟨th _ a1, ?_⟩
      have := th _ a2
      omega
  · obtain ⟨a1, a2⟩ := h.2.2.2 i hi
    refine ⟨th _ a1, ?_⟩
    have := th _ a2
    omega
theorem X11_isSafe (hfu : 200000 ≤ fu) (hV : VM S M m) (hG : Gd S) (hB : MB M m l) (hL : Lb (S 140) l) (hl : l.length ≤ 10) (hS : StM S l M m) (hN : nnS S l ≤ 12) {ne : Nat} {e : Nat → Nat} (hne : ne < 100) (hE : EM M m ne (2 ^ S 140) e) (hA' : EA S l ne e (S 141) l.length) {D : Nat} (hD : D < 2 ^ nnS S l) : fX11_isSafe fu m (nI D) M = some (bI (usS S l D = 0)) := by
  have hA := hG.ad
  have hp : 2 ^ nnS S l ≤ 2 ^ 12 := Nat.pow_le_pow_right (by decide) hN
  have hp0 : 0 < 2 ^ nnS S l := Nat.two_pow_pos _
  have esh : (1 : Int32) <<< (nI (nnS S l) &&& 31) = nI (2 ^ nnS S l) := by
    have := zi_shl (n := 1) (k := nnS S l) (by omega) (by omega)
    rw [Nat.one_mul] at this
    exact this
  have key : Wp (fX11_isSafe fu m (nI D) M) (fun v => v = bI (usS S l D = 0)) := by
    unfold fX11_isSafe fX11_isSafe_l11
    rw [hS.1, esh, show nI (2 ^ nnS S l) - 1 = nI (2 ^ nnS S l - 1) from zi_sub (b := 1) (by omega), lt_eq]
    refine lp_ho (fun k z => z = nI k ∧ ∀ j, j < k → bad S l D (e j) = 0) _ ne (i := 0) (by omega) (by omega) ⟨rfl, fun j hj => absurd hj (by omega)⟩ (fun k z hk hz rec hrec => ?_) (fun z hz rec => ?_)
    · obtain ⟨rfl, hz⟩ := hz
      obtain ⟨e1, e2⟩ := hE.2 k hk
      have b1 := kB_le (l := l) hG D (e k)
      have b2 := kB_le (l := l) hG 0 (e k)
      have b3 := kB_le (l := l) hG (2 ^ nnS S l - 1) (e k)
      have nxt : bad S l D (e k) = 0 → Wp (rec (nI (k + 1))) (fun v => v = bI (usS S l D = 0)) := fun h0 => by
        refine hrec _ ⟨rfl, fun j hj => ?_⟩
        by_cases ej : j = k
        · subst ej; exact h0
        · exact hz j (by omega)
      have k0 : fX11_kindBehind fu m (nI (e k)) 0 M = some (nI (kB S l 0 (e k))) := X11_kindBehind (D := 0) hfu hV hG hB hL hl hS hN hp0 (by omega)
      unfold fX11_isSafe_b11 fX11_isSafe_j87 fX11_isSafe_j85
      rw [hE.1, if_neg (nI_ge hk (by omega)), if_neg (nI_in (by omega) (by omega)), ix_n (by omega), e1, X11_isFixed hV hG (by omega), bi_s, lt_eq, nI_1]
      by_cases c1 : e k < S 142
      · rw [bI_t c1, if_neg (by decide)]
        exact nxt (if_neg (fun z => absurd z.1 (by omega)))
      rw [bI_f c1, if_pos (by decide), X11_kindBehind hfu hV hG hB hL hl hS hN hD (by omega), bi_s, k0, bi_s, X11_kindBehind hfu hV hG hB hL hl hS hN (D := 2 ^ nnS S l - 1) (by omega) (by omega), bi_s]
      by_cases c2 : kB S l D (e k) = 0
      · rw [c2, if_pos (show nI 0 = (0 : Int32) from rfl)]
        exact nxt (if_neg (fun z => z.2.1 c2))
      rw [if_neg (show ¬ nI (kB S l D (e k)) = (0 : Int32) from nI_ne0 (by omega) (by omega))]
      by_cases c3 : kB S l D (e k) = kB S l 0 (e k)
      · rw [if_pos (by rw [c3])]
        exact nxt (if_neg (fun z => z.2.2.1 c3))
      rw [if_neg (fun z => c3 ((nI_eq (by omega) (by omega)).mp z))]
      by_cases c4 : kB S l D (e k) = kB S l (2 ^ nnS S l - 1) (e k)
      · rw [if_pos (by rw [c4])]
        exact nxt (if_neg (fun z => z.2.2.2 c4))
      rw [if_neg (fun z => c4 ((nI_eq (by omega) (by omega)).mp z)), wp_some, bI_f]
      · rfl
      · intro z
        have h1 := smN_nz.mp z (e k) e2
        have h2 : bad S l D (e k) = 1 := if_pos ⟨by omega, c2, c3, c4⟩
        omega
    · obtain ⟨rfl, hz⟩ := hz
      unfold fX11_isSafe_b11 fX11_isSafe_j93
      rw [hE.1, if_pos (Int32.le_refl _), wp_some, bI_t]
      · rfl
      · refine smN_z fun x hx => ?_
        obtain ⟨j, hj, s1, s2⟩ := hA'.at hG hx
        rw [bad_cg s1 s2]
        exact hz j hj
  obtain ⟨v, e', rfl⟩ := key
  exact e'
theorem em_sm (S : Sto) : ∀ n, smN (fun r => if S (39 + 3 * r) = 0 then 1 else 0) n = n - csN S n
  | 0 => rfl
  | n + 1 => by
    have h := em_sm S n
    have h2 := csN_le S n
    unfold csN smN
    rw [h]
    split <;> omega
theorem pc_S (D lo n : Nat) : pcN D lo (n + 1) = pcN D lo n + if D.testBit (lo + n) = true then 1 else 0 := rfl
theorem zZ_p1 (z : Int) : zZ z + (1 : Int32) = zZ (z + 1) := by
  rw [show (1 : Int32) = zZ 1 from by decide +kernel, zZ_add]
theorem zZ_m1 (z : Int) : zZ z + (-1 : Int32) = zZ (z + -1) := by
  rw [show (-1 : Int32) = zZ (-1) from by decide +kernel, zZ_add]
theorem X11_emptyBehind (hfu : 200000 ≤ fu) (hV : VM S M m) (hG : Gd S) (hS : StM S l M m) (hN : nnS S l ≤ 12) {D : Nat} (hD : D < 2 ^ nnS S l) : fX11_emptyBehind fu m (nI D) M = some (zZ (((S 141 - csN S (S 141) + pcN D 0 (gnS S l) : Nat) : Int) - (pcN D (gnS S l) (cnS S l) : Nat))) := by
  have h10 := hG.1.2.2.2.1
  have hnn : nnS S l = gnS S l + cnS S l := rfl
  have hp : 2 ^ nnS S l ≤ 2 ^ 12 := Nat.pow_le_pow_right (by decide) hN
  unfold fX11_emptyBehind fX11_emptyBehind_l4
  refine lp_ue (fun r => (nI (smN (fun r => if S (39 + 3 * r) = 0 then 1 else 0) r), nI r)) (S 141) rfl (by omega) (fun r hr rec => ?_) (fun rec => ?_)
  · have hsz := hG.2.1 (39 + 3 * r)
    show fX11_emptyBehind_b4 fu _ m (nI D) (nI (smN (fun r => if S (39 + 3 * r) = 0 then 1 else 0) r)) (nI r) M = rec (nI (smN (fun r => if S (39 + 3 * r) = 0 then 1 else 0) r + if S (39 + 3 * r) = 0 then 1 else 0), nI (r + 1))
    unfold fX11_emptyBehind_b4 fX11_emptyBehind_j26
    rw [X11_registersNow hV, bi_s, if_neg (nI_ge hr (by omega)), X11_sizeOf hV (by omega), bi_s]
    by_cases c : S (39 + 3 * r) = 0
    · rw [c, if_pos (show nI 0 = (0 : Int32) from rfl), if_pos rfl, lt_eq, lt_eq, nI_1, nI_1]
    · rw [if_neg (show ¬ nI (S (39 + 3 * r)) = (0 : Int32) from nI_ne0 (by omega) (by omega)), if_neg c, lt_eq, lt_eq, nI_1]
      show rec (nI _ + nI 0, _) = _
      rw [nI_add]
  · show fX11_emptyBehind_b4 fu _ m (nI D) (nI (smN (fun r => if S (39 + 3 * r) = 0 then 1 else 0) (S 141))) (nI (S 141)) M = _
    unfold fX11_emptyBehind_b4 fX11_emptyBehind_j34 fX11_emptyBehind_l36
    rw [X11_registersNow hV, bi_s, if_pos (Int32.le_refl _), em_sm]
    generalize S 141 - csN S (S 141) = em
    refine lp_ue (fun k => (zZ (((em + pcN D 0 (min k (gnS S l)) : Nat) : Int) - (pcN D (gnS S l) (k - gnS S l) : Nat)), nI k)) (nnS S l) ?_ (by omega) (fun k hk rec => ?_) (fun rec => ?_)
    · show (nI em, nI 0) = _
      rw [Nat.zero_min, Nat.zero_sub]
      show _ = (zZ (((em + 0 : Nat) : Int) - (0 : Nat)), nI 0)
      rw [Nat.add_zero, Int.natCast_zero, Int.sub_zero, zZ_n]
    · have bt := bit_t (D := D) (k := k) (by omega) (by omega)
      show fX11_emptyBehind_b36 fu _ m (nI D) (zZ (((em + pcN D 0 (min k (gnS S l)) : Nat) : Int) - (pcN D (gnS S l) (k - gnS S l) : Nat))) (nI k) M = rec (zZ (((em + pcN D 0 (min (k + 1) (gnS S l)) : Nat) : Int) - (pcN D (gnS S l) (k + 1 - gnS S l) : Nat)), nI (k + 1))
      unfold fX11_emptyBehind_b36 fX11_emptyBehind_j67 fX11_emptyBehind_j69
      rw [hS.1, if_neg (nI_ge hk (by omega)), hS.2.1, lt_eq, lt_eq, lt_eq, nI_1, zZ_p1, zZ_m1]
      by_cases c : k < gnS S l
      · have m1 : min k (gnS S l) = k := by omega
        have m2 : min (k + 1) (gnS S l) = k + 1 := by omega
        have m3 : k - gnS S l = 0 := by omega
        have m4 : k + 1 - gnS S l = 0 := by omega
        rw [m1, m2, m3, m4, pc_S, Nat.zero_add]
        by_cases cb : D.testBit k = true
        · have hh : ((em + pcN D 0 k : Nat) : Int) - (pcN D (gnS S l) 0 : Nat) + 1 = ((em + (pcN D 0 k + 1) : Nat) : Int) - (pcN D (gnS S l) 0 : Nat) := by omega
          rw [if_pos (bt.mpr cb), if_neg (nI_ge c (by omega)), if_pos cb, hh]
          rfl
        · rw [if_neg (fun z => cb (bt.mp z)), if_neg cb]
          rfl
      · have m1 : min k (gnS S l) = gnS S l := by omega
        have m2 : min (k + 1) (gnS S l) = gnS S l := by omega
        have m4 : k + 1 - gnS S l = k - gnS S l + 1 := by omega
        rw [m1, m2, m4, pc_S, show gnS S l + (k - gnS S l) = k by omega]
        by_cases cb : D.testBit k = true
        · have hh : ((em + pcN D 0 (gnS S l) : Nat) : Int) - (pcN D (gnS S l) (k - gnS S l) : Nat) + -1 = ((em + pcN D 0 (gnS S l) : Nat) : Int) - (pcN D (gnS S l) (k - gnS S l) + 1 : Nat) := by omega
          rw [if_pos (bt.mpr cb), if_pos (nI_le (by omega) (by omega)), if_pos cb, hh]
        · rw [if_neg (fun z => cb (bt.mp z)), if_neg cb]
          rfl
    · show fX11_emptyBehind_b36 fu _ m (nI D) (zZ (((em + pcN D 0 (min (nnS S l) (gnS S l)) : Nat) : Int) - (pcN D (gnS S l) (nnS S l - gnS S l) : Nat))) (nI (nnS S l)) M = _
      unfold fX11_emptyBehind_b36 fX11_emptyBehind_j75
      rw [hS.1, if_pos (Int32.le_refl _), show min (nnS S l) (gnS S l) = gnS S l by omega, show nnS S l - gnS S l = cnS S l by omega]
/-- what can be ended, from a set on -/
abbrev ceP (S : Sto) (l : List Bk) (D : Nat) : Prop := FE S l D = true ∧ (D = 0 ∨ usS S l D = 0)
def TE (S : Sto) (l : List Bk) (M : Mm) (m D0 : Nat) : Prop := ∀ D, D0 ≤ D → D < 2 ^ nnS S l → M.1 (m + 22) D = bI (ceP S l D)
theorem stp_iff {D k : Nat} : stp S l D k = true ↔ cnB S l D k = true ∧ ceP S l (D ||| 2 ^ k) := by
  have h0 : ¬ D ||| 2 ^ k = 0 := fun z => by
    have := congrArg (fun x => Nat.testBit x k) z
    simp only [Nat.testBit_or, Nat.testBit_two_pow, Nat.zero_testBit] at this
    simp at this
  unfold stp okB
  rw [Bool.and_eq_true, Bool.and_eq_true, decide_eq_true_iff]
  constructor
  · rintro ⟨h1, h2, h3⟩
    exact ⟨h1, h3, Or.inr h2⟩
  · rintro ⟨h1, h2, h3⟩
    rcases h3 with h3 | h3
    · exact absurd h3 h0
    · exact ⟨h1, h3, h2⟩
theorem X11_canStep (hfu : 200000 ≤ fu) (hV : VM S M m) (hG : Gd S) (hS : StM S l M m) (hN : nnS S l ≤ 12) {D k : Nat} (hD : D < 2 ^ nnS S l) (hk : k < nnS S l) (hT : TE S l M m (D + 1)) : fX11_canStep fu m (nI D) (nI k) M = some (bI (stp S l D k = true)) := by
  have hnn : nnS S l = gnS S l + cnS S l := rfl
  have hp : 2 ^ nnS S l ≤ 2 ^ 12 := Nat.pow_le_pow_right (by decide) hN
  have hpk : 2 ^ k < 2 ^ 12 := Nat.pow_lt_pow_right (by decide) (by omega)
  have hD' := or_lt hD hk
  have b0 := bit_0 (D := D) (k := k) (by omega) (by omega)
  have n42 : ∀ t : Int32, t = 0 ∨ t = 1 → fX11_canStep_j42 fu t M = some t := fun t ht => by
    unfold fX11_canStep_j42
    show (if _ then some t else none) = _
    rw [if_pos ht]
  have esh : (1 : Int32) <<< (nI k &&& 31) = nI (2 ^ k) := by
    have := zi_shl (n := 1) (k := k) (by omega) (by omega)
    rw [Nat.one_mul] at this
    exact this
  have n41 : fX11_canStep_j41 fu M = some (nI 0) := n42 0 (Or.inl rfl)
  have no : cnB S l D k = false → fX11_canStep_j41 fu M = some (bI (stp S l D k = true)) := fun h => by
    rw [n41, bI_f]
    rw [stp_iff, h]
    exact fun z => absurd z.1 (by decide)
  have yes : D.testBit k = false → cnB S l D k = true → fX11_canStep_j24 fu m (nI D) (nI k) M = some (bI (stp S l D k = true)) := fun hb h => by
    have hgt : D + 1 ≤ D ||| 2 ^ k := by
      have h1 : D ≤ D ||| 2 ^ k := Nat.left_le_or
      have h2 : ¬ D ||| 2 ^ k = D := fun z => by
        rw [or_eq.mp z] at hb
        cases hb
      omega
    unfold fX11_canStep_j24
    rw [esh, zi_or (by omega) (by omega), if_neg (nI_in (by omega) (by omega)), ix_n (by omega), hT _ hgt hD', n41, n42 1 (Or.inr rfl)]
    by_cases c : ceP S l (D ||| 2 ^ k)
    · rw [bI_t c, if_neg (by decide), bI_t (stp_iff.mpr ⟨h, c⟩)]
      rfl
    · rw [bI_f c, if_pos (by decide), bI_f (fun z => c (stp_iff.mp z).2)]
  unfold fX11_canStep
  rw [hS.2.1]
  by_cases cb : D.testBit k = false
  · rw [if_pos (b0.mpr cb)]
    by_cases cg : k < gnS S l
    · rw [if_pos (nI_lt cg (by omega))]
      refine yes cb ?_
      unfold cnB
      rw [cb, decide_eq_true cg]
      rfl
    · rw [if_neg (nI_nlt (by omega) (by omega)), X11_emptyBehind hfu hV hG hS hN hD, bi_s]
      have q1 := pc_le D 0 (gnS S l)
      have q2 := pc_le D (gnS S l) (cnS S l)
      have h10 := hG.1.2.2.2.1
      have le0 := zZ_le (a := ((S 141 - csN S (S 141) + pcN D 0 (gnS S l) : Nat) : Int) - (pcN D (gnS S l) (cnS S l) : Nat)) (b := 0) (by omega) (by omega) (by omega) (by omega)
      rw [show (0 : Int32) = zZ 0 from by decide +kernel]
      by_cases cr : rmB S l D = true
      · have h1 := cr
        unfold rmB at h1
        rw [decide_eq_true_iff] at h1
        rw [if_neg (fun z => by have := le0.mp z; omega)]
        refine yes cb ?_
        unfold cnB
        rw [cb, cr, Bool.or_true]
        rfl
      · have h1 := cr
        unfold rmB at h1
        rw [decide_eq_true_iff] at h1
        rw [if_pos (le0.mpr (by omega))]
        refine no ?_
        have cr' : rmB S l D = false := by
          cases hx : rmB S l D with
          | false => rfl
          | true => exact absurd hx cr
        unfold cnB
        rw [cr', decide_eq_false cg, Bool.or_false, Bool.and_false]
  · rw [if_neg (fun z => cb (b0.mp z))]
    refine no ?_
    unfold cnB
    cases hx : D.testBit k with
    | false => exact absurd hx cb
    | true => rfl
end RX
