/-! The reference's reading: its small steps. -/
/-- its bank b, and the token -/
def RB (m b : Nat) (M M' : Mm) : Prop := (∀ c, c ≠ m → (c < m + 2 ∨ m + 6 ≤ c) → M'.1 c = M.1 c) ∧ (∀ c, m + 2 ≤ c → c < m + 5 → ∀ j, j ≠ b → M'.1 c j = M.1 c j) ∧ (∀ j, (j < 140 * b ∨ 140 * b + 140 ≤ j) → M'.1 (m + 5) j = M.1 (m + 5) j) ∧ (∀ j, (j < 9 ∨ 16 ≤ j) → j ≠ 19 → j ≠ 20 → M'.1 m j = M.1 m j) ∧ M'.2 = M.2
def FQ (m : Nat) (M M' : Mm) : Prop := (∀ c, c ≠ m → M'.1 c = M.1 c) ∧ (∀ j, (j < 9 ∨ 16 ≤ j) → M'.1 m j = M.1 m j) ∧ M'.2 = M.2
theorem RB.rf (m b : Nat) (M : Mm) : RB m b M M := ⟨fun _ _ _ => rfl, fun _ _ _ _ _ => rfl, fun _ _ => rfl, fun _ _ _ _ => rfl, rfl⟩
theorem RB.tr {m b : Nat} {M M' M'' : Mm} (h : RB m b M M') (h' : RB m b M' M'') : RB m b M M'' := ⟨fun c h1 h2 => (h'.1 c h1 h2).trans (h.1 c h1 h2), fun c h1 h2 j hj => (h'.2.1 c h1 h2 j hj).trans (h.2.1 c h1 h2 j hj), fun j hj => (h'.2.2.1 j hj).trans (h.2.2.1 j hj), fun j h1 h2 h3 => (h'.2.2.2.1 j h1 h2 h3).trans (h.2.2.2.1 j h1 h2 h3), h'.2.2.2.2.trans h.2.2.2.2⟩
theorem FQ.rf (m : Nat) (M : Mm) : FQ m M M := ⟨fun _ _ => rfl, fun _ _ => rfl, rfl⟩
theorem FQ.tr {m : Nat} {M M' M'' : Mm} (h : FQ m M M') (h' : FQ m M' M'') : FQ m M M'' := ⟨fun x hx => (h'.1 x hx).trans (h.1 x hx), fun j a => (h'.2.1 j a).trans (h.2.1 j a), h'.2.2.trans h.2.2⟩
theorem FM.fq {m : Nat} {M M' : Mm} (h : FM m M M') : FQ m M M' := ⟨h.1, fun j hj => h.2.1 j (by omega) (by omega) (by omega) (by omega) (by omega), h.2.2⟩
theorem FQ.rb {m b : Nat} {M M' : Mm} (h : FQ m M M') : RB m b M M' := ⟨fun c h1 _ => h.1 c h1, fun c h1 h2 j _ => by rw [h.1 c (by omega)], fun j _ => by rw [h.1 (m + 5) (by omega)], fun j h1 _ _ => h.2.1 j h1, h.2.2⟩
theorem FM.f14 {m : Nat} {M M' : Mm} (h : FM m M M') : M'.1 m 14 = M.1 m 14 := h.2.1 14 (by omega) (by omega) (by omega) (by omega) (by omega)
theorem TpM.rb {t : Nat → Nat} {n m b : Nat} {M M' : Mm} (h : TpM t n M m) (hf : RB m b M M') : TpM t n M' m := ⟨h.1, by rw [hf.2.2.2.1 8 (by omega) (by omega) (by omega)]; exact h.2.1, fun j hj => by rw [hf.1 (m + 6) (by omega) (by omega)]; exact h.2.2.1 j hj, fun j hj => by rw [hf.1 (m + 7) (by omega) (by omega)]; exact h.2.2.2 j hj⟩
/-- what stands in a bank -/
def RS (T : Sto) (M : Mm) (m b : Nat) : Prop := (M.1 (m + 2) b = nI (T 140) ∧ M.1 (m + 3) b = nI (T 141) ∧ M.1 (m + 4) b = nI (T 142)) ∧ ∀ k, k < 140 → M.1 (m + 5) (140 * b + k) = nI (T k)
theorem RS.fq {T : Sto} {M M' : Mm} {m b : Nat} (h : RS T M m b) (hf : FQ m M M') : RS T M' m b := by
  unfold RS
  rw [hf.1 (m + 2) (by omega), hf.1 (m + 3) (by omega), hf.1 (m + 4) (by omega), hf.1 (m + 5) (by omega)]
  exact h
/-- a fault told -/
def Dn (k q : Nat) (M : Mm) (m : Nat) : Prop := M.1 m 14 = nI k ∧ M.1 m 15 = nI q
theorem tk3 {t : Nat → Nat} {n p : Nat} : nI (tkC (tyT t n p)) = (3 : Int32) ↔ tyT t n p = 1 := by
  have hty := ty_le t n p
  have : ∀ y, y < 5 → (nI (tkC y) = (3 : Int32) ↔ y = 1) := by decide
  exact this _ (by omega)
theorem tk4 {t : Nat → Nat} {n p : Nat} : nI (tkC (tyT t n p)) = (4 : Int32) ↔ tyT t n p = 2 := by
  have hty := ty_le t n p
  have : ∀ y, y < 5 → (nI (tkC y) = (4 : Int32) ↔ y = 2) := by decide
  exact this _ (by omega)
theorem tk0 {t : Nat → Nat} {n p : Nat} : nI (tkC (tyT t n p)) = (0 : Int32) ↔ tyT t n p = 4 := by
  have hty := ty_le t n p
  have : ∀ y, y < 5 → (nI (tkC y) = (0 : Int32) ↔ y = 4) := by decide
  exact this _ (by omega)
theorem np0 {k : Nat} (h : 0 < k) (h2 : k < 5) : ¬ nI k ≤ (0 : Int32) ∧ ¬ nI k = (0 : Int32) := by
  have : ∀ k, k < 5 → 0 < k → ¬ nI k ≤ (0 : Int32) ∧ ¬ nI k = (0 : Int32) := by decide
  exact this k h2 h
section RT
variable {fu m n p b : Nat} {t : Nat → Nat} {M : Mm} {T : Sto}
theorem X11_fail_y {q : Nat} (k : Nat) (h0 : M.1 m 14 = nI 0) (h10 : M.1 m 10 = nI q) : ∃ M', fX11_fail fu m (nI k) M = some M' ∧ Dn k q M' m ∧ FQ m M M' ∧ ∀ j, j ≠ 14 → j ≠ 15 → M'.1 m j = M.1 m j := by
  unfold fX11_fail
  rw [h0, if_pos (show nI 0 ≤ (0 : Int32) by decide), lt_eq, lt_eq, wI_nk (by omega), h10]
  refine ⟨_, rfl, ⟨by rw [wI_nk (by omega), wI_eq], wI_eq⟩, ⟨fun c hc => by rw [wI_ne hc, wI_ne hc], fun j hj => by rw [wI_nk (by omega), wI_nk (by omega)], rfl⟩, fun j h1 h2 => by rw [wI_nk h2, wI_nk h1]⟩
theorem X11_fail_n {k : Nat} (x : Int32) (h0 : M.1 m 14 = nI k) (hk : 0 < k) (hk5 : k < 5) : fX11_fail fu m x M = some M := by
  unfold fX11_fail
  rw [h0, if_neg (np0 hk hk5).1]
theorem X11_isStop_y (h0 : M.1 m 14 = nI 0) (hX : TM t n p M m) : fX11_isStop fu m M = some (bI (tyT t n p = 2)) := by
  have n20 : ∀ x : Int32, x = nI 0 ∨ x = nI 1 → fX11_isStop_j20 fu x M = some x := fun x hx => gd01 hx _
  have n19 : fX11_isStop_j19 fu M = some (nI 0) := n20 0 (Or.inl rfl)
  unfold fX11_isStop
  rw [h0, if_pos (show nI 0 = (0 : Int32) from rfl), hX.2.2.1, n19, n20 1 (Or.inr rfl)]
  by_cases c : tyT t n p = 2
  · rw [if_pos (tk4.mpr c), bI_t c]
    rfl
  · rw [if_neg (fun z => c (tk4.mp z)), bI_f c]
theorem X11_isStop_n {k : Nat} (h0 : M.1 m 14 = nI k) (hk : 0 < k) (hk5 : k < 5) : fX11_isStop fu m M = some (nI 0) := by
  unfold fX11_isStop
  rw [h0, if_neg (np0 hk hk5).2]
  unfold fX11_isStop_j19 fX11_isStop_j20
  exact gd01 (Or.inl rfl) _
theorem X11_isKindWord_n {k : Nat} (h0 : M.1 m 14 = nI k) (hk : 0 < k) (hk5 : k < 5) : fX11_isKindWord fu m M = some (nI 0) := by
  unfold fX11_isKindWord
  rw [h0, if_neg (np0 hk hk5).2]
  unfold fX11_isKindWord_j31 fX11_isKindWord_j32
  exact gd01 (Or.inl rfl) _
theorem X11_numeral_n {k : Nat} (x y : Int32) (h0 : M.1 m 14 = nI k) (hk : 0 < k) (hk5 : k < 5) : ∃ v, fX11_numeral fu m x y M = some (v, M) := by
  have n33 : fX11_numeral_j33 fu m M = some (M.1 m 12, M) := by
    unfold fX11_numeral_j33
    rw [lt_eq, h0, if_neg (np0 hk hk5).2]
    rfl
  refine ⟨M.1 m 12, ?_⟩
  unfold fX11_numeral
  rw [X11_fail_n 2 h0 hk hk5, X11_fail_n 1 h0 hk hk5, bm_s, n33, X11_isIn, bi_s, ite_self, ite_self]
theorem X11_kindTold_n {k : Nat} (h0 : M.1 m 14 = nI k) (hk : 0 < k) (hk5 : k < 5) : ∃ v, fX11_kindTold fu m M = some (v, M) := by
  refine ⟨M.1 m 13, ?_⟩
  unfold fX11_kindTold
  rw [X11_isKindWord_n h0 hk hk5, bi_s, if_pos (show nI 0 = (0 : Int32) from rfl), X11_fail_n 1 h0 hk hk5, bm_s]
  unfold fX11_kindTold_j12
  rw [lt_eq, h0, if_neg (np0 hk hk5).2]
  rfl
theorem nuC_le (lo hi : Nat) : nuC t n p lo hi < 5 := by
  unfold nuC
  split
  · split <;> omega
  · omega
theorem X11_numeral_y (hfu : 200000 ≤ fu) (hT : TpM t n M m) (hX : TM t n p M m) (hpn : p ≤ n) (h0 : M.1 m 14 = nI 0) {lo hi : Nat} (hlo : lo ≤ 99999) (hhi : hi ≤ 99999) : Wp (fX11_numeral fu m (nI lo) (nI hi) M) (fun z => (nuC t n p lo hi = 0 ∧ z.1 = nI (vaT t n p) ∧ TM t n (enT t n p) z.2 m ∧ FM m M z.2) ∨ (¬ nuC t n p lo hi = 0 ∧ Dn (nuC t n p lo hi) (stT t n p) z.2 m ∧ FQ m M z.2)) := by
  have bad : ∀ k M', 0 < k → k < 5 → M'.1 m 14 = nI k → fX11_numeral_j33 fu m M' = some (M'.1 m 12, M') := fun k M' h1 h2 h3 => by
    unfold fX11_numeral_j33
    rw [lt_eq, h3, if_neg (np0 h1 h2).2]
    rfl
  unfold fX11_numeral
  rw [hX.2.2.1]
  by_cases c1 : tyT t n p = 1
  · rw [if_pos (tk3.mpr c1), X11_isIn, bi_s]
    have hv : (nI lo ≤ M.1 m 12 ∧ M.1 m 12 ≤ nI hi) ↔ (lo ≤ vaT t n p ∧ vaT t n p ≤ hi) := by
      rcases hX.2.2.2.1 c1 with ⟨v1, v2⟩ | ⟨v1, y, v2, v3, v4⟩
      · rw [v2]
        constructor
        · intro z
          exact ⟨Decidable.not_not.mp fun w => nI_ge (by omega) (by omega) z.1, Decidable.not_not.mp fun w => nI_ge (by omega) (by omega) z.2⟩
        · intro z
          exact ⟨nI_le z.1 (by omega), nI_le z.2 (by omega)⟩
      · rw [v4]
        constructor
        · intro z
          exact absurd z.2 (nI_ge (by omega) (by omega))
        · intro z
          omega
    by_cases c2 : lo ≤ vaT t n p ∧ vaT t n p ≤ hi
    · rw [bI_t (hv.mpr c2), if_neg (show ¬ nI 1 = (0 : Int32) by decide)]
      have hv2 : M.1 m 12 = nI (vaT t n p) := by
        rcases hX.2.2.2.1 c1 with ⟨v1, v2⟩ | ⟨v1, y, v2, v3, v4⟩
        · exact v2
        · omega
      unfold fX11_numeral_j33
      rw [lt_eq, h0, if_pos (show nI 0 = (0 : Int32) from rfl), wp_bm]
      refine (X11_scan hfu hT hX.1 (en_le hpn).2).mono fun M' q => ?_
      unfold fX11_numeral_j49
      rw [wp_some]
      exact Or.inl ⟨nuC_0.mpr ⟨c1, c2⟩, hv2, q.1, q.2⟩
    · have e : nuC t n p lo hi = 2 := by
        unfold nuC
        rw [if_pos c1, if_neg c2]
      obtain ⟨M', f1, f2, f3, _⟩ := X11_fail_y (fu := fu) (m := m) 2 h0 hX.2.1
      have f1 : fX11_fail fu m 2 M = some M' := f1
      rw [bI_f (fun z => c2 (hv.mp z)), if_pos (show nI 0 = (0 : Int32) from rfl), f1, bm_s, bad 2 M' (by omega) (by omega) f2.1, wp_some, e]
      exact Or.inr ⟨by omega, f2, f3⟩
  · have e : nuC t n p lo hi = 1 := if_neg c1
    obtain ⟨M', f1, f2, f3, _⟩ := X11_fail_y (fu := fu) (m := m) 1 h0 hX.2.1
    have f1 : fX11_fail fu m 1 M = some M' := f1
    rw [if_neg (fun z => c1 (tk3.mp z)), f1, bm_s, bad 1 M' (by omega) (by omega) f2.1, wp_some, e]
    exact Or.inr ⟨by omega, f2, f3⟩
theorem X11_kindTold_y (hfu : 200000 ≤ fu) (hT : TpM t n M m) (hX : TM t n p M m) (hpn : p ≤ n) (h0 : M.1 m 14 = nI 0) : Wp (fX11_kindTold fu m M) (fun z => (¬ kiT t n p = 5 ∧ z.1 = nI (kiT t n p) ∧ TM t n (enT t n p) z.2 m ∧ FM m M z.2) ∨ (kiT t n p = 5 ∧ Dn 1 (stT t n p) z.2 m ∧ FQ m M z.2)) := by
  have hk5 := kiT_le t n p
  obtain ⟨w1, w2⟩ := X11_isKindWord (fu := fu) hX h0
  unfold fX11_kindTold
  rw [w1, bi_s]
  by_cases c : kiT t n p < 5
  · rw [bI_t c, if_neg (show ¬ nI 1 = (0 : Int32) by decide)]
    unfold fX11_kindTold_j12
    rw [lt_eq, h0, if_pos (show nI 0 = (0 : Int32) from rfl), wp_bm]
    refine (X11_scan hfu hT hX.1 (en_le hpn).2).mono fun M' q => ?_
    unfold fX11_kindTold_j28
    rw [wp_some]
    exact Or.inl ⟨by omega, w2 c, q.1, q.2⟩
  · obtain ⟨M', f1, f2, f3, _⟩ := X11_fail_y (fu := fu) (m := m) 1 h0 hX.2.1
    have f1 : fX11_fail fu m 1 M = some M' := f1
    rw [bI_f c, if_pos (show nI 0 = (0 : Int32) from rfl), f1, bm_s]
    unfold fX11_kindTold_j12
    rw [lt_eq, f2.1, if_neg (show ¬ nI 1 = (0 : Int32) by decide)]
    unfold fX11_kindTold_j28
    rw [wp_some]
    exact Or.inr ⟨by omega, f2, f3⟩
theorem X11_spaceOf (hb : b < 2) (hS : RS T M m b) (h10 : T 140 ≤ 10) : fX11_spaceOf fu m (nI b) M = some (nI (2 ^ T 140)) := by
  have hp2 : 2 ^ T 140 ≤ 2 ^ 10 := Nat.pow_le_pow_right (by decide) h10
  have esh : (1 : Int32) <<< (nI (T 140) &&& 31) = nI (2 ^ T 140) := by
    have := zi_shl (n := 1) (k := T 140) (by omega) (by omega)
    rw [Nat.one_mul] at this
    exact this
  unfold fX11_spaceOf
  rw [if_neg (nI_in hb (by omega)), ix_n (by omega), hS.1.1, esh]
/-- the reference's flags -/
def mkN (g : Nat → Nat) : Nat := 32 * g 0 + 64 * g 1 + 128 * g 2 + 256 * g 3
def GM (g : Nat → Nat) (M : Mm) (m : Nat) : Prop := M.1 m 19 = nI (mkN g) ∧ M.1 m 20 = nI (g 4) ∧ M.1 m 15 = mI
theorem mk_bit {a b c d i : Nat} (ha : a = 0 ∨ a = 1) (hb : b = 0 ∨ b = 1) (hc : c = 0 ∨ c = 1) (hd : d = 0 ∨ d = 1) (hi : i = 0 ∨ i = 1 ∨ i = 2 ∨ i = 3) : ((nI (32 * a + 64 * b + 128 * c + 256 * d) >>> (nI (5 + i) &&& 31)) &&& 1 = (1 : Int32) ↔ [a, b, c, d].getD i 0 = 1) ∧ nI (32 * a + 64 * b + 128 * c + 256 * d) ||| ((1 : Int32) <<< (nI (5 + i) &&& 31)) = nI (32 * (if i = 0 then 1 else a) + 64 * (if i = 1 then 1 else b) + 128 * (if i = 2 then 1 else c) + 256 * (if i = 3 then 1 else d)) := by
  rcases ha with rfl | rfl <;> rcases hb with rfl | rfl <;> rcases hc with rfl | rfl <;> rcases hd with rfl | rfl <;> rcases hi with rfl | rfl | rfl | rfl <;> decide
theorem mk_up {g : Nat → Nat} {i : Nat} (hi : i < 4) : mkN (upS g i 1) = 32 * (if i = 0 then 1 else g 0) + 64 * (if i = 1 then 1 else g 1) + 128 * (if i = 2 then 1 else g 2) + 256 * (if i = 3 then 1 else g 3) := by
  have : i = 0 ∨ i = 1 ∨ i = 2 ∨ i = 3 := by omega
  rcases this with rfl | rfl | rfl | rfl <;> rfl
theorem X11_isOnce (hfu : 200000 ≤ fu) (hT : TpM t n M m) (hX : TM t n p M m) (hpn : p ≤ n) (h0 : M.1 m 14 = nI 0) {g : Nat → Nat} (hg : ∀ j, j < 5 → g j ≤ 1) (hF : GM g M m) {i : Nat} (hi : i < 4) : Wp (fX11_isOnce fu m (nI (5 + i)) M) (fun z => ((g i = 0 ∧ (i = 3 ∨ g 4 = 0)) ∧ z.1 = nI 1 ∧ TM t n (enT t n p) z.2 m ∧ M.1 m 14 = z.2.1 m 14 ∧ GM (if i = 3 then upS (upS g 3 1) 4 1 else upS g i 1) z.2 m ∧ (∀ b, RB m b M z.2) ∧ ∀ c, c ≠ m → z.2.1 c = M.1 c) ∨ (¬ (g i = 0 ∧ (i = 3 ∨ g 4 = 0)) ∧ z.1 = nI 0 ∧ Dn 3 (stT t n p) z.2 m ∧ ∀ b, RB m b M z.2)) := by
  have g0 := hg 0 (by omega)
  have g1 := hg 1 (by omega)
  have g2 := hg 2 (by omega)
  have g3 := hg 3 (by omega)
  have g4 := hg 4 (by omega)
  obtain ⟨b1, b2⟩ := mk_bit (a := g 0) (b := g 1) (c := g 2) (d := g 3) (i := i) (by omega) (by omega) (by omega) (by omega) (by omega)
  have b3 : [g 0, g 1, g 2, g 3].getD i 0 = g i := by
    have : i = 0 ∨ i = 1 ∨ i = 2 ∨ i = 3 := by omega
    rcases this with rfl | rfl | rfl | rfl <;> rfl
  rw [b3] at b1
  have gi := hg i (by omega)
  obtain ⟨hm, hb, h15⟩ := hF
  -- behind the test
  have j87 : ∀ x M', x = nI 0 ∨ x = nI 1 → fX11_isOnce_j87 fu x M' = some (x, M') := fun x M' hx => gd01 hx _
  have w8 : (nI (5 + i) < (8 : Int32)) ↔ i < 3 := by
    have : ∀ i, i < 4 → ((nI (5 + i) < (8 : Int32)) ↔ i < 3) := by decide
    exact this i hi
  have w9 : ((8 : Int32) ≤ nI (5 + i)) ↔ i = 3 := by
    have : ∀ i, i < 4 → (((8 : Int32) ≤ nI (5 + i)) ↔ i = 3) := by decide
    exact this i hi
  -- fault found
  have no : ∀ M', Dn 3 (stT t n p) M' m → FQ m M M' → Wp (fX11_isOnce_j30 fu m (nI (5 + i)) M') (fun z => ((g i = 0 ∧ (i = 3 ∨ g 4 = 0)) ∧ z.1 = nI 1 ∧ TM t n (enT t n p) z.2 m ∧ M.1 m 14 = z.2.1 m 14 ∧ GM (if i = 3 then upS (upS g 3 1) 4 1 else upS g i 1) z.2 m ∧ (∀ b, RB m b M z.2) ∧ ∀ c, c ≠ m → z.2.1 c = M.1 c) ∨ (¬ (g i = 0 ∧ (i = 3 ∨ g 4 = 0)) ∧ z.1 = nI 0 ∧ Dn 3 (stT t n p) z.2 m ∧ ∀ b, RB m b M z.2)) ∨ (g i = 0 ∧ (i = 3 ∨ g 4 = 0)) := fun M' d f => by
    by_cases hc : g i = 0 ∧ (i = 3 ∨ g 4 = 0)
    · exact Or.inr hc
    refine Or.inl ?_
    have fin : ∀ y : Int32, y = nI 0 ∨ y = nI 1 → ∀ M2, M2.1 m 14 = nI 3 → M2.1 m 15 = nI (stT t n p) → (∀ b, RB m b M M2) → Wp (fX11_isOnce_j61 fu m m y M2) (fun z => ((g i = 0 ∧ (i = 3 ∨ g 4 = 0)) ∧ z.1 = nI 1 ∧ TM t n (enT t n p) z.2 m ∧ M.1 m 14 = z.2.1 m 14 ∧ GM (if i = 3 then upS (upS g 3 1) 4 1 else upS g i 1) z.2 m ∧ (∀ b, RB m b M z.2) ∧ ∀ c, c ≠ m → z.2.1 c = M.1 c) ∨ (¬ (g i = 0 ∧ (i = 3 ∨ g 4 = 0)) ∧ z.1 = nI 0 ∧ Dn 3 (stT t n p) z.2 m ∧ ∀ b, RB m b M z.2)) := fun y hy M2 e14 e15 hR => by
      unfold fX11_isOnce_j61
      rw [gd01 hy, lt_eq, wI_nk (by omega), e14, if_neg (show ¬ nI 3 = (0 : Int32) by decide)]
      unfold fX11_isOnce_j75
      rw [wI_nk (by omega), e14, if_neg (show ¬ nI 3 = (0 : Int32) by decide), j87 0 _ (Or.inl rfl), wp_some]
      refine Or.inr ⟨hc, rfl, ⟨(wI_nk (by omega)).trans e14, (wI_nk (by omega)).trans e15⟩, fun b => (hR b).tr ⟨fun c h1 _ => wI_ne h1, fun c h1 h2 j _ => by rw [wI_ne (by omega)], fun j _ => by rw [wI_ne (by omega)], fun j h1 h2 h3 => wI_nk h3, rfl⟩⟩
    unfold fX11_isOnce_j30 fX11_isOnce_j56
    rw [lt_eq, f.2.1 19 (by omega)]
    have hR : ∀ b, RB m b M (wI M' m 19 (M.1 m 19 ||| 1 <<< (nI (5 + i) &&& 31))) := fun b => f.rb.tr ⟨fun c h1 _ => wI_ne h1, fun c h1 h2 j _ => by rw [wI_ne (by omega)], fun j _ => by rw [wI_ne (by omega)], fun j h1 h2 h3 => wI_nk h2, rfl⟩
    have e14 : (wI M' m 19 (M.1 m 19 ||| 1 <<< (nI (5 + i) &&& 31))).1 m 14 = nI 3 := (wI_nk (by omega)).trans d.1
    have e15 : (wI M' m 19 (M.1 m 19 ||| 1 <<< (nI (5 + i) &&& 31))).1 m 15 = nI (stT t n p) := (wI_nk (by omega)).trans d.2
    split
    · split
      · exact fin 0 (Or.inl rfl) _ e14 e15 hR
      · exact fin 1 (Or.inr rfl) _ e14 e15 hR
    · exact fin 1 (Or.inr rfl) _ e14 e15 hR
  have no2 : ¬ (g i = 0 ∧ (i = 3 ∨ g 4 = 0)) → Wp (fX11_isOnce_j25 fu m (nI (5 + i)) M) (fun z => ((g i = 0 ∧ (i = 3 ∨ g 4 = 0)) ∧ z.1 = nI 1 ∧ TM t n (enT t n p) z.2 m ∧ M.1 m 14 = z.2.1 m 14 ∧ GM (if i = 3 then upS (upS g 3 1) 4 1 else upS g i 1) z.2 m ∧ (∀ b, RB m b M z.2) ∧ ∀ c, c ≠ m → z.2.1 c = M.1 c) ∨ (¬ (g i = 0 ∧ (i = 3 ∨ g 4 = 0)) ∧ z.1 = nI 0 ∧ Dn 3 (stT t n p) z.2 m ∧ ∀ b, RB m b M z.2)) := fun hc => by
    obtain ⟨M', f1, f2, f3, _⟩ := X11_fail_y (fu := fu) (m := m) 3 h0 hX.2.1
    have f1 : fX11_fail fu m 3 M = some M' := f1
    unfold fX11_isOnce_j25
    rw [f1, bm_s]
    rcases no M' f2 f3 with h | h
    · exact h
    · exact absurd h hc
  unfold fX11_isOnce
  rw [hm, hb]
  unfold mkN
  by_cases ci : g i = 1
  · rw [if_pos (b1.mpr ci)]
    exact no2 (by omega)
  rw [if_neg (fun z => ci (b1.mp z))]
  have yes : (i = 3 ∨ g 4 = 0) → Wp (fX11_isOnce_j30 fu m (nI (5 + i)) M) (fun z => ((g i = 0 ∧ (i = 3 ∨ g 4 = 0)) ∧ z.1 = nI 1 ∧ TM t n (enT t n p) z.2 m ∧ M.1 m 14 = z.2.1 m 14 ∧ GM (if i = 3 then upS (upS g 3 1) 4 1 else upS g i 1) z.2 m ∧ (∀ b, RB m b M z.2) ∧ ∀ c, c ≠ m → z.2.1 c = M.1 c) ∨ (¬ (g i = 0 ∧ (i = 3 ∨ g 4 = 0)) ∧ z.1 = nI 0 ∧ Dn 3 (stT t n p) z.2 m ∧ ∀ b, RB m b M z.2)) := fun hc => by
    unfold fX11_isOnce_j30 fX11_isOnce_j56
    rw [lt_eq, hm]
    unfold mkN
    rw [b2, ← mk_up hi, wI_nk (by omega), hb]
    have fin : ∀ y : Nat, y ≤ 1 → (i = 3 → y = 1) → (¬ i = 3 → y = g 4) → Wp (fX11_isOnce_j61 fu m m (nI y) (wI M m 19 (nI (mkN (upS g i 1))))) (fun z => ((g i = 0 ∧ (i = 3 ∨ g 4 = 0)) ∧ z.1 = nI 1 ∧ TM t n (enT t n p) z.2 m ∧ M.1 m 14 = z.2.1 m 14 ∧ GM (if i = 3 then upS (upS g 3 1) 4 1 else upS g i 1) z.2 m ∧ (∀ b, RB m b M z.2) ∧ ∀ c, c ≠ m → z.2.1 c = M.1 c) ∨ (¬ (g i = 0 ∧ (i = 3 ∨ g 4 = 0)) ∧ z.1 = nI 0 ∧ Dn 3 (stT t n p) z.2 m ∧ ∀ b, RB m b M z.2)) := fun y hy y1 y2 => by
      unfold fX11_isOnce_j61
      have hy2 : nI y = nI 0 ∨ nI y = nI 1 := by
        have : y = 0 ∨ y = 1 := by omega
        rcases this with rfl | rfl
        · exact Or.inl rfl
        · exact Or.inr rfl
      rw [gd01 hy2, lt_eq, wI_nk (by omega), wI_nk (by omega), h0, if_pos (show nI 0 = (0 : Int32) from rfl), wp_bm]
      obtain ⟨M2, hM2⟩ : ∃ M2, M2 = wI (wI M m 19 (nI (mkN (upS g i 1)))) m 20 (nI y) := ⟨_, rfl⟩
      have R2 : ∀ b, RB m b M M2 := fun b => by
        rw [hM2]
        exact ⟨fun c h1 _ => by rw [wI_ne h1, wI_ne h1], fun c h1 h2 j _ => by rw [wI_ne (by omega), wI_ne (by omega)], fun j _ => by rw [wI_ne (by omega), wI_ne (by omega)], fun j h1 h2 h3 => by rw [wI_nk h3, wI_nk h2], rfl⟩
      have s2 : ∀ j, j ≠ 19 → j ≠ 20 → M2.1 m j = M.1 m j := fun j h1 h2 => by rw [hM2, wI_nk h2, wI_nk h1]
      have c2 : ∀ c, c ≠ m → M2.1 c = M.1 c := fun c hc => by rw [hM2, wI_ne hc, wI_ne hc]
      have e19 : M2.1 m 19 = nI (mkN (upS g i 1)) := by rw [hM2, wI_nk (by omega), wI_eq]
      have e20 : M2.1 m 20 = nI y := by rw [hM2, wI_eq]
      rw [← hM2]
      refine (X11_scan hfu (hT.rb (R2 0)) (by rw [s2 9 (by omega) (by omega)]; exact hX.1) (en_le hpn).2).mono fun M3 q => ?_
      unfold fX11_isOnce_j75
      have e14 : M3.1 m 14 = nI 0 := by rw [q.2.f14, s2 14 (by omega) (by omega)]; exact h0
      rw [e14, if_pos (show nI 0 = (0 : Int32) from rfl), j87 1 _ (Or.inr rfl), wp_some]
      refine Or.inl ⟨⟨by omega, hc⟩, rfl, q.1, e14.symm, ?_, fun b => (R2 b).tr q.2.fq.rb, fun c hc => (q.2.1 c hc).trans (c2 c hc)⟩
      have f19 : M3.1 m 19 = nI (mkN (upS g i 1)) := (q.2.2.1 19 (by omega) (by omega) (by omega) (by omega) (by omega)).trans e19
      have f15 : M3.1 m 15 = mI := (q.2.2.1 15 (by omega) (by omega) (by omega) (by omega) (by omega)).trans ((s2 15 (by omega) (by omega)).trans h15)
      have f20 : M3.1 m 20 = nI y := (q.2.2.1 20 (by omega) (by omega) (by omega) (by omega) (by omega)).trans e20
      by_cases c3 : i = 3
      · rw [if_pos c3]
        refine ⟨?_, ?_, f15⟩
        · rw [f19, c3]
          rfl
        · rw [f20, y1 c3, upS_y]
      · rw [if_neg c3]
        refine ⟨f19, ?_, f15⟩
        rw [f20, y2 c3, upS_n (by omega)]
    by_cases c4 : g 4 = 0
    · rw [if_pos (show nI (g 4) = (0 : Int32) by rw [c4]; rfl)]
      by_cases c3 : i = 3
      · rw [if_neg (fun z => by have := w8.mp z; omega)]
        exact fin 1 (by omega) (fun _ => rfl) (fun h => absurd c3 h)
      · rw [if_pos (w8.mpr (by omega))]
        exact fin 0 (by omega) (fun h => absurd h c3) (fun _ => c4.symm)
    · rw [if_neg (show ¬ nI (g 4) = (0 : Int32) from nI_ne0 (by omega) (by omega))]
      exact fin 1 (by omega) (fun _ => rfl) (fun h => by omega)
  by_cases c3 : i = 3
  · rw [if_pos (w9.mpr c3)]
    exact yes (Or.inl c3)
  · rw [if_neg (fun z => c3 (w9.mp z))]
    by_cases c4 : g 4 = 0
    · rw [if_pos (show nI (g 4) = (0 : Int32) by rw [c4]; rfl)]
      exact yes (Or.inr c4)
    · rw [if_neg (show ¬ nI (g 4) = (0 : Int32) from nI_ne0 (by omega) (by omega))]
      exact no2 (by omega)
end RT
