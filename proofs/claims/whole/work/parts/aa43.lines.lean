/-! Lines: what they say; the class's reading of them. -/
abbrev Rs : Type := Nat × Nat × Nat × Sto
def Fl (k q : Nat) : Rs := (k, q, 0, fun _ => 0)
section LN
variable (t : Nat → Nat) (n : Nat)
def nuC (p lo hi : Nat) : Nat := if tyT t n p = 1 then (if lo ≤ vaT t n p ∧ vaT t n p ≤ hi then 0 else 2) else 1
def spL (p : Nat) (T : Sto) : Rs := if tyT t n p = 2 then (0, 0, enT t n p, T) else Fl 1 (stT t n p)
def l5 (p : Nat) (T : Sto) : Rs := if nuC t n p 4 10 = 0 then spL t n (enT t n p) (upS T 140 (vaT t n p)) else Fl (nuC t n p 4 10) (stT t n p)
def l6 (p : Nat) (T : Sto) : Rs := if nuC t n p 1 10 = 0 then spL t n (enT t n p) (upS T 141 (vaT t n p)) else Fl (nuC t n p 1 10) (stT t n p)
def l7 (p : Nat) (T : Sto) : Rs := if kiT t n p = 5 then Fl 1 (stT t n p) else spL t n (enT t n p) (upS T 0 (kiT t n p))
def fxN : Nat → Nat → Nat → Sto → Rs
  | 0, _, _, _ => Fl 1 0
  | f + 1, i, p, T => if kiT t n p = 5 then (if tyT t n p = 2 ∧ ¬ i = 0 then (if i = 8 then (0, 0, enT t n p, T) else Fl 4 (stT t n p)) else Fl 1 (stT t n p)) else if i = 8 then Fl 4 (stT t n p) else fxN f (i + 1) (enT t n p) (upS T (68 + i) (kiT t n p))
def l8 (p : Nat) (T : Sto) : Rs := if nuC t n p 3 (T 140) = 0 then fxN t n 9 0 (enT t n p) (upS T 142 (2 ^ vaT t n p)) else Fl (nuC t n p 3 (T 140)) (stT t n p)
def l9 (q0 p : Nat) (T : Sto) : Rs := if T 1 = 12 then Fl 4 q0 else if nuC t n p 0 (2 ^ T 140 - 1) = 0 then (if nuC t n (enT t n p) (vaT t n p) (2 ^ T 140 - 1) = 0 then (if kiT t n (enT t n (enT t n p)) = 5 then Fl 1 (stT t n (enT t n (enT t n p))) else spL t n (enT t n (enT t n (enT t n p))) (adS T (vaT t n p) (vaT t n (enT t n p)) (kiT t n (enT t n (enT t n p))))) else Fl (nuC t n (enT t n p) (vaT t n p) (2 ^ T 140 - 1)) (stT t n (enT t n p))) else Fl (nuC t n p 0 (2 ^ T 140 - 1)) (stT t n p)
/-- a block by what its size is told -/
def blC (p b : Nat) (T : Sto) : Nat := if tyT t n p = 1 then (if vaT t n p ≤ 1024 ∧ fP (T 140) (nI b) (nI (vaT t n p)) then (if tnS T b (vaT t n p) = 0 then 0 else 3) else 2) else 1
def l10 (q0 p : Nat) (T : Sto) : Rs := if T 141 ≤ csN T (T 141) then Fl 4 q0 else if nuC t n p 0 (2 ^ T 140 - 1) = 0 then (if blC t n (enT t n p) (vaT t n p) T = 0 then (if kiT t n (enT t n (enT t n p)) = 5 then Fl 1 (stT t n (enT t n (enT t n p))) else spL t n (enT t n (enT t n (enT t n p))) (putS T (csN T (T 141)) (vaT t n p) (vaT t n (enT t n p)) (kiT t n (enT t n (enT t n p))))) else Fl (blC t n (enT t n p) (vaT t n p) T) (stT t n (enT t n p))) else Fl (nuC t n p 0 (2 ^ T 140 - 1)) (stT t n p)
def l11 (p : Nat) (T : Sto) : Rs := if nuC t n p 0 (2 ^ T 140 / 16 - 1) = 0 then (if T (76 + vaT t n p) = 5 then (if kiT t n (enT t n p) = 5 then Fl 1 (stT t n (enT t n p)) else spL t n (enT t n (enT t n p)) (upS T (76 + vaT t n p) (kiT t n (enT t n p)))) else Fl 3 (stT t n p)) else Fl (nuC t n p 0 (2 ^ T 140 / 16 - 1)) (stT t n p)
end LN
/-- a store while it is read: all its cells, so many parts -/
def VP (k : Nat) (T : Sto) (M : Mm) (b : Nat) : Prop :=
  (M.1 b 0 = nI (2 ^ T 140) ∧ M.1 b 1 = nI (T 141) ∧ M.1 b 2 = nI (T 0) ∧ M.1 b 3 = nI (T 1) ∧ M.1 b 4 = nI (T 142)) ∧
  (∀ i, i < T 1 → M.1 (b + 1) i = nI (T (2 + 3 * i)) ∧ M.1 (b + 2) i = nI (T (3 + 3 * i)) ∧ M.1 (b + 3) i = nI (T (4 + 3 * i))) ∧
  (0 < T 142 → ∀ p, p < 8 → p < k → M.1 (b + 4) p = nI (T (68 + p))) ∧
  (∀ r, r < 10 → M.1 (b + 5) r = nI (T (38 + 3 * r)) ∧ M.1 (b + 6) r = nI (T (39 + 3 * r)) ∧ M.1 (b + 7) r = nI (T (40 + 3 * r))) ∧
  (∀ p, p < 64 → M.1 (b + 8) p = nI (T (76 + p)))
abbrev VF (T : Sto) (M : Mm) (b : Nat) : Prop := VP 8 T M b
theorem VF.vx {T : Sto} {M : Mm} {b : Nat} (h : VF T M b) (hG : Gd T) : VX T M b := by
  have hA := hG.ad
  have h10 := hG.1.2.2.2.1
  exact ⟨h.1, h.2.1, fun h0 p hp => h.2.2.1 h0 p hp hp, fun r hr => h.2.2.2.1 r (by omega), fun p hp => h.2.2.2.2 p (by omega)⟩
theorem VP.fr {k : Nat} {T : Sto} {M M' : Mm} {b : Nat} (h : VP k T M b) (hf : ∀ c, b ≤ c → c < b + 9 → M'.1 c = M.1 c) : VP k T M' b := by
  unfold VP at h ⊢
  rw [hf b (by omega) (by omega), hf (b + 1) (by omega) (by omega), hf (b + 2) (by omega) (by omega), hf (b + 3) (by omega) (by omega), hf (b + 4) (by omega) (by omega), hf (b + 5) (by omega) (by omega), hf (b + 6) (by omega) (by omega), hf (b + 7) (by omega) (by omega), hf (b + 8) (by omega) (by omega)]
  exact h
/-- only the reader's own cell, not its length and flags -/
def FG (c : Nat) (M M' : Mm) : Prop := (∀ c', c' ≠ c → M'.1 c' = M.1 c') ∧ (∀ j, (j = 1 ∨ 9 ≤ j) → M'.1 c j = M.1 c j) ∧ M'.2 = M.2
theorem FN.fg {c : Nat} {M M' : Mm} (h : FN c M M') : FG c M M' := ⟨h.1, fun j hj => h.2.1 j (by omega) (by omega) (by omega) (by omega), h.2.2⟩
theorem FG.tr {c : Nat} {M M' M'' : Mm} (h : FG c M M') (h' : FG c M' M'') : FG c M M'' := ⟨fun x hx => (h'.1 x hx).trans (h.1 x hx), fun j a1 => (h'.2.1 j a1).trans (h.2.1 j a1), h'.2.2.trans h.2.2⟩
/-- the reader's own cell and its store -/
def RF (c : Nat) (M M' : Mm) : Prop := (∀ c', c' ≠ c → (c' < c + 2 ∨ c + 11 ≤ c') → M'.1 c' = M.1 c') ∧ (∀ j, (j = 1 ∨ 9 ≤ j) → M'.1 c j = M.1 c j) ∧ M'.2 = M.2
theorem FG.rf {c : Nat} {M M' : Mm} (h : FG c M M') : RF c M M' := ⟨fun c' h1 _ => h.1 c' h1, h.2⟩
theorem RF.tr {c : Nat} {M M' M'' : Mm} (h : RF c M M') (h' : RF c M' M'') : RF c M M'' := ⟨fun x h1 h2 => (h'.1 x h1 h2).trans (h.1 x h1 h2), fun j a1 => (h'.2.1 j a1).trans (h.2.1 j a1), h'.2.2.trans h.2.2⟩
theorem RF.of {c : Nat} {M M' : Mm} (h : Fr (c + 2) 9 M M') (h2 : M'.2 = M.2) : RF c M M' := ⟨fun c' h1 h3 => h.at (by omega), fun j _ => by rw [h.at (b := c) (by omega)], h2⟩
/-- what a line left -/
def LX (r : Rs) (M : Mm) (c : Nat) (z : Int32 × Mm) : Prop := (r.1 = 0 → z.1 = nI 1 ∧ z.2.1 c 5 = nI r.2.2.1 ∧ VF r.2.2.2 z.2 (c + 2) ∧ z.2.1 c 2 = M.1 c 2 ∧ z.2.1 c 3 = M.1 c 3) ∧ (¬ r.1 = 0 → z.1 = nI 0 ∧ z.2.1 c 2 = nI r.1 ∧ z.2.1 c 3 = nI r.2.1) ∧ RF c M z.2
theorem LX.fl {k q c : Nat} {M M' : Mm} (hk : ¬ k = 0) (h2 : M'.1 c 2 = nI k) (h3 : M'.1 c 3 = nI q) (hf : RF c M M') : LX (Fl k q) M c (nI 0, M') := ⟨fun z => absurd z hk, fun _ => ⟨rfl, h2, h3⟩, hf⟩
/-- a line's rest, where nothing was told of faults before -/
theorem LX.pre {r : Rs} {c : Nat} {M M' : Mm} {z : Int32 × Mm} (h : LX r M' c z) (hf : RF c M M') (h2 : M'.1 c 2 = M.1 c 2) (h3 : M'.1 c 3 = M.1 c 3) : LX r M c z := ⟨fun e => by
  obtain ⟨a1, a2, a3, a4, a5⟩ := h.1 e
  exact ⟨a1, a2, a3, a4.trans h2, a5.trans h3⟩, h.2.1, hf.tr h.2.2⟩
theorem gd0 {α : Type} (y : Option α) : gd ((0 : Int32) = 0 ∨ (0 : Int32) = 1) y = y := if_pos (Or.inl rfl)
theorem gd1 {α : Type} (y : Option α) : gd ((1 : Int32) = 0 ∨ (1 : Int32) = 1) y = y := if_pos (Or.inr rfl)
theorem gd01 {α : Type} {x : Int32} (hx : x = nI 0 ∨ x = nI 1) (y : Option α) : gd (x = 0 ∨ x = 1) y = y := if_pos hx
theorem LX.g {r : Rs} {c : Nat} {M : Mm} {z : Int32 × Mm} (h : LX r M c z) : z.1 = nI 0 ∨ z.1 = nI 1 := by
  by_cases e : r.1 = 0
  · exact Or.inr (h.1 e).1
  · exact Or.inl (h.2.1 e).1
theorem nuC_0 {t : Nat → Nat} {n p lo hi : Nat} : nuC t n p lo hi = 0 ↔ tyT t n p = 1 ∧ lo ≤ vaT t n p ∧ vaT t n p ≤ hi := by
  unfold nuC
  by_cases c : tyT t n p = 1
  · rw [if_pos c]
    by_cases d : lo ≤ vaT t n p ∧ vaT t n p ≤ hi
    · rw [if_pos d]
      exact ⟨fun _ => ⟨c, d⟩, fun _ => rfl⟩
    · rw [if_neg d]
      exact ⟨fun z => by omega, fun z => absurd z.2 d⟩
  · rw [if_neg c]
    exact ⟨fun z => by omega, fun z => absurd z.1 c⟩
section CL
variable {fu c n p : Nat} {t : Nat → Nat} {M : Mm} {T : Sto}
theorem X7_failed (k q : Nat) (h6 : M.1 c 6 = nI q) : ∃ M', fX7_failed fu c (nI k) M = some (nI 0, M') ∧ M'.1 c 2 = nI k ∧ M'.1 c 3 = nI q ∧ FG c M M' := by
  unfold fX7_failed
  rw [lt_eq, lt_eq, wI_nk (by omega), h6]
  refine ⟨_, rfl, ?_, wI_eq, ⟨fun c' hc => by rw [wI_ne hc, wI_ne hc], fun j hj => by rw [wI_nk (by omega), wI_nk (by omega)], rfl⟩⟩
  rw [wI_nk (by omega), wI_eq]
theorem X7_readNumber (hfu : 200000 ≤ fu) (hT : TpX t n M c) (hp : M.1 c 5 = nI p) (hpn : p ≤ n) {lo hi : Nat} (hlo : lo ≤ 99999) (hhi : hi ≤ 99999) : Wp (fX7_readNumber fu c (nI lo) (nI hi) M) (fun z => (nuC t n p lo hi = 0 ∧ z.1 = nI 1 ∧ TX t n p z.2 c ∧ z.2.1 c 8 = nI (vaT t n p) ∧ FN c M z.2) ∨ (¬ nuC t n p lo hi = 0 ∧ z.1 = nI 0 ∧ z.2.1 c 2 = nI (nuC t n p lo hi) ∧ z.2.1 c 3 = nI (stT t n p) ∧ FG c M z.2)) := by
  have hty := ty_le t n p
  unfold fX7_readNumber
  rw [wp_bm]
  refine (X7_next hfu hT hp hpn).mono fun M1 q => ?_
  obtain ⟨q1, q2⟩ := q
  have n42 : fX7_readNumber_j42 fu M1 = some (nI 1, M1) := by
    unfold fX7_readNumber_j42 fX7_readNumber_j47
    exact gd01 (Or.inr rfl) _
  obtain ⟨M2, f1, f2, f3, f4⟩ := X7_failed (fu := fu) 2 (stT t n p) q1.2.1
  have f1 : fX7_failed fu c 2 M1 = some (nI 0, M2) := f1
  have n34 : fX7_readNumber_j34 fu c M1 = some (nI 0, M2) := by
    unfold fX7_readNumber_j34
    rw [f1, bw_s, if_pos (show nI 0 = (0 : Int32) from rfl)]
    unfold fX7_readNumber_j47
    exact gd01 (Or.inl rfl) _
  rw [q1.2.2.1, n42, n34]
  by_cases c1 : tyT t n p = 1
  · rw [if_pos (show nI (tyT t n p) = (1 : Int32) by rw [c1]; rfl)]
    have bad2 : ¬ (lo ≤ vaT t n p ∧ vaT t n p ≤ hi) → nuC t n p lo hi = 2 := fun z => by
      unfold nuC
      rw [if_pos c1, if_neg z]
    rcases q1.2.2.2 c1 with ⟨v1, v2⟩ | ⟨v1, y, v2, v3, v4⟩
    · rw [v2]
      by_cases c2 : vaT t n p < lo
      · have hb := bad2 (by omega)
        rw [if_pos (nI_lt c2 (by omega)), wp_some]
        exact Or.inr ⟨by omega, rfl, by rw [hb]; exact f2, f3, q2.fg.tr f4⟩
      · rw [if_neg (nI_nlt (by omega) (by omega))]
        by_cases c3 : vaT t n p ≤ hi
        · rw [if_pos (nI_le c3 (by omega)), wp_some]
          exact Or.inl ⟨nuC_0.mpr ⟨c1, by omega, c3⟩, rfl, q1, v2, q2⟩
        · have hb := bad2 (by omega)
          rw [if_neg (nI_ge (by omega) (by omega)), wp_some]
          exact Or.inr ⟨by omega, rfl, by rw [hb]; exact f2, f3, q2.fg.tr f4⟩
    · have hb := bad2 (by omega)
      rw [v4, if_neg (nI_nlt (by omega) (by omega)), if_neg (nI_ge (by omega) (by omega)), wp_some]
      exact Or.inr ⟨by omega, rfl, by rw [hb]; exact f2, f3, q2.fg.tr f4⟩
  · have hb : nuC t n p lo hi = 1 := if_neg c1
    obtain ⟨M3, g1, g2, g3, g4⟩ := X7_failed (fu := fu) 1 (stT t n p) q1.2.1
    have g1 : fX7_failed fu c 1 M1 = some (nI 0, M3) := g1
    rw [if_neg (show ¬ nI (tyT t n p) = (1 : Int32) from fun z => c1 ((nI_eq (a := tyT t n p) (b := 1) (by omega) (by omega)).mp z)), g1, bw_s, gd01 (Or.inl rfl), wp_some]
    exact Or.inr ⟨by omega, rfl, by rw [hb]; exact g2, g3, q2.fg.tr g4⟩
theorem X7_readStop (hfu : 200000 ≤ fu) (hT : TpX t n M c) (hp : M.1 c 5 = nI p) (hpn : p ≤ n) (hV : VF T M (c + 2)) : Wp (fX7_readStop fu c M) (LX (spL t n p T) M c) := by
  have hty := ty_le t n p
  unfold fX7_readStop spL
  rw [wp_bm]
  refine (X7_next hfu hT hp hpn).mono fun M1 q => ?_
  obtain ⟨q1, q2⟩ := q
  have n20 : fX7_readStop_j20 fu M1 = some (nI 1, M1) := by
    unfold fX7_readStop_j20 fX7_readStop_j25
    exact gd01 (Or.inr rfl) _
  rw [q1.2.2.1, n20]
  by_cases c2 : tyT t n p = 2
  · rw [if_pos (show nI (tyT t n p) = (2 : Int32) by rw [c2]; rfl), if_pos c2, wp_some]
    exact ⟨fun _ => ⟨rfl, q1.1, VP.fr hV fun c' k1 k2 => q2.1 c' (by omega), q2.2.1 2 (by omega) (by omega) (by omega) (by omega), q2.2.1 3 (by omega) (by omega) (by omega) (by omega)⟩, fun z => absurd rfl z, q2.fg.rf⟩
  · obtain ⟨M3, g1, g2, g3, g4⟩ := X7_failed (fu := fu) 1 (stT t n p) q1.2.1
    have g1 : fX7_failed fu c 1 M1 = some (nI 0, M3) := g1
    rw [if_neg (show ¬ nI (tyT t n p) = (2 : Int32) from fun z => c2 ((nI_eq (a := tyT t n p) (b := 2) (by omega) (by omega)).mp z)), if_neg c2, g1, bw_s, if_pos (show nI 0 = (0 : Int32) from rfl)]
    unfold fX7_readStop_j25
    rw [gd0, wp_some]
    exact LX.fl (by omega) g2 g3 (q2.fg.tr g4).rf
theorem kiI_m {t : Nat → Nat} {n p : Nat} : kiI t n p = (-1 : Int32) ↔ kiT t n p = 5 := by
  have h := kiT_le t n p
  unfold kiI
  by_cases c : kiT t n p = 5
  · rw [if_pos c]
    exact ⟨fun _ => c, fun _ => rfl⟩
  · rw [if_neg c]
    refine ⟨fun z => ?_, fun z => absurd z c⟩
    rw [zi_m1, zi_eq_m (by omega)] at z
    exact absurd z id
theorem kiI_n {t : Nat → Nat} {n p : Nat} (h : ¬ kiT t n p = 5) : kiI t n p = nI (kiT t n p) := if_neg h
end CL
