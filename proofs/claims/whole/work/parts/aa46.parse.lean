/-! A whole text: numbers alone. -/
theorem csN_cg {S S' : Sto} : ∀ n, (∀ r, r < n → S' (39 + 3 * r) = S (39 + 3 * r)) → csN S' n = csN S n
  | 0, _ => rfl
  | n + 1, h => by
    unfold csN
    rw [csN_cg n (fun r hr => h r (by omega)), h n (by omega)]
theorem csN_0 {S : Sto} : ∀ n, (∀ r, r < n → S (39 + 3 * r) = 0) → csN S n = 0
  | 0, _ => rfl
  | n + 1, h => by
    unfold csN
    rw [csN_0 n (fun r hr => h r (by omega)), h n (by omega), if_pos rfl]
theorem csN_mo (S : Sto) : ∀ n k, csN S n ≤ csN S (n + k)
  | n, 0 => Nat.le_refl _
  | n, k + 1 => by
    have := csN_mo S n k
    show csN S n ≤ csN S (n + k) + _
    omega
theorem csN_all (S : Sto) : ∀ n, csN S n = n → ∀ r, r < n → ¬ S (39 + 3 * r) = 0
  | 0, _, _, h => absurd h (by omega)
  | n + 1, e, r, hr => by
    unfold csN at e
    have hl := csN_le S n
    by_cases c : S (39 + 3 * n) = 0
    · rw [if_pos c] at e
      omega
    · rw [if_neg c] at e
      by_cases c2 : r = n
      · subst c2; exact c
      · exact csN_all S n (by omega) r (by omega)
theorem csN_cut {S : Sto} {c : Nat} : ∀ k, (∀ r, c ≤ r → r < c + k → S (39 + 3 * r) = 0) → csN S (c + k) = csN S c
  | 0, _ => rfl
  | k + 1, h => by
    show csN S (c + k) + (if S (39 + 3 * (c + k)) = 0 then 0 else 1) = _
    rw [csN_cut k (fun r h1 h2 => h r h1 (by omega)), if_pos (h (c + k) (by omega) (by omega))]
    rfl
/-- what a store keeps to while it is read -/
def QI (T : Sto) : Prop := Gd T ∧ (∀ p, p < 64 → T (76 + p) ≤ 5) ∧ (∀ r, csN T (T 141) ≤ r → r < 10 → T (38 + 3 * r) = 0 ∧ T (39 + 3 * r) = 0 ∧ T (40 + 3 * r) = 0)
def PI (g : Nat → Nat) (T : Sto) : Prop := QI T ∧ (∀ j, j < 5 → g j ≤ 1) ∧ (g 3 = 0 → T 142 = 0 ∧ ∀ p, p < 8 → T (68 + p) = 0) ∧ (g 4 = 0 → T 1 = 0 ∧ g 3 = 0 ∧ csN T (T 141) = 0 ∧ ∀ p, p < 64 → T (76 + p) = 5)
/-- the registers told stand first -/
theorem QI.fst {T : Sto} (h : QI T) : ∀ r, r < csN T (T 141) → ¬ T (39 + 3 * r) = 0 := by
  have hl := csN_le T (T 141)
  have h10 := h.1.1.2.2.2.1
  have e := csN_cut (S := T) (c := csN T (T 141)) (T 141 - csN T (T 141)) (fun r h1 h2 => (h.2.2 r h1 (by omega)).2.1)
  rw [show csN T (T 141) + (T 141 - csN T (T 141)) = T 141 by omega] at e
  exact csN_all T _ e.symm
theorem QI.cg {T T' : Sto} (h : QI T) (hG : Gd T') (h1 : T' 141 = T 141) (h2 : ∀ j, 38 ≤ j → j < 68 → T' j = T j) (h3 : ∀ p, p < 64 → T' (76 + p) ≤ 5) : QI T' := by
  have h10 := h.1.1.2.2.2.1
  have e : csN T' (T' 141) = csN T (T 141) := by
    rw [h1]
    exact csN_cg _ fun r hr => h2 _ (by omega) (by omega)
  refine ⟨hG, h3, fun r k1 k2 => ?_⟩
  rw [e] at k1
  rw [h2 _ (by omega) (by omega), h2 _ (by omega) (by omega), h2 _ (by omega) (by omega)]
  exact h.2.2 r k1 k2
section PS
variable {T : Sto} {g : Nat → Nat}
theorem PI.l5 (h : PI g T) (h4 : g 4 = 0) {v : Nat} (h1 : 4 ≤ v) (h2 : v ≤ 10) : PI (upS g 0 1) (upS T 140 v) := by
  obtain ⟨hQ, hg, h3, h4'⟩ := h
  obtain ⟨a1, a2, a3, a4⟩ := h4' h4
  obtain ⟨b1, b2⟩ := h3 a2
  have e : ∀ j, j ≠ 140 → upS T 140 v j = T j := fun j hj => upS_n hj
  have hA : 2 ^ v ≤ 2 ^ 10 := Nat.pow_le_pow_right (by decide) h2
  have hz := hQ.2.2
  rw [a3] at hz
  have hgd := hQ.1.1
  have hG : Gd (upS T 140 v) := by
    unfold Gd
    rw [upS_y, e 141 (by omega), e 0 (by omega), e 1 (by omega), e 142 (by omega)]
    refine ⟨⟨h1, h2, hgd.2.2.1, hgd.2.2.2.1, hgd.2.2.2.2.1, hgd.2.2.2.2.2⟩, upS_l hQ.1 (by omega), Or.inl b1, fun i hi => by omega, fun r hr => ?_, fun r q hr hq hrq h0 => ?_, fun z => by omega, fun p hp => ?_⟩
    · rw [e _ (by omega), e _ (by omega), e _ (by omega)]
      exact Or.inl (hz r (by omega) (by omega))
    · rw [e _ (by omega), (hz r (by omega) (by omega)).2.1] at h0
      omega
    · rw [e _ (by omega), a4 p (by omega)]
      omega
  have hQ' : QI (upS T 140 v) := hQ.cg hG (e _ (by omega)) (fun j h1 h2 => e _ (by omega)) (fun p hp => by rw [e _ (by omega)]; exact hQ.2.1 p hp)
  refine ⟨hQ', fun j hj => ?_, fun _ => ⟨by rw [e _ (by omega)]; exact b1, fun p hp => by rw [e _ (by omega)]; exact b2 p hp⟩, fun _ => ⟨by rw [e _ (by omega)]; exact a1, by rw [upS_n (by omega)]; exact a2, ?_, fun p hp => by rw [e _ (by omega)]; exact a4 p hp⟩⟩
  · by_cases c : j = 0
    · rw [c, upS_y]; omega
    · rw [upS_n c]; exact hg j hj
  · rw [e _ (by omega), csN_cg _ (fun r hr => e _ (by omega))]
    exact a3
theorem PI.l6 (h : PI g T) (h4 : g 4 = 0) {v : Nat} (h1 : 1 ≤ v) (h2 : v ≤ 10) : PI (upS g 1 1) (upS T 141 v) := by
  obtain ⟨hQ, hg, h3, h4'⟩ := h
  obtain ⟨a1, a2, a3, a4⟩ := h4' h4
  obtain ⟨b1, b2⟩ := h3 a2
  have e : ∀ j, j ≠ 141 → upS T 141 v j = T j := fun j hj => upS_n hj
  have hA := hQ.1.ad
  have hz := hQ.2.2
  rw [a3] at hz
  have hgd := hQ.1.1
  have hc : csN (upS T 141 v) (upS T 141 v 141) = 0 := by
    rw [upS_y]
    exact csN_0 _ fun r hr => by rw [e _ (by omega)]; exact (hz r (by omega) (by omega)).2.1
  have hG : Gd (upS T 141 v) := by
    unfold Gd
    rw [upS_y, e 140 (by omega), e 0 (by omega), e 1 (by omega), e 142 (by omega)]
    refine ⟨⟨hgd.1, hgd.2.1, h1, h2, hgd.2.2.2.2.1, hgd.2.2.2.2.2⟩, upS_l hQ.1 (by omega), Or.inl b1, fun i hi => by omega, fun r hr => ?_, fun r q hr hq hrq h0 => ?_, fun z => by omega, fun p hp => ?_⟩
    · rw [e _ (by omega), e _ (by omega), e _ (by omega)]
      exact Or.inl (hz r (by omega) (by omega))
    · rw [e _ (by omega), (hz r (by omega) (by omega)).2.1] at h0
      omega
    · rw [e _ (by omega), a4 p (by omega)]
      omega
  refine ⟨⟨hG, fun p hp => by rw [e _ (by omega)]; exact hQ.2.1 p hp, fun r k1 k2 => ?_⟩, fun j hj => ?_, fun _ => ⟨by rw [e _ (by omega)]; exact b1, fun p hp => by rw [e _ (by omega)]; exact b2 p hp⟩, fun _ => ⟨by rw [e _ (by omega)]; exact a1, by rw [upS_n (by omega)]; exact a2, hc, fun p hp => by rw [e _ (by omega)]; exact a4 p hp⟩⟩
  · rw [e _ (by omega), e _ (by omega), e _ (by omega)]
    exact hz r (by omega) k2
  · by_cases c : j = 1
    · rw [c, upS_y]; omega
    · rw [upS_n c]; exact hg j hj
theorem PI.l7 (h : PI g T) {v : Nat} (hv : v < 5) : PI (upS g 2 1) (upS T 0 v) := by
  obtain ⟨hQ, hg, h3, h4⟩ := h
  have e : ∀ j, j ≠ 0 → upS T 0 v j = T j := fun j hj => upS_n hj
  have h10 := hQ.1.1.2.2.2.1
  refine ⟨hQ.cg (hQ.1.upd0 hv) (e _ (by omega)) (fun j h1 h2 => e _ (by omega)) (fun p hp => by rw [e _ (by omega)]; exact hQ.2.1 p hp), fun j hj => ?_, fun z => ?_, fun z => ?_⟩
  · by_cases c : j = 2
    · rw [c, upS_y]; omega
    · rw [upS_n c]; exact hg j hj
  · rw [upS_n (by omega)] at z
    obtain ⟨b1, b2⟩ := h3 z
    exact ⟨by rw [e _ (by omega)]; exact b1, fun p hp => by rw [e _ (by omega)]; exact b2 p hp⟩
  · rw [upS_n (by omega)] at z
    obtain ⟨a1, a2, a3, a4⟩ := h4 z
    exact ⟨by rw [e _ (by omega)]; exact a1, by rw [upS_n (by omega)]; exact a2, by rw [e _ (by omega), csN_cg _ (fun r hr => e _ (by omega))]; exact a3, fun p hp => by rw [e _ (by omega)]; exact a4 p hp⟩
theorem PI.l8 (h : PI g T) (h3 : g 3 = 0) {v : Nat} (h1 : 3 ≤ v) (h2 : v ≤ T 140) : QI (upS T 142 (2 ^ v)) := by
  obtain ⟨hQ, hg, h3', h4⟩ := h
  obtain ⟨b1, b2⟩ := h3' h3
  have e : ∀ j, j ≠ 142 → upS T 142 (2 ^ v) j = T j := fun j hj => upS_n hj
  have hA : 2 ^ v ≤ 2 ^ 10 := Nat.pow_le_pow_right (by decide) (by have := hQ.1.1.2.1; omega)
  have h10 := hQ.1.1.2.2.2.1
  have hp4 := hQ.1.1.2.1
  have hpa : 2 ^ T 140 / 16 ≤ 64 := by have := hQ.1.ad; omega
  refine hQ.cg ?_ (e _ (by omega)) (fun j h1 h2 => e _ (by omega)) (fun p hp => by rw [e _ (by omega)]; exact hQ.2.1 p hp)
  obtain ⟨⟨c1, c2, c3, c4, c5, c6⟩, d1, d2, d3, d4, d5, d6, d7⟩ := hQ.1
  unfold Gd
  rw [upS_y, e 140 (by omega), e 141 (by omega), e 0 (by omega), e 1 (by omega)]
  refine ⟨⟨c1, c2, c3, c4, c5, c6⟩, upS_l hQ.1 (by omega), Or.inr ⟨v, h1, h2, rfl⟩, fun i hi => ?_, fun r hr => ?_, fun r q hr hq => ?_, fun _ p hp => ?_, fun p hp => ?_⟩
  · rw [e _ (by omega), e _ (by omega), e _ (by omega)]
    exact d3 i hi
  · rw [e _ (by omega), e _ (by omega), e _ (by omega)]
    exact d4 r hr
  · rw [e _ (by omega), e _ (by omega), e _ (by omega), e _ (by omega)]
    exact d5 r q hr hq
  · rw [e _ (by omega), b2 p hp]
    omega
  · rw [e _ (by omega)]
    exact d7 p hp
theorem QI.up (h : QI T) {i v : Nat} (hi : i < 8) (hv : v < 5) : QI (upS T (68 + i) v) :=
  h.cg (h.1.up68 hi hv) (upS_n (by omega)) (fun j h1 h2 => upS_n (by omega)) (fun p hp => by rw [upS_n (by omega)]; exact h.2.1 p hp)
/-- a body line -/
theorem PI.bd {T' : Sto} (h : PI g T) (hQ : QI T') (h1 : T' 142 = T 142) (h2 : ∀ p, p < 8 → T' (68 + p) = T (68 + p)) : PI (upS g 4 1) T' := by
  refine ⟨hQ, fun j hj => ?_, fun z => ?_, fun z => ?_⟩
  · by_cases c : j = 4
    · rw [c, upS_y]; omega
    · rw [upS_n c]; exact h.2.1 j hj
  · rw [upS_n (by omega)] at z
    obtain ⟨b1, b2⟩ := h.2.2.1 z
    exact ⟨h1.trans b1, fun p hp => (h2 p hp).trans (b2 p hp)⟩
  · rw [upS_y] at z
    omega
theorem PI.fx {T' : Sto} (h : PI g T) (hQ : QI T') : PI (upS (upS g 3 1) 4 1) T' := by
  refine ⟨hQ, fun j hj => ?_, fun z => ?_, fun z => ?_⟩
  · by_cases c : j = 4
    · rw [c, upS_y]; omega
    · rw [upS_n c]
      by_cases c : j = 3
      · rw [c, upS_y]; omega
      · rw [upS_n c]; exact h.2.1 j hj
  · rw [upS_n (by omega), upS_y] at z
    omega
  · rw [upS_y] at z
    omega
theorem QI.l10 (h : QI T) {b s k : Nat} (hc : csN T (T 141) < T 141) (hb : b ≤ 1024) (hs : s ≤ 1024) (hf : fP (T 140) (nI b) (nI s)) (ht : tnS T b s = 0) (hk : k < 5) : QI (putS T (csN T (T 141)) b s k) := by
  have h10 := h.1.1.2.2.2.1
  obtain ⟨e, q, f1, f2, f3, f4⟩ := fP_of h.1.1.2.1 hf
  have hA := h.1.ad
  have f2 : s = 2 ^ e := (nI_eq (by omega) (by omega)).mp f2
  have f3 : b = q * 2 ^ e := (nI_eq (by omega) (by omega)).mp f3
  have hs0 : 0 < s := by rw [f2]; exact Nat.two_pow_pos e
  have hG : Gd (putS T (csN T (T 141)) b s k) := h.1.put hc (Or.inr ⟨hk, e, f1, f2, q, f3, by omega⟩) (fun _ r hr _ => tnS_0.mp ht r hr)
  have e141 : putS T (csN T (T 141)) b s k 141 = T 141 := putS_e (by omega) _ (by omega)
  have ec : csN (putS T (csN T (T 141)) b s k) (T 141) = csN T (T 141) + 1 := by
    have a1 := csN_cut (S := putS T (csN T (T 141)) b s k) (c := csN T (T 141) + 1) (T 141 - (csN T (T 141) + 1)) (fun r h1 h2 => by
      rw [(putS_n T b s k (show r ≠ csN T (T 141) by omega)).2.1]
      exact (h.2.2 r (by omega) (by omega)).2.1)
    rw [show csN T (T 141) + 1 + (T 141 - (csN T (T 141) + 1)) = T 141 by omega] at a1
    rw [a1]
    show csN (putS T (csN T (T 141)) b s k) (csN T (T 141)) + (if putS T (csN T (T 141)) b s k (39 + 3 * csN T (T 141)) = 0 then 0 else 1) = _
    rw [(putS_y T _ b s k).2.1, if_neg (by omega), csN_cg (S := T) _ (fun r hr => (putS_n T b s k (show r ≠ csN T (T 141) by omega)).2.1)]
    have a2 := csN_cut (S := T) (c := csN T (T 141)) (T 141 - csN T (T 141)) (fun r h1 h2 => (h.2.2 r h1 (by omega)).2.1)
    rw [show csN T (T 141) + (T 141 - csN T (T 141)) = T 141 by omega] at a2
    omega
  refine ⟨hG, fun p hp => by rw [putS_e (by omega) _ (by omega)]; exact h.2.1 p hp, fun r k1 k2 => ?_⟩
  rw [e141, ec] at k1
  obtain ⟨p1, p2, p3⟩ := putS_n T b s k (show r ≠ csN T (T 141) by omega)
  rw [p1, p2, p3]
  exact h.2.2 r (by omega) k2
end PS
/-- a line read well -/
def Ok (n p : Nat) (P : Sto → Prop) (r : Rs) : Prop := r.1 = 0 → P r.2.2.2 ∧ p < r.2.2.1 ∧ r.2.2.1 ≤ n
theorem Ok.fl {n p k q : Nat} {P : Sto → Prop} (hk : ¬ k = 0) : Ok n p P (Fl k q) := fun z => absurd z hk
section PT
variable (t : Nat → Nat) (n : Nat)
def lnR (p : Nat) (g : Nat → Nat) (T : Sto) : Rs :=
  if kwP t n p 5 then (if g 0 = 0 ∧ g 4 = 0 then l5 t n (enT t n p) T else Fl 3 (stT t n p)) else
  if kwP t n p 6 then (if g 1 = 0 ∧ g 4 = 0 then l6 t n (enT t n p) T else Fl 3 (stT t n p)) else
  if kwP t n p 7 then (if g 2 = 0 ∧ g 4 = 0 then l7 t n (enT t n p) T else Fl 3 (stT t n p)) else
  if kwP t n p 8 then (if g 3 = 0 then l8 t n (enT t n p) T else Fl 3 (stT t n p)) else
  if kwP t n p 9 then l9 t n (stT t n p) (enT t n p) T else
  if kwP t n p 10 then l10 t n (stT t n p) (enT t n p) T else
  if kwP t n p 11 then l11 t n (enT t n p) T else Fl 1 (stT t n p)
def lnF (p : Nat) (g : Nat → Nat) : Nat → Nat :=
  if kwP t n p 5 then upS g 0 1 else if kwP t n p 6 then upS g 1 1 else if kwP t n p 7 then upS g 2 1 else if kwP t n p 8 then upS (upS g 3 1) 4 1 else upS g 4 1
def prN : Nat → Nat → (Nat → Nat) → Sto → Rs
  | 0, _, _, _ => Fl 1 0
  | f + 1, p, g, T => if tyT t n p = 4 then (0, 0, 0, T) else if (lnR t n p g T).1 = 0 then prN f (lnR t n p g T).2.2.1 (lnF t n p g) (lnR t n p g T).2.2.2 else lnR t n p g T
def tzS : Sto := fun j => if j = 140 then 8 else if j = 141 then 8 else if 76 ≤ j ∧ j < 140 then 5 else 0
def prS : Rs := prN t n 801 0 (fun _ => 0) tzS
end PT
section PU
variable {t : Nat → Nat} {n p : Nat} {T : Sto} {g : Nat → Nat}
theorem Ok.sp {P : Sto → Prop} {p0 : Nat} (h : P T) (hp : p0 ≤ p) (hpn : p ≤ n) : Ok n p0 P (spL t n p T) := by
  unfold spL
  by_cases c : tyT t n p = 2
  · rw [if_pos c]
    have := en_gt (t := t) (n := n) (p := p) (by omega)
    exact fun _ => ⟨h, show p0 < enT t n p by omega, show enT t n p ≤ n by omega⟩
  · rw [if_neg c]
    exact Ok.fl (by omega)
theorem Ok.fx {p0 : Nat} : ∀ f i, i ≤ 8 → ∀ p T, p0 ≤ p → p ≤ n → QI T → Ok n p0 QI (fxN t n f i p T)
  | 0, _, _, _, _, _, _, _ => Ok.fl (by omega)
  | f + 1, i, hi, p, T, hp, hpn, h => by
    have hk5 := kiT_le t n p
    have hen := en_le (t := t) hpn
    unfold fxN
    by_cases ck : kiT t n p = 5
    · rw [if_pos ck]
      by_cases c2 : tyT t n p = 2 ∧ ¬ i = 0
      · rw [if_pos c2]
        by_cases c8 : i = 8
        · rw [if_pos c8]
          have := en_gt (t := t) (n := n) (p := p) (by omega)
          exact fun _ => ⟨h, show p0 < enT t n p by omega, show enT t n p ≤ n by omega⟩
        · rw [if_neg c8]
          exact Ok.fl (by omega)
      · rw [if_neg c2]
        exact Ok.fl (by omega)
    · rw [if_neg ck]
      by_cases c8 : i = 8
      · rw [if_pos c8]
        exact Ok.fl (by omega)
      · rw [if_neg c8]
        exact Ok.fx f (i + 1) (by omega) _ _ (by omega) hen.2 (h.up (by omega) (by omega))
theorem lnR_ok (hpn : p ≤ n) (h : PI g T) : Ok n p (PI (lnF t n p g)) (lnR t n p g T) := by
  have hen := en_le (t := t) hpn
  have hQ := h.1
  have hG := hQ.1
  have hA := hG.ad
  have h12 := hG.1.2.2.2.2.2
  unfold lnR lnF
  have e1 := en_le (t := t) hen.2
  have e2 := en_le (t := t) e1.2
  have e3 := en_le (t := t) e2.2
  have k1 := kiT_le t n (enT t n p)
  have k2 := kiT_le t n (enT t n (enT t n p))
  have k3 := kiT_le t n (enT t n (enT t n (enT t n p)))
  by_cases c5 : kwP t n p 5
  · rw [if_pos c5, if_pos c5]
    by_cases d : g 0 = 0 ∧ g 4 = 0
    · rw [if_pos d]
      unfold l5
      by_cases e : nuC t n (enT t n p) 4 10 = 0
      · rw [if_pos e]
        obtain ⟨u1, u2, u3⟩ := nuC_0.mp e
        exact Ok.sp (h.l5 d.2 u2 u3) (by omega) (by omega)
      · rw [if_neg e]
        exact Ok.fl e
    · rw [if_neg d]
      exact Ok.fl (by omega)
  rw [if_neg c5, if_neg c5]
  by_cases c6 : kwP t n p 6
  · rw [if_pos c6, if_pos c6]
    by_cases d : g 1 = 0 ∧ g 4 = 0
    · rw [if_pos d]
      unfold l6
      by_cases e : nuC t n (enT t n p) 1 10 = 0
      · rw [if_pos e]
        obtain ⟨u1, u2, u3⟩ := nuC_0.mp e
        exact Ok.sp (h.l6 d.2 u2 u3) (by omega) (by omega)
      · rw [if_neg e]
        exact Ok.fl e
    · rw [if_neg d]
      exact Ok.fl (by omega)
  rw [if_neg c6, if_neg c6]
  by_cases c7 : kwP t n p 7
  · rw [if_pos c7, if_pos c7]
    by_cases d : g 2 = 0 ∧ g 4 = 0
    · rw [if_pos d]
      unfold l7
      by_cases e : kiT t n (enT t n p) = 5
      · rw [if_pos e]
        exact Ok.fl (by omega)
      · rw [if_neg e]
        exact Ok.sp (h.l7 (by omega)) (by omega) (by omega)
    · rw [if_neg d]
      exact Ok.fl (by omega)
  rw [if_neg c7, if_neg c7]
  by_cases c8 : kwP t n p 8
  · rw [if_pos c8, if_pos c8]
    by_cases d : g 3 = 0
    · rw [if_pos d]
      unfold l8
      by_cases e : nuC t n (enT t n p) 3 (T 140) = 0
      · rw [if_pos e]
        obtain ⟨u1, u2, u3⟩ := nuC_0.mp e
        have hQ2 := h.l8 d u2 u3
        have := Ok.fx (t := t) (p0 := p) 9 0 (by omega) (enT t n (enT t n p)) _ (by omega) e1.2 hQ2
        exact fun z => ⟨h.fx (this z).1, (this z).2⟩
      · rw [if_neg e]
        exact Ok.fl e
    · rw [if_neg d]
      exact Ok.fl (by omega)
  rw [if_neg c8, if_neg c8]
  by_cases c9 : kwP t n p 9
  · rw [if_pos c9]
    unfold l9
    by_cases d : T 1 = 12
    · rw [if_pos d]
      exact Ok.fl (by omega)
    rw [if_neg d]
    by_cases e : nuC t n (enT t n p) 0 (2 ^ T 140 - 1) = 0
    · rw [if_pos e]
      obtain ⟨u1, u2, u3⟩ := nuC_0.mp e
      by_cases e' : nuC t n (enT t n (enT t n p)) (vaT t n (enT t n p)) (2 ^ T 140 - 1) = 0
      · rw [if_pos e']
        obtain ⟨v1, v2, v3⟩ := nuC_0.mp e'
        by_cases ek : kiT t n (enT t n (enT t n (enT t n p))) = 5
        · rw [if_pos ek]
          exact Ok.fl (by omega)
        · rw [if_neg ek]
          have ae := adS_e (show T 1 < 12 by omega) (vaT t n (enT t n p)) (vaT t n (enT t n (enT t n p))) (kiT t n (enT t n (enT t n (enT t n p))))
          refine Ok.sp (h.bd (hQ.cg (hG.ads (by omega) v2 (by omega) (by omega)) (ae _ (by omega)) (fun j h1 h2 => ae _ (by omega)) (fun p hp => by rw [ae _ (by omega)]; exact hQ.2.1 p hp)) (ae _ (by omega)) (fun p hp => ae _ (by omega))) (by omega) (by omega)
      · rw [if_neg e']
        exact Ok.fl e'
    · rw [if_neg e]
      exact Ok.fl e
  rw [if_neg c9]
  by_cases c10 : kwP t n p 10
  · rw [if_pos c10]
    unfold l10
    by_cases d : T 141 ≤ csN T (T 141)
    · rw [if_pos d]
      exact Ok.fl (by omega)
    rw [if_neg d]
    by_cases e : nuC t n (enT t n p) 0 (2 ^ T 140 - 1) = 0
    · rw [if_pos e]
      obtain ⟨u1, u2, u3⟩ := nuC_0.mp e
      by_cases e' : blC t n (enT t n (enT t n p)) (vaT t n (enT t n p)) T = 0
      · rw [if_pos e']
        by_cases ek : kiT t n (enT t n (enT t n (enT t n p))) = 5
        · rw [if_pos ek]
          exact Ok.fl (by omega)
        · rw [if_neg ek]
          unfold blC at e'
          by_cases f1 : tyT t n (enT t n (enT t n p)) = 1
          · rw [if_pos f1] at e'
            by_cases f2 : vaT t n (enT t n (enT t n p)) ≤ 1024 ∧ fP (T 140) (nI (vaT t n (enT t n p))) (nI (vaT t n (enT t n (enT t n p))))
            · rw [if_pos f2] at e'
              by_cases f3 : tnS T (vaT t n (enT t n p)) (vaT t n (enT t n (enT t n p))) = 0
              · have h10 := hG.1.2.2.2.1
                exact Ok.sp (h.bd (hQ.l10 (by omega) (by omega) f2.1 f2.2 f3 (by omega)) (putS_e (by omega) _ (by omega)) (fun p hp => putS_e (by omega) _ (by omega))) (by omega) (by omega)
              · rw [if_neg f3] at e'
                omega
            · rw [if_neg f2] at e'
              omega
          · rw [if_neg f1] at e'
            omega
      · rw [if_neg e']
        exact Ok.fl e'
    · rw [if_neg e]
      exact Ok.fl e
  rw [if_neg c10]
  by_cases c11 : kwP t n p 11
  · rw [if_pos c11]
    unfold l11
    by_cases e : nuC t n (enT t n p) 0 (2 ^ T 140 / 16 - 1) = 0
    · rw [if_pos e]
      obtain ⟨u1, u2, u3⟩ := nuC_0.mp e
      by_cases d : T (76 + vaT t n (enT t n p)) = 5
      · rw [if_pos d]
        by_cases ek : kiT t n (enT t n (enT t n p)) = 5
        · rw [if_pos ek]
          exact Ok.fl (by omega)
        · rw [if_neg ek]
          refine Ok.sp (h.bd (hQ.cg (hG.up76 (by omega) (by omega)) (upS_n (by omega)) (fun j h1 h2 => upS_n (by omega)) (fun q hq => ?_)) (upS_n (by omega)) (fun p hp => upS_n (by omega))) (by omega) (by omega)
          by_cases cq : q = vaT t n (enT t n p)
          · rw [cq, upS_y]
            omega
          · rw [upS_n (by omega)]
            exact hQ.2.1 q hq
      · rw [if_neg d]
        exact Ok.fl (by omega)
    · rw [if_neg e]
      exact Ok.fl e
  rw [if_neg c11]
  exact Ok.fl (by omega)
theorem tzS_pi : PI (fun _ => 0) tzS := by
  have z : ∀ j, j ≠ 140 → j ≠ 141 → ¬ (76 ≤ j ∧ j < 140) → tzS j = 0 := fun j h1 h2 h3 => by
    unfold tzS
    rw [if_neg h1, if_neg h2, if_neg h3]
  have f : ∀ p, p < 64 → tzS (76 + p) = 5 := fun p hp => by
    unfold tzS
    rw [if_neg (by omega), if_neg (by omega), if_pos (by omega)]
  have e0 : tzS 140 = 8 := rfl
  have e1 : tzS 141 = 8 := rfl
  have hc : csN tzS (tzS 141) = 0 := by
    rw [e1]
    exact csN_0 _ fun r hr => z _ (by omega) (by omega) (by omega)
  have hG : Gd tzS := by
    unfold Gd
    rw [e0, e1, z 0 (by omega) (by omega) (by omega), z 1 (by omega) (by omega) (by omega), z 142 (by omega) (by omega) (by omega)]
    refine ⟨by omega, fun k => ?_, Or.inl rfl, fun i hi => by omega, fun r hr => Or.inl ⟨z _ (by omega) (by omega) (by omega), z _ (by omega) (by omega) (by omega), z _ (by omega) (by omega) (by omega)⟩, fun r q hr hq _ h0 => ?_, fun h => by omega, fun p hp => by rw [f p (by omega)]; omega⟩
    · unfold tzS
      split
      · omega
      · split
        · omega
        · split <;> omega
    · rw [z _ (by omega) (by omega) (by omega)] at h0
      omega
  refine ⟨⟨hG, fun p hp => by rw [f p hp]; omega, fun r _ h2 => ⟨z _ (by omega) (by omega) (by omega), z _ (by omega) (by omega) (by omega), z _ (by omega) (by omega) (by omega)⟩⟩, fun j _ => Nat.zero_le 1, fun _ => ⟨z _ (by omega) (by omega) (by omega), fun p hp => z _ (by omega) (by omega) (by omega)⟩, fun _ => ⟨z _ (by omega) (by omega) (by omega), rfl, hc, f⟩⟩
end PU
