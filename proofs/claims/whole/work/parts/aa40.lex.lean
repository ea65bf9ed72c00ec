/-! Tokens: numbers alone, the class's reading of them. -/
def runN (P : Nat → Prop) [DecidablePred P] (n : Nat) : Nat → Nat → Nat
  | 0, p => p
  | f + 1, p => if p < n ∧ P p then runN P n f (p + 1) else p
def rnE (P : Nat → Prop) [DecidablePred P] (n p : Nat) : Nat := runN P n (n - p) p
theorem runN_ok (P : Nat → Prop) [DecidablePred P] (n : Nat) : ∀ f p, n - p ≤ f → p ≤ runN P n f p ∧ (∀ j, p ≤ j → j < runN P n f p → j < n ∧ P j) ∧ ¬ (runN P n f p < n ∧ P (runN P n f p)) ∧ (p ≤ n → runN P n f p ≤ n)
  | 0, p, h => ⟨Nat.le_refl _, fun j h1 h2 => by unfold runN at h2; omega, fun z => by unfold runN at z; omega, fun z => z⟩
  | f + 1, p, h => by
    unfold runN
    by_cases c : p < n ∧ P p
    · rw [if_pos c]
      obtain ⟨h1, h2, h3, h4⟩ := runN_ok P n f (p + 1) (by omega)
      refine ⟨by omega, fun j k1 k2 => ?_, h3, fun _ => h4 (by omega)⟩
      by_cases e : j = p
      · subst e; exact c
      · exact h2 j (by omega) k2
    · rw [if_neg c]
      exact ⟨Nat.le_refl _, fun j h1 h2 => by omega, c, fun z => z⟩
theorem rnE_ok (P : Nat → Prop) [DecidablePred P] (n p : Nat) : p ≤ rnE P n p ∧ (∀ j, p ≤ j → j < rnE P n p → j < n ∧ P j) ∧ ¬ (rnE P n p < n ∧ P (rnE P n p)) ∧ (p ≤ n → rnE P n p ≤ n) := runN_ok P n _ p (Nat.le_refl _)
abbrev blk (v : Nat) : Prop := v = 32 ∨ v = 10
abbrev ltr (v : Nat) : Prop := 97 ≤ v ∧ v ≤ 122
abbrev dgt (v : Nat) : Prop := 48 ≤ v ∧ v ≤ 57
section LX
variable (t : Nat → Nat) (n : Nat)
def stT (p : Nat) : Nat := rnE (fun j => blk (t j)) n p
def tyT (p : Nat) : Nat := if n ≤ stT t n p then 4 else if ltr (t (stT t n p)) then 0 else if dgt (t (stT t n p)) then 1 else if t (stT t n p) = 59 then 2 else 3
def enT (p : Nat) : Nat := if tyT t n p = 4 then stT t n p else if tyT t n p = 0 then rnE (fun j => ltr (t j)) n (stT t n p) else if tyT t n p = 1 then rnE (fun j => dgt (t j)) n (stT t n p) else stT t n p + 1
def vaN (q : Nat) : Nat → Nat
  | 0 => 0
  | k + 1 => vaN q k * 10 + (t (q + k) - 48)
def vaT (p : Nat) : Nat := vaN t (stT t n p) (enT t n p - stT t n p)
end LX
/-- a number as it is kept: cut off where it is too great for all -/
def NmR (x : Int32) (v : Nat) : Prop := (v ≤ 99999 ∧ x = nI v) ∨ (99999 < v ∧ ∃ y : Nat, 99999 < y ∧ y ≤ 1000000 ∧ x = nI y)
theorem en_gt {t : Nat → Nat} {n p : Nat} (h : ¬ tyT t n p = 4) : stT t n p < n ∧ stT t n p < enT t n p ∧ enT t n p ≤ n ∧ p ≤ stT t n p := by
  obtain ⟨a1, a2, a3, a4⟩ := rnE_ok (fun j => blk (t j)) n p
  have hs : stT t n p < n := by
    refine Decidable.not_not.mp fun c => h ?_
    unfold tyT
    rw [if_pos (by omega)]
  refine ⟨hs, ?_, ?_, a1⟩
  · unfold enT
    rw [if_neg h]
    by_cases c0 : tyT t n p = 0
    · obtain ⟨b1, b2, b3, b4⟩ := rnE_ok (fun j => ltr (t j)) n (stT t n p)
      rw [if_pos c0]
      refine Nat.lt_of_le_of_ne b1 fun e => b3 ?_
      rw [← e]
      refine ⟨hs, ?_⟩
      unfold tyT at c0
      rw [if_neg (by omega)] at c0
      by_cases d : ltr (t (stT t n p))
      · exact d
      · rw [if_neg d] at c0
        split at c0
        · omega
        · split at c0 <;> omega
    · rw [if_neg c0]
      by_cases c1 : tyT t n p = 1
      · obtain ⟨b1, b2, b3, b4⟩ := rnE_ok (fun j => dgt (t j)) n (stT t n p)
        rw [if_pos c1]
        refine Nat.lt_of_le_of_ne b1 fun e => b3 ?_
        rw [← e]
        refine ⟨hs, ?_⟩
        unfold tyT at c1
        rw [if_neg (by omega)] at c1
        by_cases d : dgt (t (stT t n p))
        · exact d
        · split at c1
          · omega
          · split at c1 <;> omega
      · rw [if_neg c1]
        omega
  · unfold enT
    rw [if_neg h]
    split
    · exact (rnE_ok (fun j => ltr (t j)) n (stT t n p)).2.2.2 (by omega)
    · split
      · exact (rnE_ok (fun j => dgt (t j)) n (stT t n p)).2.2.2 (by omega)
      · omega
theorem st_le {t : Nat → Nat} {n p : Nat} (h : p ≤ n) : p ≤ stT t n p ∧ stT t n p ≤ n := ⟨(rnE_ok (fun j => blk (t j)) n p).1, (rnE_ok (fun j => blk (t j)) n p).2.2.2 h⟩
theorem en_le {t : Nat → Nat} {n p : Nat} (h : p ≤ n) : p ≤ enT t n p ∧ enT t n p ≤ n := by
  have h1 := st_le (t := t) h
  by_cases c : tyT t n p = 4
  · unfold enT
    rw [if_pos c]
    exact h1
  · have := en_gt c
    omega
theorem ty_le (t : Nat → Nat) (n p : Nat) : tyT t n p ≤ 4 := by
  unfold tyT
  split
  · omega
  · split
    · omega
    · split
      · omega
      · split <;> omega
/-- the tape, at the class -/
def TpX (t : Nat → Nat) (n : Nat) (M : Mm) (c : Nat) : Prop := n ≤ 800 ∧ M.1 c 1 = nI n ∧ ∀ j, j < n → t j < 256 ∧ M.1 (c + 1) j = nI (t j)
/-- only the token -/
def FN (c : Nat) (M M' : Mm) : Prop := (∀ c', c' ≠ c → M'.1 c' = M.1 c') ∧ (∀ j, j ≠ 5 → j ≠ 6 → j ≠ 7 → j ≠ 8 → M'.1 c j = M.1 c j) ∧ M'.2 = M.2
theorem FN.rf (c : Nat) (M : Mm) : FN c M M := ⟨fun _ _ => rfl, fun _ _ _ _ _ => rfl, rfl⟩
theorem FN.tr {c : Nat} {M M' M'' : Mm} (h : FN c M M') (h' : FN c M' M'') : FN c M M'' := ⟨fun x hx => (h'.1 x hx).trans (h.1 x hx), fun j a1 a2 a3 a4 => (h'.2.1 j a1 a2 a3 a4).trans (h.2.1 j a1 a2 a3 a4), h'.2.2.trans h.2.2⟩
theorem FN.w {c : Nat} (M : Mm) {j : Nat} (v : Int32) (hj : j = 5 ∨ j = 6 ∨ j = 7 ∨ j = 8) : FN c M (wI M c j v) := ⟨fun c' hc => wI_ne hc, fun i _ _ _ _ => wI_nk (by omega), rfl⟩
theorem TpX.fn {t : Nat → Nat} {n c : Nat} {M M' : Mm} (h : TpX t n M c) (hf : FN c M M') : TpX t n M' c := ⟨h.1, by rw [hf.2.1 1 (by omega) (by omega) (by omega) (by omega)]; exact h.2.1, fun j hj => by rw [hf.1 (c + 1) (by omega)]; exact h.2.2 j hj⟩
/-- the token at p is the one that stands -/
def TX (t : Nat → Nat) (n p : Nat) (M : Mm) (c : Nat) : Prop := M.1 c 5 = nI (enT t n p) ∧ M.1 c 6 = nI (stT t n p) ∧ M.1 c 7 = nI (tyT t n p) ∧ (tyT t n p = 1 → NmR (M.1 c 8) (vaT t n p))
section LC
variable {fu c n p : Nat} {t : Nat → Nat} {M : Mm}
theorem X7_isLetter {v : Nat} (hv : v < 256) : fX7_isLetter fu (nI v) = some (bI (ltr v)) := by
  have n17 : ∀ x : Int32, x = 0 ∨ x = 1 → fX7_isLetter_j17 fu x = some x := fun x hx => by
    unfold fX7_isLetter_j17
    show (if _ then some x else none) = _
    rw [if_pos hx]
  have n16 : fX7_isLetter_j16 fu = some (nI 0) := n17 0 (Or.inl rfl)
  unfold fX7_isLetter
  rw [n16, n17 1 (Or.inr rfl)]
  by_cases c1 : v < 97
  · have : nI v < (97 : Int32) := nI_lt (b := 97) c1 (by omega)
    rw [if_pos this, bI_f (by omega)]
  · have h1 : ¬ nI v < (97 : Int32) := nI_nlt (b := 97) (by omega) (by omega)
    rw [if_neg h1]
    by_cases c2 : 122 < v
    · have : (122 : Int32) < nI v := nI_lt (a := 122) c2 (by omega)
      rw [if_pos this, bI_f (by omega)]
    · have : ¬ (122 : Int32) < nI v := nI_nlt (a := 122) (by omega) (by omega)
      rw [if_neg this, bI_t (by omega)]
      rfl
theorem X7_isDigit {v : Nat} (hv : v < 256) : fX7_isDigit fu (nI v) = some (bI (dgt v)) := by
  have n17 : ∀ x : Int32, x = 0 ∨ x = 1 → fX7_isDigit_j17 fu x = some x := fun x hx => by
    unfold fX7_isDigit_j17
    show (if _ then some x else none) = _
    rw [if_pos hx]
  have n16 : fX7_isDigit_j16 fu = some (nI 0) := n17 0 (Or.inl rfl)
  unfold fX7_isDigit
  rw [n16, n17 1 (Or.inr rfl)]
  by_cases c1 : v < 48
  · have : nI v < (48 : Int32) := nI_lt (b := 48) c1 (by omega)
    rw [if_pos this, bI_f (by omega)]
  · have h1 : ¬ nI v < (48 : Int32) := nI_nlt (b := 48) (by omega) (by omega)
    rw [if_neg h1]
    by_cases c2 : 57 < v
    · have : (57 : Int32) < nI v := nI_lt (a := 57) c2 (by omega)
      rw [if_pos this, bI_f (by omega)]
    · have : ¬ (57 : Int32) < nI v := nI_nlt (a := 57) (by omega) (by omega)
      rw [if_neg this, bI_t (by omega)]
      rfl
theorem X7_next (hfu : 200000 ≤ fu) (hT : TpX t n M c) (hp : M.1 c 5 = nI p) (hpn : p ≤ n) : Wp (fX7_next fu c M) (fun M' => TX t n p M' c ∧ FN c M M') := by
  obtain ⟨h800, hlen, htp⟩ := id hT
  obtain ⟨s1, s2, s3, s4⟩ : p ≤ stT t n p ∧ (∀ j, p ≤ j → j < stT t n p → j < n ∧ blk (t j)) ∧ ¬ (stT t n p < n ∧ blk (t (stT t n p))) ∧ (p ≤ n → stT t n p ≤ n) := rnE_ok (fun j => blk (t j)) n p
  have s5 := s4 hpn
  unfold fX7_next fX7_next_l0
  refine lp_ho (fun k z => z.1 c 5 = nI (p + k) ∧ FN c M z) _ (stT t n p - p) (i := 0) (by omega) (by omega) ⟨hp, FN.rf c M⟩ (fun k z hk hz rec hrec => ?_) (fun z hz rec => ?_)
  · obtain ⟨g1, g2⟩ := hz
    have Tz := hT.fn g2
    obtain ⟨b1, b2⟩ := s2 (p + k) (by omega) (by omega)
    obtain ⟨v1, v2⟩ := Tz.2.2 (p + k) b1
    have go : Wp (fX7_next_j39 fu (fun M => rec M) c z) (fun M' => TX t n p M' c ∧ FN c M M') := by
      unfold fX7_next_j39
      rw [g1, nI_1, lt_eq]
      exact hrec _ ⟨by rw [wI_eq]; rfl, g2.tr (FN.w z _ (Or.inl rfl))⟩
    unfold fX7_next_b0
    rw [Tz.2.1, g1, if_neg (nI_ge b1 (by omega)), if_neg (nI_in (by omega) (by omega)), ix_n (by omega), v2]
    rcases b2 with e | e
    · rw [if_pos (show nI (t (p + k)) = (32 : Int32) by rw [e]; rfl)]
      exact go
    · rw [if_neg (show ¬ nI (t (p + k)) = (32 : Int32) by rw [e]; decide), if_pos (show nI (t (p + k)) = (10 : Int32) by rw [e]; rfl)]
      exact go
  · obtain ⟨g1, g2⟩ := hz
    have Tz := hT.fn g2
    rw [show p + (stT t n p - p) = stT t n p by omega] at g1
    have main : Wp (fX7_next_j52 fu c z) (fun M' => TX t n p M' c ∧ FN c M M') := by
      unfold fX7_next_j52
      rw [g1, lt_eq, lt_eq]
      generalize hM2 : wI (wI z c 6 (nI (stT t n p))) c 8 0 = M2
      have F2 : FN c M M2 := by rw [← hM2]; exact (g2.tr (FN.w _ _ (by omega))).tr (FN.w _ _ (by omega))
      have e5 : M2.1 c 5 = nI (stT t n p) := by rw [← hM2]; simp (disch := omega) only [wI_ne, wI_eq, wI_nk, wIs_ne, wIs_eq]; exact g1
      have e6 : M2.1 c 6 = nI (stT t n p) := by rw [← hM2]; simp (disch := omega) only [wI_ne, wI_eq, wI_nk, wIs_ne, wIs_eq]
      have e8 : M2.1 c 8 = nI 0 := by rw [← hM2, wI_eq]; rfl
      clear hM2
      have T2 := hT.fn F2
      rw [e5, T2.2.1]
      by_cases cn : n ≤ stT t n p
      · have ht : tyT t n p = 4 := if_pos cn
        have he : enT t n p = stT t n p := if_pos ht
        rw [if_neg (nI_nlt cn (by omega)), lt_eq]
        unfold fX7_next_j264
        rw [wp_some]
        refine ⟨⟨?_, ?_, ?_, fun z => by omega⟩, F2.tr (FN.w _ _ (by omega))⟩
        · rw [wI_nk (by omega), e5, he]
        · rw [wI_nk (by omega), e6]
        · rw [wI_eq, ht]; rfl
      have hq : stT t n p < n := by omega
      obtain ⟨v1, v2⟩ := T2.2.2 _ hq
      rw [if_pos (nI_lt hq (by omega)), if_neg (nI_in (by omega) (by omega)), ix_n (by omega), v2, X7_isLetter v1, bi_s]
      by_cases cl : ltr (t (stT t n p))
      · have ht : tyT t n p = 0 := by
          unfold tyT
          rw [if_neg cn, if_pos cl]
        have he : enT t n p = rnE (fun j => ltr (t j)) n (stT t n p) := by
          unfold enT
          rw [if_neg (by omega), if_pos ht]
        obtain ⟨w1, w2, w3, w4⟩ := rnE_ok (fun j => ltr (t j)) n (stT t n p)
        have w5 := w4 (by omega)
        rw [← he] at w1 w2 w3 w5
        rw [bI_t cl, if_neg (by decide), lt_eq]
        unfold fX7_next_l104
        refine lp_ho (fun k y => y.1 c 5 = nI (stT t n p + k) ∧ y.1 c 6 = nI (stT t n p) ∧ y.1 c 7 = nI 0 ∧ FN c M y) _ (enT t n p - stT t n p) (i := 0) (by omega) (by omega) ⟨by rw [wI_nk (by omega)]; exact e5, by rw [wI_nk (by omega)]; exact e6, wI_eq, F2.tr (FN.w _ _ (by omega))⟩ (fun k y hk hy rec2 hrec2 => ?_) (fun y hy rec2 => ?_)
        · obtain ⟨k1, k2, k3, k4⟩ := hy
          have Ty := hT.fn k4
          obtain ⟨b1, b2⟩ := w2 (stT t n p + k) (by omega) (by omega)
          obtain ⟨u1, u2⟩ := Ty.2.2 _ b1
          unfold fX7_next_b104
          rw [Ty.2.1, k1, if_neg (nI_ge b1 (by omega)), if_neg (nI_in (by omega) (by omega)), ix_n (by omega), u2, X7_isLetter u1, bi_s, bI_t b2, if_neg (by decide), nI_1, lt_eq]
          exact hrec2 _ ⟨by rw [wI_eq]; rfl, by rw [wI_nk (by omega)]; exact k2, by rw [wI_nk (by omega)]; exact k3, k4.tr (FN.w _ _ (Or.inl rfl))⟩
        · obtain ⟨k1, k2, k3, k4⟩ := hy
          have Ty := hT.fn k4
          rw [show stT t n p + (enT t n p - stT t n p) = enT t n p by omega] at k1
          have fin : Wp (some y) (fun M' => TX t n p M' c ∧ FN c M M') := by
            rw [wp_some]
            exact ⟨⟨k1, k2, by rw [ht]; exact k3, fun z => by omega⟩, k4⟩
          unfold fX7_next_b104 fX7_next_j264
          rw [Ty.2.1, k1]
          by_cases ce : n ≤ enT t n p
          · rw [if_pos (nI_le ce (by omega))]
            exact fin
          · have b1 : enT t n p < n := by omega
            obtain ⟨u1, u2⟩ := Ty.2.2 _ b1
            rw [if_neg (nI_ge b1 (by omega)), if_neg (nI_in (by omega) (by omega)), ix_n (by omega), u2, X7_isLetter u1, bi_s, bI_f (fun z => w3 ⟨b1, z⟩), if_pos (by decide)]
            exact fin
      rw [bI_f cl, if_pos (by decide), X7_isDigit v1, bi_s]
      by_cases cd : dgt (t (stT t n p))
      · have ht : tyT t n p = 1 := by
          unfold tyT
          rw [if_neg cn, if_neg cl, if_pos cd]
        have he : enT t n p = rnE (fun j => dgt (t j)) n (stT t n p) := by
          unfold enT
          rw [if_neg (by omega), if_neg (by omega), if_pos ht]
        obtain ⟨w1, w2, w3, w4⟩ := rnE_ok (fun j => dgt (t j)) n (stT t n p)
        have w5 := w4 (by omega)
        rw [← he] at w1 w2 w3 w5
        rw [bI_t cd, if_neg (by decide), lt_eq]
        unfold fX7_next_l163
        refine lp_ho (fun k y => y.1 c 5 = nI (stT t n p + k) ∧ y.1 c 6 = nI (stT t n p) ∧ y.1 c 7 = nI 1 ∧ y.1 c 8 = nI (min 1000000 (vaN t (stT t n p) k)) ∧ FN c M y) _ (enT t n p - stT t n p) (i := 0) (by omega) (by omega) ⟨by rw [wI_nk (by omega)]; exact e5, by rw [wI_nk (by omega)]; exact e6, wI_eq, by rw [wI_nk (by omega)]; exact e8, F2.tr (FN.w _ _ (by omega))⟩ (fun k y hk hy rec2 hrec2 => ?_) (fun y hy rec2 => ?_)
        · obtain ⟨k1, k2, k3, k5, k4⟩ := hy
          have Ty := hT.fn k4
          obtain ⟨b1, b2⟩ := w2 (stT t n p + k) (by omega) (by omega)
          obtain ⟨u1, u2⟩ := Ty.2.2 _ b1
          have ev : vaN t (stT t n p) (k + 1) = vaN t (stT t n p) k * 10 + (t (stT t n p + k) - 48) := rfl
          have en : nI (min 1000000 (vaN t (stT t n p) k)) * 10 + nI (t (stT t n p + k)) - 48 = nI (min 1000000 (vaN t (stT t n p) k) * 10 + (t (stT t n p + k) - 48)) := by
            rw [show nI (min 1000000 (vaN t (stT t n p) k)) * 10 = nI (min 1000000 (vaN t (stT t n p) k) * 10) from zi_mul _ 10, nI_add]
            have := zi_sub (a := min 1000000 (vaN t (stT t n p) k) * 10 + t (stT t n p + k)) (b := 48) (by omega)
            rw [show min 1000000 (vaN t (stT t n p) k) * 10 + t (stT t n p + k) - 48 = min 1000000 (vaN t (stT t n p) k) * 10 + (t (stT t n p + k) - 48) by omega] at this
            exact this
          unfold fX7_next_b163
          rw [Ty.2.1, k1, if_neg (nI_ge b1 (by omega)), if_neg (nI_in (by omega) (by omega)), ix_n (by omega), u2, X7_isDigit u1, bi_s, bI_t b2, if_neg (by decide), k5, en, lt_eq, wI_nk (by omega), k1, nI_1, lt_eq]
          refine hrec2 _ ⟨by rw [wI_eq]; rfl, by rw [wI_nk (by omega), wI_nk (by omega)]; exact k2, by rw [wI_nk (by omega), wI_nk (by omega)]; exact k3, ?_, (k4.tr (FN.w _ _ (by omega))).tr (FN.w _ _ (Or.inl rfl))⟩
          rw [wI_nk (by omega), wI_eq, ev]
          generalize vaN t (stT t n p) k = x
          by_cases cm : min 1000000 x * 10 + (t (stT t n p + k) - 48) < 1000000
          · have c1 : nI (min 1000000 x * 10 + (t (stT t n p + k) - 48)) < (1000000 : Int32) := nI_lt (b := 1000000) cm (by omega)
            rw [if_pos c1]
            congr 1
            omega
          · have c1 : ¬ nI (min 1000000 x * 10 + (t (stT t n p + k) - 48)) < (1000000 : Int32) := nI_nlt (b := 1000000) (by omega) (by omega)
            rw [if_neg c1, show min 1000000 (x * 10 + (t (stT t n p + k) - 48)) = 1000000 by omega]
            rfl
        · obtain ⟨k1, k2, k3, k5, k4⟩ := hy
          have Ty := hT.fn k4
          rw [show stT t n p + (enT t n p - stT t n p) = enT t n p by omega] at k1
          have fin : Wp (some y) (fun M' => TX t n p M' c ∧ FN c M M') := by
            rw [wp_some]
            refine ⟨⟨k1, k2, by rw [ht]; exact k3, fun _ => ?_⟩, k4⟩
            have e9 : vaN t (stT t n p) (enT t n p - stT t n p) = vaT t n p := rfl
            rw [k5, e9]
            by_cases cv : vaT t n p ≤ 99999
            · exact Or.inl ⟨cv, by congr 1; omega⟩
            · exact Or.inr ⟨by omega, min 1000000 (vaT t n p), by omega, by omega, rfl⟩
          unfold fX7_next_b163 fX7_next_j264
          rw [Ty.2.1, k1]
          by_cases ce : n ≤ enT t n p
          · rw [if_pos (nI_le ce (by omega))]
            exact fin
          · have b1 : enT t n p < n := by omega
            obtain ⟨u1, u2⟩ := Ty.2.2 _ b1
            rw [if_neg (nI_ge b1 (by omega)), if_neg (nI_in (by omega) (by omega)), ix_n (by omega), u2, X7_isDigit u1, bi_s, bI_f (fun z => w3 ⟨b1, z⟩), if_pos (by decide)]
            exact fin
      rw [bI_f cd, if_pos (by decide)]
      have last : ∀ v : Int32, v = nI (tyT t n p) → (tyT t n p = 2 ∨ tyT t n p = 3) → Wp (fX7_next_j251 fu c c v M2) (fun M' => TX t n p M' c ∧ FN c M M') := fun v hv ht => by
        have he : enT t n p = stT t n p + 1 := by
          unfold enT
          rw [if_neg (by omega), if_neg (by omega), if_neg (by omega)]
        unfold fX7_next_j251 fX7_next_j264
        rw [lt_eq, lt_eq, wI_nk (by omega), e5, nI_1, wp_some]
        refine ⟨⟨by rw [wI_eq, he], by rw [wI_nk (by omega), wI_nk (by omega)]; exact e6, by rw [wI_nk (by omega), wI_eq]; exact hv, fun z => by omega⟩, (F2.tr (FN.w _ _ (by omega))).tr (FN.w _ _ (Or.inl rfl))⟩
      by_cases c59 : t (stT t n p) = 59
      · have ht : tyT t n p = 2 := by
          unfold tyT
          rw [if_neg cn, if_neg cl, if_neg cd, if_pos c59]
        rw [if_pos (show nI (t (stT t n p)) = (59 : Int32) by rw [c59]; rfl)]
        exact last 2 (by rw [ht]; rfl) (Or.inl ht)
      · have ht : tyT t n p = 3 := by
          unfold tyT
          rw [if_neg cn, if_neg cl, if_neg cd, if_neg c59]
        rw [if_neg (show ¬ nI (t (stT t n p)) = (59 : Int32) from fun z => c59 ((nI_eq (a := t (stT t n p)) (b := 59) (by omega) (by omega)).mp z))]
        exact last 3 (by rw [ht]; rfl) (Or.inr ht)
    unfold fX7_next_b0
    rw [Tz.2.1, g1]
    by_cases cn : n ≤ stT t n p
    · rw [if_pos (nI_le cn (by omega))]
      exact main
    · have hq : stT t n p < n := by omega
      obtain ⟨v1, v2⟩ := Tz.2.2 _ hq
      have nb : ¬ blk (t (stT t n p)) := fun z => s3 ⟨hq, z⟩
      rw [if_neg (nI_ge hq (by omega)), if_neg (nI_in (by omega) (by omega)), ix_n (by omega), v2, if_neg (show ¬ nI (t (stT t n p)) = (32 : Int32) from fun z => nb (Or.inl ((nI_eq (a := t (stT t n p)) (b := 32) (by omega) (by omega)).mp z))), if_neg (show ¬ nI (t (stT t n p)) = (10 : Int32) from fun z => nb (Or.inr ((nI_eq (a := t (stT t n p)) (b := 10) (by omega) (by omega)).mp z)))]
      exact main
end LC
