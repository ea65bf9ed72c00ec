/-! feed, end, fault; both sides. -/
def byN (x : Int32) (s : Nat) : Nat := x.toBitVec.toNat / 2 ^ s % 256
theorem byN_lt (x : Int32) (s : Nat) : byN x s < 256 := Nat.mod_lt _ (by decide)
theorem by_x (x y : Int32) (s : Nat) (hs : ((y.toUInt32 &&& Int32.toUInt32 31).toBitVec % 32).toNat = s) : (((x : Int32).toUInt32 >>> ((y : Int32).toUInt32 &&& Int32.toUInt32 31)).toInt32) &&& 255 = nI (byN x s) := by
  rw [pk_and _ 8 (by decide), pk_ushr x y s hs]
  rfl
theorem bm_cg {a b : Int} (h : a % 256 = b % 256) : a.bmod (2 ^ 8) = b.bmod (2 ^ 8) := by
  have h : a % ((2 ^ 8 : Nat) : Int) = b % ((2 ^ 8 : Nat) : Int) := h
  rw [Int.bmod_def, Int.bmod_def, h]
theorem by_m (x y : Int32) (s : Nat) (hs : (y.toBitVec.smod 32).toNat = s) (h : s = 0 ∨ s = 8 ∨ s = 16 ∨ s = 24) : vp_nar .byte (((x >>> y) : Int32).toInt8.toInt32) = sB (byN x s) := by
  have e0 : vp_nar .byte (((x >>> y) : Int32).toInt8.toInt32) = ((x >>> y) : Int32).toInt8.toInt32.toInt8.toInt32 := rfl
  rw [e0, Int8.toInt8_toInt32]
  unfold sB
  refine congrArg Int8.toInt32 (Int8.toInt_inj.mp ?_)
  rw [Int32.toInt_toInt8, Int32.toInt_toInt8, pk_shr x y s hs, nI_toInt (by have := byN_lt x s; omega), Int.shiftRight_eq_div_pow]
  have hx : x.toInt = (x.toBitVec.toNat : Int) ∨ x.toInt = (x.toBitVec.toNat : Int) - 4294967296 := by
    show x.toBitVec.toInt = _ ∨ x.toBitVec.toInt = _
    rw [BitVec.toInt_eq_toNat_cond]
    split
    · exact Or.inl rfl
    · exact Or.inr rfl
  have key : x.toInt / ((2 ^ s : Nat) : Int) % 256 = ((byN x s : Nat) : Int) % 256 := by
    unfold byN
    rcases h with rfl | rfl | rfl | rfl
    · rcases hx with hx | hx <;> rw [hx] <;> omega
    · rcases hx with hx | hx <;> rw [hx] <;> omega
    · rcases hx with hx | hx <;> rw [hx] <;> omega
    · rcases hx with hx | hx <;> rw [hx] <;> omega
  exact bm_cg key
/-- the tape with five more words -/
def feT (t : Nat → Nat) (n : Nat) (xs : Nat → Int32) : Nat → Nat := fun j => if j < n then t j else byN (xs ((j - n) / 4)) (24 - 8 * ((j - n) % 4))
def x5S (x1 x2 x3 x4 x5 : Int32) : Nat → Int32 := fun i => if i = 0 then x1 else if i = 1 then x2 else if i = 2 then x3 else if i = 3 then x4 else x5
/-- only the tape, at the class -/
def FTx (c : Nat) (M M' : Mm) : Prop := (∀ c', c' ≠ c → c' ≠ c + 1 → M'.1 c' = M.1 c') ∧ (∀ j, j ≠ 1 → M'.1 c j = M.1 c j) ∧ M'.2 = M.2
theorem FTx.rf (c : Nat) (M : Mm) : FTx c M M := ⟨fun _ _ _ => rfl, fun _ _ => rfl, rfl⟩
theorem FTx.tr {c : Nat} {M M' M'' : Mm} (h : FTx c M M') (h' : FTx c M' M'') : FTx c M M'' := ⟨fun x a1 a2 => (h'.1 x a1 a2).trans (h.1 x a1 a2), fun j a1 => (h'.2.1 j a1).trans (h.2.1 j a1), h'.2.2.trans h.2.2⟩
section FD
variable {fu c m n : Nat} {t : Nat → Nat} {M : Mm} {xs : Nat → Int32}
theorem X7_append (hfu : 200000 ≤ fu) {i : Nat} (hn : n + 4 * i + 4 ≤ 800) (hT : TpX (feT t n xs) (n + 4 * i) M c) : Wp (fX7_append fu c (xs i) M) (fun M' => TpX (feT t n xs) (n + 4 * (i + 1)) M' c ∧ FTx c M M') := by
  unfold fX7_append fX7_append_l3
  refine lp_ho (F := fun (rec : (Int32 × Mm) → Option Mm) (s : Int32 × Mm) => fX7_append_b3 fu (fun x2 M => rec (x2, M)) c (xs i) s.1 s.2) (fun r (s : Int32 × Mm) => s.1 = ([24, 16, 8, 0, -8] : List Int32).getD r 0 ∧ TpX (feT t n xs) (n + 4 * i + r) s.2 c ∧ FTx c M s.2) _ 4 (i := 0) (by omega) (by omega) ⟨rfl, hT, FTx.rf _ _⟩ (fun r s hr hs rec hrec => ?_) (fun s hs rec => ?_)
  · obtain ⟨x, M1⟩ := s
    obtain ⟨s1, s2, s3⟩ := hs
    dsimp only at *
    have st : ∀ y z : Int32, x = y → ¬ y < 0 → y + (-8) = z → z = ([24, 16, 8, 0, -8] : List Int32).getD (r + 1) 0 → ((y.toUInt32 &&& Int32.toUInt32 31).toBitVec % 32).toNat = 24 - 8 * r → Wp (fX7_append_b3 fu (fun x2 M => rec (x2, M)) c (xs i) x M1) (fun M' => TpX (feT t n xs) (n + 4 * (i + 1)) M' c ∧ FTx c M M') := fun y z e1 e2 e3 e4 e5 => by
      subst e1
      have hl := s2.2.1
      unfold fX7_append_b3 fX7_append_j43
      rw [if_neg e2, hl, if_neg (show ¬ (800 : Int32) ≤ nI (n + 4 * i + r) from nI_ge (a := n + 4 * i + r) (b := 800) (by omega) (by omega)), if_neg (nI_in (by omega) (by omega)), ix_n (by omega), by_x (xs i) x (24 - 8 * r) e5, lt_eq, wI_ne (by omega), hl, nI_1, lt_eq, lt_eq, e3]
      have hb := byN_lt (xs i) (24 - 8 * r)
      have ef : feT t n xs (n + 4 * i + r) = byN (xs i) (24 - 8 * r) := by
        unfold feT
        rw [if_neg (by omega), show (n + 4 * i + r - n) / 4 = i by omega, show (n + 4 * i + r - n) % 4 = r by omega]
      refine hrec _ ⟨e4, ⟨by omega, wI_eq, fun j hj => ?_⟩, s3.tr ⟨fun c' h1 h2 => ?_, fun j h1 => ?_, rfl⟩⟩
      · dsimp only
        rw [wI_ne (by omega)]
        by_cases e : j = n + 4 * i + r
        · rw [e, wI_eq, ef]
          exact ⟨hb, rfl⟩
        · rw [wI_nk e]
          exact s2.2.2 j (by omega)
      · dsimp only
        rw [wI_ne h1, wI_ne h2]
      · dsimp only
        rw [wI_nk h1, wI_ne (by omega)]
    have : r = 0 ∨ r = 1 ∨ r = 2 ∨ r = 3 := by omega
    rcases this with rfl | rfl | rfl | rfl
    · exact st 24 16 s1 (by decide) (by decide) rfl (by decide)
    · exact st 16 8 s1 (by decide) (by decide) rfl (by decide)
    · exact st 8 0 s1 (by decide) (by decide) rfl (by decide)
    · exact st 0 (-8) s1 (by decide) (by decide) rfl (by decide)
  · obtain ⟨x, M1⟩ := s
    obtain ⟨s1, s2, s3⟩ := hs
    dsimp only at *
    have s1 : x = -8 := s1
    unfold fX7_append_b3
    rw [s1, if_pos (by decide)]
    unfold fX7_append_j49
    rw [wp_some]
    exact ⟨s2, s3⟩
theorem feT_lt (t : Nat → Nat) (n : Nat) (xs : Nat → Int32) {j : Nat} (h : j < n) : feT t n xs j = t j := if_pos h
theorem X10_feed {a : Nat} (hfu : 200000 ≤ fu) (hT : TpX t n M (a + 1)) (x1 x2 x3 x4 x5 : Int32) : Wp (fX10_feed fu a x1 x2 x3 x4 x5 M) (fun z => (n + 20 ≤ 800 ∧ z.1 = nI (n + 20) ∧ TpX (feT t n (x5S x1 x2 x3 x4 x5)) (n + 20) z.2 (a + 1) ∧ FTx (a + 1) M z.2) ∨ (¬ n + 20 ≤ 800 ∧ z = (mI, M))) := by
  have hn := hT.1
  unfold fX10_feed
  rw [hT.2.1, show nI n + 20 = nI (n + 20) from nI_add n 20]
  by_cases c : n + 20 ≤ 800
  · rw [if_pos (show nI (n + 20) ≤ (800 : Int32) from nI_le (b := 800) c (by omega)), wp_bm]
    have T0' : TpX (feT t n (x5S x1 x2 x3 x4 x5)) (n + 4 * 0) M (a + 1) := ⟨by omega, hT.2.1, fun j hj => by rw [feT_lt t n _ (by omega)]; exact hT.2.2 j (by omega)⟩
    refine (X7_append (i := 0) hfu (by omega) T0').mono fun M1 q => ?_
    rw [wp_bm]
    refine (X7_append (i := 1) hfu (by omega) q.1).mono fun M2 q2 => ?_
    rw [wp_bm]
    refine (X7_append (i := 2) hfu (by omega) q2.1).mono fun M3 q3 => ?_
    rw [wp_bm]
    refine (X7_append (i := 3) hfu (by omega) q3.1).mono fun M4 q4 => ?_
    rw [wp_bm]
    refine (X7_append (i := 4) hfu (by omega) q4.1).mono fun M5 q5 => ?_
    rw [wp_some]
    exact Or.inl ⟨c, q5.1.2.1, q5.1, (((q.2.tr q2.2).tr q3.2).tr q4.2).tr q5.2⟩
  · rw [if_neg (show ¬ nI (n + 20) ≤ (800 : Int32) from nI_ge (a := 800) (b := n + 20) (by omega) (by omega)), wp_some]
    exact Or.inr ⟨c, rfl⟩
/-- only the tape, at the reference -/
def FU (m : Nat) (M M' : Mm) : Prop := (∀ c', c' ≠ m → c' ≠ m + 6 → M'.1 c' = M.1 c') ∧ (∀ j, j ≠ 7 → M'.1 m j = M.1 m j) ∧ M'.2 = M.2
theorem feed_sh : ∀ i, i < 20 → ((24 - (8 * (nI i &&& 3))) &&& 31 : Int32) = nI (24 - 8 * (i % 4)) := by decide
theorem feed_sm : ∀ r, r < 4 → ((nI (24 - 8 * r)).toBitVec.smod 32).toNat = 24 - 8 * r := by decide
theorem X11_feed (hfu : 200000 ≤ fu) (hT : TqM t n M m) (x1 x2 x3 x4 x5 : Int32) : Wp (fX11_feed fu m x1 x2 x3 x4 x5 M) (fun z => (n + 20 ≤ 800 ∧ z.1 = nI (n + 20) ∧ TqM (feT t n (x5S x1 x2 x3 x4 x5)) (n + 20) z.2 m ∧ FU m M z.2) ∨ (¬ n + 20 ≤ 800 ∧ z = (mI, M))) := by
  obtain ⟨t1, t2, t3, t4⟩ := hT
  unfold fX11_feed
  rw [t2, show nI n + 20 = nI (n + 20) from nI_add n 20]
  by_cases c : n + 20 ≤ 800
  · rw [if_pos (show nI (n + 20) ≤ (800 : Int32) from nI_le (b := 800) c (by omega))]
    unfold fX11_feed_l18
    refine lp_ho (F := fun (rec : (Int32 × Mm) → Option (Int32 × Mm)) (s : Int32 × Mm) => fX11_feed_b18 fu (fun x6 M => rec (x6, M)) m x1 x2 x3 x4 x5 s.1 s.2) (fun i (s : Int32 × Mm) => s.1 = nI i ∧ (∀ c, c ≠ m + 6 → s.2.1 c = M.1 c) ∧ s.2.2 = M.2 ∧ ∀ j, j < n + i → feT t n (x5S x1 x2 x3 x4 x5) j < 256 ∧ s.2.1 (m + 6) j = sB (feT t n (x5S x1 x2 x3 x4 x5) j)) _ 20 (i := 0) (by omega) (by omega) ⟨rfl, fun _ _ => rfl, rfl, fun j hj => by rw [feT_lt t n _ (by omega)]; exact t3 j (by omega)⟩ (fun i s hi hs rec hrec => ?_) (fun s hs rec => ?_)
    · obtain ⟨x, M1⟩ := s
      obtain ⟨s1, s2, s3, s4⟩ := hs
      dsimp only at *
      subst s1
      have put : Wp (fX11_feed_j71 fu (fun x6 M => rec (x6, M)) m x1 x2 x3 x4 x5 (nI i) (x5S x1 x2 x3 x4 x5 (i / 4)) M1) (fun z => (n + 20 ≤ 800 ∧ z.1 = nI (n + 20) ∧ TqM (feT t n (x5S x1 x2 x3 x4 x5)) (n + 20) z.2 m ∧ FU m M z.2) ∨ (¬ n + 20 ≤ 800 ∧ z = (mI, M))) := by
        unfold fX11_feed_j71
        rw [s2 m (by omega), t2, nI_add, if_neg (nI_in (by omega) (by omega)), ix_n (by omega), feed_sh i hi, by_m _ _ (24 - 8 * (i % 4)) (feed_sm (i % 4) (by omega)) (by omega), lt_eq, lt_eq, nI_1]
        have ef : feT t n (x5S x1 x2 x3 x4 x5) (n + i) = byN (x5S x1 x2 x3 x4 x5 (i / 4)) (24 - 8 * (i % 4)) := by
          unfold feT
          rw [if_neg (by omega), show n + i - n = i by omega]
        refine hrec _ ⟨rfl, fun c hc => (wI_ne hc).trans (s2 c hc), s3, fun j hj => ?_⟩
        dsimp only
        by_cases e : j = n + i
        · rw [e, wI_eq, ef]
          exact ⟨byN_lt _ _, rfl⟩
        · rw [wI_nk e]
          exact s4 j (by omega)
      unfold fX11_feed_b18
      rw [if_neg (show ¬ (20 : Int32) ≤ nI i from nI_ge (a := i) (b := 20) hi (by omega))]
      by_cases c4 : 4 ≤ i
      · rw [if_pos (show (4 : Int32) ≤ nI i from nI_le (a := 4) c4 (by omega))]
        by_cases c8 : 8 ≤ i
        · rw [if_pos (show (8 : Int32) ≤ nI i from nI_le (a := 8) c8 (by omega))]
          by_cases c12 : 12 ≤ i
          · rw [if_pos (show (12 : Int32) ≤ nI i from nI_le (a := 12) c12 (by omega))]
            by_cases c16 : 16 ≤ i
            · rw [if_pos (show (16 : Int32) ≤ nI i from nI_le (a := 16) c16 (by omega))]
              rw [show i / 4 = 4 by omega] at put
              exact put
            · rw [if_neg (show ¬ (16 : Int32) ≤ nI i from nI_ge (a := i) (b := 16) (by omega) (by omega))]
              rw [show i / 4 = 3 by omega] at put
              exact put
          · rw [if_neg (show ¬ (12 : Int32) ≤ nI i from nI_ge (a := i) (b := 12) (by omega) (by omega))]
            rw [show i / 4 = 2 by omega] at put
            exact put
        · rw [if_neg (show ¬ (8 : Int32) ≤ nI i from nI_ge (a := i) (b := 8) (by omega) (by omega))]
          rw [show i / 4 = 1 by omega] at put
          exact put
      · rw [if_neg (show ¬ (4 : Int32) ≤ nI i from nI_ge (a := i) (b := 4) (by omega) (by omega))]
        rw [show i / 4 = 0 by omega] at put
        exact put
    · obtain ⟨x, M1⟩ := s
      obtain ⟨s1, s2, s3, s4⟩ := hs
      dsimp only at *
      subst s1
      unfold fX11_feed_b18
      rw [if_pos (show (20 : Int32) ≤ nI 20 by decide)]
      unfold fX11_feed_j105
      rw [s2 m (by omega), t2, show nI n + 20 = nI (n + 20) from nI_add n 20, lt_eq, wI_eq, wp_some]
      refine Or.inl ⟨c, rfl, ⟨c, wI_eq, fun j hj => ?_, fun j hj => ?_⟩, fun c' h1 h2 => (wI_ne h1).trans (s2 c' h2), fun j h1 => ?_, s3⟩
      · dsimp only
        rw [wI_ne (by omega)]
        exact s4 j hj
      · dsimp only
        rw [wI_ne (by omega), s2 _ (by omega)]
        exact t4 j hj
      · dsimp only
        rw [wI_nk h1, s2 m (by omega)]
  · rw [if_neg (show ¬ nI (n + 20) ≤ (800 : Int32) from nI_ge (a := 800) (b := n + 20) (by omega) (by omega)), wp_some]
    exact Or.inr ⟨c, rfl⟩
theorem X10_end {a : Nat} (hT : TpX t n M (a + 1)) (x : Int32) : Wp (fX10_end fu a x M) (fun z => (∃ k, k ≤ n ∧ x = nI k ∧ z.1 = nI k ∧ TpX t k z.2 (a + 1) ∧ FTx (a + 1) M z.2) ∨ ((∀ k, k ≤ n → ¬ x = nI k) ∧ z = (mI, M))) := by
  have hn := hT.1
  unfold fX10_end fX10_end_j15
  rcases i32_cases x with h | ⟨j, hj, rfl⟩
  · rw [if_pos h, wp_some]
    exact Or.inr ⟨fun k hk e => neg_ne h (by omega) e, rfl⟩
  · rw [if_neg (nI_pos hj), hT.2.1]
    by_cases c : j ≤ n
    · rw [if_pos (nI_le c (by omega)), lt_eq, wp_some]
      exact Or.inl ⟨j, c, rfl, rfl, ⟨by omega, wI_eq, fun i hi => by dsimp only; rw [wI_ne (by omega)]; exact hT.2.2 i (by omega)⟩, fun c' h1 h2 => wI_ne h1, fun i hi => wI_nk hi, rfl⟩
    · rw [if_neg (nI_ge (by omega) (by omega)), wp_some]
      exact Or.inr ⟨fun k hk e => by rw [nI_eq (by omega) (by omega)] at e; omega, rfl⟩
theorem X11_end (hT : TqM t n M m) (x : Int32) : Wp (fX11_end fu m x M) (fun z => (∃ k, k ≤ n ∧ x = nI k ∧ z.1 = nI k ∧ TqM t k z.2 m ∧ FU m M z.2) ∨ ((∀ k, k ≤ n → ¬ x = nI k) ∧ z = (mI, M))) := by
  obtain ⟨hn, t2, t3, t4⟩ := hT
  unfold fX11_end fX11_end_j12
  rcases i32_cases x with h | ⟨j, hj, rfl⟩
  · rw [if_pos h, wp_some]
    exact Or.inr ⟨fun k hk e => neg_ne h (by omega) e, rfl⟩
  · rw [if_neg (nI_pos hj), t2]
    by_cases c : j ≤ n
    · rw [if_pos (nI_le c (by omega)), lt_eq, wp_some]
      exact Or.inl ⟨j, c, rfl, rfl, ⟨by omega, wI_eq, fun i hi => by dsimp only; rw [wI_ne (by omega)]; exact t3 i (by omega), fun i hi => by dsimp only; rw [wI_ne (by omega)]; exact t4 i hi⟩, fun c' h1 h2 => wI_ne h1, fun i hi => wI_nk hi, rfl⟩
    · rw [if_neg (nI_ge (by omega) (by omega)), wp_some]
      exact Or.inr ⟨fun k hk e => by rw [nI_eq (by omega) (by omega)] at e; omega, rfl⟩
end FD
