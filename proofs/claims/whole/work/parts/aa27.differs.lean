/-! Boxes; differs, both sides. -/
def dkS (S T : Sto) (x : Nat) : Nat := if kdS S x 99 = kdS T x 99 then 0 else 1
def dwS (S T : Sto) (x : Nat) : Nat := if wS S x = wS T x then 0 else 1
def df1 (g : Nat → Nat) (n : Nat) : Int32 := if smN g n = 0 then nm2 else fsN g n
def dfA (S T : Sto) (x : Int32) : Int32 := if x = nI 0 then nI (smN (dkS S T) (2 ^ S 140)) else if x = nI 1 then nI (smN (dwS S T) (2 ^ S 140)) else if x = nI 2 then df1 (dkS S T) (2 ^ S 140) else mI
def BX (B : Nat → Sto) (bx : Nat → Nat) (M : Mm) (a : Nat) : Prop := ∀ j, j < 2 → (bx j = 0 ∧ M.1 (a + 195) j = nI 0) ∨ (bx j = 1 ∧ M.1 (a + 195) j = nI 1 ∧ VX (B j) M (a + 176 + 1 + 9 * j))
def BM (B : Nat → Sto) (bx : Nat → Nat) (M : Mm) (m : Nat) : Prop := ∀ j, j < 2 → (bx j = 0 ∧ M.1 (m + 29) j = nI 0) ∨ (bx j = 1 ∧ M.1 (m + 29) j = nI 1 ∧ ∀ i, i < 140 → M.1 (m + 28) (140 * j + i) = nI (B j i))
theorem dkS_le (S T : Sto) (x : Nat) : dkS S T x ≤ 1 := by
  unfold dkS
  split <;> omega
theorem dwS_le (S T : Sto) (x : Nat) : dwS S T x ≤ 1 := by
  unfold dwS
  split <;> omega
section DF
variable {fu a m n : Nat} {S T : Sto} {M M1 : Mm} {f : Nat → Nat} {B : Nat → Sto} {bx : Nat → Nat}
theorem X10_hasKept (hB : BX B bx M a) (x : Int32) : ∃ v, fX10_hasKept fu a x M = some v ∧ ((v = nI 1 ∧ ∃ j, j < 2 ∧ x = nI j ∧ bx j = 1) ∨ (v = nI 0 ∧ ∀ j, j < 2 → x = nI j → bx j = 0)) := by
  have n22 : fX10_hasKept_j22 fu M = some (nI 0) := by
    unfold fX10_hasKept_j22 fX10_hasKept_j23
    show (if ((0 : Int32) = 0 ∨ (0 : Int32) = 1) then some (0 : Int32) else none) = _
    rw [if_pos (Or.inl rfl)]
    rfl
  have n23 : fX10_hasKept_j23 fu 1 M = some (nI 1) := by
    unfold fX10_hasKept_j23
    show (if ((1 : Int32) = 0 ∨ (1 : Int32) = 1) then some (1 : Int32) else none) = _
    rw [if_pos (Or.inr rfl)]
    rfl
  unfold fX10_hasKept
  rw [n22, n23]
  rcases i32_cases x with h | ⟨j, hj, rfl⟩
  · rw [if_pos h]
    exact ⟨nI 0, rfl, Or.inr ⟨rfl, fun j hj e => absurd e (neg_ne h (by omega))⟩⟩
  · rw [if_neg (nI_pos hj)]
    by_cases c : j < 2
    · have c2 : ¬ (2 : Int32) ≤ nI j := fun z => by
        have := (nI_leI (a := 2) (b := j) (by omega) hj).mp z
        omega
      rw [if_neg c2, if_neg (nI_in (by omega) (by omega)), ix_n hj]
      rcases hB j c with ⟨b0, b1⟩ | ⟨b0, b1, _⟩
      · rw [b1, if_pos (show nI 0 = (0 : Int32) from rfl)]
        refine ⟨nI 0, rfl, Or.inr ⟨rfl, fun i hi e => ?_⟩⟩
        rw [nI_eq (by omega) (by omega)] at e
        subst e
        exact b0
      · rw [b1, if_neg (by decide)]
        exact ⟨nI 1, rfl, Or.inl ⟨rfl, j, c, rfl, b0⟩⟩
    · have c2 : (2 : Int32) ≤ nI j := nI_le (a := 2) (by omega) hj
      rw [if_pos c2]
      refine ⟨nI 0, rfl, Or.inr ⟨rfl, fun i hi e => ?_⟩⟩
      rw [nI_eq (by omega) (by omega)] at e
      omega
/-- cut by both stores -/
def CB (S T : Sto) (M : Mm) (e n : Nat) (f : Nat → Nat) : Prop := EdS M e n f (2 ^ S 140) ∧ n ≤ 128 ∧ SpC S (2 ^ S 140) n f ∧ SpC T (2 ^ S 140) n f ∧ RgC S (2 ^ S 140) n f ∧ RgC T (2 ^ S 140) n f ∧ PtC S (2 ^ S 140) n f
theorem X10_cutBoth {b : Nat} (hfu : 200000 ≤ fu) (hV : VX S M (a + 12)) (hT : VX T M b) (hG : Gd S) (hGT : Gd T) (hb : b + 9 ≤ a + 196) : Wp (fX10_cutBoth fu a b M) (fun M' => (∃ n f, CB S T M' (a + 196) n f) ∧ Fr (a + 196) 2 M M') := by
  have hA := hG.ad
  have hG1 := hG.1
  have hG2 := hGT.1
  unfold fX10_cutBoth
  rw [hV.1.1, wp_bm]
  refine (X2_begin (by omega) (by omega)).mono fun M1 q => ?_
  obtain ⟨E1, F1⟩ := q
  have V1 : VX S M1 (a + 12) := hV.fr fun c k1 k2 => F1.at (by omega)
  rw [wp_bm]
  refine (X2_cutSpans hfu (by omega) E1 (by omega) (by omega) V1 hG (by omega)).mono fun M2 q => ?_
  obtain ⟨n2, f2, E2, _, a2, a3, a4, F2⟩ := q
  have T2 : VX T M2 b := hT.fr fun c k1 k2 => (F1.tr F2).at (by omega)
  rw [wp_bm]
  refine (X2_cutSpans hfu (by omega) E2 (by omega) (by omega) T2 hGT (by omega)).mono fun M3 q => ?_
  obtain ⟨n3, f3, E3, _, b2, b3, b4, F3⟩ := q
  have V3 : VX S M3 (a + 12) := V1.fr fun c k1 k2 => (F2.tr F3).at (by omega)
  rw [wp_bm]
  refine (X2_cutRegisters hfu (by omega) E3 (by omega) (by omega) V3 hG (by omega)).mono fun M4 q => ?_
  obtain ⟨n4, f4, E4, _, c2, c3, c4, F4⟩ := q
  have T4 : VX T M4 b := T2.fr fun c k1 k2 => (F3.tr F4).at (by omega)
  rw [wp_bm]
  refine (X2_cutRegisters hfu (by omega) E4 (by omega) (by omega) T4 hGT (by omega)).mono fun M5 q => ?_
  obtain ⟨n5, f5, E5, _, d2, d3, d4, F5⟩ := q
  have V5 : VX S M5 (a + 12) := V3.fr fun c k1 k2 => (F4.tr F5).at (by omega)
  rw [wp_bm]
  refine (X2_cutParts hfu (by omega) E5 (by omega) (by omega) V5 hG (by omega)).mono fun M6 q => ?_
  obtain ⟨n6, f6, E6, _, e2, e3, e4, F6⟩ := q
  rw [wp_some]
  refine ⟨⟨n6, f6, E6, by omega, fun i h1 => ⟨((((a4 _ ⟨i, h1, Or.inl rfl⟩).mo b3).mo c3).mo d3).mo e3, ((((a4 _ ⟨i, h1, Or.inr rfl⟩).mo b3).mo c3).mo d3).mo e3⟩, fun i h1 => ⟨(((b4 _ ⟨i, h1, Or.inl rfl⟩).mo c3).mo d3).mo e3, (((b4 _ ⟨i, h1, Or.inr rfl⟩).mo c3).mo d3).mo e3⟩, fun i h1 => ⟨((c4 _ ⟨i, h1, Or.inl rfl⟩).mo d3).mo e3, ((c4 _ ⟨i, h1, Or.inr rfl⟩).mo d3).mo e3⟩, fun i h1 => ⟨(d4 _ ⟨i, h1, Or.inl rfl⟩).mo e3, (d4 _ ⟨i, h1, Or.inr rfl⟩).mo e3⟩, fun i h1 h2 => e4 _ ⟨i, h1, h2, rfl⟩⟩, ((((F1.tr F2).tr F3).tr F4).tr F5).tr F6⟩
theorem CB.dk (h : CB S T M1 (a + 196) n f) (hG : Gd S) (hGT : Gd T) (g : Gm S T) {i x : Nat} (al : Al n f i x) : dkS S T x = dkS S T (f i) := by
  obtain ⟨⟨_, inc, n2, f0, fA⟩, hn, s1, s2, r1, r2, p1⟩ := h
  have p2 : PtC T (2 ^ S 140) n f := by
    unfold PtC
    rw [g.2.2]
    exact p1
  unfold dkS
  rw [al.kd hG inc fA p1 r1, al.kd hGT inc fA p2 r2]
theorem CB.dw (h : CB S T M1 (a + 196) n f) {i x : Nat} (al : Al n f i x) : dwS S T x = dwS S T (f i) := by
  obtain ⟨⟨_, inc, n2, f0, fA⟩, hn, s1, s2, r1, r2, p1⟩ := h
  unfold dwS wS
  rw [al.wt inc fA s1, al.wt inc fA s2]
theorem X10_otherKinds_0 {b : Nat} (hfu : 200000 ≤ fu) (h : CB S T M1 (a + 196) n f) (hV : VX S M1 (a + 12)) (hT : VX T M1 b) (hG : Gd S) (hGT : Gd T) (g : Gm S T) : fX10_otherKinds_l10 fu a b 0 M1 0 0 = some (nI (smN (dkS S T) (2 ^ S 140)), M1) := by
  have hdk := fun i x => h.dk hG hGT g (i := i) (x := x)
  obtain ⟨hE, hn, _⟩ := h
  have hA := hG.ad
  have n2 := hE.2.2.1
  unfold fX10_otherKinds_l10
  refine lp_ue (fun i => (nI (smN (dkS S T) (f i)), nI i)) (n - 1) (by rw [hE.2.2.2.1]; rfl) (by omega) (fun i hi rec => ?_) (fun rec => ?_)
  · have hle := hE.le (i := i + 1) (by omega)
    have hlt := hE.2.1 i (i + 1) (by omega) (by omega)
    have k1 : fX8_kindAt fu (a + 12) (nI (f i)) (-1) M1 = some (nI (kdS S (f i) 99)) := X8_kindAt hfu hV hG (by omega) none_but
    have k2 : fX8_kindAt fu b (nI (f i)) (-1) M1 = some (nI (kdS T (f i) 99)) := X8_kindAt hfu hT hGT (by omega) none_but
    have s1 := kdS_le hG (f i) 99
    have s2 := kdS_le hGT (f i) 99
    have su : smN (dkS S T) (f (i + 1)) = smN (dkS S T) (f i) + dkS S T (f i) * (f (i + 1) - f i) := smN_flat (Nat.le_of_lt hlt) fun x h1 h2 => hdk i x ⟨by omega, h1, h2⟩
    have e5 : nI (f (i + 1)) - nI (f i) = nI (f (i + 1) - f i) := zi_sub (by omega)
    show fX10_otherKinds_b10 fu _ a b 0 (nI (smN (dkS S T) (f i))) (nI i) M1 = rec (nI (smN (dkS S T) (f (i + 1))), nI (i + 1))
    unfold fX10_otherKinds_b10 fX10_otherKinds_j81
    rw [nI_1, hE.1.1, if_neg (nI_ge (by omega) (by omega)), if_neg (nI_in (by omega) (by omega)), ix_n (by omega), hE.1.2 i (by omega), lt_eq, k1, bi_s, k2, bi_s, if_neg (nI_in (by omega) (by omega)), ix_n (by omega), hE.1.2 (i + 1) (by omega), lt_eq, if_pos rfl, e5, lt_eq, nI_add, lt_eq, su]
    unfold dkS
    by_cases c : kdS S (f i) 99 = kdS T (f i) 99
    · rw [if_pos (by rw [c]), if_pos c, Nat.zero_mul]
      rfl
    · rw [if_neg (fun z => c ((nI_eq (by omega) (by omega)).mp z)), if_neg c, Nat.one_mul]
  · show fX10_otherKinds_b10 fu _ a b 0 (nI (smN (dkS S T) (f (n - 1)))) (nI (n - 1)) M1 = _
    unfold fX10_otherKinds_b10
    rw [nI_1, hE.1.1, if_pos (nI_le (by omega) (by omega)), hE.2.2.2.2]
    rfl
theorem X10_otherKinds_1 {b : Nat} (hfu : 200000 ≤ fu) (h : CB S T M1 (a + 196) n f) (hV : VX S M1 (a + 12)) (hT : VX T M1 b) (hG : Gd S) (hGT : Gd T) (g : Gm S T) : Wp (fX10_otherKinds_l10 fu a b 1 M1 0 0) (fun z => z = (df1 (dkS S T) (2 ^ S 140), M1)) := by
  have hdk := fun i x => h.dk hG hGT g (i := i) (x := x)
  obtain ⟨hE, hn, _⟩ := h
  have hA := hG.ad
  have n2 := hE.2.2.1
  unfold fX10_otherKinds_l10
  refine lp_ho (fun i z => z = (nI 0, nI i) ∧ smN (dkS S T) (f i) = 0) _ (n - 1) (i := 0) (by omega) (by omega) ⟨rfl, by rw [hE.2.2.2.1]; rfl⟩ (fun i z hi hz rec hrec => ?_) (fun z hz rec => ?_)
  · obtain ⟨rfl, hz⟩ := hz
    have hle := hE.le (i := i + 1) (by omega)
    have hlt := hE.2.1 i (i + 1) (by omega) (by omega)
    have k1 : fX8_kindAt fu (a + 12) (nI (f i)) (-1) M1 = some (nI (kdS S (f i) 99)) := X8_kindAt hfu hV hG (by omega) none_but
    have k2 : fX8_kindAt fu b (nI (f i)) (-1) M1 = some (nI (kdS T (f i) 99)) := X8_kindAt hfu hT hGT (by omega) none_but
    have s1 := kdS_le hG (f i) 99
    have s2 := kdS_le hGT (f i) 99
    have su : smN (dkS S T) (f (i + 1)) = smN (dkS S T) (f i) + dkS S T (f i) * (f (i + 1) - f i) := smN_flat (Nat.le_of_lt hlt) fun x h1 h2 => hdk i x ⟨by omega, h1, h2⟩
    show Wp (fX10_otherKinds_b10 fu _ a b 1 (nI 0) (nI i) M1) _
    unfold fX10_otherKinds_b10 fX10_otherKinds_j81 fX10_otherKinds_j60
    rw [nI_1, hE.1.1, if_neg (nI_ge (by omega) (by omega)), if_neg (nI_in (by omega) (by omega)), ix_n (by omega), hE.1.2 i (by omega), lt_eq, k1, bi_s, k2, bi_s, lt_eq, if_neg (show ¬ (1 : Int32) = 0 by decide)]
    by_cases c : kdS S (f i) 99 = kdS T (f i) 99
    · have c0 : dkS S T (f i) = 0 := if_pos c
      rw [if_pos (by rw [c])]
      exact hrec _ ⟨rfl, by rw [su, hz, c0]; omega⟩
    · have c0 : dkS S T (f i) = 1 := if_neg c
      have hp : smN (dkS S T) (f i + 1) = smN (dkS S T) (f i) + dkS S T (f i) := rfl
      have hmo := smN_mono (dkS S T) (a := f i + 1) (b := 2 ^ S 140) (by omega)
      rw [if_neg (fun z => c ((nI_eq (by omega) (by omega)).mp z)), wp_some]
      unfold df1
      rw [if_neg (by omega), fsN_f hz (by omega) (by omega)]
  · obtain ⟨rfl, hz⟩ := hz
    show Wp (fX10_otherKinds_b10 fu _ a b 1 (nI 0) (nI (n - 1)) M1) _
    unfold fX10_otherKinds_b10 fX10_otherKinds_j87 fX10_otherKinds_j97
    rw [hE.2.2.2.2] at hz
    rw [nI_1, hE.1.1, if_pos (nI_le (by omega) (by omega)), if_neg (show ¬ (1 : Int32) = 0 by decide), wp_some]
    unfold df1
    rw [if_pos hz]
    rfl
theorem X10_otherWanted_l {b : Nat} (hfu : 200000 ≤ fu) (h : CB S T M1 (a + 196) n f) (hV : VX S M1 (a + 12)) (hT : VX T M1 b) (hG : Gd S) (hGT : Gd T) : fX10_otherWanted_l9 fu a b M1 0 0 = some (nI (smN (dwS S T) (2 ^ S 140)), M1) := by
  have hdk := fun i x => h.dw (i := i) (x := x)
  obtain ⟨hE, hn, _⟩ := h
  have hA := hG.ad
  have n2 := hE.2.2.1
  unfold fX10_otherWanted_l9
  refine lp_ue (fun i => (nI (smN (dwS S T) (f i)), nI i)) (n - 1) (by rw [hE.2.2.2.1]; rfl) (by omega) (fun i hi rec => ?_) (fun rec => ?_)
  · have hle := hE.le (i := i + 1) (by omega)
    have hlt := hE.2.1 i (i + 1) (by omega) (by omega)
    have k1 : fX8_wantedAt fu (a + 12) (nI (f i)) (nI (S 0)) M1 = some (nI (wS S (f i))) := X8_wantedAt hfu hV hG (by omega)
    have k2 : fX8_wantedAt fu b (nI (f i)) (nI (T 0)) M1 = some (nI (wS T (f i))) := X8_wantedAt hfu hT hGT (by omega)
    have s1 := wS_lt hG (f i)
    have s2 := wS_lt hGT (f i)
    have su : smN (dwS S T) (f (i + 1)) = smN (dwS S T) (f i) + dwS S T (f i) * (f (i + 1) - f i) := smN_flat (Nat.le_of_lt hlt) fun x h1 h2 => hdk i x ⟨by omega, h1, h2⟩
    have e5 : nI (f (i + 1)) - nI (f i) = nI (f (i + 1) - f i) := zi_sub (by omega)
    show fX10_otherWanted_b9 fu _ a b (nI (smN (dwS S T) (f i))) (nI i) M1 = rec (nI (smN (dwS S T) (f (i + 1))), nI (i + 1))
    unfold fX10_otherWanted_b9 fX10_otherWanted_j79
    rw [nI_1, hE.1.1, if_neg (nI_ge (by omega) (by omega)), if_neg (nI_in (by omega) (by omega)), ix_n (by omega), hE.1.2 i (by omega), lt_eq, hV.1.2.2.1, hT.1.2.2.1, k1, bi_s, k2, bi_s, if_neg (nI_in (by omega) (by omega)), ix_n (by omega), hE.1.2 (i + 1) (by omega), lt_eq, e5, lt_eq, nI_add, lt_eq, su]
    unfold dwS
    by_cases c : wS S (f i) = wS T (f i)
    · rw [if_pos (by rw [c]), if_pos c, Nat.zero_mul]
      rfl
    · rw [if_neg (fun z => c ((nI_eq (by omega) (by omega)).mp z)), if_neg c, Nat.one_mul]
  · show fX10_otherWanted_b9 fu _ a b (nI (smN (dwS S T) (f (n - 1)))) (nI (n - 1)) M1 = _
    unfold fX10_otherWanted_b9
    rw [nI_1, hE.1.1, if_pos (nI_le (by omega) (by omega)), hE.2.2.2.2]
    rfl
theorem X10_differs_y (hfu : 200000 ≤ fu) (hV : VX S M (a + 12)) (hG : Gd S) (hB : BX B bx M a) {j : Nat} (hj : j < 2) (hbx : bx j = 1) (hGT : Gd (B j)) (g : Gm S (B j)) (x2 : Int32) : Wp (fX10_differs fu a (nI j) x2 M) (fun z => z.1 = dfA S (B j) x2 ∧ Fr (a + 196) 2 M z.2) := by
  have hT : VX (B j) M (a + 176 + 1 + 9 * j) := by
    rcases hB j hj with ⟨b0, _⟩ | ⟨_, _, b2⟩
    · omega
    · exact b2
  obtain ⟨v, ev, ⟨rfl, _⟩ | ⟨rfl, hn⟩⟩ := X10_hasKept (fu := fu) hB (nI j)
  · obtain ⟨M1, ec, ⟨n, f, hc⟩, hf⟩ := X10_cutBoth (T := B j) (b := a + 176 + 1 + 9 * j) hfu hV hT hG hGT (by omega)
    have V1 : VX S M1 (a + 12) := hV.fr fun c k1 k2 => hf.at (by omega)
    have T1 : VX (B j) M1 (a + 176 + 1 + 9 * j) := hT.fr fun c k1 k2 => hf.at (by omega)
    have hin : ¬ (nI j < 0 ∨ 2 ≤ j) := fun z => z.elim (nI_pos (by omega)) (fun z => by omega)
    unfold fX10_differs dfA
    rw [ev, bi_s, if_neg (by decide), ix_n (by omega)]
    show Wp (if x2 = nI 0 then _ else if x2 = nI 1 then _ else if x2 = nI 2 then _ else _) _
    by_cases c0 : x2 = nI 0
    · rw [if_pos c0, if_pos c0, if_neg hin]
      unfold fX10_otherKinds
      rw [ec, bm_s, X10_otherKinds_0 hfu hc V1 T1 hG hGT g, bw_s]
      exact ⟨(_, M1), rfl, rfl, hf⟩
    rw [if_neg c0, if_neg c0]
    by_cases c1 : x2 = nI 1
    · rw [if_pos c1, if_pos c1, if_neg hin]
      unfold fX10_otherWanted
      rw [ec, bm_s, X10_otherWanted_l hfu hc V1 T1 hG hGT, bw_s]
      exact ⟨(_, M1), rfl, rfl, hf⟩
    rw [if_neg c1, if_neg c1]
    by_cases c2 : x2 = nI 2
    · rw [if_pos c2, if_pos c2, if_neg hin]
      unfold fX10_otherKinds
      obtain ⟨z, e2, rfl⟩ := X10_otherKinds_1 hfu hc V1 T1 hG hGT g
      rw [ec, bm_s, e2, bw_s]
      exact ⟨(_, M1), rfl, rfl, hf⟩
    · rw [if_neg c2, if_neg c2]
      exact ⟨_, rfl, rfl, Fr.rf _ _ M⟩
  · have := hn j hj rfl
    omega
theorem X10_differs_n (hB : BX B bx M a) {x1 : Int32} (h : ¬ ∃ j, j < 2 ∧ x1 = nI j ∧ bx j = 1) (x2 : Int32) : fX10_differs fu a x1 x2 M = some (mI, M) := by
  obtain ⟨v, ev, ⟨rfl, hh⟩ | ⟨rfl, hn⟩⟩ := X10_hasKept (fu := fu) hB x1
  · exact absurd hh h
  · unfold fX10_differs
    rw [ev, bi_s, if_pos (by decide)]
    rfl
end DF
