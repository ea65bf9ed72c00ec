/-! The block that gains most besides the others. -/
def bzS (S : Sto) (k x : Nat) : Int := if x < S 142 then 0 else (if tgN (ksS S x 99 ||| 2 ^ k) (S 0) = wS S x then 1 else 0) - (if kdS S x 99 = wS S x then 1 else 0)
def tnS (S : Sto) (b s : Nat) : Nat := smN (fun r => if S (38 + 3 * r) = b ∧ S (39 + 3 * r) = s then 1 else 0) (S 141)
def gbS (S : Sto) (k b s : Nat) : Int := smZ (bzS S k) (b + s) - smZ (bzS S k) b
def bqF (S : Sto) (k s : Nat) : Nat → Option (Int × Nat)
  | 0 => none
  | i + 1 => if tnS S (i * s) s = 0 then (match bqF S k s i with
      | none => some (gbS S k (i * s) s, i * s)
      | some (n, b) => if n < gbS S k (i * s) s then some (gbS S k (i * s) s, i * s) else some (n, b)) else bqF S k s i
def bqI : Option (Int × Nat) → Int32
  | none => zZ (-2000)
  | some (n, _) => zZ n
def bqB : Option (Int × Nat) → Int32
  | none => zZ (-2000)
  | some (_, b) => nI b
theorem tnS_0 {S : Sto} {b s : Nat} : tnS S b s = 0 ↔ ∀ r, r < S 141 → ¬ (S (38 + 3 * r) = b ∧ S (39 + 3 * r) = s) := by
  unfold tnS
  rw [smN_0]
  constructor
  · intro h r hr q
    have := h r hr
    rw [if_pos q] at this
    omega
  · intro h r hr
    exact if_neg (h r hr)
theorem bz_bd (S : Sto) (k x : Nat) : -1 ≤ bzS S k x ∧ bzS S k x ≤ 1 := by
  unfold bzS
  split
  · omega
  · split <;> split <;> omega
theorem gb_bd (S : Sto) (k b s : Nat) : -(s : Int) ≤ gbS S k b s ∧ gbS S k b s ≤ s := by
  unfold gbS
  rw [smZ_add]
  have := smZ_bd (g := fun x => bzS S k (b + x)) (n := s) (fun x _ => bz_bd S k (b + x))
  omega
theorem bq_bd {S : Sto} {k s : Nat} : ∀ {i : Nat} {n : Int} {b : Nat}, bqF S k s i = some (n, b) → -(s : Int) ≤ n ∧ n ≤ s ∧ b + s ≤ i * s
  | 0, n, b, h => by cases h
  | i + 1, n, b, h => by
    have ih := @bq_bd S k s i
    have gb := gb_bd S k (i * s) s
    have e : (i + 1) * s = i * s + s := Nat.succ_mul i s
    rw [e]
    unfold bqF at h
    by_cases c : tnS S (i * s) s = 0
    · rw [if_pos c] at h
      cases hq : bqF S k s i with
      | none =>
        rw [hq] at h
        cases h
        omega
      | some q =>
        obtain ⟨n', b'⟩ := q
        rw [hq] at h
        have ih := ih hq
        by_cases c2 : n' < gbS S k (i * s) s
        · have h2 : (if n' < gbS S k (i * s) s then some (gbS S k (i * s) s, i * s) else some (n', b')) = some (n, b) := h
          rw [if_pos c2] at h2
          cases h2
          omega
        · have h2 : (if n' < gbS S k (i * s) s then some (gbS S k (i * s) s, i * s) else some (n', b')) = some (n, b) := h
          rw [if_neg c2] at h2
          cases h2
          omega
    · rw [if_neg c] at h
      have := ih h
      omega
theorem bqF_t {S : Sto} {k s i : Nat} (c : ¬ tnS S (i * s) s = 0) : bqF S k s (i + 1) = bqF S k s i := if_neg c
theorem bqF_n {S : Sto} {k s i : Nat} (c : tnS S (i * s) s = 0) (h : bqF S k s i = none) : bqF S k s (i + 1) = some (gbS S k (i * s) s, i * s) := by
  refine (if_pos c).trans ?_
  rw [h]
theorem bqF_y {S : Sto} {k s i b : Nat} {n : Int} (c : tnS S (i * s) s = 0) (h : bqF S k s i = some (n, b)) (c2 : n < gbS S k (i * s) s) : bqF S k s (i + 1) = some (gbS S k (i * s) s, i * s) := by
  refine (if_pos c).trans ?_
  rw [h]
  exact if_pos c2
theorem bqF_z {S : Sto} {k s i b : Nat} {n : Int} (c : tnS S (i * s) s = 0) (h : bqF S k s i = some (n, b)) (c2 : ¬ n < gbS S k (i * s) s) : bqF S k s (i + 1) = some (n, b) := by
  refine (if_pos c).trans ?_
  rw [h]
  exact if_neg c2
theorem or32 {a k : Nat} (ha : a < 32) (hk : k < 5) : a ||| 2 ^ k < 32 := Nat.or_lt_two_pow (n := 5) ha (pow2_lt32 hk)
section BR
variable {fu m : Nat} {S : Sto} {M : Mm}
theorem X11_isTaken (hfu : 200000 ≤ fu) (hV : VM S M m) (hG : Gd S) {b s : Nat} (hb : b < 2 ^ 31) (hs : s < 2 ^ 31) : fX11_isTaken fu m (nI b) (nI s) mI M = some (bI (¬ tnS S b s = 0)) := by
  have h1 := hG.1
  have key : Wp (fX11_isTaken fu m (nI b) (nI s) mI M) (fun v => v = bI (¬ tnS S b s = 0)) := by
    unfold fX11_isTaken fX11_isTaken_l3
    refine lp_ho (fun j z => z = nI j ∧ ∀ r, r < j → ¬ (S (38 + 3 * r) = b ∧ S (39 + 3 * r) = s)) _ (S 141) (i := 0) (by omega) (by omega) ⟨rfl, fun x h => by omega⟩ (fun j z hj hz rec hrec => ?_) (fun z hz rec => ?_)
    · obtain ⟨rfl, hz⟩ := hz
      have b1 := hG.2.1 (38 + 3 * j)
      have b2 := hG.2.1 (39 + 3 * j)
      have nx : ¬ (S (38 + 3 * j) = b ∧ S (39 + 3 * j) = s) → Wp (rec (nI (j + 1))) (fun v => v = bI (¬ tnS S b s = 0)) := fun c => hrec _ ⟨rfl, fun r hr => by
        by_cases c2 : r = j
        · rw [c2]; exact c
        · exact hz r (by omega)⟩
      simp (disch := omega) only [fX11_isTaken_b3, fX11_isTaken_j40, fX11_isTaken_j38, X11_registersNow hV, X11_sizeOf hV (r := j), X11_baseOf hV (r := j), zi_li, zi_m, zi_m1, nI_add, zi_sub, zi_mul, zi_addm, zi_m_lt, zi_lt_m, zi_m_le, zi_le_m, zi_eq_m, zi_m_eq, nI_ltI, nI_leI, nI_eq, nI_clamp, zi_div, lt_eq, bm_s, bi_s, bl_s, bw_s, gd, if_pos, if_neg, ite_true, ite_false, or_false, false_or, and_true, true_and, not_true, not_false_iff, true_or, or_true, Nat.not_lt_zero]
      by_cases c1 : S (39 + 3 * j) = s
      · rw [if_pos c1]
        by_cases c2 : S (38 + 3 * j) = b
        · rw [if_pos c2, wp_some, bI_t (c := ¬ tnS S b s = 0) (fun q => tnS_0.mp q j hj ⟨c2, c1⟩)]
        · rw [if_neg c2]
          exact nx fun q => c2 q.1
      · rw [if_neg c1]
        exact nx fun q => c1 q.2
    · obtain ⟨rfl, hz⟩ := hz
      simp (disch := omega) only [fX11_isTaken_b3, fX11_isTaken_j46, X11_registersNow hV, zi_li, zi_m, zi_m1, nI_add, zi_sub, zi_mul, zi_addm, zi_m_lt, zi_lt_m, zi_m_le, zi_le_m, zi_eq_m, zi_m_eq, nI_ltI, nI_leI, nI_eq, nI_clamp, zi_div, lt_eq, bm_s, bi_s, bl_s, bw_s, gd, if_pos, if_neg, ite_true, ite_false, or_false, false_or, and_true, true_and, not_true, not_false_iff, true_or, or_true, Nat.not_lt_zero]
      rw [wp_some, bI_f (c := ¬ tnS S b s = 0) (fun q => q (tnS_0.mpr hz))]
  obtain ⟨v, e, rfl⟩ := key
  exact e
theorem X11_gain (hfu : 200000 ≤ fu) (hV : VM S M m) (hG : Gd S) {b s k : Nat} (hk : k < 5) (hb : b + s ≤ 2 ^ S 140) : fX11_gain fu m (nI b) (nI s) (nI k) M = some (zZ (gbS S k b s)) := by
  have hA := hG.ad
  have h1 := hG.1
  have hF := hG.2.1 142
  unfold fX11_gain fX11_gain_l6
  refine lp_ue (fun j => (zZ (gbS S k b j), nI (b + j))) s (by unfold gbS; rw [Nat.add_zero, Int.sub_self]; rfl) (by omega) (fun j hj rec => ?_) (fun rec => ?_)
  · have s1 := kdS_le hG (b + j) 99
    have s4 := wS_lt hG (b + j)
    have s2 := ksS_lt hG (b + j) 99
    have s3 := or32 s2 hk
    have s5 := pow2_lt32 hk
    have s6 : tgN (ksS S (b + j) 99 ||| 2 ^ k) (S 0) ≤ 5 := tgN_le (by omega)
    have e1 : gbS S k b (j + 1) = gbS S k b j + bzS S k (b + j) := by
      unfold gbS
      have : smZ (bzS S k) (b + (j + 1)) = smZ (bzS S k) (b + j) + bzS S k (b + j) := rfl
      omega
    have w1 : fX11_wantedAt fu m (nI (b + j)) M = some (nI (wS S (b + j))) := X11_wantedAt hfu hV hG (by omega)
    have w2 : fX11_setAt fu m (nI (b + j)) mI M = some (nI (ksS S (b + j) 99)) := X11_setAt hfu hV hG (by omega) none_but
    simp (disch := omega) only [fX11_gain_b6, fX11_gain_j54, fX11_gain_j74, fX11_gain_j78, w1, w2, X11_isFixed hV hG (x := b + j), X11_kindAt hfu hV hG (x := b + j), X11_together hfu hV (k := ksS S (b + j) 99 ||| 2 ^ k), bI_0, zi_li, zi_m, zi_m1, nI_add, zi_sub, zi_mul, zi_addm, zi_m_lt, zi_lt_m, zi_m_le, zi_le_m, zi_eq_m, zi_m_eq, nI_ltI, nI_leI, nI_eq, nI_clamp, zi_div, lt_eq, bm_s, bi_s, bl_s, bw_s, gd, if_pos, if_neg, ite_true, ite_false, or_false, false_or, and_true, true_and, not_true, not_false_iff, true_or, or_true, Nat.not_lt_zero, zi_shl, zi_or, Nat.one_mul, Nat.add_assoc]
    rw [e1]
    by_cases c0 : b + j < S 142
    · have : bzS S k (b + j) = 0 := if_pos c0
      rw [if_neg (fun q => q c0), this, Int.add_zero]
    · rw [if_pos c0, ← zZ_add]
      unfold bzS
      rw [if_neg c0]
      by_cases c1 : tgN (ksS S (b + j) 99 ||| 2 ^ k) (S 0) = wS S (b + j) <;> by_cases c2 : kdS S (b + j) 99 = wS S (b + j)
      · rw [if_pos c1, if_pos c2, if_pos c1, if_pos c2]; rfl
      · rw [if_pos c1, if_neg c2, if_pos c1, if_neg c2]; rfl
      · rw [if_neg c1, if_pos c2, if_neg c1, if_pos c2]; rfl
      · rw [if_neg c1, if_neg c2, if_neg c1, if_neg c2]; rfl
  · simp (disch := omega) only [fX11_gain_b6, fX11_gain_j84, zi_li, zi_m, zi_m1, nI_add, zi_sub, zi_mul, zi_addm, zi_m_lt, zi_lt_m, zi_m_le, zi_le_m, zi_eq_m, zi_m_eq, nI_ltI, nI_leI, nI_eq, nI_clamp, zi_div, lt_eq, bm_s, bi_s, bl_s, bw_s, gd, if_pos, if_neg, ite_true, ite_false, or_false, false_or, and_true, true_and, not_true, not_false_iff, true_or, or_true, Nat.not_lt_zero]
def bqX (x : Int32) (o : Option (Int × Nat)) : Int32 := if x = nI 0 then bqI o else bqB o
/-- the reference's two numbers on the way -/
def bqR (o : Option (Int × Nat)) : Int32 × Int32 := match o with
  | none => (mI, nI 0)
  | some (n, b) => (nI b, zZ n)
theorem X11_besides_l (hfu : 200000 ≤ fu) (hV : VM S M m) (hG : Gd S) {s q k : Nat} (hk : k < 5) (hs : 0 < s) (hq : q * s = 2 ^ S 140) (x : Int32) : fX11_besides_l41 fu m (nI s) (nI k) x M mI (nI 0) (nI 0) = some (bqX x (bqF S k s q)) := by
  have hA := hG.ad
  have h1 := hG.1
  have hs2 : s ≤ q * s := by
    cases q with
    | zero => omega
    | succ q => rw [Nat.succ_mul]; omega
  have hq2 : q ≤ q * s := Nat.le_mul_of_pos_right q hs
  unfold fX11_besides_l41
  refine lp_ue (fun i => ((bqR (bqF S k s i)).1, (bqR (bqF S k s i)).2, nI (i * s))) q (by rw [Nat.zero_mul]; rfl) (by omega) (fun i hi rec => ?_) (fun rec => ?_)
  · have e1 : (i + 1) * s = i * s + s := Nat.succ_mul i s
    have e2 : (i + 1) * s ≤ q * s := Nat.mul_le_mul_right s hi
    have gb := gb_bd S k (i * s) s
    have it := X11_isTaken (fu := fu) hfu hV hG (b := i * s) (s := s) (by omega) (by omega)
    have ga := X11_gain (fu := fu) hfu hV hG (b := i * s) (s := s) hk (by omega)
    show fX11_besides_b41 fu _ m (nI s) (nI k) x (bqR (bqF S k s i)).1 (bqR (bqF S k s i)).2 (nI (i * s)) M = rec ((bqR (bqF S k s (i + 1))).1, (bqR (bqF S k s (i + 1))).2, nI ((i + 1) * s))
    rw [e1]
    by_cases c : tnS S (i * s) s = 0
    · have it' : fX11_isTaken fu m (nI (i * s)) (nI s) mI M = some (nI 0) := by rw [it, bI_f (c := ¬ tnS S (i * s) s = 0) (fun q => q c)]
      cases hb : bqF S k s i with
      | none =>
        rw [bqF_n c hb]
        simp (disch := omega) only [bqR, fX11_besides_b41, fX11_besides_j97, fX11_besides_j89, X11_addresses hV hG, it', ga, zi_li, zi_m, zi_m1, nI_add, zi_sub, zi_mul, zi_addm, zi_m_lt, zi_lt_m, zi_m_le, zi_le_m, zi_eq_m, zi_m_eq, nI_ltI, nI_leI, nI_eq, nI_clamp, zi_div, lt_eq, bm_s, bi_s, bl_s, bw_s, gd, if_pos, if_neg, ite_true, ite_false, or_false, false_or, and_true, true_and, not_true, not_false_iff, true_or, or_true, Nat.not_lt_zero]
      | some o =>
        obtain ⟨n', b'⟩ := o
        have bd := bq_bd hb
        have cc : (zZ n' < zZ (gbS S k (i * s) s)) = (n' < gbS S k (i * s) s) := by
          rw [← Int32.not_le, zZ_le (by omega) (by omega) (by omega) (by omega), Int.not_le]
        by_cases c2 : n' < gbS S k (i * s) s
        · rw [bqF_y c hb c2]
          simp (disch := omega) only [bqR, fX11_besides_b41, fX11_besides_j97, fX11_besides_j89, X11_addresses hV hG, it', ga, cc, zi_li, zi_m, zi_m1, nI_add, zi_sub, zi_mul, zi_addm, zi_m_lt, zi_lt_m, zi_m_le, zi_le_m, zi_eq_m, zi_m_eq, nI_ltI, nI_leI, nI_eq, nI_clamp, zi_div, lt_eq, bm_s, bi_s, bl_s, bw_s, gd, if_pos, if_neg, ite_true, ite_false, or_false, false_or, and_true, true_and, not_true, not_false_iff, true_or, or_true, Nat.not_lt_zero]
        · rw [bqF_z c hb c2]
          simp (disch := omega) only [bqR, fX11_besides_b41, fX11_besides_j97, fX11_besides_j89, X11_addresses hV hG, it', ga, cc, zi_li, zi_m, zi_m1, nI_add, zi_sub, zi_mul, zi_addm, zi_m_lt, zi_lt_m, zi_m_le, zi_le_m, zi_eq_m, zi_m_eq, nI_ltI, nI_leI, nI_eq, nI_clamp, zi_div, lt_eq, bm_s, bi_s, bl_s, bw_s, gd, if_pos, if_neg, ite_true, ite_false, or_false, false_or, and_true, true_and, not_true, not_false_iff, true_or, or_true, Nat.not_lt_zero]
    · rw [bqF_t c]
      have it' : fX11_isTaken fu m (nI (i * s)) (nI s) mI M = some (nI 1) := by rw [it, bI_t (c := ¬ tnS S (i * s) s = 0) c]
      simp (disch := omega) only [fX11_besides_b41, fX11_besides_j97, X11_addresses hV hG, it', zi_li, zi_m, zi_m1, nI_add, zi_sub, zi_mul, zi_addm, zi_m_lt, zi_lt_m, zi_m_le, zi_le_m, zi_eq_m, zi_m_eq, nI_ltI, nI_leI, nI_eq, nI_clamp, zi_div, lt_eq, bm_s, bi_s, bl_s, bw_s, gd, if_pos, if_neg, ite_true, ite_false, or_false, false_or, and_true, true_and, not_true, not_false_iff, true_or, or_true, Nat.not_lt_zero]
  · show fX11_besides_b41 fu _ m (nI s) (nI k) x (bqR (bqF S k s q)).1 (bqR (bqF S k s q)).2 (nI (q * s)) M = _
    rw [hq]
    unfold bqX
    cases hb : bqF S k s q with
    | none =>
      simp (disch := omega) only [bqR, bqI, bqB, fX11_besides_b41, fX11_besides_j106, fX11_besides_j128, X11_addresses hV hG, zi_li, zi_m, zi_m1, nI_add, zi_sub, zi_mul, zi_addm, zi_m_lt, zi_lt_m, zi_m_le, zi_le_m, zi_eq_m, zi_m_eq, nI_ltI, nI_leI, nI_eq, nI_clamp, zi_div, lt_eq, bm_s, bi_s, bl_s, bw_s, gd, if_pos, if_neg, ite_true, ite_false, or_false, false_or, and_true, true_and, not_true, not_false_iff, true_or, or_true, Nat.not_lt_zero]
      split <;> rfl
    | some o =>
      obtain ⟨n', b'⟩ := o
      have bd := bq_bd hb
      simp (disch := omega) only [bqR, bqI, bqB, fX11_besides_b41, fX11_besides_j106, fX11_besides_j128, X11_addresses hV hG, zi_li, zi_m, zi_m1, nI_add, zi_sub, zi_mul, zi_addm, zi_m_lt, zi_lt_m, zi_m_le, zi_le_m, zi_eq_m, zi_m_eq, nI_ltI, nI_leI, nI_eq, nI_clamp, zi_div, lt_eq, bm_s, bi_s, bl_s, bw_s, gd, if_pos, if_neg, ite_true, ite_false, or_false, false_or, and_true, true_and, not_true, not_false_iff, true_or, or_true, Nat.not_lt_zero]
      split <;> rfl
end BR
section BC
variable {fu b p n : Nat} {S : Sto} {M : Mm} {f : Nat → Nat}
theorem X5_weighBesides (hfu : 200000 ≤ fu) (h : PV S M p n f) (hV : VX S M b) (hG : Gd S) {k : Nat} (hk : k < 5) (hb : b + 9 ≤ p ∨ p + 9 ≤ b) : Wp (fX5_weighBesides fu p b (nI k) M) (fun M' => (∀ c, c ≠ p + 5 → M'.1 c = M.1 c) ∧ M'.2 = M.2 ∧ ∀ i, i + 1 < n → M'.1 (p + 5) i = zZ (bzS S k (f i))) := by
  have hn := h.2.1
  have hA := hG.ad
  have h1 := hG.1
  have hn2 := h.1.2.2.1
  have hF := hG.2.1 142
  unfold fX5_weighBesides fX5_weighBesides_l2
  refine lp_ho (fun j z => z.1 = nI j ∧ (∀ c, c ≠ p + 5 → z.2.1 c = M.1 c) ∧ z.2.2 = M.2 ∧ ∀ i, i < j → z.2.1 (p + 5) i = zZ (bzS S k (f i))) _ (n - 1) (i := 0) (by omega) (by omega) ⟨rfl, fun _ _ => rfl, rfl, fun i hi => by omega⟩ (fun j z hj hz rec hrec => ?_) (fun z hz rec => ?_)
  · obtain ⟨z1, z2⟩ := z
    obtain ⟨rfl, g1, g2, g3⟩ := hz
    have Pz : PV S z2 p n f := h.fr fun c _ _ k3 => g1 c k3
    have Vz : VX S z2 b := hV.fr fun c k1 k2 => g1 c (by omega)
    have hle := h.le (i := j) (by omega)
    have s2 := ksS_lt hG (f j) 99
    have s3 := or32 s2 hk
    have s5 := pow2_lt32 hk
    have s6 : tgN (ksS S (f j) 99 ||| 2 ^ k) (S 0) ≤ 5 := tgN_le (by omega)
    have w2 : fX8_kindsOver fu b (nI (f j)) mI z2 = some (nI (ksS S (f j) 99)) := X8_kindsOver hfu Vz hG (by omega) none_but
    have nx : ∀ v, v = zZ (bzS S k (f j)) → Wp (rec (nI (j + 1), wI z2 (p + 5) j v)) _ := fun v hv => hrec (nI (j + 1), wI z2 (p + 5) j v) ⟨rfl, fun c hc => by simp (disch := omega) only [wI_ne, wI_eq, wI_nk, wIs_ne, wIs_eq]; exact g1 c hc, g2, fun i hi => by
      by_cases c : i = j
      · rw [c]; simp (disch := omega) only [wI_ne, wI_eq, wI_nk, wIs_ne, wIs_eq]; exact hv
      · simp (disch := omega) only [wI_ne, wI_eq, wI_nk, wIs_ne, wIs_eq]; exact g3 i (by omega)⟩
    simp (disch := omega) only [fX5_weighBesides_b2, fX5_weighBesides_j69, Pz.2.2.2.1.1, Pz.2.2.2.1.2, Pz.1.1.2 j, w2, Vz.1.2.2.1, X10_together (k := ksS S (f j) 99 ||| 2 ^ k), X5_gained Pz hG (i := j) (k := tgN (ksS S (f j) 99 ||| 2 ^ k) (S 0)), zi_li, zi_m, zi_m1, nI_add, zi_sub, zi_mul, zi_addm, zi_m_lt, zi_lt_m, zi_m_le, zi_le_m, zi_eq_m, zi_m_eq, nI_ltI, nI_leI, nI_eq, nI_clamp, zi_div, lt_eq, bm_s, bi_s, bl_s, bw_s, gd, if_pos, if_neg, ite_true, ite_false, or_false, false_or, and_true, true_and, not_true, not_false_iff, true_or, or_true, Nat.not_lt_zero, zi_shl, zi_or, Nat.one_mul]
    by_cases c0 : f j < S 142
    · rw [if_neg (by omega)]
      refine nx _ ?_
      unfold bzS
      rw [if_pos c0]
      rfl
    · rw [if_pos (by omega)]
      refine nx _ ?_
      unfold bzS
      rw [if_neg c0]
  · obtain ⟨z1, z2⟩ := z
    obtain ⟨rfl, g1, g2, g3⟩ := hz
    have Pz : PV S z2 p n f := h.fr fun c _ _ k3 => g1 c k3
    simp (disch := omega) only [fX5_weighBesides_b2, fX5_weighBesides_j76, Pz.2.2.2.1.1, zi_li, zi_m, zi_m1, nI_add, zi_sub, zi_mul, zi_addm, zi_m_lt, zi_lt_m, zi_m_le, zi_le_m, zi_eq_m, zi_m_eq, nI_ltI, nI_leI, nI_eq, nI_clamp, zi_div, lt_eq, bm_s, bi_s, bl_s, bw_s, gd, if_pos, if_neg, ite_true, ite_false, or_false, false_or, and_true, true_and, not_true, not_false_iff, true_or, or_true, Nat.not_lt_zero]
    rw [wp_some]
    exact ⟨g1, g2, fun i hi => g3 i (by omega)⟩
theorem X5_gainWithin (hfu : 200000 ≤ fu) (h : PV S M p n f) (hG : Gd S) {g : Nat → Int} (hg : ∀ i x, Al n f i x → g x = g (f i)) (hB : ∀ i, i + 1 < n → M.1 (p + 5) i = zZ (g (f i))) {i0 lo up : Nat} (ha : Al n f i0 lo) (hlu : lo < up) (hup : up ≤ 2 ^ S 140) : fX5_gainWithin fu p (nI i0) (nI lo) (nI up) M = some (zZ (smZ g up - smZ g lo)) := by
  have hn := h.2.1
  have hA := hG.ad
  have key : Wp (fX5_gainWithin fu p (nI i0) (nI lo) (nI up) M) (fun v => v = zZ (smZ g up - smZ g lo)) := by
    unfold fX5_gainWithin fX5_gainWithin_l6
    refine lp_me (fun z => ∃ i c, z = (zZ (smZ g c - smZ g lo), nI i) ∧ i < n ∧ (i + 1 < n → lo < f (i + 1)) ∧ ((f i ≤ lo ∧ c = lo) ∨ (lo < f i ∧ f i ≤ up ∧ c = f i) ∨ (up < f i ∧ c = up))) (fun z => n - ix z.2) _ (fun z hz rec hrec => ?_) (by show n - ix (nI i0) < fu; omega) ⟨i0, lo, by rw [Int.sub_self]; rfl, by have := ha.1; omega, fun _ => ha.2.2, Or.inl ⟨ha.2.1, rfl⟩⟩
    obtain ⟨i, c, rfl, hi, hl, hc⟩ := hz
    have hle := h.le (i := i) hi
    by_cases ce : i + 1 = n
    · have hi2 : i = n - 1 := by omega
      have e2 : f i = 2 ^ S 140 := by rw [hi2]; exact h.1.2.2.2.2
      have ec : c = up := by omega
      simp (disch := omega) only [fX5_gainWithin_b6, fX5_gainWithin_j79, h.2.2.2.1.1, zi_li, zi_m, zi_m1, nI_add, zi_sub, zi_mul, zi_addm, zi_m_lt, zi_lt_m, zi_m_le, zi_le_m, zi_eq_m, zi_m_eq, nI_ltI, nI_leI, nI_eq, nI_clamp, zi_div, lt_eq, bm_s, bi_s, bl_s, bw_s, gd, if_pos, if_neg, ite_true, ite_false, or_false, false_or, and_true, true_and, not_true, not_false_iff, true_or, or_true, Nat.not_lt_zero]
      rw [wp_some, ec]
    · have hle2 := h.le (i := i + 1) (by omega)
      have hlt := h.lt (i := i) (by omega)
      have hl' := hl (by omega)
      have hB' := hB i (by omega)
      by_cases c1 : up ≤ f i
      · have ec : c = up := by omega
        simp (disch := omega) only [fX5_gainWithin_b6, fX5_gainWithin_j79, h.2.2.2.1.1, h.1.1.2 i, zi_li, zi_m, zi_m1, nI_add, zi_sub, zi_mul, zi_addm, zi_m_lt, zi_lt_m, zi_m_le, zi_le_m, zi_eq_m, zi_m_eq, nI_ltI, nI_leI, nI_eq, nI_clamp, zi_div, lt_eq, bm_s, bi_s, bl_s, bw_s, gd, if_pos, if_neg, ite_true, ite_false, or_false, false_or, and_true, true_and, not_true, not_false_iff, true_or, or_true, Nat.not_lt_zero]
        rw [wp_some, ec]
      · have nx : ∀ c', c ≤ c' → c' ≤ f (i + 1) → ((f (i + 1) ≤ up ∧ c' = f (i + 1)) ∨ (up < f (i + 1) ∧ c' = up)) → ∀ d, d = c' - c → Wp (rec (zZ (smZ g c - smZ g lo) + zZ (g (f i)) * nI d, nI (i + 1))) (fun v => v = zZ (smZ g up - smZ g lo)) := fun c' k1 k2 k3 d hd => by
          have fl := smZ_flat (g := g) (a := c) (b := c') (v := g (f i)) k1 (fun x x1 x2 => hg i x ⟨by omega, by omega, by omega⟩)
          refine hrec _ ⟨i + 1, c', ?_, by omega, fun q => by have := h.lt (i := i + 1) q; omega, by omega⟩ ?_
          · rw [hd, ← zZ_n, zZ_mul, zZ_add]
            have e3 : smZ g c - smZ g lo + g (f i) * ((c' - c : Nat) : Int) = smZ g c' - smZ g lo := by rw [fl]; omega
            rw [e3]
          · show n - ix (nI (i + 1)) < n - ix (nI i)
            rw [ix_n (by omega), ix_n (by omega)]
            omega
        simp (disch := omega) only [fX5_gainWithin_b6, fX5_gainWithin_j79, h.2.2.2.1.1, h.1.1.2 i, h.1.1.2 (i + 1), hB', zi_li, zi_m, zi_m1, nI_add, zi_sub, zi_mul, zi_addm, zi_m_lt, zi_lt_m, zi_m_le, zi_le_m, zi_eq_m, zi_m_eq, nI_ltI, nI_leI, nI_eq, nI_clamp, zi_div, lt_eq, bm_s, bi_s, bl_s, bw_s, gd, if_pos, if_neg, ite_true, ite_false, or_false, false_or, and_true, true_and, not_true, not_false_iff, true_or, or_true, Nat.not_lt_zero]
        by_cases c2 : f (i + 1) < up <;> by_cases c3 : lo < f i
        · rw [if_pos c2, if_pos c3, zi_sub (by omega)]
          exact nx (f (i + 1)) (by omega) (by omega) (by omega) _ (by omega)
        · rw [if_pos c2, if_neg c3, zi_sub (by omega)]
          exact nx (f (i + 1)) (by omega) (by omega) (by omega) _ (by omega)
        · rw [if_neg c2, if_pos c3, zi_sub (by omega)]
          exact nx up (by omega) (by omega) (by omega) _ (by omega)
        · rw [if_neg c2, if_neg c3, zi_sub (by omega)]
          exact nx up (by omega) (by omega) (by omega) _ (by omega)
  obtain ⟨v, e, rfl⟩ := key
  exact e
theorem X10_besides_l {a : Nat} (hfu : 200000 ≤ fu) (h : PV S M p n f) (hV : VX S M (a + 12)) (hG : Gd S) {s q k : Nat} (hB : ∀ i, i + 1 < n → M.1 (p + 5) i = zZ (bzS S k (f i))) (hs : 0 < s) (hq : q * s = 2 ^ S 140) (x : Int32) : fX10_besides_l64 fu a (nI s) x p M (zZ (-2000)) (zZ (-2000)) (nI 0) (nI 0) = some (bqX x (bqF S k s q), M) := by
  have hn := h.2.1
  have hA := hG.ad
  have h1 := hG.1
  have hs2 : s ≤ q * s := by
    cases q with
    | zero => omega
    | succ q => rw [Nat.succ_mul]; omega
  have hq2 : q ≤ q * s := Nat.le_mul_of_pos_right q hs
  have fl : ∀ i x, Al n f i x → bzS S k x = bzS S k (f i) := fun i x al => by
    unfold bzS
    have t1 := h.ff hG al
    have t2 : ksS S x 99 = ksS S (f i) 99 := al.ks h.1.2.1 h.1.2.2.2.2 h.2.2.1.2.1 99
    rw [h.kf hG al, h.wf al, t2]
    by_cases c : x < S 142
    · rw [if_pos c, if_pos (t1.mp c)]
    · rw [if_neg c, if_neg (fun q => c (t1.mpr q))]
  have key : Wp (fX10_besides_l64 fu a (nI s) x p M (zZ (-2000)) (zZ (-2000)) (nI 0) (nI 0)) (fun v => v = (bqX x (bqF S k s q), M)) := by
    unfold fX10_besides_l64
    refine lp_ho (fun i z => ∃ c, z = (bqI (bqF S k s i), bqB (bqF S k s i), nI c, nI (i * s)) ∧ c + 1 < n ∧ f c ≤ i * s) _ q (i := 0) (by omega) (by omega) ⟨0, by rw [Nat.zero_mul]; rfl, by have := h.1.2.2.1; omega, by rw [h.1.2.2.2.1]; omega⟩ (fun i z hi hz rec hrec => ?_) (fun z hz rec => ?_)
    · obtain ⟨c, rfl, hc1, hc2⟩ := hz
      have e1 : (i + 1) * s = i * s + s := Nat.succ_mul i s
      have e2 : (i + 1) * s ≤ q * s := Nat.mul_le_mul_right s hi
      have gb := gb_bd S k (i * s) s
      obtain ⟨c', p1, p2⟩ := X5_pieceFrom hfu h hG (j := c) (x := i * s) hc1 hc2 (by omega)
      have ga : fX5_gainWithin fu p (nI c') (nI (i * s)) (nI (i * s + s)) M = some (zZ (gbS S k (i * s) s)) := X5_gainWithin hfu h hG fl hB p2 (by omega) (by omega)
      have nx : Wp (rec (bqI (bqF S k s (i + 1)), bqB (bqF S k s (i + 1)), nI c', nI (i * s + s))) (fun v => v = (bqX x (bqF S k s q), M)) := hrec _ ⟨c', by rw [e1], p2.1, by have := p2.2.1; omega⟩
      obtain ⟨v, ho, hv⟩ := X8_holderOf hfu hV hG (x := i * s) (y := s) (by omega) (by omega)
      have ht : (v = mI ∧ tnS S (i * s) s = 0) ∨ (¬ v = mI ∧ ¬ tnS S (i * s) s = 0) := by
        rcases hv with ⟨v1, v2⟩ | ⟨r, r1, r2, r3⟩
        · exact Or.inl ⟨v1, tnS_0.mpr v2⟩
        · refine Or.inr ⟨?_, fun q => tnS_0.mp q r r1 ?_⟩
          · rw [r2, zi_eq_m (by omega)]; exact id
          · first | exact r3 | exact ⟨r3.1, r3.2⟩ | exact ⟨r3.1, r3.2.1⟩
      show Wp (fX10_besides_b64 fu _ a (nI s) x p (bqI (bqF S k s i)) (bqB (bqF S k s i)) (nI c) (nI (i * s)) M) _
      have cN : bqF S k s i = none → ¬ zZ (gbS S k (i * s) s) ≤ bqI (bqF S k s i) := fun hb => by
        rw [hb]
        show ¬ zZ _ ≤ zZ (-2000)
        rw [zZ_le (by omega) (by omega) (by omega) (by omega)]
        omega
      have cS : ∀ n' b', bqF S k s i = some (n', b') → (zZ (gbS S k (i * s) s) ≤ bqI (bqF S k s i) ↔ ¬ n' < gbS S k (i * s) s) := fun n' b' hb => by
        have bd := bq_bd hb
        rw [hb]
        show zZ _ ≤ zZ n' ↔ _
        rw [zZ_le (by omega) (by omega) (by omega) (by omega)]
        omega
      unfold fX10_besides_b64 fX10_besides_j131
      rw [hV.1.1, if_neg (nI_ge (by omega) (by omega)), p1, bi_s, nI_add, ga, bi_s, lt_eq]
      by_cases c0 : zZ (gbS S k (i * s) s) ≤ bqI (bqF S k s i)
      · rw [if_pos c0]
        have e3 : bqF S k s (i + 1) = bqF S k s i := by
          by_cases ct : tnS S (i * s) s = 0
          · cases hb : bqF S k s i with
            | none => exact absurd c0 (cN hb)
            | some o =>
              obtain ⟨n', b'⟩ := o
              exact bqF_z ct hb ((cS n' b' hb).mp c0)
          · exact bqF_t ct
        rw [e3] at nx
        exact nx
      · rw [if_neg c0, ho, bi_s, zi_m1]
        rcases ht with ⟨t1, t2⟩ | ⟨t1, t2⟩
        · rw [if_pos t1]
          have e3 : bqF S k s (i + 1) = some (gbS S k (i * s) s, i * s) := by
            cases hb : bqF S k s i with
            | none => exact bqF_n t2 hb
            | some o =>
              obtain ⟨n', b'⟩ := o
              exact bqF_y t2 hb (Decidable.not_not.mp fun q => c0 ((cS n' b' hb).mpr q))
          rw [e3] at nx
          exact nx
        · rw [if_neg t1]
          rw [bqF_t t2] at nx
          exact nx
    · obtain ⟨c, rfl, hc1, hc2⟩ := hz
      show Wp (fX10_besides_b64 fu _ a (nI s) x p (bqI (bqF S k s q)) (bqB (bqF S k s q)) (nI c) (nI (q * s)) M) _
      unfold fX10_besides_b64 fX10_besides_j140 fX10_besides_j151 bqX
      rw [hq, hV.1.1, if_pos (Int32.le_refl _)]
      by_cases c0 : x = nI 0
      · rw [if_pos c0]
        exact ⟨_, if_pos c0, rfl⟩
      · rw [if_neg c0]
        exact ⟨_, if_neg c0, rfl⟩
  obtain ⟨v, e, rfl⟩ := key
  exact e
end BC
