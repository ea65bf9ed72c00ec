/-! What the class asks of its pieces. -/
theorem lp_ue {σ ρ : Type} {F : (σ → Option ρ) → σ → Option ρ} (z : Nat → σ) (n : Nat) {z0 : σ} {fu : Nat} {r : Option ρ} (h0 : z0 = z 0) (hf : n < fu) (hs : ∀ i, i < n → ∀ rec, F rec (z i) = rec (z (i + 1))) (he : ∀ rec, F rec (z n) = r) : lp F fu z0 = r := by
  rw [h0]
  exact lp_up z n hf hs he
/-- the first address with something -/
def fsN (g : Nat → Nat) : Nat → Int32
  | 0 => mI
  | n + 1 => if smN g n = 0 ∧ g n ≠ 0 then nI n else fsN g n
theorem fsN_z {g : Nat → Nat} : ∀ {n : Nat}, smN g n = 0 → fsN g n = mI
  | 0, _ => rfl
  | n + 1, h => by
    have h0 : smN g (n + 1) = smN g n + g n := rfl
    unfold fsN
    rw [if_neg (by omega)]
    exact fsN_z (by omega)
theorem fsN_f {g : Nat → Nat} {a : Nat} (h0 : smN g a = 0) (h1 : g a ≠ 0) : ∀ {n : Nat}, a < n → fsN g n = nI a
  | 0, h => absurd h (Nat.not_lt_zero _)
  | n + 1, h => by
    unfold fsN
    by_cases c : a = n
    · subst c
      rw [if_pos ⟨h0, h1⟩]
    · have := smN_lt (g := g) (a := a) (b := n) (by omega) (by omega)
      rw [if_neg (by omega)]
      exact fsN_f h0 h1 (by omega)
theorem fsN_p {g : Nat → Nat} : ∀ {n : Nat}, smN g n ≠ 0 → ∃ j, j < n ∧ fsN g n = nI j
  | 0, h => absurd rfl h
  | n + 1, h => by
    have h0 : smN g (n + 1) = smN g n + g n := rfl
    unfold fsN
    by_cases c : smN g n = 0 ∧ g n ≠ 0
    · rw [if_pos c]
      exact ⟨n, by omega, rfl⟩
    · rw [if_neg c]
      obtain ⟨j, h1, h2⟩ := fsN_p (g := g) (n := n) (by omega)
      exact ⟨j, by omega, h2⟩
theorem fsN_s {g : Nat → Nat} {a b : Nat} (hab : a < b) (h : ∀ x, a ≤ x → x < b → g x = g a) : fsN g b = if smN g a = 0 ∧ g a ≠ 0 then nI a else fsN g a := by
  by_cases c : smN g a = 0
  · by_cases d : g a = 0
    · rw [if_neg (by omega), fsN_z c, fsN_z]
      rw [smN_flat (a := a) (v := 0) (by omega) (fun x h1 h2 => by rw [h x h1 h2, d]), c]
      omega
    · rw [if_pos ⟨c, d⟩]
      exact fsN_f c d hab
  · rw [if_neg (by omega)]
    obtain ⟨k, rfl⟩ : ∃ k, b = a + k := ⟨b - a, by omega⟩
    clear h hab
    induction k with
    | zero => rfl
    | succ k ih =>
      have := smN_mono g (a := a) (b := a + k) (by omega)
      show (if smN g (a + k) = 0 ∧ g (a + k) ≠ 0 then nI (a + k) else fsN g (a + k)) = fsN g a
      rw [if_neg (by omega)]
      exact ih
section PA
variable {fu b p n : Nat} {S : Sto} {M : Mm} {f : Nat → Nat}
theorem PV.le (h : PV S M p n f) {i : Nat} (hi : i < n) : f i ≤ 2 ^ S 140 := h.1.le hi
theorem PV.lt (h : PV S M p n f) {i : Nat} (hi : i + 1 < n) : f i < f (i + 1) := h.1.2.1 i (i + 1) (by omega) hi
theorem PV.wf (h : PV S M p n f) {i x : Nat} (ha : Al n f i x) : wS S x = wS S (f i) := ha.wt h.1.2.1 h.1.2.2.2.2 h.2.2.1.1 _
theorem PV.kf (h : PV S M p n f) (hG : Gd S) {i x : Nat} (ha : Al n f i x) (but : Nat) : kdS S x but = kdS S (f i) but := ha.kd hG h.1.2.1 h.1.2.2.2.2 h.2.2.1.2.2.1 h.2.2.1.2.1 but
theorem PV.sf (h : PV S M p n f) (hG : Gd S) {i x : Nat} (ha : Al n f i x) : sdS S x = sdS S (f i) := by
  have := h.le (i := i + 1) ha.1
  have := ha.2.2
  exact ha.sd hG h.1.2.1 h.1.2.2.2.2 h.2.2.1.2.2.1 h.2.2.1.2.1 h.2.2.1.2.2.2 (by omega)
theorem PV.ff (h : PV S M p n f) (hG : Gd S) {i x : Nat} (ha : Al n f i x) : x < S 142 ↔ f i < S 142 := ha.fx hG h.1.2.1 h.1.2.2.2.2 h.2.2.1.2.2.1
theorem PV.pf (h : PV S M p n f) (hG : Gd S) {i x : Nat} (ha : Al n f i x) : x / 16 = f i / 16 := by
  have := h.le (i := i + 1) ha.1
  have := ha.2.2
  exact ha.pg hG h.1.2.1 h.1.2.2.2.2 h.2.2.1.2.2.2 (by omega)
theorem PV.su (h : PV S M p n f) {g : Nat → Nat} (hg : ∀ i x, Al n f i x → g x = g (f i)) {i : Nat} (hi : i + 1 < n) : smN g (f (i + 1)) = smN g (f i) + g (f i) * (f (i + 1) - f i) :=
  smN_flat (Nat.le_of_lt (h.lt hi)) fun x h1 h2 => hg i x ⟨hi, h1, h2⟩
theorem PV.sz (h : PV S M p n f) {g : Nat → Int} (hg : ∀ i x, Al n f i x → g x = g (f i)) {i : Nat} (hi : i + 1 < n) : smZ g (f (i + 1)) = smZ g (f i) + g (f i) * ((f (i + 1) - f i : Nat) : Int) :=
  smZ_flat (Nat.le_of_lt (h.lt hi)) fun x h1 h2 => hg i x ⟨hi, h1, h2⟩
theorem X5_lengthOf (h : PV S M p n f) (hG : Gd S) {i : Nat} (hi : i + 1 < n) : fX5_lengthOf fu p (nI i) M = some (nI (f (i + 1) - f i)) := by
  have h1 := h.2.1
  have h2 := h.lt hi
  simp (disch := omega) only [fX5_lengthOf, zi_lit, zi_m, zi_m1, nI_add, zi_sub, zi_mul, zi_addm, zi_m_lt, zi_lt_m, zi_m_le, zi_le_m, zi_eq_m, zi_m_eq, nI_ltI, nI_leI, nI_eq, nI_clamp, zi_div, lt_eq, bm_s, bi_s, bl_s, bw_s, gd, if_pos, if_neg, ite_true, ite_false, or_false, false_or, and_true, true_and, not_true, not_false_iff, true_or, or_true, Nat.not_lt_zero, h.1.1.2 i, h.1.1.2 (i + 1)]
theorem X5_startOf (h : PV S M p n f) {i : Nat} (hi : i < n) : fX5_startOf fu p (nI i) M = some (nI (f i)) := by
  have h1 := h.2.1
  simp (disch := omega) only [fX5_startOf, zi_lit, zi_m, zi_m1, nI_add, zi_sub, zi_mul, zi_addm, zi_m_lt, zi_lt_m, zi_m_le, zi_le_m, zi_eq_m, zi_m_eq, nI_ltI, nI_leI, nI_eq, nI_clamp, zi_div, lt_eq, bm_s, bi_s, bl_s, bw_s, gd, if_pos, if_neg, ite_true, ite_false, or_false, false_or, and_true, true_and, not_true, not_false_iff, true_or, or_true, Nat.not_lt_zero, h.1.1.2 i]
theorem X5_pieceFrom (hfu : 200000 ≤ fu) (h : PV S M p n f) (hG : Gd S) {j x : Nat} (hj : j + 1 < n) (h1 : f j ≤ x) (h2 : x < 2 ^ S 140) : ∃ i, fX5_pieceFrom fu p (nI j) (nI x) M = some (nI i) ∧ Al n f i x := by
  have hn := h.2.1
  have hA := hG.ad
  have key : Wp (fX5_pieceFrom fu p (nI j) (nI x) M) (fun v => ∃ i, v = nI i ∧ Al n f i x) := by
    unfold fX5_pieceFrom fX5_pieceFrom_l2
    refine lp_me (fun z => ∃ i, z = nI i ∧ i + 1 < n ∧ f i ≤ x) (fun z => n - ix z) _ (fun z hz rec hrec => ?_) (by rw [ix_n (by omega)]; omega) ⟨j, rfl, hj, h1⟩
    obtain ⟨i, rfl, hi, hfi⟩ := hz
    have hle := h.le (i := i + 1) hi
    simp (disch := omega) only [fX5_pieceFrom_b2, fX5_pieceFrom_j33, h.2.2.2.1.1, zi_lit, zi_m, zi_m1, nI_add, zi_sub, zi_mul, zi_addm, zi_m_lt, zi_lt_m, zi_m_le, zi_le_m, zi_eq_m, zi_m_eq, nI_ltI, nI_leI, nI_eq, nI_clamp, zi_div, lt_eq, bm_s, bi_s, bl_s, bw_s, gd]
    by_cases c : n - 1 ≤ i + 1
    · rw [if_pos c, wp_some]
      have e : i + 1 = n - 1 := by omega
      exact ⟨i, rfl, hi, hfi, by rw [e, h.1.2.2.2.2]; exact h2⟩
    · simp (disch := omega) only [if_pos, if_neg, ite_true, ite_false, or_false, false_or, and_true, true_and, not_true, not_false_iff, true_or, or_true, Nat.not_lt_zero, h.1.1.2 (i + 1), zi_lit, zi_m, zi_m1, nI_add, zi_sub, zi_mul, zi_addm, zi_m_lt, zi_lt_m, zi_m_le, zi_le_m, zi_eq_m, zi_m_eq, nI_ltI, nI_leI, nI_eq, nI_clamp, zi_div, lt_eq, bm_s, bi_s, bl_s, bw_s, gd]
      by_cases c2 : x < f (i + 1)
      · rw [if_pos c2, wp_some]
        exact ⟨i, rfl, hi, hfi, c2⟩
      · rw [if_neg c2]
        refine hrec _ ⟨i + 1, rfl, by omega, by omega⟩ ?_
        rw [ix_n (by omega), ix_n (by omega)]
        omega
  obtain ⟨v, e, i, rfl, ha⟩ := key
  exact ⟨i, e, ha⟩
theorem X5_wrongOnes (hfu : 200000 ≤ fu) (h : PV S M p n f) (hG : Gd S) {lo up : Nat} (hlo : lo < 2 ^ 31) (hup : up < 2 ^ 31) (tl : ∀ i x, Al n f i x → (x < lo ↔ f i < lo)) (th : ∀ i x, Al n f i x → (x < up ↔ f i < up)) :
    fX5_wrongOnes fu p (nI lo) (nI up) M = some (nI (smN (fun x => if lo ≤ x ∧ x < up ∧ kdS S x 99 ≠ wS S x then 1 else 0) (2 ^ S 140))) := by
  have hn := h.2.1
  have hA := hG.ad
  have h5 := h.1.2.2.1
  have hg : ∀ i x, Al n f i x → (fun x => if lo ≤ x ∧ x < up ∧ kdS S x 99 ≠ wS S x then 1 else 0) x = (fun x => if lo ≤ x ∧ x < up ∧ kdS S x 99 ≠ wS S x then 1 else 0) (f i) := fun i x ha => by
    dsimp only
    have := tl i x ha
    have := th i x ha
    rw [h.wf ha, h.kf hG ha]
    by_cases c : lo ≤ f i ∧ f i < up
    · by_cases c2 : kdS S (f i) 99 ≠ wS S (f i)
      · rw [if_pos ⟨by omega, by omega, c2⟩, if_pos ⟨by omega, by omega, c2⟩]
      · rw [if_neg (fun q => c2 q.2.2), if_neg (fun q => c2 q.2.2)]
    · rw [if_neg (fun q => c (by omega)), if_neg (fun q => c (by omega))]
  generalize hgd : (fun x => if lo ≤ x ∧ x < up ∧ kdS S x 99 ≠ wS S x then 1 else 0) = g at hg
  unfold fX5_wrongOnes fX5_wrongOnes_l5
  refine lp_ue (fun i => (nI (smN g (f i)), nI i)) (n - 1) (by rw [h.1.2.2.2.1]; rfl) (by omega) (fun i hi => fun rec => ?_) (fun rec => ?_)
  · have s1 := h.su hg (i := i) (by omega)
    have s2 := h.le (i := i) (by omega)
    have s3 := h.lt (i := i) (by omega)
    have s4 := wS_lt hG (f i)
    have s5 := kdS_le hG (f i) 99
    have gi : g (f i) = if lo ≤ f i ∧ f i < up ∧ kdS S (f i) 99 ≠ wS S (f i) then 1 else 0 := by rw [← hgd]
    simp (disch := omega) only [fX5_wrongOnes_b5, fX5_wrongOnes_j68, h.2.2.2.1.1, zi_lit, zi_m, zi_m1, nI_add, zi_sub, zi_mul, zi_addm, zi_m_lt, zi_lt_m, zi_m_le, zi_le_m, zi_eq_m, zi_m_eq, nI_ltI, nI_leI, nI_eq, nI_clamp, zi_div, lt_eq, bm_s, bi_s, bl_s, bw_s, gd, if_pos, if_neg, ite_true, ite_false, or_false, false_or, and_true, true_and, not_true, not_false_iff, true_or, or_true, Nat.not_lt_zero, h.1.1.2 i, (h.2.2.2.2.1 i (by omega)).1, (h.2.2.2.2.1 i (by omega)).2, X5_lengthOf h hG (i := i)]
    by_cases c1 : f i < lo
    · rw [if_pos c1, s1, gi, if_neg (by omega), Nat.zero_mul]
      rfl
    rw [if_neg c1]
    by_cases c2 : up ≤ f i
    · rw [if_pos c2, s1, gi, if_neg (by omega), Nat.zero_mul]
      rfl
    rw [if_neg c2]
    by_cases c3 : kdS S (f i) 99 = wS S (f i)
    · rw [if_pos c3, s1, gi, if_neg (fun q => q.2.2 c3), Nat.zero_mul]
      rfl
    · rw [if_neg c3, s1, gi, if_pos ⟨by omega, by omega, c3⟩, Nat.one_mul]
  · simp (disch := omega) only [fX5_wrongOnes_b5, fX5_wrongOnes_j74, h.2.2.2.1.1, zi_lit, zi_m, zi_m1, nI_add, zi_sub, zi_mul, zi_addm, zi_m_lt, zi_lt_m, zi_m_le, zi_le_m, zi_eq_m, zi_m_eq, nI_ltI, nI_leI, nI_eq, nI_clamp, zi_div, lt_eq, bm_s, bi_s, bl_s, bw_s, gd, if_pos, if_neg, ite_true, ite_false, or_false, false_or, and_true, true_and, not_true, not_false_iff, true_or, or_true, Nat.not_lt_zero, h.1.2.2.2.2]
theorem X5_clashing (hfu : 200000 ≤ fu) (h : PV S M p n f) (hG : Gd S) : fX5_clashing fu p M = some (nI (smN (fun x => if kdS S x 99 = 5 then 1 else 0) (2 ^ S 140))) := by
  have hn := h.2.1
  have hA := hG.ad
  have h5 := h.1.2.2.1
  have hg : ∀ i x, Al n f i x → (fun x => if kdS S x 99 = 5 then 1 else 0) x = (fun x => if kdS S x 99 = 5 then 1 else 0) (f i) := fun i x ha => by
    dsimp only
    rw [h.kf hG ha]
  generalize hgd : (fun x => if kdS S x 99 = 5 then 1 else 0) = g at hg
  unfold fX5_clashing fX5_clashing_l4
  refine lp_ue (fun i => (nI (smN g (f i)), nI i)) (n - 1) (by rw [h.1.2.2.2.1]; rfl) (by omega) (fun i hi => fun rec => ?_) (fun rec => ?_)
  · have s1 := h.su hg (i := i) (by omega)
    have s2 := h.le (i := i) (by omega)
    have s3 := h.lt (i := i) (by omega)
    have s5 := kdS_le hG (f i) 99
    have gi : g (f i) = if kdS S (f i) 99 = 5 then 1 else 0 := by rw [← hgd]
    simp (disch := omega) only [fX5_clashing_b4, fX5_clashing_j32, h.2.2.2.1.1, zi_lit, zi_m, zi_m1, nI_add, zi_sub, zi_mul, zi_addm, zi_m_lt, zi_lt_m, zi_m_le, zi_le_m, zi_eq_m, zi_m_eq, nI_ltI, nI_leI, nI_eq, nI_clamp, zi_div, lt_eq, bm_s, bi_s, bl_s, bw_s, gd, if_pos, if_neg, ite_true, ite_false, or_false, false_or, and_true, true_and, not_true, not_false_iff, true_or, or_true, Nat.not_lt_zero, (h.2.2.2.2.1 i (by omega)).2, X5_lengthOf h hG (i := i)]
    by_cases c3 : kdS S (f i) 99 = 5
    · rw [if_pos c3, s1, gi, if_pos c3, Nat.one_mul]
    · rw [if_neg c3, s1, gi, if_neg c3, Nat.zero_mul]
  · simp (disch := omega) only [fX5_clashing_b4, fX5_clashing_j40, h.2.2.2.1.1, zi_lit, zi_m, zi_m1, nI_add, zi_sub, zi_mul, zi_addm, zi_m_lt, zi_lt_m, zi_m_le, zi_le_m, zi_eq_m, zi_m_eq, nI_ltI, nI_leI, nI_eq, nI_clamp, zi_div, lt_eq, bm_s, bi_s, bl_s, bw_s, gd, if_pos, if_neg, ite_true, ite_false, or_false, false_or, and_true, true_and, not_true, not_false_iff, true_or, or_true, Nat.not_lt_zero, h.1.2.2.2.2]
theorem X5_firstWrong (hfu : 200000 ≤ fu) (h : PV S M p n f) (hG : Gd S) {lo : Nat} (hlo : lo < 2 ^ 31) (tl : ∀ i x, Al n f i x → (x < lo ↔ f i < lo)) :
    fX5_firstWrong fu p (nI lo) M = some (fsN (fun x => if lo ≤ x ∧ kdS S x 99 ≠ wS S x then 1 else 0) (2 ^ S 140)) := by
  have hn := h.2.1
  have hA := hG.ad
  have h5 := h.1.2.2.1
  have hg : ∀ i x, Al n f i x → (fun x => if lo ≤ x ∧ kdS S x 99 ≠ wS S x then 1 else 0) x = (fun x => if lo ≤ x ∧ kdS S x 99 ≠ wS S x then 1 else 0) (f i) := fun i x ha => by
    dsimp only
    have := tl i x ha
    rw [h.wf ha, h.kf hG ha]
    by_cases c : lo ≤ f i
    · by_cases c2 : kdS S (f i) 99 ≠ wS S (f i)
      · rw [if_pos ⟨by omega, c2⟩, if_pos ⟨by omega, c2⟩]
      · rw [if_neg (fun q => c2 q.2), if_neg (fun q => c2 q.2)]
    · rw [if_neg (fun q => c (by omega)), if_neg (fun q => c (by omega))]
  generalize hgd : (fun x => if lo ≤ x ∧ kdS S x 99 ≠ wS S x then 1 else 0) = g at hg
  have key : Wp (fX5_firstWrong fu p (nI lo) M) (fun v => v = fsN g (2 ^ S 140)) := by
    unfold fX5_firstWrong fX5_firstWrong_l2
    refine lp_ho (fun i z => z = nI i ∧ smN g (f i) = 0) _ (n - 1) (i := 0) (by omega) (by omega) ⟨rfl, by rw [h.1.2.2.2.1]; rfl⟩ (fun i z hi hz rec hrec => ?_) (fun z hz rec => ?_)
    · obtain ⟨rfl, hz⟩ := hz
      have s1 := h.su hg (i := i) (by omega)
      have s2 := h.le (i := i) (by omega)
      have s6 := h.le (i := i + 1) (by omega)
      have s3 := h.lt (i := i) (by omega)
      have s4 := wS_lt hG (f i)
      have s5 := kdS_le hG (f i) 99
      have gi : g (f i) = if lo ≤ f i ∧ kdS S (f i) 99 ≠ wS S (f i) then 1 else 0 := by rw [← hgd]
      simp (disch := omega) only [fX5_firstWrong_b2, fX5_firstWrong_j48, fX5_firstWrong_j38, h.2.2.2.1.1, zi_lit, zi_m, zi_m1, nI_add, zi_sub, zi_mul, zi_addm, zi_m_lt, zi_lt_m, zi_m_le, zi_le_m, zi_eq_m, zi_m_eq, nI_ltI, nI_leI, nI_eq, nI_clamp, zi_div, lt_eq, bm_s, bi_s, bl_s, bw_s, gd, if_pos, if_neg, ite_true, ite_false, or_false, false_or, and_true, true_and, not_true, not_false_iff, true_or, or_true, Nat.not_lt_zero, h.1.1.2 i, (h.2.2.2.2.1 i (by omega)).1, (h.2.2.2.2.1 i (by omega)).2]
      by_cases c1 : f i < lo
      · rw [if_pos c1]
        refine hrec _ ⟨rfl, ?_⟩
        rw [s1, gi, if_neg (by omega), Nat.zero_mul, Nat.add_zero, hz]
      rw [if_neg c1]
      by_cases c3 : kdS S (f i) 99 = wS S (f i)
      · rw [if_pos c3]
        refine hrec _ ⟨rfl, ?_⟩
        rw [s1, gi, if_neg (fun q => q.2 c3), Nat.zero_mul, Nat.add_zero, hz]
      · rw [if_neg c3, wp_some]
        exact (fsN_f hz (by rw [gi, if_pos ⟨by omega, c3⟩]; omega) (by omega)).symm
    · obtain ⟨rfl, hz⟩ := hz
      simp (disch := omega) only [fX5_firstWrong_b2, fX5_firstWrong_j54, h.2.2.2.1.1, zi_lit, zi_m, zi_m1, nI_add, zi_sub, zi_mul, zi_addm, zi_m_lt, zi_lt_m, zi_m_le, zi_le_m, zi_eq_m, zi_m_eq, nI_ltI, nI_leI, nI_eq, nI_clamp, zi_div, lt_eq, bm_s, bi_s, bl_s, bw_s, gd, if_pos, if_neg, ite_true, ite_false, or_false, false_or, and_true, true_and, not_true, not_false_iff, true_or, or_true, Nat.not_lt_zero]
      rw [wp_some]
      rw [h.1.2.2.2.2] at hz
      exact (fsN_z hz).symm
  obtain ⟨v, e, rfl⟩ := key
  exact e
end PA
