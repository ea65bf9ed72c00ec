/-! The class's table for pages. -/
def rl (f : Nat → Nat) : Nat → Nat
  | 0 => 10001
  | j + 1 => if min 10000 (f (tkN j)) < rl f j then min 10000 (f (tkN j)) else rl f j
def rc (f : Nat → Nat) : Nat → Nat
  | 0 => 0
  | j + 1 => if min 10000 (f (tkN j)) < rl f j then tkN j else rc f j
theorem rl_min (f : Nat → Nat) : ∀ j, rl f (j + 1) = min (rl f j) (min 10000 (f (tkN j))) := fun j => by
  show (if min 10000 (f (tkN j)) < rl f j then min 10000 (f (tkN j)) else rl f j) = _
  generalize min 10000 (f (tkN j)) = x
  by_cases c : x < rl f j
  · rw [if_pos c]; omega
  · rw [if_neg c]; omega
theorem rl_6 (f : Nat → Nat) : rl f 6 = min 10000 (mn6 f) := by
  rw [rl_min, rl_min, rl_min, rl_min, rl_min, rl_min]
  show min (min (min (min (min (min 10001 (min 10000 (f 5))) (min 10000 (f 0))) (min 10000 (f 1))) (min 10000 (f 2))) (min 10000 (f 3))) (min 10000 (f 4)) = min 10000 (min (f 5) (min (min (min (f 0) (f 1)) (min (f 2) (f 3))) (f 4)))
  have e : ∀ a b : Nat, min (min 10000 a) (min 10000 b) = min 10000 (min a b) := fun a b => by omega
  rw [show min 10001 (min 10000 (f 5)) = min 10000 (f 5) by omega, e, e, e, e, e]
  congr 1
  simp only [Nat.min_assoc]
theorem tkN_on {k : Nat} (hk : k < 6) : ∃ i, i < 6 ∧ tkN i = k := by
  rcases h6 hk with rfl | rfl | rfl | rfl | rfl | rfl
  · exact ⟨1, by omega, rfl⟩
  · exact ⟨2, by omega, rfl⟩
  · exact ⟨3, by omega, rfl⟩
  · exact ⟨4, by omega, rfl⟩
  · exact ⟨5, by omega, rfl⟩
  · exact ⟨0, by omega, rfl⟩
theorem rc_6 {f : Nat → Nat} (hf : mn6 f < 10000) : rc f 6 = fpk f := by
  obtain ⟨t1, t2, t3⟩ := fpt_ok f
  have A : ∀ j, j ≤ fpt f → mn6 f < rl f j := by
    intro j
    induction j with
    | zero => intro _; show mn6 f < 10001; omega
    | succ j ih =>
      intro hj
      have i1 := ih (by omega)
      have i2 := t3 j (by omega)
      have i3 := mn6_le f (k := tkN j) (tkN_lt (by omega))
      rw [rl_min]
      omega
  have B : ∀ j, fpt f < j → j ≤ 6 → rl f j = mn6 f ∧ rc f j = fpk f := by
    intro j
    induction j with
    | zero => intro h; omega
    | succ j ih =>
      intro h1 h2
      have i3 := mn6_le f (k := tkN j) (tkN_lt (by omega))
      by_cases c : j = fpt f
      · subst c
        have i1 := A (fpt f) (Nat.le_refl _)
        have i4 := (fpk_ok f).2
        rw [← t2] at i4
        refine ⟨by rw [rl_min]; omega, ?_⟩
        show (if _ then _ else _) = _
        rw [if_pos (by omega)]
        exact t2
      · obtain ⟨i1, i2⟩ := ih (by omega) (by omega)
        refine ⟨by rw [rl_min]; omega, ?_⟩
        show (if _ then _ else _) = _
        rw [if_neg (by omega)]
        exact i2
  exact (B 6 t1 (Nat.le_refl _)).2
theorem rl_le (f : Nat → Nat) : ∀ j, rl f j ≤ 10001
  | 0 => Nat.le_refl _
  | j + 1 => by
    have := rl_le f j
    rw [rl_min]
    omega
theorem trN_fpk {f : Nat → Nat} (h0 : mn6 f = 0) : trN (fun pk => f pk = 0) = nI (fpk f) := by
  unfold trN fpk
  rw [h0]
  by_cases c5 : f 5 = 0
  · rw [if_pos c5, if_pos c5]
  rw [if_neg c5, if_neg c5]
  by_cases c0 : f 0 = 0
  · rw [if_pos c0, if_pos c0]
  rw [if_neg c0, if_neg c0]
  by_cases c1 : f 1 = 0
  · rw [if_pos c1, if_pos c1]
  rw [if_neg c1, if_neg c1]
  by_cases c2 : f 2 = 0
  · rw [if_pos c2, if_pos c2]
  rw [if_neg c2, if_neg c2]
  by_cases c3 : f 3 = 0
  · rw [if_pos c3, if_pos c3]
  rw [if_neg c3, if_neg c3]
  have c4 : f 4 = 0 := by unfold mn6 at h0; omega
  rw [if_pos c4]
theorem trN_no {f : Nat → Nat} (h0 : ¬ mn6 f = 0) : trN (fun pk => f pk = 0) = mI := by
  have h := fun k (hk : k < 6) => mn6_le f hk
  have n5 := h 5 (by omega)
  have n0 := h 0 (by omega)
  have n1 := h 1 (by omega)
  have n2 := h 2 (by omega)
  have n3 := h 3 (by omega)
  have n4 := h 4 (by omega)
  unfold trN
  rw [if_neg (by omega), if_neg (by omega), if_neg (by omega), if_neg (by omega), if_neg (by omega), if_neg (by omega)]
section PT
variable {fu r t d F k e q : Nat} {w : Nat → Nat} {M : Mm}
/-- the base of a node's cost with pages -/
def gP (w : Nat → Nat) (d e q h : Nat) : Nat := if ic w (4 + (e + 1)) q = 0 then uV (w (q * 2 ^ (4 + (e + 1)))) d h else Ph w d e q h
theorem PF_gP (w : Nat → Nat) (d e q : Nat) {h : Nat} (hh : h < 6) : PF w d (e + 1) q h = lift (gP w d e q) h := by
  unfold gP
  by_cases c : ic w (4 + (e + 1)) q = 0
  · simp only [if_pos c]
    exact PF_un w d _ (e + 1) q (ic_un c) hh
  · simp only [if_neg c]
    rfl
def PT (w : Nat → Nat) (d : Nat) (M : Mm) (r e q k : Nat) : Prop := ∀ h, h < 6 → M.1 (r + 11) (k * 6 + h) = nI (min 10000 (PF w d e q h))
theorem X6_byPages (hfu : 200000 ≤ fu) {h : Nat} (hT : TW w t d F M (r + 1)) (hW : WG w t d) (hk : k < NN w t 0) (hl : lo w t 0 k = (4 + (e + 1), q)) (hh : h < 6) (hkid : ¬ ic w (4 + (e + 1)) q = 0 → PT w d M r e (2 * q) (k + 1) ∧ PT w d M r e (2 * q + 1) (k + 1 + NN w (4 + e) (2 * q))) : fX6_byPages fu r (nI k) (nI h) M = some (nI (min 10000 (gP w d e q h))) := by
  have h313 := hW.2.2.2
  have hN := hT.1.2 k hk
  rw [hl] at hN
  unfold gP fX6_byPages
  by_cases c : ic w (4 + (e + 1)) q = 0
  · have h3 : M.1 (r + 1 + 3) k = nI 0 := (hN.2.1 c).2
    have pf := X9_pageKindFor (fu := fu) hfu hT hW hk hl c hh
    rw [if_pos c]
    by_cases c0 : uV (w (q * 2 ^ (4 + (e + 1)))) d h = 0
    · rw [trN_fpk (f := fun pk => bsV (w (q * 2 ^ (4 + (e + 1)))) d pk h) c0] at pf
      have hf := (fpk_ok (fun pk => bsV (w (q * 2 ^ (4 + (e + 1)))) d pk h)).1
      rw [c0]
      simp (disch := omega) only [h3, pf, fX6_byPages_j39, zi_li, zi_m, zi_m1, nI_add, zi_sub, zi_mul, zi_addm, zi_m_lt, zi_lt_m, zi_m_le, zi_le_m, zi_eq_m, zi_m_eq, nI_ltI, nI_leI, nI_eq, nI_clamp, zi_div, lt_eq, bm_s, bi_s, bl_s, bw_s, gd, if_pos, if_neg, ite_true, ite_false, or_false, false_or, and_true, true_and, not_true, not_false_iff, true_or, or_true, Nat.not_lt_zero]
      rfl
    · rw [trN_no (f := fun pk => bsV (w (q * 2 ^ (4 + (e + 1)))) d pk h) c0] at pf
      have c1 := uV_b (w (q * 2 ^ (4 + (e + 1)))) d h
      have c2 : uV (w (q * 2 ^ (4 + (e + 1)))) d h = 1048576 := by omega
      rw [c2]
      simp (disch := omega) only [h3, pf, fX6_byPages_j39, zi_li, zi_m, zi_m1, nI_add, zi_sub, zi_mul, zi_addm, zi_m_lt, zi_lt_m, zi_m_le, zi_le_m, zi_eq_m, zi_m_eq, nI_ltI, nI_leI, nI_eq, nI_clamp, zi_div, lt_eq, bm_s, bi_s, bl_s, bw_s, gd, if_pos, if_neg, ite_true, ite_false, or_false, false_or, and_true, true_and, not_true, not_false_iff, true_or, or_true, Nat.not_lt_zero]
      rfl
  · obtain ⟨k1, k2⟩ := hkid c
    obtain ⟨l1, l2, l3⟩ := lo_kid hk (show lo w t 0 k = (4 + e + 1, q) from hl) c
    have p1 := NN_p w (4 + e) (2 * q)
    have p2 := NN_p w (4 + e) (2 * q + 1)
    have h3 : M.1 (r + 1 + 3) k = nI (k + 1 + NN w (4 + e) (2 * q)) := hN.2.2 c
    have bh := X6_byHalves (fu := fu) (M := M) (r := r) (k := k) (by omega) (by omega) hh h3 (k1 h hh) (k2 h hh) (Nat.min_le_left _ _) (Nat.min_le_left _ _)
    rw [if_neg c]
    have e1 : min 10000 (min 10000 (PF w d e (2 * q) h) + min 10000 (PF w d e (2 * q + 1) h)) = min 10000 (Ph w d e q h) := by unfold Ph; omega
    rw [e1] at bh
    simp (disch := omega) only [h3, bh, zi_li, zi_m, zi_m1, nI_add, zi_sub, zi_mul, zi_addm, zi_m_lt, zi_lt_m, zi_m_le, zi_le_m, zi_eq_m, zi_m_eq, nI_ltI, nI_leI, nI_eq, nI_clamp, zi_div, lt_eq, bm_s, bi_s, bl_s, bw_s, gd, if_pos, if_neg, ite_true, ite_false, or_false, false_or, and_true, true_and, not_true, not_false_iff, true_or, or_true, Nat.not_lt_zero]
theorem X6_weighAbovePages (hfu : 200000 ≤ fu) (hT : TW w t d F M (r + 1)) (hW : WG w t d) (h4 : M.1 r 4 = nI 1) (hk : k < NN w t 0) (hl : lo w t 0 k = (4 + (e + 1), q)) (hkid : ¬ ic w (4 + (e + 1)) q = 0 → PT w d M r e (2 * q) (k + 1) ∧ PT w d M r e (2 * q + 1) (k + 1 + NN w (4 + e) (2 * q))) :
    Wp (fX6_weighAbovePages fu r (nI k) M) (fun M' => PT w d M' r (e + 1) q k ∧ Ef r k (k + 1) M M') := by
  have h313 := hW.2.2.2
  unfold fX6_weighAbovePages fX6_weighAbovePages_l2
  refine lp_ho (fun h z => z.1 = nI h ∧ (∀ j, j < h → z.2.1 (r + 11) (k * 6 + j) = nI (min 10000 (PF w d (e + 1) q j))) ∧ Ef r k (k + 1) M z.2) _ 6 (i := 0) (by omega) (by omega) ⟨rfl, fun j hj => absurd hj (by omega), Ef.rf _ _ _ _⟩ (fun h z hh hz rec hrec => ?_) (fun z hz rec => ?_)
  · obtain ⟨z1, z2⟩ := z
    obtain ⟨rfl, g1, g2⟩ := hz
    dsimp only at *
    have Tz : TW w t d F z2 (r + 1) := hT.fr fun c _ _ => g2.1 c (by omega)
    have z4 : z2.1 r 4 = nI 1 := by rw [g2.1 r (by omega)]; exact h4
    have p1 := NN_p w (4 + e) (2 * q)
    have bp := X6_byPages (fu := fu) (h := h) hfu Tz hW hk hl hh (fun c => by
      obtain ⟨k1, k2⟩ := hkid c
      refine ⟨fun j hj => ?_, fun j hj => ?_⟩
      · rw [g2.2.1 _ (by omega)]; exact k1 j hj
      · rw [g2.2.1 _ (by omega)]; exact k2 j hj)
    have it := X6_byItself hfu (M := z2) (r := r) (c := fun h => min 10000 (PF w d (e + 1) q h)) (o := 1) (k := k) (h := h) (by omega) hh (by omega) z4 g1 (fun j hj => Nat.min_le_left _ _)
    have lb := byO_le (o := 1) (c := fun h => min 10000 (PF w d (e + 1) q h)) hh
    have em : (if byO 1 (fun h => min 10000 (PF w d (e + 1) q h)) h < min 10000 (gP w d e q h) then nI (byO 1 (fun h => min 10000 (PF w d (e + 1) q h)) h) else nI (min 10000 (gP w d e q h))) = nI (min 10000 (PF w d (e + 1) q h)) := by
      have e1 : byO 1 (fun h => min 10000 (PF w d (e + 1) q h)) h = byI (fun h => min 10000 (lift (gP w d e q) h)) h := by
        unfold byO
        rw [if_pos (Or.inl rfl)]
        exact byI_cg hh fun j hj => by rw [PF_gP w d e q (by omega)]
      have e2 := lift_cap (g := gP w d e q) hh
      rw [← e1, ← PF_gP w d e q hh] at e2
      rw [e2]
      by_cases c : byO 1 (fun h => min 10000 (PF w d (e + 1) q h)) h < min 10000 (gP w d e q h)
      · rw [if_pos c]; congr 1; omega
      · rw [if_neg c]; congr 1; omega
    simp (disch := omega) only [fX6_weighAbovePages_b2, bp, it, zi_li, zi_m, zi_m1, nI_add, zi_sub, zi_mul, zi_addm, zi_m_lt, zi_lt_m, zi_m_le, zi_le_m, zi_eq_m, zi_m_eq, nI_ltI, nI_leI, nI_eq, nI_clamp, zi_div, lt_eq, bm_s, bi_s, bl_s, bw_s, gd, if_pos, if_neg, ite_true, ite_false, or_false, false_or, and_true, true_and, not_true, not_false_iff, true_or, or_true, Nat.not_lt_zero]
    rw [em]
    refine hrec _ ⟨rfl, fun j hj => ?_, g2.tr (Ef.w1 _ _ (by omega) (by omega))⟩
    by_cases c : j = h
    · subst c
      simp (disch := omega) only [wI_ne, wI_eq, wI_nk, wIs_ne, wIs_eq]
    · simp (disch := omega) only [wI_ne, wI_eq, wI_nk, wIs_ne, wIs_eq]
      exact g1 j (by omega)
  · obtain ⟨z1, z2⟩ := z
    obtain ⟨rfl, g1, g2⟩ := hz
    dsimp only at *
    simp (disch := omega) only [fX6_weighAbovePages_b2, fX6_weighAbovePages_j40, zi_li, zi_m, zi_m1, nI_add, zi_sub, zi_mul, zi_addm, zi_m_lt, zi_lt_m, zi_m_le, zi_le_m, zi_eq_m, zi_m_eq, nI_ltI, nI_leI, nI_eq, nI_clamp, zi_div, lt_eq, bm_s, bi_s, bl_s, bw_s, gd, if_pos, if_neg, ite_true, ite_false, or_false, false_or, and_true, true_and, not_true, not_false_iff, true_or, or_true, Nat.not_lt_zero]
    rw [wp_some]
    exact ⟨fun h hh => g1 h hh, g2⟩
end PT
