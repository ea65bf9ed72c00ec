/-! History: the stores behind the acts, both sides. -/
def Gm (S S' : Sto) : Prop := S' 140 = S 140 ∧ S' 141 = S 141 ∧ S' 142 = S 142
def HX (Hs : Nat → Sto) (k u : Nat) (M : Mm) (h : Nat) : Prop := k + u ≤ 16 ∧ M.1 h 2 = nI k ∧ M.1 h 3 = nI u ∧ ∃ o, o < 17 ∧ M.1 h 1 = nI o ∧ ∀ i, i ≤ k + u → VX (Hs i) M (h + 1 + 1 + 9 * ((o + i) % 17))
def HM (Hs : Nat → Sto) (k u : Nat) (M : Mm) (m : Nat) : Prop := k + u ≤ 16 ∧ M.1 m 50 = nI k ∧ M.1 m 51 = nI u ∧ (∀ i, i < k → ∀ j, j < 140 → M.1 (m + 27) (140 * i + j) = nI (Hs i j)) ∧ ∀ i, k ≤ i → i < k + u → ∀ j, j < 140 → M.1 (m + 27) (140 * i + j) = nI (Hs (i + 1) j)
def ntK (k : Nat) : Nat := if k < 16 then k + 1 else 16
def ntH (Hs : Nat → Sto) (k : Nat) (S : Sto) : Nat → Sto := fun i => if i = ntK k then S else if k < 16 then Hs i else Hs (i + 1)
theorem ntK_1 {k : Nat} (h : k < 16) : ntK k = k + 1 := if_pos h
theorem ntK_2 {k : Nat} (h : ¬ k < 16) : ntK k = 16 := if_neg h
theorem ntH_e (Hs : Nat → Sto) (k : Nat) (S : Sto) : ntH Hs k S (ntK k) = S := if_pos rfl
theorem ntH_1 (Hs : Nat → Sto) {k i : Nat} (S : Sto) (h : k < 16) (hi : i ≠ k + 1) : ntH Hs k S i = Hs i := by
  unfold ntH
  rw [ntK_1 h, if_neg hi, if_pos h]
theorem ntH_2 (Hs : Nat → Sto) {k i : Nat} (S : Sto) (h : ¬ k < 16) (hi : i ≠ 16) : ntH Hs k S i = Hs (i + 1) := by
  unfold ntH
  rw [ntK_2 h, if_neg hi, if_neg h]
/-- all that changes but what is wanted: the flags 14 and 18 -/
def KD (a : Nat) (M M' : Mm) : Prop := (∀ c, c ≠ a → (c < a + 12 ∨ a + 176 ≤ c) → M'.1 c = M.1 c) ∧ (M'.1 a 14 = nI 0 ∧ M'.1 a 18 = nI 0) ∧ (∀ j, j ≠ 14 → j ≠ 18 → M'.1 a j = M.1 a j) ∧ ∀ c, (c < a + 12 ∨ a + 176 ≤ c) → M'.2.1 c = M.2.1 c ∧ M'.2.2 c = M.2.2 c
def WD (a : Nat) (M M' : Mm) : Prop := (∀ c, c ≠ a → (c < a + 12 ∨ a + 176 ≤ c) → M'.1 c = M.1 c) ∧ (M'.1 a 14 = nI 0 ∧ M'.1 a 15 = nI 0 ∧ M'.1 a 16 = nI 0 ∧ M'.1 a 17 = nI 0 ∧ M'.1 a 18 = nI 0) ∧ ∀ c, (c < a + 12 ∨ a + 176 ≤ c) → M'.2.1 c = M.2.1 c ∧ M'.2.2 c = M.2.2 c
theorem KD.pre {a : Nat} {M0 M M' : Mm} (h : KD a M M') (hf : Fr (a + 12) 9 M0 M) : KD a M0 M' := by
  refine ⟨fun c h1 h2 => (h.1 c h1 h2).trans (hf c (by omega)).1, h.2.1, fun j h1 h2 => ?_, fun c hc => ?_⟩
  · rw [h.2.2.1 j h1 h2, (hf a (by omega)).1]
  · obtain ⟨q1, q2⟩ := h.2.2.2 c hc
    obtain ⟨_, p1, p2⟩ := hf c (by omega)
    exact ⟨q1.trans p1, q2.trans p2⟩
theorem WD.pre {a : Nat} {M0 M M' : Mm} (h : WD a M M') (hf : Fr (a + 12) 9 M0 M) : WD a M0 M' := by
  refine ⟨fun c h1 h2 => (h.1 c h1 h2).trans (hf c (by omega)).1, h.2.1, fun c hc => ?_⟩
  obtain ⟨q1, q2⟩ := h.2.2 c hc
  obtain ⟨_, p1, p2⟩ := hf c (by omega)
  exact ⟨q1.trans p1, q2.trans p2⟩
section HI
variable {fu h b a m k u : Nat} {S : Sto} {M : Mm} {Hs : Nat → Sto}
theorem HX.fr {M' : Mm} (hH : HX Hs k u M h) (hf : ∀ c, h ≤ c → c < h + 155 → M'.1 c = M.1 c) : HX Hs k u M' h := by
  obtain ⟨h0, h1, h2, o, ho, h3, h4⟩ := hH
  have e := hf h (by omega) (by omega)
  refine ⟨h0, by rw [e]; exact h1, by rw [e]; exact h2, o, ho, by rw [e]; exact h3, fun i hi => (h4 i hi).fr fun c k1 k2 => hf c (by omega) (by omega)⟩
theorem X4_current {o : Nat} (h1 : M.1 h 1 = nI o) (h2 : M.1 h 2 = nI k) (ho : o < 17) (hk : k ≤ 16) : fX4_current fu h M = some (h + 1 + 1 + 9 * ((o + k) % 17)) := by
  have e : o + k - (o + k) / 17 * 17 = (o + k) % 17 := by omega
  unfold fX4_current
  rw [h1, h2]
  simp (disch := omega) only [zi_li, zi_m, zi_m1, nI_add, zi_sub, zi_mul, zi_addm, zi_m_lt, zi_lt_m, zi_m_le, zi_le_m, zi_eq_m, zi_m_eq, nI_ltI, nI_leI, nI_eq, nI_clamp, zi_div, lt_eq, bm_s, bi_s, bl_s, bw_s, gd, e, if_pos, if_neg, ite_true, ite_false, or_false, false_or, and_true, true_and, not_true, not_false_iff, true_or, or_true, Nat.not_lt_zero]
theorem X4_note (hH : HX Hs k u M h) (hV : VX S M b) (hG : Gd S) (hd : b + 9 ≤ h) : Wp (fX4_note fu h b M) (fun M' => HX (ntH Hs k S) (ntK k) 0 M' h ∧ Fr h 155 M M') := by
  obtain ⟨h0, h1, h2, o, ho, h3, h4⟩ := hH
  unfold fX4_note fX4_note_j40
  by_cases c : k < 16
  · simp (disch := omega) only [zi_li, zi_m, zi_m1, nI_add, zi_sub, zi_mul, zi_addm, zi_m_lt, zi_lt_m, zi_m_le, zi_le_m, zi_eq_m, zi_m_eq, nI_ltI, nI_leI, nI_eq, nI_clamp, zi_div, lt_eq, bm_s, bi_s, bl_s, bw_s, gd, wI_ne, wI_eq, wI_nk, wIs_ne, wIs_eq, h1, h3, if_pos, if_neg, ite_true, ite_false, or_false, false_or, and_true, true_and, not_true, not_false_iff, true_or, or_true, Nat.not_lt_zero]
    rw [X4_current (o := o) (k := k + 1) (by simp (disch := omega) only [wI_ne, wI_eq, wI_nk, wIs_ne, wIs_eq, h3]) (by simp (disch := omega) only [wI_ne, wI_eq, wI_nk, wIs_ne, wIs_eq]) ho (by omega), bl_s, wp_bm]
    refine (X8_copyFrom (hV.fr fun q k1 k2 => by simp (disch := omega) only [wI_ne, wI_eq, wI_nk, wIs_ne, wIs_eq]) hG (by omega)).mono fun M' q => ?_
    obtain ⟨q1, q2⟩ := q
    rw [wp_some, ntK_1 c]
    have eh := q2.at (b := h) (by omega)
    refine ⟨⟨by omega, by rw [eh]; simp (disch := omega) only [wI_ne, wI_eq, wI_nk, wIs_ne, wIs_eq], by rw [eh]; simp (disch := omega) only [wI_ne, wI_eq, wI_nk, wIs_ne, wIs_eq], o, ho, by rw [eh]; simp (disch := omega) only [wI_ne, wI_eq, wI_nk, wIs_ne, wIs_eq]; exact h3, fun i hi => ?_⟩, fun q hq => ?_⟩
    · by_cases ci : i = k + 1
      · subst ci
        have := ntH_e Hs k S
        rw [ntK_1 c] at this
        rw [this]
        exact q1
      · rw [ntH_1 Hs S c ci]
        refine (h4 i (by omega)).fr fun q k1 k2 => ?_
        rw [q2.at (by omega)]
        simp (disch := omega) only [wI_ne, wI_eq, wI_nk, wIs_ne, wIs_eq]
    · obtain ⟨e1, e2, e3⟩ := q2 q (by omega)
      rw [e1, e2, e3]
      refine ⟨?_, rfl, rfl⟩
      simp (disch := omega) only [wI_ne, wI_eq, wI_nk, wIs_ne, wIs_eq]
  · have hk : k = 16 := by omega
    subst hk
    have e1 : o + 1 - (o + 1) / 17 * 17 = (o + 1) % 17 := by omega
    simp (disch := omega) only [zi_li, zi_m, zi_m1, nI_add, zi_sub, zi_mul, zi_addm, zi_m_lt, zi_lt_m, zi_m_le, zi_le_m, zi_eq_m, zi_m_eq, nI_ltI, nI_leI, nI_eq, nI_clamp, zi_div, lt_eq, bm_s, bi_s, bl_s, bw_s, gd, wI_ne, wI_eq, wI_nk, wIs_ne, wIs_eq, h1, h3, if_pos, if_neg, ite_true, ite_false, or_false, false_or, and_true, true_and, not_true, not_false_iff, true_or, or_true, Nat.not_lt_zero, e1]
    rw [X4_current (o := (o + 1) % 17) (k := 16) (by simp (disch := omega) only [wI_ne, wI_eq, wI_nk, wIs_ne, wIs_eq]) (by simp (disch := omega) only [wI_ne, wI_eq, wI_nk, wIs_ne, wIs_eq, h1]) (by omega) (by omega), bl_s, wp_bm]
    refine (X8_copyFrom (hV.fr fun q k1 k2 => by simp (disch := omega) only [wI_ne, wI_eq, wI_nk, wIs_ne, wIs_eq]) hG (by omega)).mono fun M' q => ?_
    obtain ⟨q1, q2⟩ := q
    rw [wp_some, ntK_2 c]
    have eh := q2.at (b := h) (by omega)
    refine ⟨⟨by omega, by rw [eh]; simp (disch := omega) only [wI_ne, wI_eq, wI_nk, wIs_ne, wIs_eq]; exact h1, by rw [eh]; simp (disch := omega) only [wI_ne, wI_eq, wI_nk, wIs_ne, wIs_eq], (o + 1) % 17, by omega, by rw [eh]; simp (disch := omega) only [wI_ne, wI_eq, wI_nk, wIs_ne, wIs_eq], fun i hi => ?_⟩, fun q hq => ?_⟩
    · by_cases ci : i = 16
      · subst ci
        have := ntH_e Hs 16 S
        rw [ntK_2 c] at this
        rw [this]
        exact q1
      · rw [ntH_2 Hs S c ci]
        have ea : ((o + 1) % 17 + i) % 17 = (o + (i + 1)) % 17 := by omega
        rw [ea]
        refine (h4 (i + 1) (by omega)).fr fun q k1 k2 => ?_
        rw [q2.at (by omega)]
        simp (disch := omega) only [wI_ne, wI_eq, wI_nk, wIs_ne, wIs_eq]
    · obtain ⟨e1, e2, e3⟩ := q2 q (by omega)
      rw [e1, e2, e3]
      refine ⟨?_, rfl, rfl⟩
      simp (disch := omega) only [wI_ne, wI_eq, wI_nk, wIs_ne, wIs_eq]
theorem X4_begin {o : Nat} (h3 : M.1 h 1 = nI o) (ho : o < 17) (hV : VX S M b) (hG : Gd S) (hd : b + 9 ≤ h) : Wp (fX4_begin fu h b M) (fun M' => HX (fun _ => S) 0 0 M' h ∧ Fr h 155 M M') := by
  unfold fX4_begin
  simp (disch := omega) only [zi_li, zi_m, zi_m1, nI_add, zi_sub, zi_mul, zi_addm, zi_m_lt, zi_lt_m, zi_m_le, zi_le_m, zi_eq_m, zi_m_eq, nI_ltI, nI_leI, nI_eq, nI_clamp, zi_div, lt_eq, bm_s, bi_s, bl_s, bw_s, gd, wI_ne, wI_eq, wI_nk, wIs_ne, wIs_eq]
  rw [X4_current (o := o) (k := 0) (by simp (disch := omega) only [wI_ne, wI_eq, wI_nk, wIs_ne, wIs_eq]; exact h3) (by simp (disch := omega) only [wI_ne, wI_eq, wI_nk, wIs_ne, wIs_eq]) ho (by omega), bl_s, wp_bm]
  refine (X8_copyFrom (hV.fr fun q k1 k2 => by simp (disch := omega) only [wI_ne, wI_eq, wI_nk, wIs_ne, wIs_eq]) hG (by omega)).mono fun M' q => ?_
  obtain ⟨q1, q2⟩ := q
  rw [wp_some]
  have eh := q2.at (b := h) (by omega)
  refine ⟨⟨by omega, by rw [eh]; simp (disch := omega) only [wI_ne, wI_eq, wI_nk, wIs_ne, wIs_eq], by rw [eh]; simp (disch := omega) only [wI_ne, wI_eq, wI_nk, wIs_ne, wIs_eq], o, ho, by rw [eh]; simp (disch := omega) only [wI_ne, wI_eq, wI_nk, wIs_ne, wIs_eq]; exact h3, fun i hi => ?_⟩, fun q hq => ?_⟩
  · have : i = 0 := by omega
    subst this
    exact q1
  · obtain ⟨e1, e2, e3⟩ := q2 q (by omega)
    rw [e1, e2, e3]
    refine ⟨?_, rfl, rfl⟩
    simp (disch := omega) only [wI_ne, wI_eq, wI_nk, wIs_ne, wIs_eq]
theorem X4_goBack (hH : HX Hs k u M h) (hG : Gd (Hs (k - 1))) (hd : b + 9 ≤ h) : Wp (fX4_goBack fu h b M) (fun z => (k = 0 ∧ z = (nI 0, M)) ∨ (0 < k ∧ z.1 = nI 1 ∧ VX (Hs (k - 1)) z.2 b ∧ HX Hs (k - 1) (u + 1) z.2 h ∧ ∀ c, (c < b ∨ b + 9 ≤ c) → (c < h ∨ h + 155 ≤ c) → z.2.1 c = M.1 c ∧ z.2.2.1 c = M.2.1 c ∧ z.2.2.2 c = M.2.2 c)) := by
  obtain ⟨h0, h1, h2, o, ho, h3, h4⟩ := hH
  unfold fX4_goBack
  rw [h1]
  by_cases c : k = 0
  · subst c
    exact ⟨_, rfl, Or.inl ⟨rfl, rfl⟩⟩
  · simp (disch := omega) only [zi_li, zi_m, zi_m1, nI_add, zi_sub, zi_mul, zi_addm, zi_m_lt, zi_lt_m, zi_m_le, zi_le_m, zi_eq_m, zi_m_eq, nI_ltI, nI_leI, nI_eq, nI_clamp, zi_div, lt_eq, bm_s, bi_s, bl_s, bw_s, gd, wI_ne, wI_eq, wI_nk, wIs_ne, wIs_eq, if_pos, if_neg, ite_true, ite_false, or_false, false_or, and_true, true_and, not_true, not_false_iff, true_or, or_true, Nat.not_lt_zero, h2]
    rw [X4_current (o := o) (k := k - 1) (by simp (disch := omega) only [wI_ne, wI_eq, wI_nk, wIs_ne, wIs_eq, h3]) (by simp (disch := omega) only [wI_ne, wI_eq, wI_nk, wIs_ne, wIs_eq]) ho (by omega), bl_s, wp_bm]
    have hVk := h4 (k - 1) (by omega)
    refine (X8_copyFrom (hVk.fr fun q k1 k2 => by simp (disch := omega) only [wI_ne, wI_eq, wI_nk, wIs_ne, wIs_eq]) hG (by omega)).mono fun M' q => ?_
    obtain ⟨q1, q2⟩ := q
    rw [wp_some]
    have eh := q2.at (b := h) (by omega)
    refine Or.inr ⟨by omega, rfl, q1, ⟨by omega, by rw [eh]; simp (disch := omega) only [wI_ne, wI_eq, wI_nk, wIs_ne, wIs_eq], by rw [eh]; simp (disch := omega) only [wI_ne, wI_eq, wI_nk, wIs_ne, wIs_eq], o, ho, by rw [eh]; simp (disch := omega) only [wI_ne, wI_eq, wI_nk, wIs_ne, wIs_eq]; exact h3, fun i hi => ?_⟩, fun q hq hq2 => ?_⟩
    · refine (h4 i (by omega)).fr fun q k1 k2 => ?_
      rw [q2.at (by omega)]
      simp (disch := omega) only [wI_ne, wI_eq, wI_nk, wIs_ne, wIs_eq]
    · obtain ⟨e1, e2, e3⟩ := q2 q (by omega)
      show M'.1 q = _ ∧ M'.2.1 q = _ ∧ M'.2.2 q = _
      rw [e1, e2, e3]
      refine ⟨?_, rfl, rfl⟩
      simp (disch := omega) only [wI_ne, wI_eq, wI_nk, wIs_ne, wIs_eq]
theorem X4_goOn (hH : HX Hs k u M h) (hG : Gd (Hs (k + 1)) ∨ u = 0) (hd : b + 9 ≤ h) : Wp (fX4_goOn fu h b M) (fun z => (u = 0 ∧ z = (nI 0, M)) ∨ (0 < u ∧ z.1 = nI 1 ∧ VX (Hs (k + 1)) z.2 b ∧ HX Hs (k + 1) (u - 1) z.2 h ∧ ∀ c, (c < b ∨ b + 9 ≤ c) → (c < h ∨ h + 155 ≤ c) → z.2.1 c = M.1 c ∧ z.2.2.1 c = M.2.1 c ∧ z.2.2.2 c = M.2.2 c)) := by
  obtain ⟨h0, h1, h2, o, ho, h3, h4⟩ := hH
  unfold fX4_goOn
  rw [h2]
  by_cases c : u = 0
  · subst c
    exact ⟨_, rfl, Or.inl ⟨rfl, rfl⟩⟩
  · have hG := hG.resolve_right c
    simp (disch := omega) only [zi_li, zi_m, zi_m1, nI_add, zi_sub, zi_mul, zi_addm, zi_m_lt, zi_lt_m, zi_m_le, zi_le_m, zi_eq_m, zi_m_eq, nI_ltI, nI_leI, nI_eq, nI_clamp, zi_div, lt_eq, bm_s, bi_s, bl_s, bw_s, gd, wI_ne, wI_eq, wI_nk, wIs_ne, wIs_eq, if_pos, if_neg, ite_true, ite_false, or_false, false_or, and_true, true_and, not_true, not_false_iff, true_or, or_true, Nat.not_lt_zero, h1, h2]
    rw [X4_current (o := o) (k := k + 1) (by simp (disch := omega) only [wI_ne, wI_eq, wI_nk, wIs_ne, wIs_eq, h3]) (by simp (disch := omega) only [wI_ne, wI_eq, wI_nk, wIs_ne, wIs_eq]) ho (by omega), bl_s, wp_bm]
    have hVk := h4 (k + 1) (by omega)
    refine (X8_copyFrom (hVk.fr fun q k1 k2 => by simp (disch := omega) only [wI_ne, wI_eq, wI_nk, wIs_ne, wIs_eq]) hG (by omega)).mono fun M' q => ?_
    obtain ⟨q1, q2⟩ := q
    rw [wp_some]
    have eh := q2.at (b := h) (by omega)
    refine Or.inr ⟨by omega, rfl, q1, ⟨by omega, by rw [eh]; simp (disch := omega) only [wI_ne, wI_eq, wI_nk, wIs_ne, wIs_eq], by rw [eh]; simp (disch := omega) only [wI_ne, wI_eq, wI_nk, wIs_ne, wIs_eq], o, ho, by rw [eh]; simp (disch := omega) only [wI_ne, wI_eq, wI_nk, wIs_ne, wIs_eq]; exact h3, fun i hi => ?_⟩, fun q hq hq2 => ?_⟩
    · refine (h4 i (by omega)).fr fun q k1 k2 => ?_
      rw [q2.at (by omega)]
      simp (disch := omega) only [wI_ne, wI_eq, wI_nk, wIs_ne, wIs_eq]
    · obtain ⟨e1, e2, e3⟩ := q2 q (by omega)
      show M'.1 q = _ ∧ M'.2.1 q = _ ∧ M'.2.2 q = _
      rw [e1, e2, e3]
      refine ⟨?_, rfl, rfl⟩
      simp (disch := omega) only [wI_ne, wI_eq, wI_nk, wIs_ne, wIs_eq]
theorem X10_forgetKinds (M : Mm) : fX10_forgetKinds fu a M = some (wI (wI M a 14 0) a 18 0) := rfl
theorem X10_forgetAll (M : Mm) : fX10_forgetAll fu a M = some (wI (wI (wI (wI (wI M a 15 0) a 16 0) a 17 0) a 14 0) a 18 0) := rfl
theorem WD_of {M' : Mm} (hf : ∀ c, c ≠ a → (c < a + 12 ∨ a + 176 ≤ c) → M'.1 c = M.1 c) (hr : ∀ c, (c < a + 12 ∨ a + 176 ≤ c) → M'.2.1 c = M.2.1 c ∧ M'.2.2 c = M.2.2 c) : WD a M (wI (wI (wI (wI (wI M' a 15 0) a 16 0) a 17 0) a 14 0) a 18 0) := by
  refine ⟨fun c h1 h2 => ?_, ⟨?_, ?_, ?_, ?_, ?_⟩, hr⟩
  · simp (disch := omega) only [wI_ne, wI_eq, wI_nk, wIs_ne, wIs_eq]
    exact hf c h1 h2
  · simp (disch := omega) only [wI_ne, wI_eq, wI_nk, wIs_ne, wIs_eq]; rfl
  · simp (disch := omega) only [wI_ne, wI_eq, wI_nk, wIs_ne, wIs_eq]; rfl
  · simp (disch := omega) only [wI_ne, wI_eq, wI_nk, wIs_ne, wIs_eq]; rfl
  · simp (disch := omega) only [wI_ne, wI_eq, wI_nk, wIs_ne, wIs_eq]; rfl
  · simp (disch := omega) only [wI_ne, wI_eq, wI_nk, wIs_ne, wIs_eq]; rfl
theorem X10_wantedDone (hV : VX S M (a + 12)) (hG : Gd S) (hH : HX Hs k u M (a + 21)) : Wp (fX10_wantedDone fu a M) (fun M' => VX S M' (a + 12) ∧ HX (ntH Hs k S) (ntK k) 0 M' (a + 21) ∧ WD a M M') := by
  unfold fX10_wantedDone
  rw [wp_bm]
  refine (X4_note hH hV hG (by omega)).mono fun M1 q => ?_
  obtain ⟨q1, q2⟩ := q
  rw [X10_forgetAll, bm_s, wp_some]
  refine ⟨hV.fr fun c k1 k2 => ?_, q1.fr fun c k1 k2 => ?_, WD_of (fun c h1 h2 => (q2 c (by omega)).1) (fun c h2 => (q2 c (by omega)).2)⟩
  · simp (disch := omega) only [wI_ne, wI_eq, wI_nk, wIs_ne, wIs_eq]
    exact q2.at (by omega)
  · simp (disch := omega) only [wI_ne, wI_eq, wI_nk, wIs_ne, wIs_eq]
theorem X10_kindsDone (hV : VX S M (a + 12)) (hG : Gd S) (hH : HX Hs k u M (a + 21)) : Wp (fX10_kindsDone fu a M) (fun M' => VX S M' (a + 12) ∧ HX (ntH Hs k S) (ntK k) 0 M' (a + 21) ∧ KD a M M') := by
  unfold fX10_kindsDone
  rw [wp_bm]
  refine (X4_note hH hV hG (by omega)).mono fun M1 q => ?_
  obtain ⟨q1, q2⟩ := q
  rw [X10_forgetKinds, bm_s, wp_some]
  refine ⟨hV.fr fun c k1 k2 => ?_, q1.fr fun c k1 k2 => ?_, fun c h1 h2 => ?_, ⟨?_, ?_⟩, fun j h1 h2 => ?_, fun c h2 => (q2 c (by omega)).2⟩
  · simp (disch := omega) only [wI_ne, wI_eq, wI_nk, wIs_ne, wIs_eq]
    exact q2.at (by omega)
  · simp (disch := omega) only [wI_ne, wI_eq, wI_nk, wIs_ne, wIs_eq]
  · simp (disch := omega) only [wI_ne, wI_eq, wI_nk, wIs_ne, wIs_eq]
    exact q2.at (by omega)
  · simp (disch := omega) only [wI_ne, wI_eq, wI_nk, wIs_ne, wIs_eq]; rfl
  · simp (disch := omega) only [wI_ne, wI_eq, wI_nk, wIs_ne, wIs_eq]; rfl
  · simp (disch := omega) only [wI_ne, wI_eq, wI_nk, wIs_ne, wIs_eq]
    rw [q2.at (by omega)]
theorem X10_startAnew {o : Nat} (h3 : M.1 (a + 21) 1 = nI o) (ho : o < 17) (hV : VX S M (a + 12)) (hG : Gd S) : Wp (fX10_startAnew fu a M) (fun M' => VX S M' (a + 12) ∧ HX (fun _ => S) 0 0 M' (a + 21) ∧ WD a M M') := by
  unfold fX10_startAnew
  rw [wp_bm]
  refine (X4_begin h3 ho hV hG (by omega)).mono fun M1 q => ?_
  obtain ⟨q1, q2⟩ := q
  rw [X10_forgetAll, bm_s, wp_some]
  refine ⟨hV.fr fun c k1 k2 => ?_, q1.fr fun c k1 k2 => ?_, WD_of (fun c h1 h2 => (q2 c (by omega)).1) (fun c h2 => (q2 c (by omega)).2)⟩
  · simp (disch := omega) only [wI_ne, wI_eq, wI_nk, wIs_ne, wIs_eq]
    exact q2.at (by omega)
  · simp (disch := omega) only [wI_ne, wI_eq, wI_nk, wIs_ne, wIs_eq]
theorem X10_undo (hH : HX Hs k u M (a + 21)) (hG : Gd (Hs (k - 1))) : Wp (fX10_undo fu a M) (fun z => (k = 0 ∧ z = (nI 0, M)) ∨ (0 < k ∧ z.1 = nI 1 ∧ VX (Hs (k - 1)) z.2 (a + 12) ∧ HX Hs (k - 1) (u + 1) z.2 (a + 21) ∧ WD a M z.2)) := by
  unfold fX10_undo
  rw [wp_bw]
  refine (X4_goBack (b := a + 12) hH hG (by omega)).mono fun z q => ?_
  obtain ⟨z1, M1⟩ := z
  rcases q with ⟨q0, q1⟩ | ⟨q0, q1, q2, q3, q4⟩
  · cases q1
    exact ⟨_, rfl, Or.inl ⟨q0, rfl⟩⟩
  · dsimp only at q1
    subst q1
    rw [X10_forgetAll]
    refine ⟨_, rfl, Or.inr ⟨q0, rfl, q2.fr fun c k1 k2 => ?_, q3.fr fun c k1 k2 => ?_, WD_of (fun c h1 h2 => (q4 c (by omega) (by omega)).1) (fun c h2 => (q4 c (by omega) (by omega)).2)⟩⟩
    · simp (disch := omega) only [wI_ne, wI_eq, wI_nk, wIs_ne, wIs_eq]
    · simp (disch := omega) only [wI_ne, wI_eq, wI_nk, wIs_ne, wIs_eq]
theorem X10_redo (hH : HX Hs k u M (a + 21)) (hG : Gd (Hs (k + 1)) ∨ u = 0) : Wp (fX10_redo fu a M) (fun z => (u = 0 ∧ z = (nI 0, M)) ∨ (0 < u ∧ z.1 = nI 1 ∧ VX (Hs (k + 1)) z.2 (a + 12) ∧ HX Hs (k + 1) (u - 1) z.2 (a + 21) ∧ WD a M z.2)) := by
  unfold fX10_redo
  rw [wp_bw]
  refine (X4_goOn (b := a + 12) hH hG (by omega)).mono fun z q => ?_
  obtain ⟨z1, M1⟩ := z
  rcases q with ⟨q0, q1⟩ | ⟨q0, q1, q2, q3, q4⟩
  · cases q1
    exact ⟨_, rfl, Or.inl ⟨q0, rfl⟩⟩
  · dsimp only at q1
    subst q1
    rw [X10_forgetAll]
    refine ⟨_, rfl, Or.inr ⟨q0, rfl, q2.fr fun c k1 k2 => ?_, q3.fr fun c k1 k2 => ?_, WD_of (fun c h1 h2 => (q4 c (by omega) (by omega)).1) (fun c h2 => (q4 c (by omega) (by omega)).2)⟩⟩
    · simp (disch := omega) only [wI_ne, wI_eq, wI_nk, wIs_ne, wIs_eq]
    · simp (disch := omega) only [wI_ne, wI_eq, wI_nk, wIs_ne, wIs_eq]
end HI
