/-! What the class's planner answers. -/
/-- cells of two places alone are other ones -/
def F2 (r n Q m : Nat) (M M' : Mm) : Prop := ∀ c, (c < r ∨ r + n ≤ c) → (c < Q ∨ Q + m ≤ c) → M'.1 c = M.1 c ∧ M'.2.1 c = M.2.1 c ∧ M'.2.2 c = M.2.2 c
theorem F2.tr {r n Q m : Nat} {M M' M'' : Mm} (h : F2 r n Q m M M') (h' : F2 r n Q m M' M'') : F2 r n Q m M M'' := fun c h1 h2 => by
  obtain ⟨a1, a2, a3⟩ := h c h1 h2
  obtain ⟨b1, b2, b3⟩ := h' c h1 h2
  exact ⟨b1.trans a1, b2.trans a2, b3.trans a3⟩
theorem F2.a {r n Q m : Nat} {M M' : Mm} (h : Fr r n M M') : F2 r n Q m M M' := fun c h1 _ => h c h1
theorem F2.b {r n Q m : Nat} {M M' : Mm} (h : Fr Q m M M') : F2 r n Q m M M' := fun c _ h2 => h c h2
theorem Ef.f {r k0 k1 : Nat} {M M' : Mm} (h : Ef r k0 k1 M M') : Fr r 14 M M' := fun c hc => ⟨h.1 c (by omega), by rw [h.2.2], by rw [h.2.2]⟩
def plS (S : Sto) : List Bk := Pl (wi S (S 0)) (S 0) 5 (S 140) 0 5
def cvS (S : Sto) (d : Nat) : Nat := Fw (wi S d) d 5 (S 140) 0 5
theorem cvS_le {S : Sto} (hG : Gd S) {d : Nat} (hd : d < 5) : cvS S d ≤ 157 := by
  have h1 := Fw_IN (d := d) (wi_G hG hd).1 (S 140) 0
  have h2 := IN_t (wi S d) hG.1.2.1 (ic_wi hG d)
  unfold cvS
  omega
theorem plS_len {S : Sto} (hG : Gd S) : (plS S).length = cvS S (S 0) := by
  have h := cvS_le hG hG.1.2.2.2.2.1
  unfold plS cvS at *
  exact Pl_len _ _ _ _ _ 6 5 (by omega) (by omega) (by omega)
-- side by side
def A1 (w : Nat → Nat) (d e q : Nat) : Prop := Fw w d 5 e q 0 = 0 ∨ Fw w d 5 e q 1 = 0 ∨ Fw w d 5 e q 2 = 0 ∨ Fw w d 5 e q 3 = 0 ∨ Fw w d 5 e q 4 = 0
def Ad (w : Nat → Nat) (d : Nat) : Nat → Nat → Nat
  | 0, q => if Fw w d 5 0 q 5 = 0 then 0 else 1
  | e + 1, q => if Fw w d 5 (e + 1) q 5 = 0 then 0 else if Fw w d 5 (e + 1) q 0 = 0 ∨ Fw w d 5 (e + 1) q 1 = 0 ∨ Fw w d 5 (e + 1) q 2 = 0 ∨ Fw w d 5 (e + 1) q 3 = 0 ∨ Fw w d 5 (e + 1) q 4 = 0 then 1 else Ad w d e (2 * q) + Ad w d e (2 * q + 1)
theorem Ad_le (w : Nat → Nat) (d : Nat) : ∀ e q, Ad w d e q ≤ 2 ^ e
  | 0, q => by unfold Ad; split <;> decide
  | e + 1, q => by
    have i1 := Ad_le w d e (2 * q)
    have i2 := Ad_le w d e (2 * q + 1)
    have := pw1 e
    have := pwp e
    unfold Ad
    split
    · omega
    · split <;> omega
theorem Ad_z {w : Nat → Nat} {d : Nat} : ∀ {e q}, Ad w d e q = 0 ↔ Fw w d 5 e q 5 = 0
  | 0, q => by
    unfold Ad
    by_cases c : Fw w d 5 0 q 5 = 0
    · rw [if_pos c]; simp [c]
    · rw [if_neg c]; simp [c]
  | e + 1, q => by
    have i1 := Ad_z (w := w) (d := d) (e := e) (q := 2 * q)
    have i2 := Ad_z (w := w) (d := d) (e := e) (q := 2 * q + 1)
    have hz : Fw w d 5 (e + 1) q 5 = 0 ↔ Fw w d 5 e (2 * q) 5 = 0 ∧ Fw w d 5 e (2 * q + 1) 5 = 0 := by
      rw [Fw_S, lift_z _ (by omega)]
      unfold Fh
      omega
    unfold Ad
    by_cases c : Fw w d 5 (e + 1) q 5 = 0
    · rw [if_pos c]; simp [c]
    · rw [if_neg c]
      split <;> omega
def Fa (w : Nat → Nat) (d e q h : Nat) : Nat := if h = 5 then min 10000 (Ad w d e q) else if Fw w d 5 e q h = 0 then 0 else 10000
theorem Fa_5 (w : Nat → Nat) (d e q : Nat) : Fa w d e q 5 = min 10000 (Ad w d e q) := rfl
theorem Fa_k (w : Nat → Nat) (d e q : Nat) {h : Nat} (hh : h < 5) : Fa w d e q h = if Fw w d 5 e q h = 0 then 0 else 10000 := by
  unfold Fa
  rw [if_neg (by omega)]
theorem byI_Fa {w : Nat → Nat} {d e q : Nat} : byI (Fa w d e q) 5 = if Fw w d 5 e q 0 = 0 ∨ Fw w d 5 e q 1 = 0 ∨ Fw w d 5 e q 2 = 0 ∨ Fw w d 5 e q 3 = 0 ∨ Fw w d 5 e q 4 = 0 then 1 else 10000 := by
  show min 10000 (1 + min (min (Fa w d e q 0) (Fa w d e q 1)) (min (min (Fa w d e q 2) (Fa w d e q 3)) (Fa w d e q 4))) = _
  rw [Fa_k _ _ _ _ (h := 0) (by omega), Fa_k _ _ _ _ (h := 1) (by omega), Fa_k _ _ _ _ (h := 2) (by omega), Fa_k _ _ _ _ (h := 3) (by omega), Fa_k _ _ _ _ (h := 4) (by omega)]
  by_cases c0 : Fw w d 5 e q 0 = 0
  · simp [c0]
  by_cases c1 : Fw w d 5 e q 1 = 0
  · simp [c0, c1]
  by_cases c2 : Fw w d 5 e q 2 = 0
  · simp [c0, c1, c2]
  by_cases c3 : Fw w d 5 e q 3 = 0
  · simp [c0, c1, c2, c3]
  by_cases c4 : Fw w d 5 e q 4 = 0
  · simp [c0, c1, c2, c3, c4]
  simp [c0, c1, c2, c3, c4]
theorem VS_Fa {w : Nat → Nat} (hw : ∀ x, w x = 9 ∨ w x < 5) (d : Nat) : VS (Fa w d) w d 5 0 := by
  have hcap : ∀ e q h, Fa w d e q h ≤ 10000 := fun e q h => by
    unfold Fa
    split
    · omega
    · split <;> omega
  have hz : ∀ e q h, h < 6 → (Fw w d 5 (e + 1) q h = 0 ↔ Fw w d 5 e (2 * q) h = 0 ∧ Fw w d 5 e (2 * q + 1) h = 0) := fun e q h hh => by
    rw [Fw_S, lift_z _ hh]
    unfold Fh
    omega
  refine ⟨fun e q h _ => hcap e q h, fun e q h hh hi => ?_, fun e q h hh hi => ?_⟩
  · have hu := ic_un hi
    have e1 : ∀ h, h < 6 → (Fw w d 5 e q h = 0 ↔ bsV (w (q * 2 ^ e)) d 5 h = 0) := fun h hh => by rw [Fw_un w d 5 _ e q hu hh, lift_z _ hh]
    by_cases c5 : h = 5
    · subst c5
      have hb : byO 0 (Fa w d e q) 5 = byI (Fa w d e q) 5 := if_pos (Or.inr rfl)
      have h3 : Fw w d 5 e q 0 = 0 ∨ Fw w d 5 e q 1 = 0 ∨ Fw w d 5 e q 2 = 0 ∨ Fw w d 5 e q 3 = 0 ∨ Fw w d 5 e q 4 = 0 := by
        rcases hw (q * 2 ^ e) with c | c
        · exact Or.inl ((e1 0 (by omega)).mpr (if_pos (Or.inl c)))
        · have hk : Fw w d 5 e q (w (q * 2 ^ e)) = 0 := (e1 _ (by omega)).mpr (if_pos (Or.inr (by
            show kb d (w (q * 2 ^ e)) = _
            unfold kb
            rw [if_neg (by omega)])))
          generalize w (q * 2 ^ e) = v at c hk
          have : v = 0 ∨ v = 1 ∨ v = 2 ∨ v = 3 ∨ v = 4 := by omega
          rcases this with rfl | rfl | rfl | rfl | rfl
          · exact Or.inl hk
          · exact Or.inr (Or.inl hk)
          · exact Or.inr (Or.inr (Or.inl hk))
          · exact Or.inr (Or.inr (Or.inr (Or.inl hk)))
          · exact Or.inr (Or.inr (Or.inr (Or.inr hk)))
      rw [hb, byI_Fa, if_pos h3, Fa_5]
      have hA : Ad w d e q = if Fw w d 5 e q 5 = 0 then 0 else 1 := by
        cases e with
        | zero => rfl
        | succ e =>
          show (if _ then 0 else if _ then 1 else _) = _
          rw [if_pos h3]
      rw [hA]
      by_cases c : Fw w d 5 e q 5 = 0
      · rw [if_pos c, if_pos ((e1 5 (by omega)).mp c)]; omega
      · rw [if_neg c, if_neg (fun q => c ((e1 5 (by omega)).mpr q))]
    · have hb : byO 0 (Fa w d e q) h = 10000 := if_neg (by omega)
      rw [hb, Fa_k _ _ _ _ (by omega)]
      by_cases c : Fw w d 5 e q h = 0
      · rw [if_pos c, if_pos ((e1 h hh).mp c)]; omega
      · rw [if_neg c, if_neg (fun q => c ((e1 h hh).mpr q))]; omega
  · by_cases c5 : h = 5
    · subst c5
      have hb : byO 0 (Fa w d (e + 1) q) 5 = byI (Fa w d (e + 1) q) 5 := if_pos (Or.inr rfl)
      rw [hb, byI_Fa, Fa_5, Fa_5, Fa_5]
      have z1 := Ad_z (w := w) (d := d) (e := e) (q := 2 * q)
      have z2 := Ad_z (w := w) (d := d) (e := e) (q := 2 * q + 1)
      have z3 := hz e q 5 (by omega)
      have hA : Ad w d (e + 1) q = if Fw w d 5 (e + 1) q 5 = 0 then 0 else if Fw w d 5 (e + 1) q 0 = 0 ∨ Fw w d 5 (e + 1) q 1 = 0 ∨ Fw w d 5 (e + 1) q 2 = 0 ∨ Fw w d 5 (e + 1) q 3 = 0 ∨ Fw w d 5 (e + 1) q 4 = 0 then 1 else Ad w d e (2 * q) + Ad w d e (2 * q + 1) := rfl
      rw [hA]
      by_cases c : Fw w d 5 (e + 1) q 5 = 0
      · rw [if_pos c]
        split <;> omega
      · rw [if_neg c]
        split <;> omega
    · have hb : byO 0 (Fa w d (e + 1) q) h = 10000 := if_neg (by omega)
      rw [hb, Fa_k _ _ _ _ (by omega), Fa_k _ _ _ _ (by omega), Fa_k _ _ _ _ (by omega)]
      have z3 := hz e q h hh
      by_cases c : Fw w d 5 (e + 1) q h = 0
      · obtain ⟨c1, c2⟩ := z3.mp c
        rw [if_pos c, if_pos c1, if_pos c2]; omega
      · rw [if_neg c]
        by_cases c1 : Fw w d 5 e (2 * q) h = 0
        · rw [if_pos c1, if_neg (fun q => c (z3.mpr ⟨c1, q⟩))]; omega
        · rw [if_neg c1]
          split <;> omega
section CP
variable {fu r b Q : Nat} {S : Sto} {M : Mm} {L : Lay}
theorem X6_fewestOver (hfu : 200000 ≤ fu) (hV : VX S M b) (hG : Gd S) {d : Nat} (hd5 : d < 5) (hd : b + 9 ≤ r ∨ r + 14 ≤ b) : Wp (fX6_fewestOver fu r b (nI d) M) (fun z => z.1 = nI (cvS S d) ∧ Fr r 14 M z.2) := by
  have hW := wi_G hG hd5
  have hcv := cvS_le hG hd5
  have hNp := NN_p (wi S d) (S 140) 0
  unfold fX6_fewestOver
  rw [wp_bm]
  refine (X9_make hfu hV hG hd5 (by omega)).mono fun M1 h1 => ?_
  obtain ⟨t1, t2, t3, t4⟩ := h1
  have hT : TW (wi S d) (S 140) d (S 142) (wI M1 r 4 (nI 1)) (r + 1) := TW.fr (M := M1) ⟨t1, t2, t3⟩ fun c _ _ => wI_ne (by omega)
  simp (disch := omega) only [lt_eq, zi_li]
  rw [wp_bm]
  refine (X6_weighWithin hfu (VS_Fc (wi S d) d 5) (by omega) (by omega) hT hW (by simp (disch := omega) only [wI_ne, wI_eq, wI_nk, wIs_ne, wIs_eq]) hNp (lo_0 _ _ _)).mono fun M2 h2 => ?_
  obtain ⟨f1, f2⟩ := h2
  have := f1 0 hNp 5 (by omega)
  rw [lo_0] at this
  have e5 : ix (nI 5) = 5 := ix_n (by omega)
  rw [e5, wp_some]
  refine ⟨this.trans ?_, ((t4.wd (by omega) (by omega)).tr (Fr.w1 _ _ _ _ (by omega) (by omega))).tr f2.f⟩
  congr 1
  show min 10000 (cvS S d) = _
  omega
theorem X6_fewestAdded (hfu : 200000 ≤ fu) (hV : VX S M b) (hG : Gd S) (hd : b + 9 ≤ r ∨ r + 14 ≤ b) : Wp (fX6_fewestAdded fu r b M) (fun z => z.1 = nI (Ad (wi S (S 0)) (S 0) (S 140) 0) ∧ Fr r 14 M z.2) := by
  have hd5 := hG.1.2.2.2.2.1
  have hW := wi_G hG hd5
  have hAd := Ad_le (wi S (S 0)) (S 0) (S 140) 0
  have hA := hG.ad
  have hNp := NN_p (wi S (S 0)) (S 140) 0
  unfold fX6_fewestAdded
  rw [hV.1.2.2.1, wp_bm]
  refine (X9_make hfu hV hG hd5 (by omega)).mono fun M1 h1 => ?_
  obtain ⟨t1, t2, t3, t4⟩ := h1
  have hT : TW (wi S (S 0)) (S 140) (S 0) (S 142) (wI M1 r 4 (nI 0)) (r + 1) := TW.fr (M := M1) ⟨t1, t2, t3⟩ fun c _ _ => wI_ne (by omega)
  simp (disch := omega) only [lt_eq, zi_li]
  rw [wp_bm]
  refine (X6_weighWithin hfu (VS_Fa hW.1 (S 0)) (by omega) (by omega) hT hW (by simp (disch := omega) only [wI_ne, wI_eq, wI_nk, wIs_ne, wIs_eq]) hNp (lo_0 _ _ _)).mono fun M2 h2 => ?_
  obtain ⟨f1, f2⟩ := h2
  have := f1 0 hNp 5 (by omega)
  rw [lo_0] at this
  have e5 : ix (nI 5) = 5 := ix_n (by omega)
  rw [e5, wp_some]
  refine ⟨this.trans ?_, ((t4.wd (by omega) (by omega)).tr (Fr.w1 _ _ _ _ (by omega) (by omega))).tr f2.f⟩
  congr 1
  show min 10000 (Ad (wi S (S 0)) (S 0) (S 140) 0) = _
  omega
theorem X6_layPlan (hfu : 200000 ≤ fu) (hV : VX S M b) (hG : Gd S) (hd : b + 9 ≤ r ∨ r + 14 ≤ b) (hQ : Q + 4 ≤ r ∨ r + 14 ≤ Q) (ha : atB L Q (T0 160) = true) : Wp (fX6_layPlan fu L r b Q M) (fun M' => BV M' Q (plS S) ∧ F2 r 14 Q 4 M M') := by
  have hd5 := hG.1.2.2.2.2.1
  have hW := wi_G hG hd5
  have hcv := cvS_le hG hd5
  have h140 := hG.1.2.1
  have hNp := NN_p (wi S (S 0)) (S 140) 0
  unfold fX6_layPlan
  rw [hV.1.2.2.1, wp_bm]
  refine (X9_make hfu hV hG hd5 (by omega)).mono fun M1 h1 => ?_
  obtain ⟨t1, t2, t3, t4⟩ := h1
  have hT : TW (wi S (S 0)) (S 140) (S 0) (S 142) (wI M1 r 4 (nI 1)) (r + 1) := TW.fr (M := M1) ⟨t1, t2, t3⟩ fun c _ _ => wI_ne (by omega)
  simp (disch := omega) only [lt_eq, zi_li]
  rw [wp_bm]
  refine (X6_weighWithin hfu (VS_Fc (wi S (S 0)) (S 0) 5) (by omega) (by omega) hT hW (by simp (disch := omega) only [wI_ne, wI_eq, wI_nk, wIs_ne, wIs_eq]) hNp (lo_0 _ _ _)).mono fun M2 h2 => ?_
  obtain ⟨f1, f2⟩ := h2
  have e5 : (wR M2 r 5 (some Q)).2.2 r 5 = some Q := by rw [wR_3, if_pos ⟨rfl, rfl⟩]
  simp (disch := omega) only [lt_eq, e5, bl_s, gd, ha, if_pos, if_neg, ite_true, ite_false, or_false, false_or, and_true, true_and, not_true, not_false_iff, true_or, or_true, Nat.not_lt_zero]
  rw [wp_bm]
  generalize hM3 : wI (wR M2 r 5 (some Q)) Q 3 (nI 0) = M3
  have x1 : ∀ c, c ≠ Q → M3.1 c = M2.1 c := fun c hc => by rw [← hM3]; exact wI_ne hc
  have hT3 : TW (wi S (S 0)) (S 140) (S 0) (S 142) M3 (r + 1) := TW.fr (M := wI M1 r 4 (nI 1)) hT fun c h1 h2 => by rw [x1 c (by omega), f2.1 c (by omega)]
  have hP : PR (wi S (S 0)) (S 140) (S 0) (S 142) 5 Q M3 r (S 140) 0 0 := by
    refine ⟨hT3, fun j hj i hi => ?_, ?_⟩
    · rw [x1 _ (by omega)]
      exact f1 j hj i hi
    · rw [← hM3]
      show (wR M2 r 5 (some Q)).2.2 r 5 = some Q
      exact e5
  have hB : BV M3 Q [] := by
    refine ⟨?_, fun i p hp => by simp at hp⟩
    rw [← hM3]
    simp (disch := omega) only [wI_ne, wI_eq, wI_nk, wIs_ne, wIs_eq]
    rfl
  refine (X6_layWithin hfu hW ha hQ (S 140) 0 0 16 0 5 [] M3 (lo_0 _ _ _) hNp (by omega) (by omega) (by omega) (by unfold cvS at hcv; omega) hP hB (by unfold cvS at hcv; show 0 + _ ≤ 160; omega)).mono fun M4 h4 => ?_
  obtain ⟨g1, g2⟩ := h4
  rw [wp_some]
  refine ⟨g1, ?_⟩
  have k1 : F2 r 14 Q 4 M M2 := F2.a (((t4.wd (by omega) (by omega)).tr (Fr.w1 _ _ _ _ (by omega) (by omega))).tr f2.f)
  have k2 : F2 r 14 Q 4 M2 M3 := by
    rw [← hM3]
    exact (F2.a (Fr.w4 _ _ _ _ (by omega) (by omega))).tr (F2.b (Fr.w1 _ _ _ _ (by omega) (by omega)))
  exact (k1.tr k2).tr (F2.b g2)
end CP
