/-! The class's filler is made. -/
theorem wi_9 {S : Sto} (hG : Gd S) {d : Nat} (hd : d < 5) (x : Nat) : wi S d x = 9 ↔ x < S 142 := by
  unfold wi
  have := wtS_lt hG hd x
  by_cases c : x < S 142
  · rw [if_pos c]; exact ⟨fun _ => c, fun _ => rfl⟩
  · rw [if_neg c]; exact ⟨fun z => by omega, fun z => absurd z c⟩
def FiV (S : Sto) (M : Mm) (g : Nat) : Prop := TW (wi S (S 0)) (S 140) (S 0) (S 142) M (g + 1) ∧ ∀ k, k < NN (wi S (S 0)) (S 140) 0 → MT (wi S (S 0)) (S 0) M g (lo (wi S (S 0)) (S 140) 0 k).1 (lo (wi S (S 0)) (S 140) 0 k).2 k
theorem FiV.fr {S : Sto} {M M' : Mm} {g : Nat} (h : FiV S M g) (hf : ∀ c, g + 1 ≤ c → c < g + 12 → M'.1 c = M.1 c) : FiV S M' g := by
  refine ⟨h.1.fr fun c h1 h2 => hf c (by omega) (by omega), fun k hk i hi r hr => ?_⟩
  rw [hf (g + 11) (by omega) (by omega)]
  exact h.2 k hk i hi r hr
section FM
variable {fu g b : Nat} {S : Sto} {M : Mm}
theorem X3_make (hfu : 200000 ≤ fu) (hV : VX S M b) (hG : Gd S) (hd : b + 9 ≤ g ∨ g + 12 ≤ b) : Wp (fX3_make fu g b M) (fun M' => FiV S M' g ∧ Fr g 12 M M') := by
  have hd5 := hG.1.2.2.2.2.1
  have hW := wi_G hG hd5
  have hF := wi_9 hG hd5
  have hF2 := hG.2.1 142
  have hNp := NN_p (wi S (S 0)) (S 140) 0
  have h313 := hW.2.2.2
  unfold FiV
  generalize hw : wi S (S 0) = w at *
  unfold fX3_make
  rw [hV.1.2.2.1, wp_bm]
  refine (X9_make hfu hV hG hd5 (by omega)).mono fun M1 h1 => ?_
  rw [hw] at h1
  obtain ⟨t1, t2, t3, t4⟩ := h1
  have hT : TW w (S 140) (S 0) (S 142) M1 (g + 1) := ⟨t1, t2, t3⟩
  have c5 : M1.1 (g + 1) 5 = nI (NN w (S 140) 0) := t1.1
  unfold fX3_make_l22
  simp (disch := omega) only [lt_eq, zi_li, c5, zi_sub]
  have es : nI (NN w (S 140) 0 - 1) = nI (NN w (S 140) 0 - 0) + mI := by rw [Nat.sub_zero, zi_addm (by omega)]
  rw [es]
  refine lp_ho (fun i z => z.1 = nI (NN w (S 140) 0 - i) + mI ∧ (∀ j, NN w (S 140) 0 - i ≤ j → j < NN w (S 140) 0 → MT w (S 0) z.2 g (lo w (S 140) 0 j).1 (lo w (S 140) 0 j).2 j) ∧ O1 (g + 11) M1 z.2) _ (NN w (S 140) 0) (i := 0) (by omega) (by omega) ⟨rfl, fun j h1 h2 => absurd h2 (by omega), O1.rf _ _⟩ (fun i z hi hz rec hrec => ?_) (fun z hz rec => ?_)
  · obtain ⟨z1, z2⟩ := z
    obtain ⟨rfl, g1, g2⟩ := hz
    dsimp only at *
    rw [zi_addm (by omega)]
    obtain ⟨j, hj⟩ : ∃ j, j = NN w (S 140) 0 - i - 1 := ⟨_, rfl⟩
    rw [← hj]
    have hk : j < NN w (S 140) 0 := by omega
    obtain ⟨e1, q1, hl⟩ : ∃ e1 q1, lo w (S 140) 0 j = (e1, q1) := ⟨_, _, rfl⟩
    have Tz : TW w (S 140) (S 0) (S 142) z2 (g + 1) := hT.fr fun c _ _ => g2.1 c (by omega)
    have nxt : nI j + mI = nI (NN w (S 140) 0 - (i + 1)) + mI := by rw [show j = NN w (S 140) 0 - (i + 1) by omega]
    have j0 : ¬ nI j < 0 := nI_pos (by omega)
    unfold fX3_make_b22 fX3_make_l28
    rw [if_neg j0]
    have kids : ∀ e2, e1 = e2 + 1 → ¬ ic w e1 q1 = 0 → MT w (S 0) z2 g e2 (2 * q1) (j + 1) ∧ MT w (S 0) z2 g e2 (2 * q1 + 1) (j + 1 + NN w e2 (2 * q1)) := fun e2 he hc => by
      subst he
      obtain ⟨l1, l2, l3⟩ := lo_kid hk hl hc
      have p1 := NN_p w e2 (2 * q1)
      have p2 := NN_p w e2 (2 * q1 + 1)
      have f1 := g1 (j + 1) (by omega) (by omega)
      have f2 := g1 (j + 1 + NN w e2 (2 * q1)) (by omega) (by omega)
      rw [l1] at f1
      rw [l2] at f2
      exact ⟨f1, f2⟩
    refine lp_ho (fun h y => y.1 = nI h ∧ (∀ a, a < h → ∀ r, r < 11 → y.2.1 (g + 11) ((j * 6 + a) * 11 + r) = nI (Gw w (S 0) e1 q1 a r)) ∧ (∀ a, a < j * 66 ∨ j * 66 + 66 ≤ a → y.2.1 (g + 11) a = z2.1 (g + 11) a) ∧ O1 (g + 11) M1 y.2) _ 6 (i := 0) (by omega) (by omega) ⟨rfl, fun a ha => absurd ha (by omega), fun a _ => rfl, g2⟩ (fun h y hh hy rec2 hrec2 => ?_) (fun y hy rec2 => ?_)
    · obtain ⟨y1, y2⟩ := y
      obtain ⟨rfl, u1, u2, u3⟩ := hy
      dsimp only at *
      have Ty : TW w (S 140) (S 0) (S 142) y2 (g + 1) := hT.fr fun c _ _ => u3.1 c (by omega)
      have q1' : ¬ (6 : Int32) ≤ nI h := by
        show ¬ nI 6 ≤ nI h
        exact nI_ge hh (by omega)
      unfold fX3_make_b28
      rw [if_neg q1', wp_bm]
      refine (X3_weigh hfu Ty hW hF hF2 hk hl hh (fun e2 he hc => by
        obtain ⟨k1, k2⟩ := kids e2 he hc
        have p1 := NN_p w e2 (2 * q1)
        refine ⟨fun a ha r hr => ?_, fun a ha r hr => ?_⟩
        · rw [u2 _ (by omega)]; exact k1 a ha r hr
        · rw [u2 _ (by omega)]; exact k2 a ha r hr) u1).mono fun M' hM' => ?_
      obtain ⟨m1, m2, m3⟩ := hM'
      rw [lt_eq, nI_1]
      refine hrec2 _ ⟨rfl, fun a ha r hr => ?_, fun a ha => ?_, u3.tr m3⟩
      · by_cases c : a = h
        · subst c; exact m1 r hr
        · rw [m2 _ (by omega)]; exact u1 a (by omega) r hr
      · rw [m2 _ (by omega)]; exact u2 a ha
    · obtain ⟨y1, y2⟩ := y
      obtain ⟨rfl, u1, u2, u3⟩ := hy
      dsimp only at *
      have q1' : (6 : Int32) ≤ nI 6 := Int32.le_refl _
      unfold fX3_make_b28 fX3_make_j46
      rw [if_pos q1', lt_eq, zi_m1]
      refine hrec _ ⟨nxt, fun j' h1 h2 => ?_, u3⟩
      by_cases c : j' = j
      · subst c
        rw [hl]
        exact fun a ha r hr => u1 a ha r hr
      · intro a ha r hr
        rw [u2 _ (by omega)]
        exact g1 j' (by omega) h2 a ha r hr
  · obtain ⟨z1, z2⟩ := z
    obtain ⟨rfl, g1, g2⟩ := hz
    dsimp only at *
    rw [Nat.sub_self]
    have q0 : nI 0 + mI < 0 := by decide +kernel
    unfold fX3_make_b22 fX3_make_j52
    rw [if_pos q0, wp_some]
    exact ⟨⟨hT.fr fun c _ _ => g2.1 c (by omega), fun k hk => g1 k (by omega) hk⟩, (t4.wd (by omega) (by omega)).tr (fun c hc => ⟨g2.1 c (by omega), by rw [g2.2], by rw [g2.2]⟩)⟩
def moS (S : Sto) (r : Nat) : Nat := Gw (wi S (S 0)) (S 0) (S 140) 0 5 r
theorem X3_mostRight {r : Nat} (hF : FiV S M g) (hr : r < 11) : fX3_mostRight fu g (nI r) M = some (nI (moS S r)) := by
  have h1 := hF.2 0 (NN_p _ _ _) 5 (by omega) r hr
  rw [lo_0] at h1
  have cl := X3_cell (fu := fu) (a := 0) (b := 5) (c := r)
  simp (disch := omega) only [fX3_mostRight, cl, zi_li, zi_m, zi_m1, nI_add, zi_sub, zi_mul, zi_addm, zi_m_lt, zi_lt_m, zi_m_le, zi_le_m, zi_eq_m, zi_m_eq, nI_ltI, nI_leI, nI_eq, nI_clamp, zi_div, lt_eq, bm_s, bi_s, bl_s, bw_s, gd, if_pos, if_neg, ite_true, ite_false, or_false, false_or, and_true, true_and, not_true, not_false_iff, true_or, or_true, Nat.not_lt_zero, h1]
  rfl
end FM
