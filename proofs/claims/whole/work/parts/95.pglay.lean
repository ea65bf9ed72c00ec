/-! The class lays the paged plan. -/
-- what is alike over more than a page
theorem PF_u1 {w : Nat → Nat} {d e q h : Nat} (hi : ic w (4 + (e + 1)) q = 0) (hh : h < 6) (hf : PF w d (e + 1) q h < 1048576) : (PF w d (e + 1) q h = 0 ∧ uV (w (q * 2 ^ (4 + (e + 1)))) d h = 0) ∨ (PF w d (e + 1) q h = 1 ∧ ¬ uV (w (q * 2 ^ (4 + (e + 1)))) d h = 0 ∧ ¬ Ph w d e q h = PF w d (e + 1) q h) := by
  have hu := ic_un hi
  have h1 := PF_un w d _ (e + 1) q hu hh
  have h2 := lift_b (g := uV (w (q * 2 ^ (4 + (e + 1)))) d) (fun h _ => uV_b _ d h) hh
  have h3 := lift_z (uV (w (q * 2 ^ (4 + (e + 1)))) d) hh
  by_cases c : PF w d (e + 1) q h = 0
  · exact Or.inl ⟨c, h3.mp (by omega)⟩
  · refine Or.inr ⟨by omega, fun z => c (by rw [h1]; exact h3.mpr z), ?_⟩
    have e1 := PF_un w d _ e (2 * q) (Un.lo hu) hh
    have e2 := PF_un w d _ e (2 * q + 1) (Un.hi hu) hh
    unfold Ph
    omega
theorem PL_u0 {w : Nat → Nat} {d v h : Nat} (hh : h < 6) (hz : uV v d h = 0) : ∀ e q, Un w (4 + e) q v → PL w d e q h = [] ∧ ∀ p, q * 2 ^ e ≤ p → p < q * 2 ^ e + 2 ^ e → PG w d e q h p = fpk (fun pk => bsV v d pk h)
  | 0, q, hu => by
    have hF : (fun pk => Fw w d pk 4 q h) = fun pk => lift (bsV v d pk) h := funext fun pk => Fw_un w d pk v 4 q hu hh
    have hm : mn6 (fun pk => lift (bsV v d pk) h) = 0 := by
      rw [mn6_lift _ hh]
      exact (lift_z _ hh).mpr hz
    have hb : ∀ pk, lift (bsV v d pk) h = 0 ↔ bsV v d pk h = 0 := fun pk => lift_z _ hh
    have hfp : fpk (fun pk => lift (bsV v d pk) h) = fpk (fun pk => bsV v d pk h) := by
      unfold fpk
      rw [hm, show mn6 (fun pk => bsV v d pk h) = 0 from hz]
      simp only [hb]
    have hpk : pkF w d q h = fpk (fun pk => bsV v d pk h) := by
      unfold pkF
      rw [hF, hfp]
    refine ⟨?_, fun p _ _ => hpk⟩
    show Pl w d (pkF w d q h) 4 q h = []
    refine Pl_0 ?_
    have h1 := (fpk_ok (fun pk => Fw w d pk 4 q h)).2
    show Fw w d (fpk (fun pk => Fw w d pk 4 q h)) 4 q h = 0
    refine h1.trans ?_
    rw [hF, hm]
  | e + 1, q, hu => by
    obtain ⟨a1, a2⟩ := PL_u0 hh hz e (2 * q) (Un.lo hu)
    obtain ⟨b1, b2⟩ := PL_u0 hh hz e (2 * q + 1) (Un.hi hu)
    have e1 : PF w d e (2 * q) h = 0 := by rw [PF_un w d v e (2 * q) (Un.lo hu) hh]; exact (lift_z _ hh).mpr hz
    have e2 : PF w d e (2 * q + 1) h = 0 := by rw [PF_un w d v e (2 * q + 1) (Un.hi hu) hh]; exact (lift_z _ hh).mpr hz
    have e3 : PF w d (e + 1) q h = 0 := by rw [PF_un w d v (e + 1) q hu hh]; exact (lift_z _ hh).mpr hz
    have e4 : Ph w d e q h = PF w d (e + 1) q h := by unfold Ph; omega
    obtain ⟨c1, c2⟩ := PL_h e4
    have k1 := bk_l e q
    have k2 := bk_u e q
    have k3 := pw1 e
    refine ⟨by rw [c1, a1, b1]; rfl, fun p h1 h2 => ?_⟩
    rw [c2]
    by_cases c : p < (2 * q + 1) * 2 ^ e
    · rw [if_pos c]; exact a2 p (by omega) (by omega)
    · rw [if_neg c]; exact b2 p (by omega) (by omega)
/-- ready to lay above pages -/
def PQ (w : Nat → Nat) (t d F Q R : Nat) (M : Mm) (r e q k : Nat) : Prop := TW w t d F M (r + 1) ∧ M.1 r 4 = nI 1 ∧ (∀ j, j < NN w (4 + e) q → ∀ e' q', lo w (4 + e) q j = (4 + e', q') → PT w d M r e' q' (k + j) ∧ (e' = 0 → CH w d M r q' (k + j))) ∧ M.2.2 r 5 = some Q ∧ M.2.2 r 6 = some R
/-- what laying a node leaves as it was -/
def Qf (w : Nat → Nat) (r Q R e q k : Nat) (M M' : Mm) : Prop := (∀ a, a ≠ r + 11 → a ≠ R → (a < Q ∨ Q + 4 ≤ a) → M'.1 a = M.1 a) ∧ (∀ j, j < k * 6 ∨ (k + NN w (4 + e) q) * 6 ≤ j → M'.1 (r + 11) j = M.1 (r + 11) j) ∧ (∀ p, p < q * 2 ^ e ∨ q * 2 ^ e + 2 ^ e ≤ p → M'.1 R p = M.1 R p) ∧ ∀ a, (a < Q ∨ Q + 4 ≤ a) → M'.2.1 a = M.2.1 a ∧ M'.2.2 a = M.2.2 a
theorem Qf.rf (w : Nat → Nat) (r Q R e q k : Nat) (M : Mm) : Qf w r Q R e q k M M := ⟨fun _ _ _ _ => rfl, fun _ _ => rfl, fun _ _ => rfl, fun _ _ => ⟨rfl, rfl⟩⟩
theorem Qf.tr {w : Nat → Nat} {r Q R e q k : Nat} {M M' M'' : Mm} (h : Qf w r Q R e q k M M') (h' : Qf w r Q R e q k M' M'') : Qf w r Q R e q k M M'' := ⟨fun a h1 h2 h3 => (h'.1 a h1 h2 h3).trans (h.1 a h1 h2 h3), fun j hj => (h'.2.1 j hj).trans (h.2.1 j hj), fun p hp => (h'.2.2.1 p hp).trans (h.2.2.1 p hp), fun a ha => ⟨(h'.2.2.2 a ha).1.trans (h.2.2.2 a ha).1, (h'.2.2.2 a ha).2.trans (h.2.2.2 a ha).2⟩⟩
theorem Qf.fq {w : Nat → Nat} {r Q R e q k : Nat} {M M' : Mm} (h : Fr Q 4 M M') (hd : Q + 4 ≤ r ∨ r + 14 ≤ Q) (hR : R < Q ∨ Q + 4 ≤ R) : Qf w r Q R e q k M M' := ⟨fun a _ _ h3 => h.at h3, fun j _ => by rw [h.at (by omega)], fun p _ => by rw [h.at hR], fun a ha => (h a ha).2⟩
section PY
variable {fu r t d F k e q Q R : Nat} {w : Nat → Nat} {M : Mm} {L : Lay}
theorem PQ.fq {M M' : Mm} (h : PQ w t d F Q R M r e q k) (hf : Fr Q 4 M M') (hd : Q + 4 ≤ r ∨ r + 14 ≤ Q) : PQ w t d F Q R M' r e q k := by
  obtain ⟨a1, a2, a3, a4, a5⟩ := h
  refine ⟨a1.fr fun c _ _ => hf.at (by omega), by rw [hf.at (by omega)]; exact a2, fun j hj e' q' hl => ?_, by rw [(hf r (by omega)).2.2]; exact a4, by rw [(hf r (by omega)).2.2]; exact a5⟩
  obtain ⟨b1, b2⟩ := a3 j hj e' q' hl
  refine ⟨fun i hi => ?_, fun he i hi hf' => ?_⟩
  · rw [hf.at (by omega)]; exact b1 i hi
  · rw [hf.at (by omega)]; exact b2 he i hi hf'
theorem PQ.kl {M : Mm} (h : PQ w t d F Q R M r (e + 1) q k) (hi : ¬ ic w (4 + (e + 1)) q = 0) : PQ w t d F Q R M r e (2 * q) (k + 1) := by
  have hNN : NN w (4 + e + 1) q = _ := NN_h hi
  obtain ⟨a1, a2, a3, a4, a5⟩ := h
  refine ⟨a1, a2, fun j hj e' q' hl => ?_, a4, a5⟩
  have p2 := NN_p w (4 + e) (2 * q + 1)
  have := a3 (1 + j) (by show 1 + j < NN w (4 + e + 1) q; omega) e' q' (by show lo w (4 + e + 1) q (1 + j) = _; rw [lo_l hj]; exact hl)
  rw [← Nat.add_assoc] at this
  exact this
theorem PQ.kh {M : Mm} (h : PQ w t d F Q R M r (e + 1) q k) (hi : ¬ ic w (4 + (e + 1)) q = 0) : PQ w t d F Q R M r e (2 * q + 1) (k + 1 + NN w (4 + e) (2 * q)) := by
  have hNN : NN w (4 + e + 1) q = _ := NN_h hi
  obtain ⟨a1, a2, a3, a4, a5⟩ := h
  refine ⟨a1, a2, fun j hj e' q' hl => ?_, a4, a5⟩
  have := a3 (1 + NN w (4 + e) (2 * q) + j) (by show _ < NN w (4 + e + 1) q; omega) e' q' (by show lo w (4 + e + 1) q _ = _; rw [lo_u]; exact hl)
  rw [← Nat.add_assoc, ← Nat.add_assoc] at this
  exact this
theorem X6_layPage (hfu : 200000 ≤ fu) {dep h : Nat} {l : List Bk} (hW : WG w t d) (ha : atB L Q (T0 160) = true) (hR : L.contains (R, (0, 64)) = true) (hd : Q + 4 ≤ r ∨ r + 14 ≤ Q) (hd2 : R < r ∨ r + 14 ≤ R) (hd3 : R < Q ∨ Q + 4 ≤ R) (hl : lo w t 0 k = (4, q)) (hk : k < NN w t 0) (hdep : dep + 4 ≤ 11) (hh : h < 6) (hf : PF w d 0 q h < 10000) (hP : PQ w t d F Q R M r 0 q k) (hB : BV M Q l) (hb : l.length + PF w d 0 q h ≤ 160) :
    Wp (fX6_layPage fu L r (nI k) (nI h) (nI dep) M) (fun M' => BV M' Q (l ++ PL w d 0 q h) ∧ (∀ p, q * 2 ^ 0 ≤ p → p < q * 2 ^ 0 + 2 ^ 0 → M'.1 R p = nI (PG w d 0 q h p)) ∧ Qf w r Q R 0 q k M M') := by
  have h313 := hW.2.2.2
  obtain ⟨lv1, lv2, lv3, lv4, lv5⟩ := hW.lv hk hl
  have hq : q < 64 := by
    have : (2 : Nat) ^ 4 = 16 := rfl
    omega
  obtain ⟨a1, a2, a3, a4, a5⟩ := hP
  have hNp := NN_p w 4 q
  have hch : M.1 (r + 12) (k * 6 + h) = nI (pkF w d q h) := (a3 0 hNp 0 q (lo_0 _ _ _)).2 rfl h hh hf
  have hpk := (fpk_ok (fun pk => Fw w d pk 4 q h)).1
  have hpv : Fw w d (pkF w d q h) 4 q h = PF w d 0 q h := (fpk_ok (fun pk => Fw w d pk 4 q h)).2
  have hN := a1.1.2 k hk
  rw [hl] at hN
  have hbase : M.1 (r + 1 + 1) k = nI (q * 2 ^ 4) := hN.1.1
  have h16 : q * 2 ^ 4 / 16 = q := by
    have : (2 : Nat) ^ 4 = 16 := rfl
    omega
  have h16b : q * 2 ^ 4 < 2 ^ 31 := by omega
  unfold fX6_layPage
  simp (disch := omega) only [zi_li, zi_m, zi_m1, nI_add, zi_sub, zi_mul, zi_addm, zi_m_lt, zi_lt_m, zi_m_le, zi_le_m, zi_eq_m, zi_m_eq, nI_ltI, nI_leI, nI_eq, nI_clamp, zi_div, lt_eq, bm_s, bi_s, bl_s, bw_s, gd, if_pos, if_neg, ite_true, ite_false, or_false, false_or, and_true, true_and, not_true, not_false_iff, true_or, or_true, Nat.not_lt_zero, hch, a5, hR, hbase, h16]
  generalize hM1 : wI M R q (nI (pkF w d q h)) = M1
  have x1 : ∀ c, c ≠ R → M1.1 c = M.1 c := fun c hc => by rw [← hM1]; exact wI_ne hc
  have x2 : M1.2 = M.2 := by rw [← hM1]; rfl
  have T1 : TW w t d F M1 (r + 1) := a1.fr fun c _ _ => x1 c (by omega)
  rw [wp_bm]
  refine (X6_weighWithin hfu (VS_Fc w d (pkF w d q h)) (by omega) hpk T1 hW (by rw [x1 r (by omega)]; exact a2) hk hl).mono fun M2 h2 => ?_
  obtain ⟨f1, f2⟩ := h2
  have T2 : TW w t d F M2 (r + 1) := T1.fr fun c _ _ => f2.1 c (by omega)
  have B2 : BV M2 Q l := hB.fr fun c h1 h2 => by rw [f2.1 c (by omega), x1 c (by omega)]
  rw [wp_bm]
  refine (X6_layWithin hfu hW ha hd 4 q k 16 dep h l M2 hl hk (by omega) hdep hh (by omega) ⟨T2, f1, by rw [f2.2.2, x2]; exact a4⟩ B2 (by omega)).mono fun M3 h3 => ?_
  obtain ⟨g1, g2⟩ := h3
  rw [wp_some]
  refine ⟨g1, fun p h1 h2 => ?_, fun a q1 q2 q3 => ?_, fun j hj => ?_, fun p hp => ?_, ?_⟩
  · have : p = q := by omega
    subst this
    rw [g2.at hd3, f2.1 R (by omega), ← hM1]
    simp (disch := omega) only [wI_ne, wI_eq, wI_nk, wIs_ne, wIs_eq]
    rfl
  · rw [g2.at q3, f2.1 a q1, x1 a q2]
  · rw [g2.at (by omega), f2.2.1 j hj, x1 _ (by omega)]
  · rw [g2.at hd3, f2.1 R (by omega), ← hM1]
    have : p ≠ q := by omega
    simp (disch := omega) only [wI_ne, wI_eq, wI_nk, wIs_ne, wIs_eq]
  · intro a ha'
    refine ⟨?_, ?_⟩
    · rw [(g2 a ha').2.1, f2.2.2, x2]
    · rw [(g2 a ha').2.2, f2.2.2, x2]
end PY
