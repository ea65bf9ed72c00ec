/-! The reference's stack is worked off. -/
/-- what the reference knows while it lays with pages of a kind -/
def Ck (S : Sto) (d pk : Nat) (M : Mm) (m : Nat) : Prop := VM S M m ∧ WV (wi S d) (S 140) M m ∧ M.1 m 25 = nI d ∧ FV (wi S d) d pk (S 140) M m
theorem Ck.lf {S : Sto} {d pk m : Nat} {M M' : Mm} (h : Ck S d pk M m) (g : Lf m M M') : Ck S d pk M' m := by
  refine ⟨h.1.sc g.sc, ?_, ?_, ?_⟩
  · unfold WV; rw [g.1 (m + 8) (by omega) (by omega)]; exact h.2.1
  · rw [g.2.1 25 (by omega) (by omega)]; exact h.2.2.1
  · unfold FV; rw [g.1 (m + 9) (by omega) (by omega)]; exact h.2.2.2
theorem WT.pop {M : Mm} {m : Nat} {st : List (Nat × Nat)} {p : Nat × Nat} (h : WT M m (st ++ [p])) : M.1 m 32 = nI (st.length + 1) ∧ M.1 (m + 12) st.length = nI p.1 ∧ M.1 (m + 13) st.length = nI p.2 ∧ WT (wI M m 32 (nI st.length)) m st := by
  have h1 := h.1
  rw [List.length_append] at h1
  have h2 := h.2 st.length p (by rw [List.getElem?_append_right (Nat.le_refl _), Nat.sub_self]; rfl)
  refine ⟨h1, h2.1, h2.2, wI_eq, fun i p' hp => ?_⟩
  rw [wI_ne (by omega), wI_ne (by omega)]
  refine h.2 i p' ?_
  have : i < st.length := by
    by_cases c : i < st.length
    · exact c
    · rw [List.getElem?_eq_none (by omega)] at hp; cases hp
  rw [List.getElem?_append_left this]
  exact hp
section RR
variable {fu m d pk : Nat} {S : Sto}
/-- the body of the loop, as a step -/
def lwF (fu m : Nat) (dn : Int32) (pk : Nat) : (Mm → Option Mm) → Mm → Option Mm := fun rec s => fX11_layWaiting_b0 fu (fun M => rec M) m dn (nI pk) s
theorem X11_lwStep (hfu : 200000 ≤ fu) {dn e q h : Nat} {st : List (Nat × Nat)} {l : List Bk} {M : Mm} (hG : Gd S) (hd : d < 5) (hp : pk < 6) (hC : Ck S d pk M m) (he : e ≤ S 140) (hq : q < 2 ^ (S 140 - e)) (hh : h < 6) (hdn : dn ≤ st.length) (hs : st.length + 2 < 4200) (hW : WT M m (st ++ [(2 ^ (S 140 - e) + q, h)])) (hB : MB M m l) (hl : l.length < 2100) (hf : Fw (wi S d) d pk e q h < 1048576) :
    ∃ M', Lf m M M' ∧ (∀ rec, lwF fu m (nI dn) pk rec M = rec M') ∧
      ((Fw (wi S d) d pk e q h = 0 ∧ WT M' m st ∧ MB M' m l) ∨
       (¬ Fw (wi S d) d pk e q h = 0 ∧ ∃ e1, e = e1 + 1 ∧ Fh (wi S d) d pk e1 q h = Fw (wi S d) d pk e q h ∧ WT M' m ((st ++ [(2 ^ (S 140 - e1) + (2 * q + 1), h)]) ++ [(2 ^ (S 140 - e1) + 2 * q, h)]) ∧ MB M' m l) ∨
       (¬ Fw (wi S d) d pk e q h = 0 ∧ Is (wi S d) d pk e q h ∧ WT M' m (st ++ [(2 ^ (S 140 - e) + q, md h (fk (Fw (wi S d) d pk e q) h))]) ∧ MB M' m (l ++ [(q * 2 ^ e, 2 ^ e, fk (Fw (wi S d) d pk e q) h)]))) := by
  have hA := hG.ad
  have ht := hG.1.2.1
  have hw := (wi_G hG hd).1
  have hnl := nd_lt he hq
  have hn0 := nd_0 he hq
  have ht2 := pw1 (S 140)
  have h11 : 2 ^ (S 140 + 1) ≤ 2 ^ 11 := Nat.pow_le_pow_right (by decide) (by omega)
  obtain ⟨p1, p2, p3, p4⟩ := hW.pop
  have L1 : Lf m M (wI M m 32 (nI st.length)) := Lf.w0 _ _ (Or.inl rfl)
  have hC1 := hC.lf L1
  generalize hM1 : wI M m 32 (nI st.length) = M1 at L1 hC1 p4
  have B1 : MB M1 m l := by
    rw [← hM1]
    refine ⟨?_, fun i p hp => ?_⟩
    · simp (disch := omega) only [wI_ne, wI_eq, wI_nk, wIs_ne, wIs_eq]; exact hB.1
    · simp (disch := omega) only [wI_ne, wI_eq, wI_nk, wIs_ne, wIs_eq]; exact hB.2 i p hp
  have a1 : M1.1 (m + 12) st.length = nI (2 ^ (S 140 - e) + q) := by rw [← hM1]; simp (disch := omega) only [wI_ne, wI_eq, wI_nk, wIs_ne, wIs_eq]; exact p2
  have a2 : M1.1 (m + 13) st.length = nI h := by rw [← hM1]; simp (disch := omega) only [wI_ne, wI_eq, wI_nk, wIs_ne, wIs_eq]; exact p3
  have a3 : M1.1 m 32 = nI st.length := p4.1
  have ir := X11_isRight (fu := fu) (w := wi S d) (e := e) (q := q) hw hd (show 2 ^ (S 140 - e) + q < 2048 by omega) (hC1.2.1 e q he hq) hC1.2.2.1 hh hp
  have hFl := Fw_le (wi S d) d pk e q hh
  have hF1 := hC1.2.2.2 e q h he hq hh
  have ad := X11_addresses (fu := fu) hC1.1 hG
  have beg : ∀ rec, lwF fu m (nI dn) pk rec M = if Fw (wi S d) d pk e q h = 0 then rec M1 else fX11_layWaiting_j83 fu (fun M => rec M) m (nI dn) (nI pk) m (m + 9) (nI (2 ^ (S 140 - e) + q)) (nI h) (nI (Fw (wi S d) d pk e q h)) (if 0 < e then nI 1 else nI 0) M1 := fun rec => by
    unfold lwF fX11_layWaiting_b0 fX11_layWaiting_j86
    rw [p1]
    simp (disch := omega) only [zi_li, zi_m, zi_m1, nI_add, zi_sub, zi_mul, zi_addm, zi_m_lt, zi_lt_m, zi_m_le, zi_le_m, zi_eq_m, zi_m_eq, nI_ltI, nI_leI, nI_eq, nI_clamp, zi_div, lt_eq, bm_s, bi_s, bl_s, bw_s, gd, if_pos, if_neg, ite_true, ite_false, or_false, false_or, and_true, true_and, not_true, not_false_iff, true_or, or_true, Nat.not_lt_zero, Nat.add_sub_cancel, hM1, a3, a1, a2, ir, bI_0, hF1, ad]
    by_cases c : Fw (wi S d) d pk e q h = 0
    · rw [if_neg (fun q => q c), if_pos c]
    · rw [if_pos c, if_neg c]
      by_cases c2 : 0 < e
      · rw [if_neg (by omega), if_pos c2]
      · rw [if_pos (by omega), if_neg c2]
  by_cases c : Fw (wi S d) d pk e q h = 0
  · refine ⟨M1, L1, fun rec => ?_, Or.inl ⟨c, p4, B1⟩⟩
    rw [beg, if_pos c]
  · by_cases hs' : Is (wi S d) d pk e q h
    · have hx := hs'.ex hh c hf
      obtain ⟨M2, e2, q1, q2, q3⟩ := X11_layItself (n1 := 12288) (a1 := m + 9) (V := Fw (wi S d) d pk e q) hfu hC1.1 hG he hq hh (Nat.le_refl _) (by omega) (fun j hj => hC1.2.2.2 e q j he hq hj) (fun j hj => Fw_le _ _ _ _ _ hj) hx B1 hl p4 (by omega)
      refine ⟨M2, L1.tr q3, fun rec => ?_, Or.inr (Or.inr ⟨c, hs', q2, q1⟩)⟩
      rw [beg, if_neg c]
      unfold fX11_layWaiting_j83 fX11_layWaiting_j86 fX11_layBy
      by_cases c2 : 0 < e
      · obtain ⟨e1, rfl⟩ : ∃ e1, e = e1 + 1 := ⟨e - 1, by omega⟩
        obtain ⟨k1, k2⟩ := nd_k he hq
        have hne : ¬ Fh (wi S d) d pk e1 q h = Fw (wi S d) d pk (e1 + 1) q h := by
          rcases hs' with z | ⟨e', z1, z2⟩
          · omega
          · have : e' = e1 := by omega
            subst this; exact z2
        have i1 : 12 * (2 ^ (S 140 - (e1 + 1)) + q) + h = 6 * (2 ^ (S 140 - e1) + 2 * q) + h := by omega
        have i2 : 6 * (2 * (2 ^ (S 140 - (e1 + 1)) + q) + 1) + h = 6 * (2 ^ (S 140 - e1) + (2 * q + 1)) + h := by omega
        have b1 := X11_both (fu := fu) (M := M1) (m := m) (n1 := 12288) (a1 := m + 9) (node := 2 ^ (S 140 - (e1 + 1)) + q) (h := h) (x := Fw (wi S d) d pk e1 (2 * q) h) (y := Fw (wi S d) d pk e1 (2 * q + 1) h) (by omega) hh (by omega) (by omega) (by rw [i1]; exact hC1.2.2.2 e1 _ h (by omega) (by omega) hh) (by rw [i2]; exact hC1.2.2.2 e1 _ h (by omega) (by omega) hh) (Fw_le _ _ _ _ _ hh) (Fw_le _ _ _ _ _ hh)
        have hFhd : Fh (wi S d) d pk e1 q h = min 1048576 (Fw (wi S d) d pk e1 (2 * q) h + Fw (wi S d) d pk e1 (2 * q + 1) h) := rfl
        rw [← hFhd] at b1
        have q0 : ¬ (nI 1 : Int32) = 0 := by decide +kernel
        have qn : ¬ nI (Fh (wi S d) d pk e1 q h) = nI (Fw (wi S d) d pk (e1 + 1) q h) := fun z => hne ((nI_eq (by omega) (by omega)).mp z)
        rw [if_pos c2, if_neg q0, b1, bi_s, if_neg qn, e2, bm_s]
      · rw [if_neg c2, if_pos (show (nI 0 : Int32) = 0 from rfl), e2, bm_s]
    · obtain ⟨e1, rfl⟩ : ∃ e1, e = e1 + 1 := by
        cases e with
        | zero => exact absurd (Or.inl rfl) hs'
        | succ e1 => exact ⟨e1, rfl⟩
      obtain ⟨k1, k2⟩ := nd_k he hq
      have heq : Fh (wi S d) d pk e1 q h = Fw (wi S d) d pk (e1 + 1) q h := by
        by_cases z : Fh (wi S d) d pk e1 q h = Fw (wi S d) d pk (e1 + 1) q h
        · exact z
        · exact absurd (Or.inr ⟨e1, rfl, z⟩) hs'
      have i1 : 12 * (2 ^ (S 140 - (e1 + 1)) + q) + h = 6 * (2 ^ (S 140 - e1) + 2 * q) + h := by omega
      have i2 : 6 * (2 * (2 ^ (S 140 - (e1 + 1)) + q) + 1) + h = 6 * (2 ^ (S 140 - e1) + (2 * q + 1)) + h := by omega
      have b1 := X11_both (fu := fu) (M := M1) (m := m) (n1 := 12288) (a1 := m + 9) (node := 2 ^ (S 140 - (e1 + 1)) + q) (h := h) (x := Fw (wi S d) d pk e1 (2 * q) h) (y := Fw (wi S d) d pk e1 (2 * q + 1) h) (by omega) hh (by omega) (by omega) (by rw [i1]; exact hC1.2.2.2 e1 _ h (by omega) (by omega) hh) (by rw [i2]; exact hC1.2.2.2 e1 _ h (by omega) (by omega) hh) (Fw_le _ _ _ _ _ hh) (Fw_le _ _ _ _ _ hh)
      have hFhd : Fh (wi S d) d pk e1 q h = min 1048576 (Fw (wi S d) d pk e1 (2 * q) h + Fw (wi S d) d pk e1 (2 * q + 1) h) := rfl
      rw [← hFhd, heq] at b1
      have j1 : 2 * (2 ^ (S 140 - (e1 + 1)) + q) = 2 ^ (S 140 - e1) + 2 * q := k1
      have j2 : 2 * (2 ^ (S 140 - (e1 + 1)) + q) + 1 = 2 ^ (S 140 - e1) + (2 * q + 1) := by omega
      obtain ⟨M2, e2, q1, q2, q3⟩ := X11_waits (fu := fu) (a := 2 ^ (S 140 - e1) + (2 * q + 1)) (b := h) p4 (by omega)
      obtain ⟨M3, e3, r1, r2, r3⟩ := X11_waits (fu := fu) (a := 2 ^ (S 140 - e1) + 2 * q) (b := h) q1 (by rw [List.length_append]; show st.length + 1 < 4200; omega)
      refine ⟨M3, (L1.tr q2).tr r2, fun rec => ?_, Or.inr (Or.inl ⟨c, e1, rfl, heq, r1, r3 _ (q3 _ B1)⟩)⟩
      rw [beg, if_neg c]
      have q0 : ¬ (nI 1 : Int32) = 0 := by decide +kernel
      have m1 : 2 * nI (2 ^ (S 140 - (e1 + 1)) + q) + 1 = nI (2 ^ (S 140 - e1) + (2 * q + 1)) := by rw [← j2]; simp (disch := omega) only [zi_li, zi_m, zi_m1, nI_add, zi_sub, zi_mul, zi_addm, zi_m_lt, zi_lt_m, zi_m_le, zi_le_m, zi_eq_m, zi_m_eq, nI_ltI, nI_leI, nI_eq, nI_clamp, zi_div, lt_eq, bm_s, bi_s, bl_s, bw_s, gd]
      have m2 : 2 * nI (2 ^ (S 140 - (e1 + 1)) + q) = nI (2 ^ (S 140 - e1) + 2 * q) := by rw [← j1]; simp (disch := omega) only [zi_li, zi_m, zi_m1, nI_add, zi_sub, zi_mul, zi_addm, zi_m_lt, zi_lt_m, zi_m_le, zi_le_m, zi_eq_m, zi_m_eq, nI_ltI, nI_leI, nI_eq, nI_clamp, zi_div, lt_eq, bm_s, bi_s, bl_s, bw_s, gd]
      unfold fX11_layWaiting_j83 fX11_layWaiting_j86 fX11_layBy
      rw [if_pos (Nat.succ_pos e1), if_neg q0, b1, bi_s, if_pos rfl, m1, e2, bm_s, m2, e3, bm_s, bm_s]
theorem X11_lwRun (hfu : 200000 ≤ fu) {dn : Nat} (hG : Gd S) (hd : d < 5) (hp : pk < 6) : ∀ (e q n h : Nat) (st : List (Nat × Nat)) (l : List Bk) (M : Mm), h < n → Ck S d pk M m → e ≤ S 140 → q < 2 ^ (S 140 - e) → h < 6 → dn ≤ st.length → st.length + e + 2 < 4200 → WT M m (st ++ [(2 ^ (S 140 - e) + q, h)]) → MB M m l → l.length + Fw (wi S d) d pk e q h < 2100 →
    ∃ k M', k + 11 ≤ 12 * 2 ^ e + h ∧ Lf m M M' ∧ WT M' m st ∧ MB M' m (l ++ Pl (wi S d) d pk e q h) ∧ ∀ f, lp (lwF fu m (nI dn) pk) (f + k) M = lp (lwF fu m (nI dn) pk) f M'
  | e, q, 0, h, st, l, M, hn, _, _, _, _, _, _, _, _, _ => absurd hn (Nat.not_lt_zero _)
  | e, q, n + 1, h, st, l, M, hn, hC, he, hq, hh, hdn, hs, hW, hB, hl => by
    have hpe := pwp e
    obtain ⟨M1, g1, g2, g3⟩ := X11_lwStep hfu (dn := dn) hG hd hp hC he hq hh hdn (by omega) hW hB (by omega) (by omega)
    have hC1 := hC.lf g1
    rcases g3 with ⟨c, w1, b1⟩ | ⟨c, e1, rfl, heq, w1, b1⟩ | ⟨c, hs', w1, b1⟩
    · refine ⟨1, M1, by omega, g1, w1, ?_, fun f => ?_⟩
      · rw [Pl_0 c, List.append_nil]; exact b1
      · rw [lp_S, g2]
    · obtain ⟨k1, k2⟩ := nd_k he hq
      have hFhd : Fh (wi S d) d pk e1 q h = min 1048576 (Fw (wi S d) d pk e1 (2 * q) h + Fw (wi S d) d pk e1 (2 * q + 1) h) := rfl
      have hp1 := pw1 e1
      have hlen := Pl_len (wi S d) d pk e1 (2 * q) 6 h hh hh (by omega)
      obtain ⟨ka, Ma, a1, a2, a3, a4, a5⟩ := X11_lwRun hfu (dn := dn) hG hd hp e1 (2 * q) 6 h (st ++ [(2 ^ (S 140 - e1) + (2 * q + 1), h)]) l M1 hh hC1 (by omega) (by omega) hh (by rw [List.length_append]; omega) (by rw [List.length_append]; show st.length + 1 + e1 + 2 < 4200; omega) w1 b1 (by omega)
      obtain ⟨kb, Mb, b1', b2, b3, b4, b5⟩ := X11_lwRun hfu (dn := dn) hG hd hp e1 (2 * q + 1) 6 h st (l ++ Pl (wi S d) d pk e1 (2 * q) h) Ma hh (hC1.lf a2) (by omega) (by omega) hh hdn (by omega) a3 a4 (by rw [List.length_append, hlen]; omega)
      refine ⟨kb + ka + 1, Mb, by omega, (g1.tr a2).tr b2, b3, ?_, fun f => ?_⟩
      · rw [Pl_h c heq, ← List.append_assoc]; exact b4
      · rw [← Nat.add_assoc, lp_S, g2, ← Nat.add_assoc, a5, b5]
    · have hx := hs'.ex hh c (by omega)
      obtain ⟨f1, f2, f3⟩ := fk_ok hx
      have hm := md_lt h hh _ f1 f2.1
      have hv := f2.2
      obtain ⟨ka, Ma, a1, a2, a3, a4, a5⟩ := X11_lwRun hfu (dn := dn) hG hd hp e q n (md h (fk (Fw (wi S d) d pk e q) h)) st (l ++ [(q * 2 ^ e, 2 ^ e, fk (Fw (wi S d) d pk e q) h)]) M1 (by omega) hC1 he hq (by omega) hdn hs w1 b1 (by rw [List.length_append]; show l.length + 1 + _ < 2100; omega)
      refine ⟨ka + 1, Ma, by omega, g1.tr a2, a3, ?_, fun f => ?_⟩
      · rw [Pl_i hs' hh c (by omega)]
        rw [List.append_assoc] at a4
        exact a4
      · rw [← Nat.add_assoc, lp_S, g2, a5]
termination_by e _ n => (e, n)
/-- what lies behind the loop -/
theorem X11_layWaiting (hfu : 200000 ≤ fu) {e q h : Nat} {st : List (Nat × Nat)} {l : List Bk} {M : Mm} (hG : Gd S) (hd : d < 5) (hp : pk < 6) (hC : Ck S d pk M m) (he : e ≤ S 140) (hq : q < 2 ^ (S 140 - e)) (hh : h < 6) (hs : st.length + e + 2 < 4200) (hW : WT M m (st ++ [(2 ^ (S 140 - e) + q, h)])) (hB : MB M m l) (hl : l.length + Fw (wi S d) d pk e q h < 2100) :
    Wp (fX11_layWaiting fu m (nI st.length) (nI pk) M) (fun M' => Lf m M M' ∧ WT M' m st ∧ MB M' m (l ++ Pl (wi S d) d pk e q h)) := by
  obtain ⟨k, M', a1, a2, a3, a4, a5⟩ := X11_lwRun hfu (dn := st.length) hG hd hp e q 6 h st l M hh hC he hq hh (Nat.le_refl _) hs hW hB hl
  have ht := hG.1.2.1
  have h10 : 2 ^ e ≤ 2 ^ 10 := Nat.pow_le_pow_right (by decide) (by omega)
  obtain ⟨f, hf⟩ : ∃ f, fu = (f + 1) + k := ⟨fu - k - 1, by omega⟩
  have e1 : fX11_layWaiting fu m (nI st.length) (nI pk) M = lp (lwF fu m (nI st.length) pk) fu M := rfl
  have e2 : lp (lwF fu m (nI st.length) pk) fu M = lp (lwF fu m (nI st.length) pk) (f + 1 + k) M := by rw [← hf]
  rw [e1, e2, a5, lp_S]
  unfold lwF fX11_layWaiting_b0 fX11_layWaiting_j89
  rw [a3.1, if_pos (Int32.le_refl _), wp_some]
  exact ⟨a2, a3, a4⟩
theorem X11_layPlan (hfu : 200000 ≤ fu) {M : Mm} (hV : VM S M m) (hG : Gd S) : Wp (fX11_layPlan fu m M) (fun M' => MB M' m (plS S) ∧ Sc m M M') := by
  have hd5 := hG.1.2.2.2.2.1
  have hcv := cvS_le hG hd5
  have ht := hG.1.2.1
  have e0 : ix 0 = 0 := by decide +kernel
  unfold fX11_layPlan fX11_layPlan_j31
  rw [e0, hV.2 0 (by omega), wp_bw]
  refine (X11_costBy hfu hV hG hd5).mono fun z hz => ?_
  obtain ⟨z1, z2⟩ := z
  obtain ⟨rfl, hC, hS⟩ := hz
  dsimp only at *
  have nn : ¬ nI (cvS S (S 0)) < 0 := nI_pos (by omega)
  simp (disch := omega) only [lt_eq]
  rw [if_neg nn, wp_bm]
  generalize hM1 : wI (wI z2 m 33 0) m 32 0 = M1
  have L1 : Lf m z2 M1 := by rw [← hM1]; exact (Lf.w0 _ _ (Or.inr rfl)).tr (Lf.w0 _ _ (Or.inl rfl))
  have W1 : WT M1 m [] := ⟨by rw [← hM1]; simp (disch := omega) only [wI_ne, wI_eq, wI_nk, wIs_ne, wIs_eq]; rfl, fun i p hp => by simp at hp⟩
  have B1 : MB M1 m [] := ⟨by rw [← hM1]; simp (disch := omega) only [wI_ne, wI_eq, wI_nk, wIs_ne, wIs_eq]; rfl, fun i p hp => by simp at hp⟩
  have V1 := (hV.sc hS).sc L1.sc
  have hC1 := hC.lf L1
  refine (X11_waits (fu := fu) (a := 1) (b := 5) W1 (by decide)).mono fun M2 h2 => ?_
  obtain ⟨q1, q2, q3⟩ := h2
  rw [wp_bm]
  have hC2 := hC1.lf q2
  refine (X11_layWaiting (st := []) (e := S 140) (q := 0) (h := 5) (pk := 5) (l := []) hfu hG hd5 (by omega) ⟨V1.sc q2.sc, hC2.1, hC2.2.1, hC2.2.2⟩ (Nat.le_refl _) (by rw [Nat.sub_self]; decide) (by omega) (by show 0 + S 140 + 2 < 4200; omega) (by rw [Nat.sub_self]; exact q1) (q3 _ B1) (by unfold cvS at hcv; show 0 + _ < 2100; omega)).mono fun M3 h3 => ?_
  obtain ⟨r1, r2, r3⟩ := h3
  rw [wp_some]
  exact ⟨r3, ((hS.tr L1.sc).tr q2.sc).tr r1.sc⟩
end RR
