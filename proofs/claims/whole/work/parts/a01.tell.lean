/-! Blocks told, costs asked for. -/
def pkA (x2 a b c : Int32) : Int32 := if x2 = nI 0 then a else if x2 = nI 1 then b else if x2 = nI 2 then c else mI
theorem X10_pick {fu : Nat} (x2 a b c : Int32) : fX10_pick fu x2 a b c = some (pkA x2 a b c) := by
  unfold fX10_pick pkA
  by_cases c0 : x2 = nI 0
  · rw [if_pos (show x2 = 0 from c0), if_pos c0]
  rw [if_neg (show ¬ x2 = 0 from c0), if_neg c0]
  by_cases c1 : x2 = nI 1
  · rw [if_pos (show x2 = 1 from c1), if_pos c1]
  rw [if_neg (show ¬ x2 = 1 from c1), if_neg c1]
  by_cases c2 : x2 = nI 2
  · rw [if_pos (show x2 = 2 from c2), if_pos c2]
  rw [if_neg (show ¬ x2 = 2 from c2), if_neg c2]
  rfl
def bkA (l : List Bk) (x1 x2 : Int32) : Int32 := if x1 = mI then nI l.length else if x1 < 0 then mI else match l[ix x1]? with
  | none => mI
  | some p => pkA x2 (nI p.1) (nI p.2.1) (nI p.2.2)
section TE
variable {fu m Q cap : Nat} {S : Sto} {M : Mm} {l : List Bk}
theorem X0_tell (hB : BV M Q l) (hl : l.length ≤ cap) (hc : cap < 2 ^ 31) (x1 x2 : Int32) : fX0_tell fu cap Q x1 x2 M = some (bkA l x1 x2) := by
  unfold fX0_tell fX0_tell_j22 fX0_tell_j48 bkA
  rw [zi_m1, hB.1]
  by_cases c0 : x1 = mI
  · rw [if_pos c0, if_pos c0]
  rw [if_neg c0, if_neg c0]
  by_cases c1 : x1 < 0
  · rw [if_pos c1, if_pos c1]
  rw [if_neg c1, if_neg c1]
  obtain ⟨j, hj, rfl⟩ := nI_of c1
  rw [ix_n hj]
  by_cases c2 : j < l.length
  · obtain ⟨p, hp⟩ : ∃ p, l[j]? = some p := ⟨l[j], List.getElem?_eq_getElem c2⟩
    obtain ⟨b1, b2, b3⟩ := hB.2 j p hp
    rw [if_pos (nI_lt c2 (by omega)), if_neg (fun z => z.elim (nI_pos hj) (fun z => by omega)), b1, b2, b3, X10_pick, bi_s, hp]
  · rw [if_neg (nI_nlt (by omega) hj), List.getElem?_eq_none (by omega)]
theorem X11_blockOf (hB : MB M m l) (hl : l.length ≤ 2100) (x1 x2 : Int32) : fX11_blockOf fu m x1 x2 M = some (bkA l x1 x2) := by
  unfold fX11_blockOf bkA
  rw [zi_m1, hB.1]
  by_cases c0 : x1 = mI
  · rw [if_pos c0, if_pos c0]
  rw [if_neg c0, if_neg c0, X11_isIn, bi_s]
  by_cases c1 : x1 < 0
  · rw [if_pos c1, if_pos]
    exact bI_f (fun z => Int32.not_le.mpr c1 z.1)
  rw [if_neg c1]
  obtain ⟨j, hj, rfl⟩ := nI_of c1
  rw [ix_n hj]
  by_cases c2 : j < l.length
  · obtain ⟨p, hp⟩ : ∃ p, l[j]? = some p := ⟨l[j], List.getElem?_eq_getElem c2⟩
    obtain ⟨b1, b2, b3⟩ := hB.2 j p hp
    have e1 : nI l.length - 1 = nI (l.length - 1) := by simp (disch := omega) only [zi_li, zi_m, zi_m1, nI_add, zi_sub, zi_mul, zi_addm, zi_m_lt, zi_lt_m, zi_m_le, zi_le_m, zi_eq_m, zi_m_eq, nI_ltI, nI_leI, nI_eq, nI_clamp, zi_div, lt_eq, bm_s, bi_s, bl_s, bw_s, gd]
    have t1 : (0 : Int32) ≤ nI j ∧ nI j ≤ nI l.length - 1 := ⟨nI_pos' hj, by rw [e1]; exact nI_le (by omega) (by omega)⟩
    have hin : ¬ (nI j < 0 ∨ 2100 ≤ j) := fun z => z.elim (nI_pos hj) (fun z => by omega)
    rw [bI_t t1, if_neg (by decide +kernel), if_neg hin, if_neg hin, if_neg hin, b1, b2, b3, hp]
    unfold pkA fX11_blockOf_j68
    dsimp only
    by_cases c0 : x2 = nI 0
    · rw [if_pos (show x2 = 0 from c0), if_pos c0]
    rw [if_neg (show ¬ x2 = 0 from c0), if_neg c0]
    by_cases c1 : x2 = nI 1
    · rw [if_pos (show x2 = 1 from c1), if_pos c1]
    rw [if_neg (show ¬ x2 = 1 from c1), if_neg c1]
    by_cases c2 : x2 = nI 2
    · rw [if_pos (show x2 = 2 from c2), if_pos c2]
    rw [if_neg (show ¬ x2 = 2 from c2), if_neg c2]
  · rw [List.getElem?_eq_none (by omega), if_pos]
    · refine bI_f (fun z => ?_)
      by_cases cl : l.length = 0
      · have hz := z.2
        rw [cl] at hz
        have : (nI 0 - 1 : Int32) < 0 := by decide +kernel
        exact absurd (Int32.lt_of_le_of_lt hz this) (nI_pos hj)
      · have e1 : nI l.length - 1 = nI (l.length - 1) := by simp (disch := omega) only [zi_li, zi_m, zi_m1, nI_add, zi_sub, zi_mul, zi_addm, zi_m_lt, zi_lt_m, zi_m_le, zi_le_m, zi_eq_m, zi_m_eq, nI_ltI, nI_leI, nI_eq, nI_clamp, zi_div, lt_eq, bm_s, bi_s, bl_s, bw_s, gd]
        rw [e1] at z
        exact nI_ge (by omega) hj z.2
theorem X11_addedCost (hfu : 200000 ≤ fu) (hV : VM S M m) (hG : Gd S) : Wp (fX11_addedCost fu m M) (fun z => z.1 = nI (Ad (wi S (S 0)) (S 0) (S 140) 0) ∧ Sc m M z.2) := by
  have hA := hG.ad
  have ht := hG.1.2.1
  have ht2 := pw1 (S 140)
  have hd5 := hG.1.2.2.2.2.1
  have hw := (wi_G hG hd5).1
  have h11 : 2 ^ (S 140 + 1) ≤ 2 ^ 11 := Nat.pow_le_pow_right (by decide) (by omega)
  have e0 : ix 0 = 0 := by decide +kernel
  unfold fX11_addedCost
  rw [e0, hV.2 0 (by omega), wp_bm]
  refine (X11_layWants hfu hV hG hd5).mono fun M1 h1 => ?_
  obtain ⟨a1, a2, a3, a4, a5⟩ := h1
  have s1 : Sc m M M1 := ⟨fun c h1 h2 => a3 c h1 (by omega), fun j h1 _ _ _ _ _ _ => a4 j h1, a5⟩
  have V1 := hV.sc s1
  unfold fX11_addedCost_l21
  simp (disch := omega) only [X11_addresses V1 hG, zi_li, zi_m, zi_m1, nI_add, zi_sub, zi_mul, zi_addm, zi_m_lt, zi_lt_m, zi_m_le, zi_le_m, zi_eq_m, zi_m_eq, nI_ltI, nI_leI, nI_eq, nI_clamp, zi_div, lt_eq, bm_s, bi_s, bl_s, bw_s, gd]
  refine lp_ho (fun k z => z.1 = nI (2 * 2 ^ S 140 - 1 - k) ∧ O1 (m + 10) M1 z.2 ∧ ∀ e q, e ≤ S 140 → q < 2 ^ (S 140 - e) → 2 * 2 ^ S 140 - 1 - k < 2 ^ (S 140 - e) + q → z.2.1 (m + 10) (2 ^ (S 140 - e) + q) = nI (Ad (wi S (S 0)) (S 0) e q)) _ (2 * 2 ^ S 140 - 1) (i := 0) (by omega) (by omega) ⟨rfl, O1.rf _ _, fun e q h1 h2 h5 => ?_⟩ (fun k z hk hz rec hrec => ?_) (fun z hz rec => ?_)
  · have := nd_lt h1 h2
    omega
  · obtain ⟨z1, z2⟩ := z
    obtain ⟨rfl, g1, g2⟩ := hz
    dsimp only at *
    obtain ⟨e, q, he, hq, hn⟩ := nd_ex (S 140) (2 * 2 ^ S 140 - 1 - k) (by omega) (by omega)
    have hnz : 1 ≤ 2 ^ (S 140 - e) := pwp _
    have hnl := nd_lt he hq
    rw [hn] at g2 ⊢
    have nz : ¬ nI (2 ^ (S 140 - e) + q) ≤ 0 := nI_nle (by omega) (by omega)
    have hin : ¬ (nI (2 ^ (S 140 - e) + q) < 0 ∨ 2048 ≤ ix (nI (2 ^ (S 140 - e) + q))) := nI_in (by omega) (by omega)
    have w8 : z2.1 (m + 8) (2 ^ (S 140 - e) + q) = eW (WC (wi S (S 0)) e q) := by rw [g1.1 (m + 8) (by omega)]; exact a1 e q he hq
    have z25 : z2.1 m 25 = nI (S 0) := by rw [g1.1 m (by omega)]; exact a2
    have hWC := WC_lt hw e q
    have lA := Ad_le (wi S (S 0)) (S 0) e q
    have go : ∀ v, v = nI (Ad (wi S (S 0)) (S 0) e q) → Wp (fX11_addedCost_j90 fu (fun x2 M => rec (x2, M)) m (nI (2 ^ (S 140 - e) + q)) (m + 10) (nI (2 ^ (S 140 - e) + q)) v z2) (fun z => z.1 = nI (Ad (wi S (S 0)) (S 0) (S 140) 0) ∧ Sc m M z.2) := fun v hv => by
      subst hv
      unfold fX11_addedCost_j90
      rw [if_neg hin, lt_eq, lt_eq, zi_m1, zi_addm (by omega), ix_n (by omega)]
      refine hrec _ ⟨?_, g1.tr (O1.w _ _ _), fun e' q' h1 h2 h3 => ?_⟩
      · show nI (2 ^ (S 140 - e) + q - 1) = _
        congr 1
        omega
      · by_cases c : 2 ^ (S 140 - e') + q' = 2 ^ (S 140 - e) + q
        · obtain ⟨b1, b2⟩ := nd_in h2 hq c
          have : e' = e := by omega
          subst this
          subst b2
          simp (disch := omega) only [wI_ne, wI_eq, wI_nk, wIs_ne, wIs_eq]
        · simp (disch := omega) only [wI_ne, wI_eq, wI_nk, wIs_ne, wIs_eq]
          exact g2 e' q' h1 h2 (by omega)
    have F5 := WC_F (w := wi S (S 0)) (d := S 0) (pk := 5) (h := 5) hd5 (by omega) (by omega) e q
    have Fk : ∀ h, h < 5 → ((WC (wi S (S 0)) e q = 9 ∨ WC (wi S (S 0)) e q = h) ↔ Fw (wi S (S 0)) (S 0) 5 e q h = 0) := fun h hh => by
      have := WC_F (w := wi S (S 0)) (d := S 0) (pk := 5) (h := h) hd5 (by omega) (by omega) e q
      rw [show snN 5 (kb (S 0) h) = h from by unfold kb; rw [if_neg (by omega)]; rfl] at this
      exact this
    rw [show snN 5 (kb (S 0) 5) = S 0 from rfl] at F5
    have x9 := eW_9 (WC (wi S (S 0)) e q) (by omega)
    have xk := eW_k (WC (wi S (S 0)) e q) (by omega) (S 0) hd5
    have xn := eW_n (WC (wi S (S 0)) e q) (by omega)
    unfold fX11_addedCost_b21 fX11_addedCost_j54
    rw [if_neg nz, if_neg hin, ix_n (by omega), w8, z25, show (-2 : Int32) = nm2 from rfl]
    by_cases c9 : WC (wi S (S 0)) e q = 9
    · rw [if_pos (x9.mpr c9)]
      exact go _ (by rw [Ad_z.mpr (F5.mp (Or.inl c9))]; rfl)
    rw [if_neg (fun z => c9 (x9.mp z))]
    by_cases cd : WC (wi S (S 0)) e q = S 0
    · rw [if_pos (xk.mpr cd)]
      exact go _ (by rw [Ad_z.mpr (F5.mp (Or.inr cd))]; rfl)
    rw [if_neg (fun z => cd (xk.mp z))]
    have n5 : ¬ Fw (wi S (S 0)) (S 0) 5 e q 5 = 0 := fun z => (F5.mpr z).elim c9 cd
    by_cases c8 : WC (wi S (S 0)) e q = 8
    · rw [if_pos (show eW (WC (wi S (S 0)) e q) < 0 from xn.mpr (Or.inr c8))]
      cases e with
      | zero =>
        have : WC (wi S (S 0)) 0 q = wi S (S 0) q := rfl
        have := hw q
        omega
      | succ e =>
        obtain ⟨k1, k2⟩ := nd_k he hq
        have hn0 := nd_0 he hq
        have m2 : 2 * nI (2 ^ (S 140 - (e + 1)) + q) = nI (2 ^ (S 140 - e) + 2 * q) := by rw [← k1]; simp (disch := omega) only [zi_li, zi_m, zi_m1, nI_add, zi_sub, zi_mul, zi_addm, zi_m_lt, zi_lt_m, zi_m_le, zi_le_m, zi_eq_m, zi_m_eq, nI_ltI, nI_leI, nI_eq, nI_clamp, zi_div, lt_eq, bm_s, bi_s, bl_s, bw_s, gd]
        have m1 : nI (2 ^ (S 140 - e) + 2 * q) + 1 = nI (2 ^ (S 140 - e) + (2 * q + 1)) := by rw [nI_1]; rfl
        have nk : ∀ h, h < 5 → ¬ Fw (wi S (S 0)) (S 0) 5 (e + 1) q h = 0 := fun h hh z => by have := (Fk h hh).mpr z; omega
        rw [m2, m1, if_neg (nI_in (by omega) (by omega)), if_neg (nI_in (by omega) (by omega)), ix_n (by omega), ix_n (by omega), g2 e (2 * q) (by omega) (by omega) (by omega), g2 e (2 * q + 1) (by omega) (by omega) (by omega), nI_add]
        refine go _ ?_
        congr 1
        show _ = (if Fw (wi S (S 0)) (S 0) 5 (e + 1) q 5 = 0 then 0 else if _ then 1 else _)
        rw [if_neg n5, if_neg (fun z => by
          rcases z with z | z | z | z | z
          · exact nk 0 (by omega) z
          · exact nk 1 (by omega) z
          · exact nk 2 (by omega) z
          · exact nk 3 (by omega) z
          · exact nk 4 (by omega) z)]
    · rw [if_neg (show ¬ eW (WC (wi S (S 0)) e q) < 0 from fun z => (xn.mp z).elim c9 c8)]
      refine go _ ?_
      have hk : Fw (wi S (S 0)) (S 0) 5 e q (WC (wi S (S 0)) e q) = 0 := (Fk _ (by omega)).mp (Or.inr rfl)
      have hor : Fw (wi S (S 0)) (S 0) 5 e q 0 = 0 ∨ Fw (wi S (S 0)) (S 0) 5 e q 1 = 0 ∨ Fw (wi S (S 0)) (S 0) 5 e q 2 = 0 ∨ Fw (wi S (S 0)) (S 0) 5 e q 3 = 0 ∨ Fw (wi S (S 0)) (S 0) 5 e q 4 = 0 := by
        have hlt : WC (wi S (S 0)) e q < 5 := by omega
        generalize WC (wi S (S 0)) e q = v at hk hlt
        have : v = 0 ∨ v = 1 ∨ v = 2 ∨ v = 3 ∨ v = 4 := by omega
        rcases this with rfl | rfl | rfl | rfl | rfl
        · exact Or.inl hk
        · exact Or.inr (Or.inl hk)
        · exact Or.inr (Or.inr (Or.inl hk))
        · exact Or.inr (Or.inr (Or.inr (Or.inl hk)))
        · exact Or.inr (Or.inr (Or.inr (Or.inr hk)))
      have : Ad (wi S (S 0)) (S 0) e q = 1 := by
        cases e with
        | zero => exact if_neg n5
        | succ e =>
          show (if Fw (wi S (S 0)) (S 0) 5 (e + 1) q 5 = 0 then 0 else if _ then 1 else _) = 1
          rw [if_neg n5, if_pos hor]
      rw [this]
      rfl
  · obtain ⟨z1, z2⟩ := z
    obtain ⟨rfl, g1, g2⟩ := hz
    dsimp only at *
    rw [Nat.sub_self]
    have := g2 (S 140) 0 (Nat.le_refl _) (by rw [Nat.sub_self]; decide) (by have h1 : S 140 - S 140 = 0 := Nat.sub_self _; rw [h1]; have : (2 : Nat) ^ 0 = 1 := rfl; omega)
    rw [Nat.sub_self] at this
    have t' : z2.1 (m + 10) 1 = nI (Ad (wi S (S 0)) (S 0) (S 140) 0) := this
    have e1 : ix 1 = 1 := by decide +kernel
    unfold fX11_addedCost_b21 fX11_addedCost_j97
    rw [if_pos (show nI 0 ≤ 0 from Int32.le_refl _), e1, t', wp_some]
    exact ⟨rfl, s1.tr (Sc.o1 g1 (by omega) (by omega))⟩
end TE
