/-! Registers laid by a plan; pages too. -/
def bk (l : List Bk) (i : Nat) : Bk := (l[i]?).getD (0, 0, 0)
theorem bk_y {l : List Bk} {i : Nat} {p : Bk} (h : l[i]? = some p) : bk l i = p := by
  unfold bk
  rw [h]
  rfl
theorem bk_n {l : List Bk} {i : Nat} (h : l.length ≤ i) : bk l i = (0, 0, 0) := by
  unfold bk
  rw [List.getElem?_eq_none h]
  rfl
def paR (S : Sto) (l : List Bk) : Nat → Sto
  | 0 => S
  | i + 1 => putS (paR S l i) i (bk l i).1 (bk l i).2.1 (bk l i).2.2
theorem paR_e (S : Sto) (l : List Bk) : ∀ n, n ≤ 10 → ∀ j, (j < 38 ∨ 68 ≤ j) → paR S l n j = S j
  | 0, _, _, _ => rfl
  | n + 1, hn, j, hj => by
    show putS (paR S l n) n _ _ _ j = S j
    rw [putS_e (by omega) j hj]
    exact paR_e S l n (by omega) j hj
theorem paR_r (S : Sto) (l : List Bk) : ∀ n r, r < n → paR S l n (38 + 3 * r) = (bk l r).1 ∧ paR S l n (39 + 3 * r) = (bk l r).2.1 ∧ paR S l n (40 + 3 * r) = (bk l r).2.2
  | 0, r, h => absurd h (Nat.not_lt_zero _)
  | n + 1, r, h => by
    by_cases c : r = n
    · subst c
      exact putS_y (paR S l r) r _ _ _
    · obtain ⟨p1, p2, p3⟩ := putS_n (paR S l n) (bk l n).1 (bk l n).2.1 (bk l n).2.2 c
      obtain ⟨q1, q2, q3⟩ := paR_r S l n r (by omega)
      exact ⟨p1.trans q1, p2.trans q2, p3.trans q3⟩
theorem paR_g (S : Sto) (l : List Bk) {n : Nat} (hn : n ≤ 10) : Gm S (paR S l n) := ⟨paR_e S l n hn _ (by omega), paR_e S l n hn _ (by omega), paR_e S l n hn _ (by omega)⟩
theorem putS_l {S : Sto} {r x y z : Nat} (hl : ∀ k, S k ≤ 1024) (hx : x ≤ 1024) (hy : y ≤ 1024) (hz : z ≤ 1024) : ∀ k, putS S r x y z k ≤ 1024 := fun k => by
  have := hl k
  unfold putS
  split
  · omega
  · split
    · omega
    · split <;> omega
theorem Rg_le {t b s v : Nat} (ht : t ≤ 10) (h : Rg t b s v) : b ≤ 1024 ∧ s ≤ 1024 ∧ v ≤ 1024 ∧ v < 5 ∧ b + s ≤ 1024 := by
  have hp : 2 ^ t ≤ 2 ^ 10 := Nat.pow_le_pow_right (by decide) ht
  rcases h with ⟨h1, h2, h3⟩ | ⟨h1, e1, h2, h3, q, h4, h5⟩ <;> omega
theorem bk_Rg {t : Nat} {l : List Bk} (hL : Lb t l) (i : Nat) : Rg t (bk l i).1 (bk l i).2.1 (bk l i).2.2 := by
  by_cases c : i < l.length
  · rw [bk_y (List.getElem?_eq_getElem c)]
    exact (hL.2 _ (List.getElem_mem c)).1
  · rw [bk_n (by omega)]
    exact Or.inl ⟨rfl, rfl, rfl⟩
theorem paR_l {S : Sto} {t : Nat} {l : List Bk} (ht : t ≤ 10) (hL : Lb t l) (hl : ∀ k, S k ≤ 1024) : ∀ n k, paR S l n k ≤ 1024
  | 0, k => hl k
  | n + 1, k => by
    obtain ⟨a1, a2, a3, _⟩ := Rg_le ht (bk_Rg hL n)
    exact putS_l (paR_l ht hL hl n) a1 a2 a3 k
theorem bR_ne {l : List Bk} (h : l.Pairwise bR) {i j : Nat} (hi : i < l.length) (hj : j < l.length) (hne : i ≠ j) : bR (l[i]) (l[j]) := by
  have h2 := List.pairwise_iff_getElem.mp h
  rcases Nat.lt_or_gt_of_ne hne with c | c
  · exact h2 i j hi hj c
  · intro z
    exact h2 j i hj hi c ⟨z.1.symm, z.2.symm⟩
theorem Gd.pa {S : Sto} (hG : Gd S) {l : List Bk} (hL : Lb (S 140) l) : Gd (paR S l (S 141)) := by
  have h10 := hG.1.2.2.2.1
  have h12 := hG.1.2.2.2.2.2
  have e := paR_e S l (S 141) h10
  refine hG.of (paR_g S l h10) ?_ ?_ (paR_l hG.1.2.1 hL hG.2.1 _) (fun i hi => ?_) (fun r hr => ?_) (fun r q hr hq hrq h0 => ?_) (fun h p hp => ?_) (fun p hp => ?_)
  · rw [e _ (by omega)]; exact hG.1.2.2.2.2.1
  · rw [e _ (by omega)]; exact hG.1.2.2.2.2.2
  · rw [e _ (by omega)] at hi
    rw [e _ (by omega), e _ (by omega), e _ (by omega)]
    exact hG.2.2.2.1 i hi
  · obtain ⟨p1, p2, p3⟩ := paR_r S l (S 141) r hr
    rw [p1, p2, p3]
    exact bk_Rg hL r
  · obtain ⟨p1, p2, _⟩ := paR_r S l (S 141) r hr
    obtain ⟨q1, q2, _⟩ := paR_r S l (S 141) q hq
    rw [p2] at h0
    rw [p1, p2, q1, q2]
    by_cases c1 : r < l.length
    · rw [bk_y (List.getElem?_eq_getElem c1)] at h0 ⊢
      by_cases c2 : q < l.length
      · rw [bk_y (List.getElem?_eq_getElem c2)]
        exact bR_ne hL.1 c1 c2 hrq
      · rw [bk_n (l := l) (i := q) (by omega)]
        intro z
        have : l[r].2.1 = 0 := z.2
        omega
    · rw [bk_n (l := l) (i := r) (by omega)] at h0
      exact absurd h0 (by decide)
  · rw [e _ (by omega)]
    exact hG.2.2.2.2.2.2.1 h p hp
  · rw [e _ (by omega)]
    exact hG.2.2.2.2.2.2.2 p hp
theorem PG_lt (w : Nat → Nat) (d : Nat) : ∀ e q h p, PG w d e q h p < 6
  | 0, q, h, p => (fpk_ok (fun pk => Fw w d pk 4 q h)).1
  | e + 1, q, h, p => by
    unfold PG
    split
    · exact PG_lt w d e _ _ p
    · exact PG_lt w d e _ _ p
theorem pgS_le (S : Sto) (p : Nat) : pgS S p ≤ 5 := Nat.le_of_lt_succ (PG_lt _ _ _ _ _ p)
def pgU (S : Sto) (g : Nat → Nat) (n : Nat) : Sto := fun j => if 76 ≤ j ∧ j < 76 + n then g (j - 76) else S j
theorem pgU_S (S : Sto) (g : Nat → Nat) (n : Nat) : pgU S g (n + 1) = upS (pgU S g n) (76 + n) (g n) := by
  funext j
  unfold pgU upS
  dsimp only
  by_cases c : j = 76 + n
  · subst c
    rw [if_pos (by omega), if_pos rfl, Nat.add_sub_cancel_left]
  · rw [if_neg c]
    by_cases c2 : 76 ≤ j ∧ j < 76 + n
    · rw [if_pos c2, if_pos (by omega)]
    · rw [if_neg c2, if_neg (by omega)]
theorem pgU_0 (S : Sto) (g : Nat → Nat) : pgU S g 0 = S := by
  funext j
  unfold pgU
  rw [if_neg (by omega)]
theorem pgU_e {S : Sto} {g : Nat → Nat} {n j : Nat} (h : j < 76 ∨ 76 + n ≤ j) : pgU S g n j = S j := if_neg (by omega)
theorem pgU_g {S : Sto} {g : Nat → Nat} {n : Nat} (hn : n ≤ 64) : Gm S (pgU S g n) := ⟨pgU_e (by omega), pgU_e (by omega), pgU_e (by omega)⟩
theorem Gd.pg {S : Sto} (hG : Gd S) {g : Nat → Nat} (hg : ∀ p, g p ≤ 5) : ∀ n, n ≤ 64 → Gd (pgU S g n)
  | 0, _ => by rw [pgU_0]; exact hG
  | n + 1, h => by
    rw [pgU_S]
    exact (Gd.pg hG hg n (by omega)).up76 (by omega) (hg n)
theorem pa_pg (S : Sto) (l : List Bk) (g : Nat → Nat) (p : Nat) : ∀ n, n ≤ 10 → paR (pgU S g p) l n = pgU (paR S l n) g p
  | 0, _ => rfl
  | n + 1, h => by
    show putS (paR (pgU S g p) l n) n _ _ _ = pgU (putS (paR S l n) n _ _ _) g p
    rw [pa_pg S l g p n (by omega)]
    funext j
    unfold pgU putS
    dsimp only
    by_cases c : 76 ≤ j ∧ j < 76 + p
    · rw [if_pos c, if_neg (by omega), if_neg (by omega), if_neg (by omega), if_pos c]
    · rw [if_neg c, if_neg c]
section LA
variable {fu a b m k u Q cap : Nat} {S : Sto} {M M1 : Mm} {Hs : Nat → Sto} {l : List Bk} {L : Lay}
theorem VX.put2 (hV : VX S M b) (h10 : S 141 ≤ 10) (h12 : S 1 ≤ 12) {r : Nat} (hr : r < S 141) (x y k : Nat) : VX (putS S r x y k) (wI (wI (wI M (b + 5) r (nI x)) (b + 6) r (nI y)) (b + 7) r (nI k)) b := by
  have e : ∀ j, j < 38 ∨ 68 ≤ j → putS S r x y k j = S j := putS_e (by omega)
  obtain ⟨⟨a0, a1, a2, a3, a4⟩, a5, a6, a7, a8⟩ := hV
  unfold VX
  rw [e 140 (by omega), e 141 (by omega), e 142 (by omega), e 0 (by omega), e 1 (by omega)]
  refine ⟨⟨?_, ?_, ?_, ?_, ?_⟩, fun i hi => ?_, fun h p hp => ?_, fun i hi => ?_, fun p hp => ?_⟩
  · simp (disch := omega) only [wI_ne, wI_eq, wI_nk, wIs_ne, wIs_eq, a0]
  · simp (disch := omega) only [wI_ne, wI_eq, wI_nk, wIs_ne, wIs_eq, a1]
  · simp (disch := omega) only [wI_ne, wI_eq, wI_nk, wIs_ne, wIs_eq, a2]
  · simp (disch := omega) only [wI_ne, wI_eq, wI_nk, wIs_ne, wIs_eq, a3]
  · simp (disch := omega) only [wI_ne, wI_eq, wI_nk, wIs_ne, wIs_eq, a4]
  · rw [e _ (by omega), e _ (by omega), e _ (by omega)]
    simp (disch := omega) only [wI_ne, wI_eq, wI_nk, wIs_ne, wIs_eq]
    exact a5 i hi
  · rw [e _ (by omega)]
    simp (disch := omega) only [wI_ne, wI_eq, wI_nk, wIs_ne, wIs_eq]
    exact a6 h p hp
  · by_cases c : i = r
    · subst c
      obtain ⟨p1, p2, p3⟩ := putS_y S i x y k
      rw [p1, p2, p3]
      simp (disch := omega) only [wI_ne, wI_eq, wI_nk, wIs_ne, wIs_eq]
      exact ⟨trivial, trivial, trivial⟩
    · obtain ⟨p1, p2, p3⟩ := putS_n S x y k c
      rw [p1, p2, p3]
      simp (disch := omega) only [wI_ne, wI_eq, wI_nk, wIs_ne, wIs_eq]
      exact a7 i hi
  · rw [e _ (by omega)]
    simp (disch := omega) only [wI_ne, wI_eq, wI_nk, wIs_ne, wIs_eq]
    exact a8 p hp
theorem X8_putAll (hfu : 200000 ≤ fu) (hV : VX S M b) (hG : Gd S) (hB : BV M Q l) (hl : l.length ≤ cap) (hc : cap < 2 ^ 31) (hd : b + 9 ≤ Q ∨ Q + 4 ≤ b) : Wp (fX8_putAll fu b cap Q M) (fun M' => VX (paR S l (S 141)) M' b ∧ Fr b 9 M M') := by
  have h10 := hG.1.2.2.2.1
  have h12 := hG.1.2.2.2.2.2
  unfold fX8_putAll fX8_putAll_l2
  refine lp_ho (fun i z => z.1 = nI i ∧ VX (paR S l i) z.2 b ∧ Fr b 9 M z.2) _ (S 141) (i := 0) (by omega) (by omega) ⟨rfl, show VX (paR S l 0) M b from hV, Fr.rf _ _ _⟩ (fun i z hi hz rec hrec => ?_) (fun z hz rec => ?_)
  · obtain ⟨z1, z2⟩ := z
    obtain ⟨rfl, g1, g2⟩ := hz
    dsimp only at *
    have B2 : BV z2 Q l := hB.fr fun c k1 k2 => g2.at (by omega)
    have e141 : paR S l i 141 = S 141 := paR_e S l i (by omega) _ (by omega)
    have e1 : paR S l i 1 = S 1 := paR_e S l i (by omega) _ (by omega)
    have v1 : z2.1 b 1 = nI (S 141) := by rw [g1.1.2.1, e141]
    have go : ∀ x y v : Nat, bk l i = (x, y, v) → Wp (rec (nI (i + 1), wI (wI (wI z2 (b + 5) i (nI x)) (b + 6) i (nI y)) (b + 7) i (nI v))) (fun M' => VX (paR S l (S 141)) M' b ∧ Fr b 9 M M') := fun x y v hb => by
      refine hrec _ ⟨rfl, ?_, ?_⟩
      · show VX (putS (paR S l i) i (bk l i).1 (bk l i).2.1 (bk l i).2.2) _ b
        rw [hb]
        exact g1.put2 (by omega) (by omega) (by omega) x y v
      · exact ((g2.tr (Fr.w1 _ _ _ _ (by omega) (by omega))).tr (Fr.w1 _ _ _ _ (by omega) (by omega))).tr (Fr.w1 _ _ _ _ (by omega) (by omega))
    unfold fX8_putAll_b2 fX8_putAll_j52
    rw [v1, if_neg (nI_ge hi (by omega)), B2.1]
    by_cases c : i < l.length
    · obtain ⟨p, hp⟩ : ∃ p, l[i]? = some p := ⟨l[i], List.getElem?_eq_getElem c⟩
      obtain ⟨b1, b2, b3⟩ := B2.2 i p hp
      rw [if_neg (nI_ge c (by omega)), if_neg (nI_in (by omega) (by omega)), ix_n (by omega), b1, b2, b3, X8_put (by omega), bm_s, lt_eq, nI_1]
      exact go _ _ _ (bk_y hp)
    · rw [if_pos (nI_le (by omega) (by omega)), X8_put (by omega), bm_s, lt_eq, nI_1]
      exact go 0 0 0 (bk_n (by omega))
  · obtain ⟨z1, z2⟩ := z
    obtain ⟨rfl, g1, g2⟩ := hz
    dsimp only at *
    have e141 : paR S l (S 141) 141 = S 141 := paR_e S l _ (by omega) _ (by omega)
    have v1 : z2.1 b 1 = nI (S 141) := by rw [g1.1.2.1, e141]
    unfold fX8_putAll_b2 fX8_putAll_j58
    rw [v1, if_pos (Int32.le_refl _), wp_some]
    exact ⟨g1, g2⟩
theorem X11_setAll {T : Sto} (hfu : 200000 ≤ fu) (hV : VM T M m) (h10 : T 141 ≤ 10) (hB : MB M m l) (hl : l.length ≤ 2100) : Wp (fX11_setAll fu m M) (fun z => z.1 = nI l.length ∧ (∀ j, j < 140 → z.2.1 (m + 1) j = nI (paR T l (T 141) j)) ∧ O1 (m + 1) M z.2) := by
  unfold fX11_setAll fX11_setAll_l2
  refine lp_ho (fun i z => z.1 = nI i ∧ (∀ j, j < 140 → z.2.1 (m + 1) j = nI (paR T l i j)) ∧ O1 (m + 1) M z.2) _ (T 141) (i := 0) (by omega) (by omega) ⟨rfl, hV.2, ⟨fun _ _ => rfl, rfl⟩⟩ (fun i z hi hz rec hrec => ?_) (fun z hz rec => ?_)
  · obtain ⟨z1, z2⟩ := z
    obtain ⟨rfl, g1, g2⟩ := hz
    dsimp only at *
    have Vz : VM (paR T l i) z2 m := hV.o (paR_g T l (by omega)) g2 g1
    have e141 : paR T l i 141 = T 141 := paR_e T l i (by omega) _ (by omega)
    have em := g2.1 m (by omega)
    have go : ∀ x y v : Nat, bk l i = (x, y, v) → Wp (rec (nI (i + 1), wI (wI (wI z2 (m + 1) (38 + 3 * i) (nI x)) (m + 1) (38 + 3 * i + 1) (nI y)) (m + 1) (38 + 3 * i + 2) (nI v))) (fun z => z.1 = nI l.length ∧ (∀ j, j < 140 → z.2.1 (m + 1) j = nI (paR T l (T 141) j)) ∧ O1 (m + 1) M z.2) := fun x y v hb => by
      refine hrec _ ⟨rfl, ?_, ?_⟩
      · show ∀ j, j < 140 → _ = nI (putS (paR T l i) i (bk l i).1 (bk l i).2.1 (bk l i).2.2 j)
        rw [hb]
        exact set_row x y v g1
      · have o := set_o (M := z2) (m := m) (r := i) (nI x) (nI y) (nI v)
        exact ⟨fun c hc => (o.1 c hc).trans (g2.1 c hc), o.2.trans g2.2⟩
    unfold fX11_setAll_b2 fX11_setAll_j52
    rw [X11_registersNow Vz, bi_s, e141, if_neg (nI_ge hi (by omega)), em, hB.1]
    by_cases c : i < l.length
    · obtain ⟨p, hp⟩ : ∃ p, l[i]? = some p := ⟨l[i], List.getElem?_eq_getElem c⟩
      obtain ⟨b1, b2, b3⟩ := hB.2 i p hp
      rw [if_neg (nI_ge c (by omega)), if_neg (nI_in (by omega) (by omega)), ix_n (by omega), g2.1 (m + 14) (by omega), g2.1 (m + 15) (by omega), g2.1 (m + 16) (by omega), b1, b2, b3, X11_setOne (by omega), bm_s, lt_eq, nI_1]
      exact go _ _ _ (bk_y hp)
    · rw [if_pos (nI_le (by omega) (by omega)), X11_setOne (by omega), bm_s, lt_eq, nI_1]
      exact go 0 0 0 (bk_n (by omega))
  · obtain ⟨z1, z2⟩ := z
    obtain ⟨rfl, g1, g2⟩ := hz
    dsimp only at *
    have Vz : VM (paR T l (T 141)) z2 m := hV.o (paR_g T l (by omega)) g2 g1
    have e141 : paR T l (T 141) 141 = T 141 := paR_e T l _ (by omega) _ (by omega)
    unfold fX11_setAll_b2 fX11_setAll_j58
    rw [X11_registersNow Vz, bi_s, e141, if_pos (Int32.le_refl _), wp_some]
    exact ⟨by rw [g2.1 m (by omega)]; exact hB.1, g1, g2⟩
theorem X10_lay_y (hfu : 200000 ≤ fu) (hG : Gd S) (e : fX10_planNow fu L a M = some M1) (hV : VX S M1 (a + 12)) (hB : BV M1 (a + 220) (plS S)) (hH : HX Hs k u M1 (a + 21)) (hc : (plS S).length ≤ S 141) : Wp (fX10_lay fu L a M) (XK a Hs k M1 (paR S (plS S) (S 141)) (nI (plS S).length)) := by
  have h10 := hG.1.2.2.2.1
  unfold fX10_lay
  rw [e, bm_s, hB.1, hV.1.2.1, if_pos (nI_le hc (by omega)), wp_bm]
  refine (X8_putAll hfu hV hG hB (by omega) (by omega) (Or.inl (by omega))).mono fun M2 q => ?_
  obtain ⟨q1, q2⟩ := q
  rw [wp_bm]
  refine (X10_kindsDone q1 (hG.pa (plS_Lb hG)) (hH.pre q2)).mono fun M3 p => ?_
  obtain ⟨p1, p2, p3⟩ := p
  rw [wp_some]
  refine ⟨?_, p1, p2, p3.pre q2⟩
  show M3.1 (a + 220) 3 = _
  rw [p3.1 (a + 220) (by omega) (by omega), q2.at (by omega)]
  exact hB.1
theorem X10_lay_n (hG : Gd S) (e : fX10_planNow fu L a M = some M1) (hV : VX S M1 (a + 12)) (hB : BV M1 (a + 220) (plS S)) (hc : ¬ (plS S).length ≤ S 141) : fX10_lay fu L a M = some (mI, M1) := by
  have h10 := hG.1.2.2.2.1
  have h1 := plS_len hG
  have h2 := cvS_le hG hG.1.2.2.2.2.1
  unfold fX10_lay
  rw [e, bm_s, hB.1, hV.1.2.1, if_neg (nI_ge (by omega) (by omega))]
  rfl
theorem RA.pre {M0 : Mm} {S' : Sto} {r : Int32} {z : Int32 × Mm} (h : RD m M0 M) (h2 : RA m Hs k M S' r z) : RA m Hs k M0 S' r z := ⟨h2.1, h2.2.1, h2.2.2.1, h.tr h2.2.2.2⟩
theorem HM.sc (hH : HM Hs k u M m) (h : Sc m M M1) : HM Hs k u M1 m := hH.fr (h.2.1 50 (by omega) (by omega) (by omega) (by omega) (by omega) (by omega) (by omega)) (h.2.1 51 (by omega) (by omega) (by omega) (by omega) (by omega) (by omega) (by omega)) (h.1 _ (by omega) (by omega))
theorem MB.ka (hB : MB M m l) (h : KA m M M1) : MB M1 m l := by
  unfold MB at hB ⊢
  rw [h.2.1 33 (by omega) (by omega), h.1 (m + 14) (by omega) (by omega), h.1 (m + 15) (by omega) (by omega), h.1 (m + 16) (by omega) (by omega)]
  exact hB
theorem X11_lay_y (hfu : 200000 ≤ fu) (hV : VM S M m) (hG : Gd S) (hH : HM Hs k u M m) (hk : Hs k = S) (hc : (plS S).length ≤ S 141) : Wp (fX11_lay fu m M) (RA m Hs k M (paR S (plS S) (S 141)) (nI (plS S).length)) := by
  have h10 := hG.1.2.2.2.1
  unfold fX11_lay
  rw [wp_bm]
  refine (X11_layPlan hfu hV hG).mono fun M1 q => ?_
  obtain ⟨q1, q2⟩ := q
  have V1 := hV.sc q2
  rw [X11_registersNow V1, bi_s, q1.1, if_pos (nI_le hc (by omega)), wp_bm]
  refine (X11_keepAct hfu (hH.sc q2) (V1.hk hk)).mono fun M2 p => ?_
  rw [wp_bw]
  refine (X11_setAll hfu (V1.ka p.2) (by omega) (q1.ka p.2) (by omega)).mono fun z r => ?_
  obtain ⟨r0, M3⟩ := z
  obtain ⟨rfl, r2, r3⟩ := r
  rw [wp_some]
  exact (RA_of V1 (paR_g S _ h10) p r3 r2).pre (RD.sc q2)
theorem X11_lay_n (hfu : 200000 ≤ fu) (hV : VM S M m) (hG : Gd S) (hc : ¬ (plS S).length ≤ S 141) : Wp (fX11_lay fu m M) (fun z => z.1 = mI ∧ Sc m M z.2) := by
  have h10 := hG.1.2.2.2.1
  have h1 := plS_len hG
  have h2 := cvS_le hG hG.1.2.2.2.2.1
  unfold fX11_lay
  rw [wp_bm]
  refine (X11_layPlan hfu hV hG).mono fun M1 q => ?_
  obtain ⟨q1, q2⟩ := q
  have V1 := hV.sc q2
  rw [X11_registersNow V1, bi_s, q1.1, if_neg (nI_ge (by omega) (by omega)), wp_some]
  exact ⟨rfl, q2⟩
/-- the store that layAll makes -/
def laS (S : Sto) : Sto := paR (pgU S (pgS S) (2 ^ S 140 / 16)) (ppS S) (S 141)
theorem Gd.la (hG : Gd S) : Gd (laS S) := by
  have hA := hG.ad
  have h10 := hG.1.2.2.2.1
  have g := pgU_g (S := S) (g := pgS S) (n := 2 ^ S 140 / 16) (by omega)
  have hP := hG.pg (pgS_le S) (2 ^ S 140 / 16) (by omega)
  have := hP.pa (l := ppS S) (by rw [g.1]; exact ppS_Lb hG)
  rw [g.2.1] at this
  exact this
theorem laS_g (hG : Gd S) : Gm S (laS S) := by
  have hA := hG.ad
  have g := pgU_g (S := S) (g := pgS S) (n := 2 ^ S 140 / 16) (by omega)
  have p := paR_g (pgU S (pgS S) (2 ^ S 140 / 16)) (ppS S) (n := S 141) hG.1.2.2.2.1
  exact ⟨p.1.trans g.1, p.2.1.trans g.2.1, p.2.2.trans g.2.2⟩
theorem X10_layAll_y (hfu : 200000 ≤ fu) (hG : Gd S) (e : fX10_pagedNow fu L a M = some M1) (hV : VX S M1 (a + 12)) (hB : BV M1 (a + 224) (ppS S)) (hP : ∀ p, p < 2 ^ S 140 / 16 → M1.1 (a + 228) p = nI (pgS S p)) (hH : HX Hs k u M1 (a + 21)) (hc : (ppS S).length ≤ S 141) : Wp (fX10_layAll fu L a M) (XK a Hs k M1 (laS S) (nI (ppS S).length)) := by
  have h10 := hG.1.2.2.2.1
  have h12 := hG.1.2.2.2.2.2
  have hA := hG.ad
  unfold fX10_layAll
  rw [e, bm_s, hB.1, hV.1.2.1, if_pos (nI_le hc (by omega)), wp_bm]
  refine (X8_putAll hfu hV hG hB (by omega) (by omega) (Or.inl (by omega))).mono fun M2 q => ?_
  obtain ⟨q1, q2⟩ := q
  have e140 : paR S (ppS S) (S 141) 140 = S 140 := (paR_g S _ h10).1
  have e141 : paR S (ppS S) (S 141) 141 = S 141 := (paR_g S _ h10).2.1
  have e1 : paR S (ppS S) (S 141) 1 = S 1 := paR_e S _ _ h10 _ (by omega)
  unfold fX10_layAll_l31
  refine lp_ho (fun i z => z.1 = nI i ∧ VX (pgU (paR S (ppS S) (S 141)) (pgS S) i) z.2 (a + 12) ∧ Fr (a + 12) 9 M1 z.2) _ (2 ^ S 140 / 16) (i := 0) (by omega) (by omega) ⟨rfl, by rw [pgU_0]; exact q1, q2⟩ (fun i z hi hz rec hrec => ?_) (fun z hz rec => ?_)
  · obtain ⟨z1, z2⟩ := z
    obtain ⟨rfl, g1, g2⟩ := hz
    dsimp only at *
    have g := pgU_g (S := paR S (ppS S) (S 141)) (g := pgS S) (n := i) (by omega)
    have eb : z2.1 (a + 12) 0 = nI (2 ^ S 140) := by rw [g1.1.1, g.1, e140]
    have ep : fX8_pages fu (a + 12) z2 = some (nI (2 ^ S 140 / 16)) := by
      simp (disch := omega) only [fX8_pages, eb, zi_lit, zi_m, zi_m1, nI_add, zi_sub, zi_mul, zi_addm, zi_m_lt, zi_lt_m, zi_m_le, zi_le_m, zi_eq_m, zi_m_eq, nI_ltI, nI_leI, nI_eq, nI_clamp, zi_div, lt_eq, bm_s, bi_s, bl_s, bw_s, gd]
    unfold fX10_layAll_b31
    rw [ep, bi_s, if_neg (nI_ge hi (by omega)), if_neg (nI_in (by omega) (by omega)), ix_n (by omega), g2.at (b := a + 228) (by omega), hP i hi, lt_eq, lt_eq, nI_1]
    refine hrec _ ⟨rfl, ?_, g2.tr (Fr.w1 _ _ _ _ (by omega) (by omega))⟩
    rw [pgU_S]
    exact g1.up76 (by rw [g.2.1, e141]; exact h10) (by rw [pgU_e (by omega), e1]; exact h12) _ (by omega)
  · obtain ⟨z1, z2⟩ := z
    obtain ⟨rfl, g1, g2⟩ := hz
    dsimp only at *
    have g := pgU_g (S := paR S (ppS S) (S 141)) (g := pgS S) (n := 2 ^ S 140 / 16) (by omega)
    have eb : z2.1 (a + 12) 0 = nI (2 ^ S 140) := by rw [g1.1.1, g.1, e140]
    have ep : fX8_pages fu (a + 12) z2 = some (nI (2 ^ S 140 / 16)) := by
      simp (disch := omega) only [fX8_pages, eb, zi_lit, zi_m, zi_m1, nI_add, zi_sub, zi_mul, zi_addm, zi_m_lt, zi_lt_m, zi_m_le, zi_le_m, zi_eq_m, zi_m_eq, nI_ltI, nI_leI, nI_eq, nI_clamp, zi_div, lt_eq, bm_s, bi_s, bl_s, bw_s, gd]
    unfold fX10_layAll_b31 fX10_layAll_j63
    rw [ep, bi_s, if_pos (Int32.le_refl _), wp_bm]
    rw [← pa_pg S (ppS S) (pgS S) _ _ h10] at g1
    refine (X10_kindsDone g1 (hG.la) (hH.pre g2)).mono fun M3 p => ?_
    obtain ⟨p1, p2, p3⟩ := p
    rw [wp_some]
    refine ⟨?_, p1, p2, p3.pre g2⟩
    show M3.1 (a + 224) 3 = _
    rw [p3.1 (a + 224) (by omega) (by omega), g2.at (by omega)]
    exact hB.1
theorem X10_layAll_n (hG : Gd S) (e : fX10_pagedNow fu L a M = some M1) (hV : VX S M1 (a + 12)) (hB : BV M1 (a + 224) (ppS S)) (hc : ¬ (ppS S).length ≤ S 141) : fX10_layAll fu L a M = some (mI, M1) := by
  have h10 := hG.1.2.2.2.1
  obtain ⟨h1, h2⟩ := ppS_len hG
  unfold fX10_layAll
  rw [e, bm_s, hB.1, hV.1.2.1, if_neg (nI_ge (by omega) (by omega))]
  rfl
theorem X11_layAll_y (hfu : 200000 ≤ fu) (hV : VM S M m) (hG : Gd S) (hH : HM Hs k u M m) (hk : Hs k = S) (hc : (ppS S).length ≤ S 141) : Wp (fX11_layAll fu m M) (RA m Hs k M (laS S) (nI (ppS S).length)) := by
  have h10 := hG.1.2.2.2.1
  have hA := hG.ad
  unfold fX11_layAll
  rw [wp_bm]
  refine (X11_layPagedPlan hfu hV hG).mono fun M1 q => ?_
  obtain ⟨q1, qp, q2⟩ := q
  have V1 := hV.sc q2
  rw [X11_registersNow V1, bi_s, q1.1, if_pos (nI_le hc (by omega)), wp_bm]
  refine (X11_keepAct hfu (hH.sc q2) (V1.hk hk)).mono fun M2 p => ?_
  have V2 := V1.ka p.2
  unfold fX11_layAll_l23
  refine lp_ho (fun i z => z.1 = nI i ∧ (∀ j, j < 140 → z.2.1 (m + 1) j = nI (pgU S (pgS S) i j)) ∧ O1 (m + 1) M2 z.2) _ (2 ^ S 140 / 16) (i := 0) (by omega) (by omega) ⟨rfl, by rw [pgU_0]; exact V2.2, ⟨fun _ _ => rfl, rfl⟩⟩ (fun i z hi hz rec hrec => ?_) (fun z hz rec => ?_)
  · obtain ⟨z1, z2⟩ := z
    obtain ⟨rfl, g1, g2⟩ := hz
    dsimp only at *
    have g := pgU_g (S := S) (g := pgS S) (n := i) (by omega)
    have Vz : VM (pgU S (pgS S) i) z2 m := V2.o g g2 g1
    have ep : fX11_pages fu m z2 = some (nI (2 ^ S 140 / 16)) := by
      have := X11_pages (fu := fu) Vz (hG.pg (pgS_le S) _ (by omega))
      rw [g.1] at this
      exact this
    have e17 : z2.1 (m + 17) i = nI (pgS S i) := by
      rw [g2.1 (m + 17) (by omega), p.2.1 (m + 17) (by omega) (by omega)]
      exact qp i hi
    have e76 : (76 : Int32) + nI i = nI (76 + i) := nI_add 76 i
    unfold fX11_layAll_b23
    rw [ep, bi_s, if_neg (nI_ge hi (by omega)), if_neg (nI_in (by omega) (by omega)), e76, if_neg (nI_in (by omega) (by omega)), ix_n (by omega), ix_n (by omega), e17, lt_eq, lt_eq, nI_1]
    refine hrec _ ⟨rfl, fun j hj => ?_, ⟨fun c hc => ?_, g2.2⟩⟩
    · rw [pgU_S]
      by_cases c : j = 76 + i
      · subst c
        rw [upS_y, wI_eq]
      · rw [upS_n c, wI_nk c]
        exact g1 j hj
    · rw [wI_ne hc]
      exact g2.1 c hc
  · obtain ⟨z1, z2⟩ := z
    obtain ⟨rfl, g1, g2⟩ := hz
    dsimp only at *
    have g := pgU_g (S := S) (g := pgS S) (n := 2 ^ S 140 / 16) (by omega)
    have Vz : VM (pgU S (pgS S) (2 ^ S 140 / 16)) z2 m := V2.o g g2 g1
    have ep : fX11_pages fu m z2 = some (nI (2 ^ S 140 / 16)) := by
      have := X11_pages (fu := fu) Vz (hG.pg (pgS_le S) _ (by omega))
      rw [g.1] at this
      exact this
    unfold fX11_layAll_b23 fX11_layAll_j52
    rw [ep, bi_s, if_pos (Int32.le_refl _), wp_bw]
    have Bz : MB z2 m (ppS S) := by
      have := q1.ka p.2
      unfold MB at this ⊢
      rw [g2.1 m (by omega), g2.1 (m + 14) (by omega), g2.1 (m + 15) (by omega), g2.1 (m + 16) (by omega)]
      exact this
    refine (X11_setAll hfu Vz (by rw [g.2.1]; exact h10) Bz (by omega)).mono fun z r => ?_
    obtain ⟨r0, M3⟩ := z
    obtain ⟨r1, r2, r3⟩ := r
    dsimp only at r1 r2 r3
    subst r1
    rw [wp_some]
    rw [g.2.1] at r2
    exact (RA_of (M2 := M3) V1 (laS_g hG) p ⟨fun c hc => (r3.1 c hc).trans (g2.1 c hc), r3.2.trans g2.2⟩ r2).pre (RD.sc q2)
theorem X11_layAll_n (hfu : 200000 ≤ fu) (hV : VM S M m) (hG : Gd S) (hc : ¬ (ppS S).length ≤ S 141) : Wp (fX11_layAll fu m M) (fun z => z.1 = mI ∧ Sc m M z.2) := by
  have h10 := hG.1.2.2.2.1
  obtain ⟨h1, h2⟩ := ppS_len hG
  unfold fX11_layAll
  rw [wp_bm]
  refine (X11_layPagedPlan hfu hV hG).mono fun M1 q => ?_
  obtain ⟨q1, qp, q2⟩ := q
  have V1 := hV.sc q2
  rw [X11_registersNow V1, bi_s, q1.1, if_neg (nI_ge (by omega) (by omega)), wp_some]
  exact ⟨rfl, q2⟩
end LA
