/-! Changes: the class counts steps, cuts pieces, places steps. -/
section CC
variable {fu c b Q cap n A : Nat} {S : Sto} {l : List Bk} {M : Mm} {f : Nat → Nat}
theorem bk_B (hB : BV M Q l) {i : Nat} (hi : i < l.length) : M.1 (Q + 1) i = nI (bk l i).1 ∧ M.1 (Q + 2) i = nI (bk l i).2.1 ∧ M.1 (Q + 3) i = nI (bk l i).2.2 := by
  rw [bk_y (List.getElem?_eq_getElem hi)]
  exact hB.2 i _ (List.getElem?_eq_getElem hi)
theorem X1_isSame (hV : VX S M b) (hG : Gd S) (hB : BV M Q l) (hL : Lb (S 140) l) (hl : l.length ≤ cap) (hc : cap < 2 ^ 31) {r i : Nat} (hr : r < S 141) (hi : i < l.length) : fX1_isSame fu b (nI r) cap Q (nI i) M = some (bI (¬ sam S l r i = 0)) := by
  have h10 := hG.1.2.2.2.1
  obtain ⟨a1, a2, a3⟩ := hV.2.2.2.1 r hr
  obtain ⟨b1, b2, b3⟩ := bk_B hB hi
  obtain ⟨r1, r2, r3, _⟩ := Rg_le hG.1.2.1 (bk_Rg hL i)
  have g1 := hG.2.1 (38 + 3 * r)
  have g2 := hG.2.1 (39 + 3 * r)
  have g3 := hG.2.1 (40 + 3 * r)
  have n49 : fX1_isSame_j49 fu M = some (nI 0) := by
    unfold fX1_isSame_j49 fX1_isSame_j50
    show (if ((0 : Int32) = 0 ∨ (0 : Int32) = 1) then some (0 : Int32) else none) = _
    rw [if_pos (Or.inl rfl)]
    rfl
  have n50 : fX1_isSame_j50 fu 1 M = some (nI 1) := by
    unfold fX1_isSame_j50
    show (if ((1 : Int32) = 0 ∨ (1 : Int32) = 1) then some (1 : Int32) else none) = _
    rw [if_pos (Or.inr rfl)]
    rfl
  unfold fX1_isSame
  rw [n49, n50, if_neg (nI_in (by omega) (by omega)), if_neg (nI_in (by omega) (by omega)), ix_n (by omega), ix_n (by omega), a1, a2, a3, b1, b2, b3]
  by_cases c1 : S (38 + 3 * r) = (bk l i).1
  · rw [if_pos (by rw [c1])]
    by_cases c2 : S (39 + 3 * r) = (bk l i).2.1
    · rw [if_pos (by rw [c2])]
      by_cases c3 : S (40 + 3 * r) = (bk l i).2.2
      · have : sam S l r i = 1 := if_pos ⟨c1, c2, c3⟩
        rw [if_pos (by rw [c3]), bI_t (by omega)]
      · have : sam S l r i = 0 := if_neg (fun z => c3 z.2.2)
        rw [if_neg (fun z => c3 ((nI_eq (by omega) (by omega)).mp z)), bI_f (by omega)]
    · have : sam S l r i = 0 := if_neg (fun z => c2 z.2.1)
      rw [if_neg (fun z => c2 ((nI_eq (by omega) (by omega)).mp z)), bI_f (by omega)]
  · have : sam S l r i = 0 := if_neg (fun z => c1 z.1)
    rw [if_neg (fun z => c1 ((nI_eq (by omega) (by omega)).mp z)), bI_f (by omega)]
theorem X1_stays (hfu : 200000 ≤ fu) (hV : VX S M b) (hG : Gd S) (hB : BV M Q l) (hL : Lb (S 140) l) (hl : l.length ≤ cap) (hc : cap < 100000) {r : Nat} (hr : r < S 141) : fX1_stays fu b (nI r) cap Q M = some (bI (¬ sty S l r = 0)) := by
  have key : Wp (fX1_stays fu b (nI r) cap Q M) (fun v => v = bI (¬ sty S l r = 0)) := by
    unfold fX1_stays fX1_stays_l2
    refine lp_ho (fun k z => z = nI k ∧ ∀ i, i < k → sam S l r i = 0) _ l.length (i := 0) (by omega) (by omega) ⟨rfl, fun i hi => absurd hi (by omega)⟩ (fun k z hk hz rec hrec => ?_) (fun z hz rec => ?_)
    · obtain ⟨rfl, hz⟩ := hz
      unfold fX1_stays_b2 fX1_stays_j20
      rw [hB.1, if_neg (nI_ge hk (by omega)), X1_isSame hV hG hB hL hl (by omega) hr hk, bi_s]
      by_cases c : sam S l r k = 0
      · rw [bI_f (by omega), if_pos (by decide), lt_eq, nI_1]
        refine hrec _ ⟨rfl, fun i hi => ?_⟩
        by_cases e : i = k
        · subst e; exact c
        · exact hz i (by omega)
      · rw [bI_t c, if_neg (by decide), wp_some, bI_t]
        · rfl
        · exact fun z => c (smN_nz.mp z k hk)
    · obtain ⟨rfl, hz⟩ := hz
      unfold fX1_stays_b2 fX1_stays_j28
      rw [hB.1, if_pos (Int32.le_refl _), wp_some, bI_f (fun z => z (smN_z hz))]
      rfl
  obtain ⟨v, e, rfl⟩ := key
  exact e
theorem X1_isThere (hfu : 200000 ≤ fu) (hV : VX S M b) (hG : Gd S) (hB : BV M Q l) (hL : Lb (S 140) l) (hl : l.length ≤ cap) (hc : cap < 100000) {i : Nat} (hi : i < l.length) : fX1_isThere fu b cap Q (nI i) M = some (bI (¬ thr S l i = 0)) := by
  have h10 := hG.1.2.2.2.1
  have key : Wp (fX1_isThere fu b cap Q (nI i) M) (fun v => v = bI (¬ thr S l i = 0)) := by
    unfold fX1_isThere fX1_isThere_l2
    refine lp_ho (fun k z => z = nI k ∧ ∀ r, r < k → sam S l r i = 0) _ (S 141) (i := 0) (by omega) (by omega) ⟨rfl, fun i hi => absurd hi (by omega)⟩ (fun k z hk hz rec hrec => ?_) (fun z hz rec => ?_)
    · obtain ⟨rfl, hz⟩ := hz
      unfold fX1_isThere_b2 fX1_isThere_j20
      rw [hV.1.2.1, if_neg (nI_ge hk (by omega)), X1_isSame hV hG hB hL hl (by omega) hk hi, bi_s]
      by_cases c : sam S l k i = 0
      · rw [bI_f (by omega), if_pos (by decide), lt_eq, nI_1]
        refine hrec _ ⟨rfl, fun r hr => ?_⟩
        by_cases e : r = k
        · subst e; exact c
        · exact hz r (by omega)
      · rw [bI_t c, if_neg (by decide), wp_some, bI_t]
        · rfl
        · exact fun z => c (smN_nz.mp z k hk)
    · obtain ⟨rfl, hz⟩ := hz
      unfold fX1_isThere_b2 fX1_isThere_j28
      rw [hV.1.2.1, if_pos (Int32.le_refl _), wp_some, bI_f (fun z => z (smN_z hz))]
      rfl
  obtain ⟨v, e, rfl⟩ := key
  exact e
theorem gn_le (hG : Gd S) : gnS S l ≤ 10 := by
  have : gnS S l ≤ 1 * S 141 := smN_le fun x _ => gof_le x
  have := hG.1.2.2.2.1
  omega
theorem X1_countSteps (hfu : 200000 ≤ fu) (hV : VX S M b) (hG : Gd S) (hB : BV M Q l) (hL : Lb (S 140) l) (hl : l.length ≤ cap) (hc : cap < 100000) (hd : b + 9 ≤ c ∨ c < b) (hd2 : Q + 4 ≤ c ∨ c < Q) : Wp (fX1_countSteps fu c b cap Q M) (fun M' => M'.1 c 0 = nI (gnS S l) ∧ M'.1 c 1 = nI (cnS S l) ∧ O1 c M M') := by
  have h10 := hG.1.2.2.2.1
  have hgn := gn_le (l := l) hG
  unfold fX1_countSteps fX1_countSteps_l7
  rw [lt_eq]
  refine lp_ho (fun k z => z.1 = nI k ∧ z.2.1 c 0 = nI (smN (gof S l) k) ∧ O1 c M z.2) _ (S 141) (i := 0) (by omega) (by omega) ⟨rfl, by simp (disch := omega) only [wI_ne, wI_eq, wI_nk, wIs_ne, wIs_eq]; rfl, ⟨fun c' hc => wI_ne hc, rfl⟩⟩ (fun k z hk hz rec hrec => ?_) (fun z hz rec => ?_)
  · obtain ⟨z1, z2⟩ := z
    obtain ⟨rfl, g1, g2⟩ := hz
    dsimp only at *
    have Vz : VX S z2 b := hV.fr fun c' k1 k2 => g2.1 c' (by omega)
    have Bz : BV z2 Q l := hB.fr fun c' k1 k2 => g2.1 c' (by omega)
    have e0 : smN (gof S l) (k + 1) = smN (gof S l) k + gof S l k := rfl
    have go : ∀ t : Int32, t = nI (gof S l k) → Wp (fX1_countSteps_j42 fu (fun x3 M => rec (x3, M)) c b cap Q (nI k) c (z2.1 c 0) t z2) (fun M' => M'.1 c 0 = nI (gnS S l) ∧ M'.1 c 1 = nI (cnS S l) ∧ O1 c M M') := fun t ht => by
      subst ht
      unfold fX1_countSteps_j42
      rw [lt_eq, lt_eq, nI_1, g1, nI_add, ← e0]
      exact hrec _ ⟨rfl, wI_eq, ⟨fun c' hc => by rw [wI_ne hc]; exact g2.1 c' hc, g2.2⟩⟩
    unfold fX1_countSteps_b7 fX1_countSteps_j41
    rw [Vz.1.2.1, if_neg (nI_ge hk (by omega))]
    obtain ⟨v, ev, ⟨rfl, j, hj, ej, hs⟩ | ⟨rfl, hn⟩⟩ := X8_isSet (fu := fu) Vz hG (nI k)
    · have : k = j := (nI_eq (by omega) (by omega)).mp ej
      subst this
      rw [ev, bi_s, if_neg (by decide), X1_stays hfu Vz hG Bz hL hl hc hk, bi_s]
      by_cases d : sty S l k = 0
      · rw [bI_f (by omega), if_pos (by decide)]
        refine go 1 ?_
        have : gof S l k = 1 := by
          unfold gof
          rw [if_neg (by omega), if_pos d]
        rw [this]
        rfl
      · rw [bI_t d, if_neg (by decide)]
        refine go 0 ?_
        have : gof S l k = 0 := by
          unfold gof
          rw [if_neg (by omega), if_neg d]
        rw [this]
        rfl
    · rw [ev, bi_s, if_pos (by decide)]
      refine go 0 ?_
      have : gof S l k = 0 := if_pos (hn k hk rfl)
      rw [this]
      rfl
  · obtain ⟨z1, z2⟩ := z
    obtain ⟨rfl, g1, g2⟩ := hz
    dsimp only at *
    have Vz : VX S z2 b := hV.fr fun c' k1 k2 => g2.1 c' (by omega)
    have Bz : BV z2 Q l := hB.fr fun c' k1 k2 => g2.1 c' (by omega)
    have hcc := cn_count hG hL
    have hcs := csN_le S (S 141)
    have hge : gnS S l ≤ csN S (S 141) := by
      rw [csN_sm]
      exact smN_ls fun r _ => by
        unfold gof
        split
        · omega
        · split <;> omega
    have eg : smN (gof S l) (S 141) = gnS S l := rfl
    unfold fX1_countSteps_b7 fX1_countSteps_j52
    rw [Vz.1.2.1, if_pos (Int32.le_refl _), X8_countSet hfu Vz hG, bi_s, Bz.1, g1, eg, zi_sub hge, zi_sub (by omega), lt_eq, wp_some]
    refine ⟨?_, ?_, ⟨fun c' hc => by rw [wI_ne hc]; exact g2.1 c' hc, g2.2⟩⟩
    · rw [wI_nk (by omega), g1, eg]
    · rw [wI_eq]
      congr 1
      omega
/-- the steps over each piece, by kinds -/
def OW (W : Nat → Nat → Nat) (n c : Nat) (M : Mm) : Prop := ∀ j k, j + 1 < n → k < 5 → M.1 (c + 4) (j * 5 + k) = nI (W j k)
theorem X1_place (hfu : 200000 ≤ fu) (hE : EdS M (c + 2) n f A) (hn : n ≤ 44) (hA : A ≤ 1024) {W : Nat → Nat → Nat} (hO : OW W n c M) (hW : ∀ j k, W j k < 8192) {t bb s kk : Nat} (ht : t < 8192) (hb : bb + s ≤ 1024) (hk : kk < 5) : Wp (fX1_place fu c (nI t) (nI bb) (nI s) (nI kk) M) (fun M' => OW (fun j k => if (bb ≤ f j ∧ f j < bb + s) ∧ k = kk then W j k ||| t else W j k) n c M' ∧ O1 (c + 4) M M') := by
  have n2 := hE.2.2.1
  unfold fX1_place fX1_place_l3
  refine lp_ho (fun i z => z.1 = nI i ∧ OW (fun j k => if j < i ∧ (bb ≤ f j ∧ f j < bb + s) ∧ k = kk then W j k ||| t else W j k) n c z.2 ∧ O1 (c + 4) M z.2) _ (n - 1) (i := 0) (by omega) (by omega) ⟨rfl, fun j k h1 h2 => by dsimp only; rw [if_neg (fun z => absurd z.1 (by omega))]; exact hO j k h1 h2, ⟨fun _ _ => rfl, rfl⟩⟩ (fun i z hi hz rec hrec => ?_) (fun z hz rec => ?_)
  · obtain ⟨z1, z2⟩ := z
    obtain ⟨rfl, g1, g2⟩ := hz
    dsimp only at *
    have Ez : EdS z2 (c + 2) n f A := hE.fr (g2.1 _ (by omega)) (g2.1 _ (by omega))
    have hle := Ez.le (i := i) (by omega)
    have stay : ¬ (bb ≤ f i ∧ f i < bb + s) → Wp (rec (nI (i + 1), z2)) (fun M' => OW (fun j k => if (bb ≤ f j ∧ f j < bb + s) ∧ k = kk then W j k ||| t else W j k) n c M' ∧ O1 (c + 4) M M') := fun hno => by
      refine hrec _ ⟨rfl, fun j k h1 h2 => ?_, g2⟩
      rw [g1 j k h1 h2]
      dsimp only
      by_cases cj : j < i ∧ (bb ≤ f j ∧ f j < bb + s) ∧ k = kk
      · rw [if_pos cj, if_pos ⟨by omega, cj.2⟩]
      · rw [if_neg cj, if_neg]
        intro z
        by_cases ej : j = i
        · subst ej; exact hno z.2.1
        · exact cj ⟨by omega, z.2⟩
    unfold fX1_place_b3 fX1_place_j63
    rw [nI_1, Ez.1.1, if_neg (nI_ge (by omega) (by omega)), if_neg (nI_in (by omega) (by omega)), ix_n (by omega), Ez.1.2 i (by omega), lt_eq]
    by_cases c1 : f i < bb
    · rw [if_pos (nI_lt c1 (by omega))]
      exact stay (by omega)
    rw [if_neg (nI_nlt (by omega) (by omega)), nI_add]
    by_cases c2 : bb + s ≤ f i
    · rw [if_pos (nI_le c2 (by omega))]
      exact stay (by omega)
    have e5 : nI i * 5 + nI kk = nI (i * 5 + kk) := by
      rw [show nI i * 5 = nI (i * 5) from zi_mul i 5, nI_add]
    have gi := g1 i kk (by omega) hk
    dsimp only at gi
    rw [if_neg (fun z => absurd z.1 (by omega))] at gi
    have hw := hW i kk
    rw [if_neg (nI_ge (by omega) (by omega)), e5, if_neg (nI_in (by omega) (by omega)), ix_n (by omega), gi, zi_or (by omega) (by omega), lt_eq]
    refine hrec _ ⟨rfl, fun j k h1 h2 => ?_, ⟨fun c' hc => by rw [wI_ne hc]; exact g2.1 c' hc, g2.2⟩⟩
    by_cases ej : j = i ∧ k = kk
    · obtain ⟨rfl, rfl⟩ := ej
      dsimp only
      rw [wI_eq, if_pos ⟨by omega, ⟨by omega, by omega⟩, rfl⟩]
    · rw [wI_nk (by omega), g1 j k h1 h2]
      dsimp only
      by_cases cj : j < i ∧ (bb ≤ f j ∧ f j < bb + s) ∧ k = kk
      · rw [if_pos cj, if_pos ⟨by omega, cj.2⟩]
      · rw [if_neg cj, if_neg]
        intro z
        by_cases ej2 : j = i
        · exact ej ⟨ej2, z.2.2⟩
        · exact cj ⟨by omega, z.2⟩
  · obtain ⟨z1, z2⟩ := z
    obtain ⟨rfl, g1, g2⟩ := hz
    dsimp only at *
    have Ez : EdS z2 (c + 2) n f A := hE.fr (g2.1 _ (by omega)) (g2.1 _ (by omega))
    unfold fX1_place_b3 fX1_place_j69
    rw [nI_1, Ez.1.1, if_pos (nI_le (by omega) (by omega)), wp_some]
    refine ⟨fun j k h1 h2 => ?_, g2⟩
    rw [g1 j k h1 h2]
    dsimp only
    by_cases cj : (bb ≤ f j ∧ f j < bb + s) ∧ k = kk
    · rw [if_pos cj, if_pos ⟨by omega, cj⟩]
    · rw [if_neg cj, if_neg (fun z => cj z.2)]
def PlC (l : List Bk) (A n : Nat) (f : Nat → Nat) : Prop := ∀ i, i < l.length → MemC A n f (bk l i).1 ∧ MemC A n f ((bk l i).1 + (bk l i).2.1)
/-- the pieces that steps are held against -/
def CE (S : Sto) (l : List Bk) (M : Mm) (c n : Nat) (f : Nat → Nat) : Prop := EdS M (c + 2) n f (2 ^ S 140) ∧ n ≤ 44 ∧ RgC S (2 ^ S 140) n f ∧ PlC l (2 ^ S 140) n f ∧ MemC (2 ^ S 140) n f (S 142)
theorem CE.sm (h : CE S l M c n f) {i x : Nat} (al : Al n f i x) : Sm S l x (f i) := by
  obtain ⟨⟨_, inc, n2, f0, fA⟩, hn, hr, hp, hf⟩ := h
  refine ⟨fun r h1 => ⟨al.th inc fA (hr r h1).1, al.tl inc fA (hr r h1).2⟩, fun i h1 => ⟨al.th inc fA (hp i h1).1, al.tl inc fA (hp i h1).2⟩⟩
theorem CE.fx (h : CE S l M c n f) {i x : Nat} (al : Al n f i x) : S 142 ≤ x ↔ S 142 ≤ f i := al.th h.1.2.1 h.1.2.2.2.2 h.2.2.2.2
theorem CE.fr {M' : Mm} (h : CE S l M c n f) (h2 : M'.1 (c + 2) = M.1 (c + 2)) (h3 : M'.1 (c + 3) = M.1 (c + 3)) : CE S l M' c n f := ⟨h.1.fr h2 h3, h.2⟩
theorem X1_cutPieces (hfu : 200000 ≤ fu) (hV : VX S M b) (hG : Gd S) (hB : BV M Q l) (hL : Lb (S 140) l) (hl : l.length ≤ 10) (hc : cap < 100000) (hlc : l.length ≤ cap) (hd : b + 9 ≤ c ∨ c + 8 ≤ b) (hd2 : Q + 4 ≤ c ∨ c + 8 ≤ Q) : Wp (fX1_cutPieces fu c b cap Q M) (fun M' => (∃ n f, CE S l M' c n f) ∧ Fr (c + 2) 2 M M') := by
  have hA := hG.ad
  have hG1 := hG.1
  have hF := hG.2.1 142
  unfold fX1_cutPieces
  rw [hV.1.1, wp_bm]
  refine (X2_begin (by omega) (by omega)).mono fun M1 q => ?_
  obtain ⟨E1, F1⟩ := q
  have V1 : VX S M1 b := hV.fr fun c' k1 k2 => F1.at (by omega)
  rw [V1.1.2.2.2.2, wp_bm]
  refine (X2_cut hfu (by omega) E1 (by omega) (by omega) (by omega)).mono fun M2 q => ?_
  obtain ⟨n2, f2, E2, _, a2, a3, a4, F2⟩ := q
  have V2 : VX S M2 b := V1.fr fun c' k1 k2 => F2.at (by omega)
  rw [wp_bm]
  refine (X2_cutRegisters hfu (by omega) E2 (by omega) (by omega) V2 hG (by omega)).mono fun M3 q => ?_
  obtain ⟨n3, f3, E3, _, b2, b3, b4, F3⟩ := q
  have F13 : Fr (c + 2) 2 M M3 := (F1.tr F2).tr F3
  have hn3 : n3 ≤ 23 := by omega
  unfold fX1_cutPieces_l32
  refine lp_ho (fun k z => z.1 = nI k ∧ Fr (c + 2) 2 M z.2 ∧ ∃ n' f', EdS z.2 (c + 2) n' f' (2 ^ S 140) ∧ n' ≤ 23 + 2 * k ∧ (∀ y, MemE n3 f3 y → MemE n' f' y) ∧ ∀ i, i < k → MemC (2 ^ S 140) n' f' (bk l i).1 ∧ MemC (2 ^ S 140) n' f' ((bk l i).1 + (bk l i).2.1)) _ l.length (i := 0) (by omega) (by omega) ⟨rfl, F13, n3, f3, E3, by omega, fun y h => h, fun i hi => absurd hi (by omega)⟩ (fun k z hk hz rec hrec => ?_) (fun z hz rec => ?_)
  · obtain ⟨z1, z2⟩ := z
    obtain ⟨rfl, g1, n', f', g2, g3, g4, g5⟩ := hz
    dsimp only at *
    have Bz : BV z2 Q l := hB.fr fun c' k1 k2 => g1.at (by omega)
    obtain ⟨x1, x2, x3⟩ := bk_B Bz hk
    obtain ⟨r1, r2, r3, r4, r5⟩ := Rg_le hG.1.2.1 (bk_Rg hL k)
    unfold fX1_cutPieces_b32
    rw [Bz.1, if_neg (nI_ge hk (by omega)), if_neg (nI_in (by omega) (by omega)), ix_n (by omega), x1, wp_bm]
    refine (X2_cut hfu (by omega) g2 (by omega) (by omega) (by omega)).mono fun M4 q => ?_
    obtain ⟨n4, f4, E4, _, c2, c3, c4, F4⟩ := q
    have B4 : BV M4 Q l := Bz.fr fun c' k1 k2 => F4.at (by omega)
    obtain ⟨y1, y2, y3⟩ := bk_B B4 hk
    rw [y1, y2, nI_add, wp_bm]
    refine (X2_cut hfu (by omega) E4 (by omega) (by omega) (by omega)).mono fun M5 q => ?_
    obtain ⟨n5, f5, E5, _, d2, d3, d4, F5⟩ := q
    rw [lt_eq, nI_1]
    refine hrec _ ⟨rfl, (g1.tr F4).tr F5, n5, f5, E5, by omega, fun y hy => d3 _ (c3 _ (g4 _ hy)), fun i hi => ?_⟩
    by_cases ci : i = k
    · subst ci
      exact ⟨fun p1 p2 => d3 _ (c4 p1 p2), d4⟩
    · obtain ⟨w1, w2⟩ := g5 i (by omega)
      exact ⟨(w1.mo c3).mo d3, (w2.mo c3).mo d3⟩
  · obtain ⟨z1, z2⟩ := z
    obtain ⟨rfl, g1, n', f', g2, g3, g4, g5⟩ := hz
    dsimp only at *
    have Bz : BV z2 Q l := hB.fr fun c' k1 k2 => g1.at (by omega)
    unfold fX1_cutPieces_b32 fX1_cutPieces_j79
    rw [Bz.1, if_pos (Int32.le_refl _), wp_some]
    refine ⟨⟨n', f', g2, by omega, fun i h1 => ⟨(b4 _ ⟨i, h1, Or.inl rfl⟩).mo g4, (b4 _ ⟨i, h1, Or.inr rfl⟩).mo g4⟩, g5, (a4.mo b3).mo g4⟩, g1⟩
theorem X1_placeSteps (hfu : 200000 ≤ fu) (hV : VX S M b) (hG : Gd S) (hB : BV M Q l) (hL : Lb (S 140) l) (hl : l.length ≤ 10) (hc : cap < 100000) (hlc : l.length ≤ cap) (hd : b + 9 ≤ c ∨ c + 8 ≤ b) (hd2 : Q + 4 ≤ c ∨ c + 8 ≤ Q) (hE : CE S l M c n f) (hN : nnS S l ≤ 12) : Wp (fX1_placeSteps fu c b cap Q M) (fun M' => OW (fun j k => ovC S l (f j) k l.length) n c M' ∧ O1 (c + 4) M M') := by
  have hA := hG.ad
  have h10 := hG.1.2.2.2.1
  have hnn : nnS S l = gnS S l + cnS S l := rfl
  unfold fX1_placeSteps fX1_placeSteps_l2
  refine lp_ho (fun i z => z.1 = nI i ∧ (∀ j, j < i → z.2.1 (c + 4) j = nI 0) ∧ O1 (c + 4) M z.2) _ 220 (i := 0) (by omega) (by omega) ⟨rfl, fun j hj => absurd hj (by omega), ⟨fun _ _ => rfl, rfl⟩⟩ (fun i z hi hz rec hrec => ?_) (fun z hz rec => ?_)
  · obtain ⟨z1, z2⟩ := z
    obtain ⟨rfl, g1, g2⟩ := hz
    dsimp only at *
    have c0 : ¬ (220 : Int32) ≤ nI i := nI_ge (b := 220) hi (by omega)
    unfold fX1_placeSteps_b2
    rw [if_neg c0, if_neg (nI_in (by omega) (by omega)), ix_n (by omega), lt_eq, lt_eq, nI_1]
    refine hrec _ ⟨rfl, fun j hj => ?_, ⟨fun c' hc => by rw [wI_ne hc]; exact g2.1 c' hc, g2.2⟩⟩
    by_cases e : j = i
    · subst e
      rw [wI_eq]
      rfl
    · rw [wI_nk e]
      exact g1 j (by omega)
  · obtain ⟨z1, z2⟩ := z
    obtain ⟨rfl, g1, g2⟩ := hz
    dsimp only at *
    have hn44 := hE.2.1
    unfold fX1_placeSteps_b2 fX1_placeSteps_j24 fX1_placeSteps_l29
    rw [if_pos (show (220 : Int32) ≤ nI 220 from Int32.le_refl _)]
    refine lp_ho (fun r z => z.1 = nI (smN (gof S l) r) ∧ z.2.1 = nI r ∧ OW (fun j k => ovR S l (f j) k r) n c z.2.2 ∧ O1 (c + 4) M z.2.2) _ (S 141) (i := 0) (by omega) (by omega) ⟨rfl, rfl, fun j k h1 h2 => ?_, g2⟩ (fun r z hr hz rec hrec => ?_) (fun z hz rec => ?_)
    · show _ = nI 0
      exact g1 (j * 5 + k) (by omega)
    · obtain ⟨y0, y1, y2⟩ := z
      obtain ⟨rfl, rfl, k1, k2⟩ := hz
      dsimp only at *
      have Vz : VX S y2 b := hV.fr fun c' q1 q2 => k2.1 c' (by omega)
      have Bz : BV y2 Q l := hB.fr fun c' q1 q2 => k2.1 c' (by omega)
      have Ez : CE S l y2 c n f := hE.fr (k2.1 _ (by omega)) (k2.1 _ (by omega))
      obtain ⟨a1, a2, a3⟩ := Vz.2.2.2.1 r hr
      have hre := hG.re hr
      have hrk := hG.rk hr
      have e0 : smN (gof S l) (r + 1) = smN (gof S l) r + gof S l r := rfl
      have main : ∀ t : Nat, ∀ x5 : Int32, t = (if gof S l r = 1 then 2 ^ smN (gof S l) r else 4096) → x5 = nI (gof S l r) → Wp (fX1_placeSteps_j79 fu (fun x3 x4 M => rec (x3, x4, M)) c b cap Q (nI (smN (gof S l) r)) (nI r) x5 c (nI t) y2) (fun M' => OW (fun j k => ovC S l (f j) k l.length) n c M' ∧ O1 (c + 4) M M') := fun t x5 ht hx => by
        have ht2 : t < 8192 := by
          rw [ht]
          split
          · rename_i d
            have := gof_cnt hr d
            exact Nat.pow_lt_pow_right (n := 13) (by decide) (by omega)
          · omega
        unfold fX1_placeSteps_j79 fX1_placeSteps_j114
        rw [if_neg (nI_in (by omega) (by omega)), ix_n (by omega), a1, a2, a3, wp_bm]
        refine (X1_place hfu Ez.1 hn44 (by omega) k1 (fun j k => ovR_lt hN (f j) k r (by omega)) ht2 (by omega) hrk).mono fun M4 q => ?_
        obtain ⟨q1, q2⟩ := q
        have nxt : OW (fun j k => ovR S l (f j) k (r + 1)) n c M4 := fun j k h1 h2 => by
          rw [q1 j k h1 h2]
          dsimp only
          congr 1
          show _ = (if (S (38 + 3 * r) ≤ f j ∧ f j < S (38 + 3 * r) + S (39 + 3 * r)) ∧ S (40 + 3 * r) = k then _ else _)
          by_cases d : (S (38 + 3 * r) ≤ f j ∧ f j < S (38 + 3 * r) + S (39 + 3 * r)) ∧ k = S (40 + 3 * r)
          · rw [if_pos d, if_pos ⟨d.1, d.2.symm⟩, ht]
          · rw [if_neg d, if_neg (fun z => d ⟨z.1, z.2.symm⟩)]
        have o4 : O1 (c + 4) M M4 := ⟨fun c' hc => (q2.1 c' hc).trans (k2.1 c' hc), q2.2.trans k2.2⟩
        have hg := gof_le (S := S) (l := l) r
        subst hx
        by_cases d : gof S l r = 0
        · rw [d, if_pos (show nI 0 = (0 : Int32) from rfl), lt_eq, lt_eq, nI_1]
          refine hrec _ ⟨?_, rfl, nxt, o4⟩
          show nI (smN (gof S l) r) + nI 0 = _
          rw [nI_add, e0, d]
        · have d1 : gof S l r = 1 := by omega
          rw [d1, if_neg (by decide), lt_eq, lt_eq, nI_1, nI_1]
          exact hrec _ ⟨by rw [e0, d1], rfl, nxt, o4⟩
      have g0 : gof S l r = 0 → Wp (fX1_placeSteps_j61 fu (fun x3 x4 M => rec (x3, x4, M)) c b cap Q (nI (smN (gof S l) r)) (nI r) y2) (fun M' => OW (fun j k => ovC S l (f j) k l.length) n c M' ∧ O1 (c + 4) M M') := fun d => by
        unfold fX1_placeSteps_j61 fX1_placeSteps_j62
        rw [if_pos rfl]
        exact main 4096 0 (by rw [if_neg (by omega)]) (by rw [d]; rfl)
      unfold fX1_placeSteps_b29
      rw [Vz.1.2.1, if_neg (nI_ge hr (by omega))]
      obtain ⟨v, ev, ⟨rfl, j, hj, ej, hs⟩ | ⟨rfl, hn⟩⟩ := X8_isSet (fu := fu) Vz hG (nI r)
      · have : r = j := (nI_eq (by omega) (by omega)).mp ej
        subst this
        rw [ev, bi_s, if_neg (by decide), X1_stays hfu Vz hG Bz hL hlc hc hr, bi_s]
        by_cases d : sty S l r = 0
        · have d1 : gof S l r = 1 := by
            unfold gof
            rw [if_neg (by omega), if_pos d]
          have hlt := gof_cnt hr d1
          have esh : (1 : Int32) <<< (nI (smN (gof S l) r) &&& 31) = nI (2 ^ smN (gof S l) r) := by
            have hp : 2 ^ smN (gof S l) r < 2 ^ 13 := Nat.pow_lt_pow_right (by decide) (by omega)
            have := zi_shl (n := 1) (k := smN (gof S l) r) (by omega) (by omega)
            rw [Nat.one_mul] at this
            exact this
          rw [bI_f (by omega), if_pos (by decide)]
          unfold fX1_placeSteps_j62
          rw [if_neg (by decide), esh]
          exact main _ 1 (by rw [if_pos d1]) (by rw [d1]; rfl)
        · rw [bI_t d, if_neg (by decide)]
          refine g0 ?_
          unfold gof
          rw [if_neg (by omega), if_neg d]
      · rw [ev, bi_s, if_pos (by decide)]
        exact g0 (if_pos (hn r hr rfl))
    · obtain ⟨y0, y1, y2⟩ := z
      obtain ⟨rfl, rfl, k1, k2⟩ := hz
      dsimp only at *
      have Vz : VX S y2 b := hV.fr fun c' q1 q2 => k2.1 c' (by omega)
      unfold fX1_placeSteps_b29 fX1_placeSteps_j122 fX1_placeSteps_l125
      rw [Vz.1.2.1, if_pos (Int32.le_refl _)]
      refine lp_ho (fun i z => z.1 = nI (gnS S l + smN (cof S l) i) ∧ z.2.1 = nI i ∧ OW (fun j k => ovC S l (f j) k i) n c z.2.2 ∧ O1 (c + 4) M z.2.2) _ l.length (i := 0) (by omega) (by omega) ⟨rfl, rfl, show OW (fun j k => ovC S l (f j) k 0) n c y2 from k1, k2⟩ (fun i z hi hz rec hrec => ?_) (fun z hz rec => ?_)
      · obtain ⟨w0, w1, w2⟩ := z
        obtain ⟨rfl, rfl, m1, m2⟩ := hz
        dsimp only at *
        have Vw : VX S w2 b := hV.fr fun c' q1 q2 => m2.1 c' (by omega)
        have Bw : BV w2 Q l := hB.fr fun c' q1 q2 => m2.1 c' (by omega)
        have Ew : CE S l w2 c n f := hE.fr (m2.1 _ (by omega)) (m2.1 _ (by omega))
        obtain ⟨x1, x2, x3⟩ := bk_B Bw hi
        obtain ⟨r1, r2, r3, r4, r5⟩ := Rg_le hG.1.2.1 (bk_Rg hL i)
        have e0 : smN (cof S l) (i + 1) = smN (cof S l) i + cof S l i := rfl
        unfold fX1_placeSteps_b125 fX1_placeSteps_j175
        rw [Bw.1, if_neg (nI_ge hi (by omega)), X1_isThere hfu Vw hG Bw hL hlc hc hi, bi_s]
        by_cases d : thr S l i = 0
        · have d1 : cof S l i = 1 := if_pos d
          have hlt := cof_cnt hi d1
          have hp : 2 ^ (gnS S l + smN (cof S l) i) < 2 ^ 13 := Nat.pow_lt_pow_right (by decide) (by omega)
          have esh : (1 : Int32) <<< (nI (gnS S l + smN (cof S l) i) &&& 31) = nI (2 ^ (gnS S l + smN (cof S l) i)) := by
            have := zi_shl (n := 1) (k := gnS S l + smN (cof S l) i) (by omega) (by omega)
            rw [Nat.one_mul] at this
            exact this
          rw [bI_f (by omega), if_pos (by decide), if_neg (nI_in (by omega) (by omega)), ix_n (by omega), x1, x2, x3, esh, wp_bm]
          refine (X1_place hfu Ew.1 hn44 (by omega) m1 (fun j k => ovC_lt hN (f j) k i (by omega)) (by omega) r5 r4).mono fun M4 q => ?_
          obtain ⟨q1, q2⟩ := q
          rw [lt_eq, lt_eq, nI_1, nI_1]
          refine hrec _ ⟨by rw [e0, d1]; rfl, rfl, fun j k h1 h2 => ?_, ⟨fun c' hc => (q2.1 c' hc).trans (m2.1 c' hc), q2.2.trans m2.2⟩⟩
          rw [q1 j k h1 h2]
          dsimp only
          congr 1
          show _ = (if cof S l i = 1 ∧ ((bk l i).1 ≤ f j ∧ f j < (bk l i).1 + (bk l i).2.1) ∧ (bk l i).2.2 = k then _ else _)
          by_cases dd : ((bk l i).1 ≤ f j ∧ f j < (bk l i).1 + (bk l i).2.1) ∧ k = (bk l i).2.2
          · rw [if_pos dd, if_pos ⟨d1, dd.1, dd.2.symm⟩]
          · rw [if_neg dd, if_neg (fun z => dd ⟨z.2.1, z.2.2.symm⟩)]
        · have d1 : cof S l i = 0 := if_neg d
          rw [bI_t d, if_neg (by decide), lt_eq, nI_1]
          refine hrec _ ⟨by rw [e0, d1]; rfl, rfl, fun j k h1 h2 => ?_, m2⟩
          rw [m1 j k h1 h2]
          dsimp only
          congr 1
          show _ = (if cof S l i = 1 ∧ ((bk l i).1 ≤ f j ∧ f j < (bk l i).1 + (bk l i).2.1) ∧ (bk l i).2.2 = k then _ else _)
          rw [if_neg (fun z => by have := z.1; omega)]
      · obtain ⟨w0, w1, w2⟩ := z
        obtain ⟨rfl, rfl, m1, m2⟩ := hz
        dsimp only at *
        have Bw : BV w2 Q l := hB.fr fun c' q1 q2 => m2.1 c' (by omega)
        unfold fX1_placeSteps_b125 fX1_placeSteps_j181
        rw [Bw.1, if_pos (Int32.le_refl _), wp_some]
        exact ⟨m1, m2⟩
end CC
