/-! What is read off a store. -/
abbrev inB (x : Int32) (n : Nat) : Prop := ¬ x < 0 ∧ ix x < n
theorem inB_y {n j : Nat} (hj : j < n) (hn : n ≤ 2 ^ 31) : inB (nI j) n := ⟨nI_pos (by omega), by rw [ix_n (by omega)]; exact hj⟩
theorem inB_n {x : Int32} {n : Nat} (h : ∀ j, j < n → x ≠ nI j) : ¬ inB x n := fun z => by
  obtain ⟨j, hj, rfl⟩ := nI_of z.1
  have := z.2
  rw [ix_n hj] at this
  exact h j this rfl
theorem inB_of {x : Int32} {n : Nat} (h : inB x n) : ∃ j, j < n ∧ j < 2 ^ 31 ∧ x = nI j := by
  obtain ⟨j, hj, rfl⟩ := nI_of h.1
  have := h.2
  rw [ix_n hj] at this
  exact ⟨j, this, hj, rfl⟩
theorem isIn_l {x : Int32} {n : Nat} (hn : n < 2 ^ 31) : (nI 0 ≤ x ∧ x ≤ nI n - 1) ↔ inB x n := by
  constructor
  · intro z
    by_cases c : n = 0
    · subst c
      exact absurd (Int32.le_trans z.1 z.2) (by decide +kernel)
    · have e : nI n - 1 = nI (n - 1) := zi_sub (a := n) (b := 1) (by omega)
      rw [e] at z
      obtain ⟨j, hj, rfl⟩ := (isIn_c (by omega)).mp z
      exact inB_y (by omega) (by omega)
  · intro z
    obtain ⟨j, hj, h31, rfl⟩ := inB_of z
    have e : nI n - 1 = nI (n - 1) := zi_sub (a := n) (b := 1) (by omega)
    rw [e]
    exact isIn_y (j := j) (by omega) rfl (by omega)
theorem isIn_k {x : Int32} {n : Nat} (hn : n + 1 < 2 ^ 31) : (nI 0 ≤ x ∧ x ≤ nI n) ↔ inB x (n + 1) := by
  rw [← isIn_l (n := n + 1) hn, show nI (n + 1) - 1 = nI n from zi_sub (a := n + 1) (b := 1) (by omega)]
def tlA (S : Sto) (x1 x2 : Int32) : Int32 := if inB x1 (S 1) then pkA x2 (nI (S (2 + 3 * ix x1))) (nI (S (3 + 3 * ix x1))) (nI (S (4 + 3 * ix x1))) else mI
def rgA (S : Sto) (x1 x2 : Int32) : Int32 := if isT S x1 = 1 then pkA x2 (nI (S (38 + 3 * ix x1))) (nI (S (39 + 3 * ix x1))) (nI (S (40 + 3 * ix x1))) else mI
def ptA (S : Sto) (x : Int32) : Int32 := if 0 < S 142 ∧ inB x 8 then nI (S (68 + ix x)) else mI
def waA (S : Sto) (x : Int32) : Int32 := if inB x (2 ^ S 140) then nI (wS S (ix x)) else mI
def kiA (S : Sto) (x : Int32) : Int32 := if inB x (2 ^ S 140) then nI (kdS S (ix x) 99) else mI
def seA (S : Sto) (x : Int32) : Int32 := if inB x (2 ^ S 140) then nI (sdS S (ix x)) else mI
def paA (S : Sto) (x : Int32) : Int32 := if inB x (2 ^ S 140 / 16) then nI (S (76 + ix x)) else mI
def owN (g : Nat → Nat) (n : Nat) : Nat := smN (fun p => if g p = 5 then 0 else 1) n
section RE
variable {fu a m : Nat} {S : Sto} {M : Mm}
theorem X10_told (hV : VX S M (a + 12)) (hG : Gd S) (x1 x2 : Int32) : fX10_told fu a x1 x2 M = some (tlA S x1 x2) := by
  have h12 := hG.1.2.2.2.2.2
  have n0 : fX10_told_j15 fu M = some mI := rfl
  unfold fX10_told tlA
  rw [n0, hV.1.2.2.2.1]
  by_cases c : x1 < 0
  · rw [if_pos c, if_neg (fun z => z.1 c)]
  · obtain ⟨i, hi, rfl⟩ := nI_of c
    rw [if_neg c]
    by_cases c2 : i < S 1
    · obtain ⟨a1, a2, a3⟩ := hV.2.1 i c2
      rw [if_pos (nI_lt c2 (by omega)), if_neg (nI_in (by omega) (by omega)), if_pos (show inB (nI i) (S 1) from inB_y c2 (by omega)), ix_n hi, a1, a2, a3, X10_pick, bi_s]
    · rw [if_neg (nI_nlt (by omega) hi), if_neg (fun z => c2 (by have := z.2; rw [ix_n hi] at this; exact this))]
theorem pk_w {x2 a b c : Int32} {w : Nat} (hw : w ≤ 2) (e : x2 = nI w) : pkA x2 a b c = if w = 0 then a else if w = 1 then b else c := by
  subst e
  have : w = 0 ∨ w = 1 ∨ w = 2 := by omega
  rcases this with rfl | rfl | rfl <;> rfl
theorem X11_told (hV : VM S M m) (hG : Gd S) (x1 x2 : Int32) : fX11_told fu m x1 x2 M = some (tlA S x1 x2) := by
  have h12 := hG.1.2.2.2.2.2
  have e1 : ix 1 = 1 := by decide +kernel
  have n0 : fX11_told_j40 fu M = some mI := rfl
  unfold fX11_told fX11_told_j41 tlA
  rw [n0, e1, hV.2 1 (by omega)]
  show bi (fX11_isIn fu x1 (nI 0) (nI (S 1) - 1)) _ = _
  rw [X11_isIn, bi_s]
  by_cases c : nI 0 ≤ x1 ∧ x1 ≤ nI (S 1) - 1
  · have c' := (isIn_l (by omega)).mp c
    obtain ⟨i, hi, h31, rfl⟩ := inB_of c'
    rw [bI_t c, if_neg (by decide), if_pos c', ix_n h31]
    show bi (fX11_isIn fu x2 (nI 0) (nI 2)) _ = _
    rw [X11_isIn, bi_s]
    by_cases c2 : nI 0 ≤ x2 ∧ x2 ≤ nI 2
    · obtain ⟨w, hw, rfl⟩ := (isIn_c (by omega)).mp c2
      have e2 : (2 : Int32) + 3 * nI i + nI w = nI (2 + 3 * i + w) := by
        rw [show (3 : Int32) * nI i = nI (3 * i) from zi_mul 3 i, show (2 : Int32) + nI (3 * i) = nI (2 + 3 * i) from nI_add 2 _, nI_add]
      rw [bI_t c2, if_neg (by decide), e2, if_neg (nI_in (by omega) (by omega)), ix_n (by omega), hV.2 _ (by omega), pk_w hw rfl]
      have : w = 0 ∨ w = 1 ∨ w = 2 := by omega
      rcases this with rfl | rfl | rfl
      · rfl
      · rw [if_neg (by decide), if_pos rfl, show 2 + 3 * i + 1 = 3 + 3 * i by omega]
      · rw [if_neg (by decide), if_neg (by decide), show 2 + 3 * i + 2 = 4 + 3 * i by omega]
    · rw [bI_f c2, if_pos (by decide), pk_out c2]
  · rw [bI_f c, if_pos (by decide), if_neg (fun z => c ((isIn_l (by omega)).mpr z))]
theorem X10_register (hV : VX S M (a + 12)) (hG : Gd S) (x1 x2 : Int32) : fX10_register fu a x1 x2 M = some (rgA S x1 x2) := by
  have h10 := hG.1.2.2.2.1
  unfold fX10_register rgA
  obtain ⟨v, ev, ⟨rfl, r, hr, rfl, hs⟩ | ⟨rfl, hn⟩⟩ := X8_isSet (fu := fu) hV hG x1
  · obtain ⟨a1, a2, a3⟩ := hV.2.2.2.1 r hr
    rw [ev, bi_s, if_neg (by decide), if_neg (nI_in (by omega) (by omega)), ix_n (by omega), a1, a2, a3, X10_pick, bi_s, if_pos (isT_y hG hr hs)]
  · rw [ev, bi_s, if_pos (by decide), isT_n hG hn]
    rfl
theorem X11_register (hV : VM S M m) (hG : Gd S) (x1 x2 : Int32) : fX11_register fu m x1 x2 M = some (rgA S x1 x2) := by
  have h10 := hG.1.2.2.2.1
  have n0 : fX11_register_j33 fu M = some mI := rfl
  unfold fX11_register fX11_register_j34 rgA
  rw [n0]
  obtain ⟨v, ev, ⟨rfl, i, hi, rfl, hs⟩ | ⟨rfl, hn⟩⟩ := X11_isSet (fu := fu) hV hG x1
  · rw [ev, bi_s, if_neg (by decide), if_pos (isT_y hG hi hs), ix_n (by omega)]
    show bi (fX11_isIn fu x2 (nI 0) (nI 2)) _ = _
    rw [X11_isIn, bi_s]
    by_cases c2 : nI 0 ≤ x2 ∧ x2 ≤ nI 2
    · obtain ⟨w, hw, rfl⟩ := (isIn_c (by omega)).mp c2
      have e2 : (38 : Int32) + 3 * nI i + nI w = nI (38 + 3 * i + w) := by
        rw [show (3 : Int32) * nI i = nI (3 * i) from zi_mul 3 i, show (38 : Int32) + nI (3 * i) = nI (38 + 3 * i) from nI_add 38 _, nI_add]
      rw [bI_t c2, if_neg (by decide), e2, if_neg (nI_in (by omega) (by omega)), ix_n (by omega), hV.2 _ (by omega), pk_w hw rfl]
      have : w = 0 ∨ w = 1 ∨ w = 2 := by omega
      rcases this with rfl | rfl | rfl
      · rfl
      · rw [if_neg (by decide), if_pos rfl, show 38 + 3 * i + 1 = 39 + 3 * i by omega]
      · rw [if_neg (by decide), if_neg (by decide), show 38 + 3 * i + 2 = 40 + 3 * i by omega]
    · rw [bI_f c2, if_pos (by decide), pk_out c2]
  · rw [ev, bi_s, if_pos (by decide), isT_n hG hn]
    rfl
theorem X10_part (hV : VX S M (a + 12)) (hG : Gd S) (x : Int32) : fX10_part fu a x M = some (ptA S x) := by
  unfold fX10_part fX10_part_j24 ptA
  obtain ⟨w, e, ⟨rfl, h0, i, hi, rfl⟩ | ⟨rfl, h⟩⟩ := X8_hasPart (fu := fu) hV hG x
  · rw [e, bi_s, if_neg (by decide), if_neg (nI_in (by omega) (by omega)), if_pos ⟨h0, inB_y hi (by omega)⟩, ix_n (by omega), hV.2.2.1 h0 i hi]
  · rw [e, bi_s, if_pos (by decide), if_neg]
    · rfl
    · intro z
      rcases h with h | h
      · have := z.1
        omega
      · exact inB_n h z.2
theorem X11_part (hV : VM S M m) (hG : Gd S) (x : Int32) : fX11_part fu m x M = some (ptA S x) := by
  have h142 := hG.2.1 142
  have n0 : fX11_part_j34 fu M = some mI := rfl
  obtain ⟨⟨b, hb, b1, b2, b3, b4⟩, hr⟩ := hV
  unfold fX11_part fX11_part_j35 ptA
  rw [n0, b1, if_neg (nI_in (by omega) (by omega)), ix_n (by omega), b4]
  by_cases c0 : S 142 = 0
  · rw [c0, if_pos (by decide), if_neg (fun z => absurd z.1 (by omega))]
  · rw [if_neg (fun z => by have := (nI_leI (a := S 142) (b := 0) (by omega) (by omega)).mp z; omega)]
    show bi (fX11_isIn fu x (nI 0) (nI 7)) _ = _
    rw [X11_isIn, bi_s]
    by_cases c1 : nI 0 ≤ x ∧ x ≤ nI 7
    · have c2 := (isIn_k (by omega)).mp c1
      obtain ⟨i, hi, rfl⟩ := (isIn_c (by omega)).mp c1
      have e68 : (68 : Int32) + nI i = nI (68 + i) := nI_add 68 i
      rw [bI_t c1, if_neg (by decide), e68, if_neg (nI_in (by omega) (by omega)), if_pos ⟨by omega, c2⟩, ix_n (by omega), ix_n (by omega), hr _ (by omega)]
    · rw [bI_f c1, if_pos (by decide), if_neg (fun z => c1 ((isIn_k (by omega)).mpr z.2))]
theorem X10_wanted (hfu : 200000 ≤ fu) (hV : VX S M (a + 12)) (hG : Gd S) (x : Int32) : fX10_wanted fu a x M = some (waA S x) := by
  have hA := hG.ad
  unfold fX10_wanted fX10_wanted_j30 waA
  obtain ⟨w, e, ⟨rfl, i, hi, rfl⟩ | ⟨rfl, h⟩⟩ := X8_hasAddress (fu := fu) hV hG x
  · rw [e, bi_s, if_neg (by decide), hV.1.2.2.1, X8_wantedAt hfu hV hG (by omega), bi_s, if_pos (show inB (nI i) (2 ^ S 140) from inB_y hi (by omega)), ix_n (by omega)]
    rfl
  · rw [e, bi_s, if_pos (by decide), if_neg (inB_n h)]
    rfl
theorem X11_isAddress' (hV : VM S M m) (hG : Gd S) (x : Int32) : fX11_isAddress fu m x M = some (bI (inB x (2 ^ S 140))) := by
  have hA := hG.ad
  rw [X11_isAddress hV hG]
  congr 1
  refine bI_c ?_
  rw [isIn_k (by omega), Nat.sub_add_cancel (by omega)]
theorem X11_wanted (hfu : 200000 ≤ fu) (hV : VM S M m) (hG : Gd S) (x : Int32) : fX11_wanted fu m x M = some (waA S x) := by
  have hA := hG.ad
  unfold fX11_wanted fX11_wanted_j17 waA
  rw [X11_isAddress' hV hG, bi_s]
  by_cases c : inB x (2 ^ S 140)
  · obtain ⟨i, hi, h31, rfl⟩ := inB_of c
    rw [bI_t c, if_neg (by decide), X11_wantedAt hfu hV hG h31, bi_s, if_pos c, ix_n h31]
    rfl
  · rw [bI_f c, if_pos (by decide), if_neg c]
    rfl
theorem X10_kind (hfu : 200000 ≤ fu) (hV : VX S M (a + 12)) (hG : Gd S) (x : Int32) : fX10_kind fu a x M = some (kiA S x) := by
  have hA := hG.ad
  unfold fX10_kind fX10_kind_j24 kiA
  obtain ⟨w, e, ⟨rfl, i, hi, rfl⟩ | ⟨rfl, h⟩⟩ := X8_hasAddress (fu := fu) hV hG x
  · rw [e, bi_s, if_neg (by decide), X8_kindAt hfu hV hG (by omega) none_but, bi_s, if_pos (show inB (nI i) (2 ^ S 140) from inB_y hi (by omega)), ix_n (by omega)]
  · rw [e, bi_s, if_pos (by decide), if_neg (inB_n h)]
    rfl
theorem X11_kind (hfu : 200000 ≤ fu) (hV : VM S M m) (hG : Gd S) (x : Int32) : fX11_kind fu m x M = some (kiA S x) := by
  have hA := hG.ad
  unfold fX11_kind fX11_kind_j17 kiA
  rw [X11_isAddress' hV hG, bi_s]
  by_cases c : inB x (2 ^ S 140)
  · obtain ⟨i, hi, h31, rfl⟩ := inB_of c
    rw [bI_t c, if_neg (by decide), X11_kindAt hfu hV hG h31, bi_s, if_pos c, ix_n h31]
  · rw [bI_f c, if_pos (by decide), if_neg c]
    rfl
theorem X10_seen (hfu : 200000 ≤ fu) (hV : VX S M (a + 12)) (hG : Gd S) (x : Int32) : fX10_seen fu a x M = some (seA S x) := by
  have hA := hG.ad
  unfold fX10_seen fX10_seen_j32 seA
  obtain ⟨w, e, ⟨rfl, i, hi, rfl⟩ | ⟨rfl, h⟩⟩ := X8_hasAddress (fu := fu) hV hG x
  · rw [e, bi_s, if_neg (by decide), X8_kindAt hfu hV hG (by omega) none_but, bi_s, X8_seenAs hV hG hi (kdS_le hG i 99), bi_s, if_pos (show inB (nI i) (2 ^ S 140) from inB_y hi (by omega)), ix_n (by omega)]
    rfl
  · rw [e, bi_s, if_pos (by decide), if_neg (inB_n h)]
    rfl
theorem X11_seen (hfu : 200000 ≤ fu) (hV : VM S M m) (hG : Gd S) (x : Int32) : fX11_seen fu m x M = some (seA S x) := by
  have hA := hG.ad
  unfold fX11_seen fX11_seen_j17 seA
  rw [X11_isAddress' hV hG, bi_s]
  by_cases c : inB x (2 ^ S 140)
  · obtain ⟨i, hi, h31, rfl⟩ := inB_of c
    rw [bI_t c, if_neg (by decide), X11_seenAt hfu hV hG hi, bi_s, if_pos c, ix_n h31]
  · rw [bI_f c, if_pos (by decide), if_neg c]
    rfl
theorem X10_paged (hV : VX S M (a + 12)) (hG : Gd S) (x : Int32) : fX10_paged fu a x M = some (paA S x) := by
  have hA := hG.ad
  unfold fX10_paged fX10_paged_j24 paA
  obtain ⟨w, e, ⟨rfl, i, hi, rfl⟩ | ⟨rfl, h⟩⟩ := X8_hasPage (fu := fu) hV hG x
  · rw [e, bi_s, if_neg (by decide), if_neg (nI_in (by omega) (by omega)), if_pos (show inB (nI i) (2 ^ S 140 / 16) from inB_y hi (by omega)), ix_n (by omega), hV.2.2.2.2 i hi]
  · rw [e, bi_s, if_pos (by decide), if_neg (inB_n h)]
    rfl
theorem X11_paged (hV : VM S M m) (hG : Gd S) (x : Int32) : fX11_paged fu m x M = some (paA S x) := by
  have hA := hG.ad
  unfold fX11_paged fX11_paged_j27 paA
  rw [X11_pages hV hG, bi_s]
  show bi (fX11_isIn fu x (nI 0) (nI (2 ^ S 140 / 16) - 1)) _ = _
  rw [X11_isIn, bi_s]
  by_cases c : nI 0 ≤ x ∧ x ≤ nI (2 ^ S 140 / 16) - 1
  · have c' := (isIn_l (by omega)).mp c
    obtain ⟨i, hi, h31, rfl⟩ := inB_of c'
    have e68 : (76 : Int32) + nI i = nI (76 + i) := nI_add 76 i
    rw [bI_t c, if_neg (by decide), e68, if_neg (nI_in (by omega) (by omega)), if_pos c', ix_n (by omega), ix_n (by omega), hV.2 _ (by omega)]
  · rw [bI_f c, if_pos (by decide), if_neg (fun z => c ((isIn_l (by omega)).mpr z))]
    rfl
theorem owN_le (g : Nat → Nat) (n : Nat) : owN g n ≤ n := by
  have : owN g n ≤ 1 * n := smN_le fun x _ => by split <;> omega
  omega
theorem owN_S (g : Nat → Nat) (n : Nat) : owN g (n + 1) = owN g n + if g n = 5 then 0 else 1 := rfl
theorem X10_owned (hfu : 200000 ≤ fu) {c n : Nat} {g : Nat → Nat} (hn : n ≤ 64) (hg : ∀ p, p < n → M.1 c p = nI (g p)) (hb : ∀ p, p < n → g p ≤ 1024) : fX10_owned fu 64 c (nI n) M = some (nI (owN g n)) := by
  unfold fX10_owned fX10_owned_l4
  refine lp_ue (fun i => (nI (owN g i), nI i)) n rfl (by omega) (fun i hi rec => ?_) (fun rec => ?_)
  · show fX10_owned_b4 fu _ 64 c (nI n) (nI (owN g i)) (nI i) M = rec (nI (owN g (i + 1)), nI (i + 1))
    have hb' := hb i hi
    have c64 : ¬ Int32.ofNat 64 ≤ nI i := nI_ge (b := 64) (by omega) (by omega)
    unfold fX10_owned_b4 fX10_owned_j28
    rw [if_neg (nI_ge hi (by omega)), if_neg c64, if_neg (nI_in (by omega) (by omega)), ix_n (by omega), hg i hi, owN_S]
    by_cases d : g i = 5
    · rw [if_pos (show nI (g i) = (5 : Int32) by rw [d]; rfl), if_pos d, lt_eq, lt_eq, nI_1]
      show rec (nI (owN g i) + nI 0, _) = _
      rw [nI_add]
    · rw [if_neg (show ¬ nI (g i) = (5 : Int32) from fun z => d ((nI_eq (a := g i) (b := 5) (by omega) (by omega)).mp z)), if_neg d, lt_eq, lt_eq, nI_1, nI_1]
  · show fX10_owned_b4 fu _ 64 c (nI n) (nI (owN g n)) (nI n) M = _
    unfold fX10_owned_b4
    rw [if_pos (Int32.le_refl _)]
    rfl
theorem X11_pagesSet (hfu : 200000 ≤ fu) (hV : VM S M m) (hG : Gd S) : fX11_pagesSet fu m M = some (nI (owN (fun p => S (76 + p)) (2 ^ S 140 / 16))) := by
  have hA := hG.ad
  unfold fX11_pagesSet fX11_pagesSet_l4
  refine lp_ue (fun i => (nI (owN (fun p => S (76 + p)) i), nI i)) (2 ^ S 140 / 16) rfl (by omega) (fun i hi rec => ?_) (fun rec => ?_)
  · show fX11_pagesSet_b4 fu _ m (nI (owN (fun p => S (76 + p)) i)) (nI i) M = rec (nI (owN (fun p => S (76 + p)) (i + 1)), nI (i + 1))
    have hb' := hG.2.1 (76 + i)
    have e68 : (76 : Int32) + nI i = nI (76 + i) := nI_add 76 i
    unfold fX11_pagesSet_b4 fX11_pagesSet_j31
    rw [X11_pages hV hG, bi_s, if_neg (nI_ge hi (by omega)), e68, if_neg (nI_in (by omega) (by omega)), ix_n (by omega), hV.2 _ (by omega), owN_S]
    by_cases d : S (76 + i) = 5
    · rw [if_pos (show nI (S (76 + i)) = (5 : Int32) by rw [d]; rfl), if_pos d, lt_eq, lt_eq, nI_1]
      show rec (nI (owN (fun p => S (76 + p)) i) + nI 0, _) = _
      rw [nI_add]
    · rw [if_neg (show ¬ nI (S (76 + i)) = (5 : Int32) from fun z => d ((nI_eq (a := S (76 + i)) (b := 5) (by omega) (by omega)).mp z)), if_neg d, lt_eq, lt_eq, nI_1, nI_1]
  · show fX11_pagesSet_b4 fu _ m (nI (owN (fun p => S (76 + p)) (2 ^ S 140 / 16))) (nI (2 ^ S 140 / 16)) M = _
    unfold fX11_pagesSet_b4
    rw [X11_pages hV hG, bi_s, if_pos (Int32.le_refl _)]
    rfl
theorem X11_ownPages (hfu : 200000 ≤ fu) (hV : VM S M m) (hG : Gd S) {g : Nat → Nat} (hg : ∀ p, p < 2 ^ S 140 / 16 → M.1 (m + 17) p = nI (g p)) (hb : ∀ p, p < 2 ^ S 140 / 16 → g p ≤ 1024) : fX11_ownPages fu m M = some (nI (owN g (2 ^ S 140 / 16))) := by
  have hA := hG.ad
  unfold fX11_ownPages fX11_ownPages_l4
  refine lp_ue (fun i => (nI (owN g i), nI i)) (2 ^ S 140 / 16) rfl (by omega) (fun i hi rec => ?_) (fun rec => ?_)
  · show fX11_ownPages_b4 fu _ m (nI (owN g i)) (nI i) M = rec (nI (owN g (i + 1)), nI (i + 1))
    have hb' := hb i hi
    unfold fX11_ownPages_b4 fX11_ownPages_j28
    rw [X11_pages hV hG, bi_s, if_neg (nI_ge hi (by omega)), if_neg (nI_in (by omega) (by omega)), ix_n (by omega), hg i hi, owN_S]
    by_cases d : g i = 5
    · rw [if_pos (show nI (g i) = (5 : Int32) by rw [d]; rfl), if_pos d, lt_eq, lt_eq, nI_1]
      show rec (nI (owN g i) + nI 0, _) = _
      rw [nI_add]
    · rw [if_neg (show ¬ nI (g i) = (5 : Int32) from fun z => d ((nI_eq (a := g i) (b := 5) (by omega) (by omega)).mp z)), if_neg d, lt_eq, lt_eq, nI_1, nI_1]
  · show fX11_ownPages_b4 fu _ m (nI (owN g (2 ^ S 140 / 16))) (nI (2 ^ S 140 / 16)) M = _
    unfold fX11_ownPages_b4
    rw [X11_pages hV hG, bi_s, if_pos (Int32.le_refl _)]
    rfl
theorem X11_setMany (hfu : 200000 ≤ fu) (hV : VM S M m) (hG : Gd S) : fX11_setMany fu m M = some (nI (csN S (S 141))) := by
  have h1 := hG.1
  unfold fX11_setMany fX11_setMany_l4
  refine lp_ue (fun i => (nI (csN S i), nI i)) (S 141) rfl (by omega) (fun i hi rec => ?_) (fun rec => ?_)
  · show fX11_setMany_b4 fu _ m (nI (csN S i)) (nI i) M = rec (nI (csN S (i + 1)), nI (i + 1))
    have hb' := hG.2.1 (39 + 3 * i)
    have e0 : csN S (i + 1) = csN S i + if S (39 + 3 * i) = 0 then 0 else 1 := rfl
    unfold fX11_setMany_b4 fX11_setMany_j26
    rw [X11_registersNow hV, bi_s, if_neg (nI_ge hi (by omega)), X11_sizeOf hV (by omega), bi_s, e0]
    by_cases d : S (39 + 3 * i) = 0
    · rw [d, if_pos (by decide), if_pos rfl, lt_eq, lt_eq, nI_1]
      show rec (nI (csN S i) + nI 0, _) = _
      rw [nI_add]
    · rw [if_neg (nI_nle (by omega) (by omega)), if_neg d, lt_eq, lt_eq, nI_1, nI_1]
  · show fX11_setMany_b4 fu _ m (nI (csN S (S 141))) (nI (S 141)) M = _
    unfold fX11_setMany_b4
    rw [X11_registersNow hV, bi_s, if_pos (Int32.le_refl _)]
    rfl
end RE
