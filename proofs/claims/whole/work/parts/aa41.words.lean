/-! Words; the reference's tokens. -/
def wdL : List (List Nat) := [[110, 111, 110, 101], [99, 111, 109, 98], [116, 104, 114, 117], [112, 114, 111, 116], [98, 97, 99, 107], [115, 112, 97, 99, 101], [114, 101, 103, 105, 115, 116, 101, 114, 115], [100, 101, 102, 97, 117, 108, 116], [102, 105, 120, 101, 100], [115, 112, 97, 110], [114, 101, 103], [112, 97, 103, 101]]
def lnW (w : Nat) : Nat := (wdL.getD w []).length
def chW (w j : Nat) : Nat := (wdL.getD w []).getD j 0
def mtN (t : Nat → Nat) (q w : Nat) : Nat := smN (fun j => if t (q + j) = chW w j then 0 else 1) (lnW w)
abbrev mtP (t : Nat → Nat) (q e w : Nat) : Prop := e - q = lnW w ∧ mtN t q w = 0
abbrev kwP (t : Nat → Nat) (n p w : Nat) : Prop := tyT t n p = 0 ∧ mtP t (stT t n p) (enT t n p) w
def kiT (t : Nat → Nat) (n p : Nat) : Nat := if kwP t n p 0 then 0 else if kwP t n p 1 then 1 else if kwP t n p 2 then 2 else if kwP t n p 3 then 3 else if kwP t n p 4 then 4 else 5
theorem lnW_le : ∀ w, w < 12 → lnW w ≤ 9 ∧ 3 ≤ lnW w := by decide
theorem w_dif : ∀ w, w < 12 → ∀ w', w' < 12 → lnW w = lnW w' → smN (fun j => if chW w j = chW w' j then 0 else 1) (lnW w) = 0 → w = w' := by decide +kernel
theorem mt_un {t : Nat → Nat} {q e w w' : Nat} (hw : w < 12) (hw' : w' < 12) (h : mtP t q e w) (h' : mtP t q e w') : w = w' := by
  have hl : lnW w = lnW w' := by have := h.1; have := h'.1; omega
  refine w_dif w hw w' hw' hl (smN_z fun j hj => ?_)
  have h1 := smN_nz.mp h.2 j hj
  have h2 := smN_nz.mp h'.2 j (by omega)
  have e1 : t (q + j) = chW w j := Decidable.not_not.mp fun c => by rw [if_neg c] at h1; omega
  have e2 : t (q + j) = chW w' j := Decidable.not_not.mp fun c => by rw [if_neg c] at h2; omega
  rw [if_pos (by rw [← e1, e2])]
def cwN (k : Nat) : Nat := [5, 6, 7, 0, 1, 2, 3, 4, 8, 9, 10, 11].getD k 0
theorem cw_len : ∀ k, k < 12 → strL.getD k 0 = lnW (cwN k) ∧ cwN k < 12 := by decide
theorem cw_chr : ∀ k, k < 12 → ∀ j, j < 9 → (strB.getD k []).getD j 0 = nI (chW (cwN k) j) := by decide +kernel
theorem chW_lt : ∀ w, w < 12 → ∀ j, j < 9 → chW w j < 123 := by decide
section WC
variable {fu c n p : Nat} {t : Nat → Nat} {M : Mm}
theorem X7_isWord (hfu : 200000 ≤ fu) (hT : TpX t n M c) (hpn : p ≤ n) (hX : TX t n p M c) {k : Nat} (hk : k < 12) : fX7_isWord fu c k M = some (bI (kwP t n p (cwN k))) := by
  obtain ⟨x1, x2, x3, x4⟩ := hX
  obtain ⟨l1, l2⟩ := cw_len k hk
  obtain ⟨l3, l4⟩ := lnW_le _ l2
  have hty := ty_le t n p
  have hn := hT.1
  have hen := en_le (t := t) hpn
  have key : Wp (fX7_isWord fu c k M) (fun v => v = bI (kwP t n p (cwN k))) := by
    unfold fX7_isWord fX7_isWord_j23
    rw [x1, x2, x3, l1]
    by_cases c0 : tyT t n p = 0
    · have hg := en_gt (t := t) (n := n) (p := p) (by omega)
      rw [if_pos (show nI (tyT t n p) = (0 : Int32) by rw [c0]; rfl), zi_sub (by omega)]
      by_cases c1 : enT t n p - stT t n p = lnW (cwN k)
      · rw [if_pos (show Int32.ofNat (lnW (cwN k)) = nI (enT t n p - stT t n p) by rw [c1]; rfl)]
        unfold fX7_isWord_l27
        refine lp_ho (fun i z => z = nI i ∧ ∀ j, j < i → t (stT t n p + j) = chW (cwN k) j) _ (lnW (cwN k)) (i := 0) (by omega) (by omega) ⟨rfl, fun j hj => absurd hj (by omega)⟩ (fun i z hi hz rec hrec => ?_) (fun z hz rec => ?_)
        · obtain ⟨rfl, hz⟩ := hz
          have hch := cw_chr k hk i (by omega)
          have hcl := chW_lt _ l2 i (by omega)
          obtain ⟨u1, u2⟩ := hT.2.2 (stT t n p + i) (by omega)
          have c2 : ¬ Int32.ofNat (lnW (cwN k)) ≤ nI i := nI_ge (b := lnW (cwN k)) hi (by omega)
          unfold fX7_isWord_b27 fX7_isWord_j54
          rw [l1, if_neg c2, x2, nI_add, if_neg (nI_in (by omega) (by omega)), if_neg (nI_in hi (by omega)), ix_n (by omega), ix_n (by omega), u2, hch, lt_eq, nI_1]
          by_cases ce : t (stT t n p + i) = chW (cwN k) i
          · rw [if_pos (by rw [ce])]
            refine hrec _ ⟨rfl, fun j hj => ?_⟩
            by_cases ej : j = i
            · subst ej; exact ce
            · exact hz j (by omega)
          · rw [if_neg (fun z => ce ((nI_eq (by omega) (by omega)).mp z)), wp_some, bI_f]
            · rfl
            · intro z
              have := smN_nz.mp z.2.2 i hi
              rw [if_neg ce] at this
              omega
        · obtain ⟨rfl, hz⟩ := hz
          unfold fX7_isWord_b27 fX7_isWord_j62
          rw [l1, if_pos (show Int32.ofNat (lnW (cwN k)) ≤ nI (lnW (cwN k)) from Int32.le_refl _), wp_some, bI_t]
          · rfl
          · exact ⟨c0, c1, smN_z fun j hj => if_pos (hz j hj)⟩
      · rw [if_neg (show ¬ Int32.ofNat (lnW (cwN k)) = nI (enT t n p - stT t n p) from fun z => c1 ((nI_eq (a := lnW (cwN k)) (b := enT t n p - stT t n p) (by omega) (by omega)).mp z).symm), wp_some, bI_f (fun z => c1 z.2.1)]
        rfl
    · rw [if_neg (show ¬ nI (tyT t n p) = (0 : Int32) from nI_ne0 (by omega) (by omega)), wp_some, bI_f (fun z => c0 z.1)]
      rfl
  obtain ⟨v, e, rfl⟩ := key
  exact e
theorem kiT_le (t : Nat → Nat) (n p : Nat) : kiT t n p ≤ 5 := by
  unfold kiT
  split
  · omega
  split
  · omega
  split
  · omega
  split
  · omega
  split <;> omega
theorem kiT_iff {t : Nat → Nat} {n p k : Nat} (hk : k < 5) : kiT t n p = k ↔ kwP t n p k := by
  have un : ∀ w, w < 5 → kwP t n p w → kwP t n p k → w = k := fun w hw h1 h2 => mt_un (by omega) (by omega) h1.2 h2.2
  unfold kiT
  by_cases c0 : kwP t n p 0
  · rw [if_pos c0]
    exact ⟨fun z => z ▸ c0, fun z => un 0 (by omega) c0 z⟩
  rw [if_neg c0]
  by_cases c1 : kwP t n p 1
  · rw [if_pos c1]
    exact ⟨fun z => z ▸ c1, fun z => un 1 (by omega) c1 z⟩
  rw [if_neg c1]
  by_cases c2 : kwP t n p 2
  · rw [if_pos c2]
    exact ⟨fun z => z ▸ c2, fun z => un 2 (by omega) c2 z⟩
  rw [if_neg c2]
  by_cases c3 : kwP t n p 3
  · rw [if_pos c3]
    exact ⟨fun z => z ▸ c3, fun z => un 3 (by omega) c3 z⟩
  rw [if_neg c3]
  by_cases c4 : kwP t n p 4
  · rw [if_pos c4]
    exact ⟨fun z => z ▸ c4, fun z => un 4 (by omega) c4 z⟩
  rw [if_neg c4]
  refine ⟨fun z => by omega, fun z => ?_⟩
  have : k = 0 ∨ k = 1 ∨ k = 2 ∨ k = 3 ∨ k = 4 := by omega
  rcases this with rfl | rfl | rfl | rfl | rfl
  · exact absurd z c0
  · exact absurd z c1
  · exact absurd z c2
  · exact absurd z c3
  · exact absurd z c4
/-- a kind as it is told: -1 for none -/
def kiI (t : Nat → Nat) (n p : Nat) : Int32 := if kiT t n p = 5 then mI else nI (kiT t n p)
theorem X7_kindHere (hfu : 200000 ≤ fu) (hT : TpX t n M c) (hpn : p ≤ n) (hX : TX t n p M c) : fX7_kindHere fu c M = some (kiI t n p) := by
  have w : ∀ k, k < 12 → fX7_isWord fu c k M = some (bI (kwP t n p (cwN k))) := fun k hk => X7_isWord hfu hT hpn hX hk
  have w3 := w 3 (by omega)
  have w4 := w 4 (by omega)
  have w5 := w 5 (by omega)
  have w6 := w 6 (by omega)
  have w7 := w 7 (by omega)
  have q3 : fX7_isWord fu c 3 M = some (bI (kwP t n p 0)) := w3
  have q4 : fX7_isWord fu c 4 M = some (bI (kwP t n p 1)) := w4
  have q5 : fX7_isWord fu c 5 M = some (bI (kwP t n p 2)) := w5
  have q6 : fX7_isWord fu c 6 M = some (bI (kwP t n p 3)) := w6
  have q7 : fX7_isWord fu c 7 M = some (bI (kwP t n p 4)) := w7
  unfold fX7_kindHere fX7_kindHere_j58 kiI kiT
  rw [q3, bi_s, q4, bi_s, q5, bi_s, q6, bi_s, q7, bi_s]
  by_cases c0 : kwP t n p 0
  · rw [bI_t c0, if_neg (by decide), if_pos c0]
    rfl
  rw [bI_f c0, if_pos (by decide), if_neg c0]
  by_cases c1 : kwP t n p 1
  · rw [bI_t c1, if_neg (by decide), if_pos c1]
    rfl
  rw [bI_f c1, if_pos (by decide), if_neg c1]
  by_cases c2 : kwP t n p 2
  · rw [bI_t c2, if_neg (by decide), if_pos c2]
    rfl
  rw [bI_f c2, if_pos (by decide), if_neg c2]
  by_cases c3 : kwP t n p 3
  · rw [bI_t c3, if_neg (by decide), if_pos c3]
    rfl
  rw [bI_f c3, if_pos (by decide), if_neg c3]
  by_cases c4 : kwP t n p 4
  · rw [bI_t c4, if_neg (by decide), if_pos c4]
    rfl
  rw [bI_f c4, if_pos (by decide), if_neg c4]
  rfl
end WC
-- the reference
def sB (v : Nat) : Int32 := (nI v).toInt8.toInt32
theorem sb_lo : ∀ v, v < 128 → sB v = nI v := by decide +kernel
theorem sb_hi : ∀ v, v < 128 → sB (v + 128) < 0 := by decide +kernel
theorem sb_eq {v k : Nat} (hv : v < 256) (hk : k < 128) : sB v = nI k ↔ v = k := by
  by_cases h : v < 128
  · rw [sb_lo v h]
    exact nI_eq (by omega) (by omega)
  · have h1 := sb_hi (v - 128) (by omega)
    rw [show v - 128 + 128 = v by omega] at h1
    constructor
    · intro z
      rw [z] at h1
      exact absurd h1 (nI_pos (by omega))
    · intro z
      omega
theorem X11_let {fu v : Nat} (hv : v < 256) : fX11_isLetter fu (sB v) = some (bI (ltr v)) := by
  have n17 : ∀ x : Int32, x = 0 ∨ x = 1 → fX11_isLetter_j17 fu x = some x := fun x hx => by
    unfold fX11_isLetter_j17
    show (if _ then some x else none) = _
    rw [if_pos hx]
  have n16 : fX11_isLetter_j16 fu = some (nI 0) := n17 0 (Or.inl rfl)
  unfold fX11_isLetter
  rw [n16, n17 1 (Or.inr rfl)]
  by_cases h : v < 128
  · rw [sb_lo v h]
    by_cases c1 : v < 97
    · have : nI v < (97 : Int32) := nI_lt (b := 97) c1 (by omega)
      rw [if_pos this, bI_f (by omega)]
    · have h1 : ¬ nI v < (97 : Int32) := nI_nlt (b := 97) (by omega) (by omega)
      rw [if_neg h1]
      by_cases c2 : 122 < v
      · have : (122 : Int32) < nI v := nI_lt (a := 122) c2 (by omega)
        rw [if_pos this, bI_f (by omega)]
      · have : ¬ (122 : Int32) < nI v := nI_nlt (a := 122) (by omega) (by omega)
        rw [if_neg this, bI_t (by omega)]
        rfl
  · have h1 := sb_hi (v - 128) (by omega)
    rw [show v - 128 + 128 = v by omega] at h1
    have h2 : sB v < (97 : Int32) := neg_lt h1 (a := 97) (by omega)
    rw [if_pos h2, bI_f (by omega)]
theorem X11_dig {fu v : Nat} (hv : v < 256) : fX11_isDigit fu (sB v) = some (bI (dgt v)) := by
  have n17 : ∀ x : Int32, x = 0 ∨ x = 1 → fX11_isDigit_j17 fu x = some x := fun x hx => by
    unfold fX11_isDigit_j17
    show (if _ then some x else none) = _
    rw [if_pos hx]
  have n16 : fX11_isDigit_j16 fu = some (nI 0) := n17 0 (Or.inl rfl)
  unfold fX11_isDigit
  rw [n16, n17 1 (Or.inr rfl)]
  by_cases h : v < 128
  · rw [sb_lo v h]
    by_cases c1 : v < 48
    · have : nI v < (48 : Int32) := nI_lt (b := 48) c1 (by omega)
      rw [if_pos this, bI_f (by omega)]
    · have h1 : ¬ nI v < (48 : Int32) := nI_nlt (b := 48) (by omega) (by omega)
      rw [if_neg h1]
      by_cases c2 : 57 < v
      · have : (57 : Int32) < nI v := nI_lt (a := 57) c2 (by omega)
        rw [if_pos this, bI_f (by omega)]
      · have : ¬ (57 : Int32) < nI v := nI_nlt (a := 57) (by omega) (by omega)
        rw [if_neg this, bI_t (by omega)]
        rfl
  · have h1 := sb_hi (v - 128) (by omega)
    rw [show v - 128 + 128 = v by omega] at h1
    have h2 : sB v < (48 : Int32) := neg_lt h1 (a := 48) (by omega)
    rw [if_pos h2, bI_f (by omega)]
theorem X11_let0 {fu : Nat} : fX11_isLetter fu 0 = some (nI 0) := by
  have := X11_let (fu := fu) (v := 0) (by omega)
  rw [bI_f (by omega), sb_lo 0 (by omega)] at this
  exact this
theorem X11_dig0 {fu : Nat} : fX11_isDigit fu 0 = some (nI 0) := by
  have := X11_dig (fu := fu) (v := 0) (by omega)
  rw [bI_f (by omega), sb_lo 0 (by omega)] at this
  exact this
def ofW (w : Nat) : Nat := [0, 5, 10, 15, 20, 25, 31, 41, 49, 55, 60, 64, 69].getD w 0
def ltA : List Nat := [110, 111, 110, 101, 32, 99, 111, 109, 98, 32, 116, 104, 114, 117, 32, 112, 114, 111, 116, 32, 98, 97, 99, 107, 32, 115, 112, 97, 99, 101, 32, 114, 101, 103, 105, 115, 116, 101, 114, 115, 32, 100, 101, 102, 97, 117, 108, 116, 32, 102, 105, 120, 101, 100, 32, 115, 112, 97, 110, 32, 114, 101, 103, 32, 112, 97, 103, 101, 32]
theorem of_ok : ∀ w, w < 12 → ofW (w + 1) = ofW w + lnW w + 1 ∧ ofW w + lnW w < 69 ∧ ltA.getD (ofW w + lnW w) 0 = 32 := by decide
theorem of_ch : ∀ w, w < 12 → ∀ j, j < 9 → j < lnW w → ltA.getD (ofW w + j) 0 = chW w j ∧ ¬ ltA.getD (ofW w + j) 0 = 32 := by decide
theorem lt_lt : ∀ j, j < 69 → ltA.getD j 0 < 128 := by decide
/-- the tape, and the letters, at the reference -/
def TpM (t : Nat → Nat) (n : Nat) (M : Mm) (m : Nat) : Prop := n ≤ 800 ∧ M.1 m 8 = nI n ∧ (∀ j, j < n → t j < 256 ∧ M.1 (m + 6) j = sB (t j)) ∧ ∀ j, j < 69 → M.1 (m + 7) j = nI (ltA.getD j 0)
def FM (m : Nat) (M M' : Mm) : Prop := (∀ c, c ≠ m → M'.1 c = M.1 c) ∧ (∀ j, j ≠ 9 → j ≠ 10 → j ≠ 11 → j ≠ 12 → j ≠ 13 → M'.1 m j = M.1 m j) ∧ M'.2 = M.2
theorem FM.rf (m : Nat) (M : Mm) : FM m M M := ⟨fun _ _ => rfl, fun _ _ _ _ _ _ => rfl, rfl⟩
theorem FM.tr {m : Nat} {M M' M'' : Mm} (h : FM m M M') (h' : FM m M' M'') : FM m M M'' := ⟨fun x hx => (h'.1 x hx).trans (h.1 x hx), fun j a1 a2 a3 a4 a5 => (h'.2.1 j a1 a2 a3 a4 a5).trans (h.2.1 j a1 a2 a3 a4 a5), h'.2.2.trans h.2.2⟩
theorem FM.w {m : Nat} (M : Mm) {j : Nat} (v : Int32) (hj : j = 9 ∨ j = 10 ∨ j = 11 ∨ j = 12 ∨ j = 13) : FM m M (wI M m j v) := ⟨fun c' hc => wI_ne hc, fun i _ _ _ _ _ => wI_nk (by omega), rfl⟩
theorem TpM.fm {t : Nat → Nat} {n m : Nat} {M M' : Mm} (h : TpM t n M m) (hf : FM m M M') : TpM t n M' m := ⟨h.1, by rw [hf.2.1 8 (by omega) (by omega) (by omega) (by omega) (by omega)]; exact h.2.1, fun j hj => by rw [hf.1 (m + 6) (by omega)]; exact h.2.2.1 j hj, fun j hj => by rw [hf.1 (m + 7) (by omega)]; exact h.2.2.2 j hj⟩
def tkC (y : Nat) : Nat := if y = 0 then 2 else if y = 1 then 3 else if y = 2 then 4 else if y = 3 then 1 else 0
def WdR (x : Int32) (t : Nat → Nat) (q e w : Nat) : Prop := (∃ w', w' < w ∧ mtP t q e w' ∧ x = nI w') ∨ ((∀ w', w' < w → ¬ mtP t q e w') ∧ x = mI)
/-- the token at p is the one that stands -/
def TM (t : Nat → Nat) (n p : Nat) (M : Mm) (m : Nat) : Prop := M.1 m 9 = nI (enT t n p) ∧ M.1 m 10 = nI (stT t n p) ∧ M.1 m 11 = nI (tkC (tyT t n p)) ∧ (tyT t n p = 1 → NmR (M.1 m 12) (vaT t n p)) ∧ (tyT t n p = 0 → WdR (M.1 m 13) t (stT t n p) (enT t n p) 12)
section WM
variable {fu m n p : Nat} {t : Nat → Nat} {M : Mm}
theorem X11_signAt (hT : TpM t n M m) {k : Nat} (hk : k < 2 ^ 31) : fX11_signAt fu m (nI k) M = some (if k < n then sB (t k) else 0) := by
  have h800 := hT.1
  unfold fX11_signAt fX11_signAt_j18
  rw [hT.2.1]
  by_cases c : k < n
  · rw [if_neg (nI_ge c (by omega)), if_neg (nI_in (by omega) (by omega)), ix_n hk, (hT.2.2.1 k c).2, if_pos c]
  · rw [if_pos (nI_le (by omega) hk), if_neg c]
theorem X11_isBlank (hT : TpM t n M m) {k : Nat} (hk : k < 2 ^ 31) : fX11_isBlank fu m (nI k) M = some (bI (k < n ∧ blk (t k))) := by
  have h800 := hT.1
  have n35 : ∀ x : Int32, x = 0 ∨ x = 1 → fX11_isBlank_j35 fu x M = some x := fun x hx => by
    unfold fX11_isBlank_j35
    show (if _ then some x else none) = _
    rw [if_pos hx]
  have n34 : fX11_isBlank_j34 fu M = some (nI 0) := n35 0 (Or.inl rfl)
  have n30 : fX11_isBlank_j30 fu M = some (nI 1) := n35 1 (Or.inr rfl)
  unfold fX11_isBlank
  rw [hT.2.1, n34, n30]
  by_cases c : k < n
  · obtain ⟨u1, u2⟩ := hT.2.2.1 k c
    have e32 := sb_eq (k := 32) u1 (by omega)
    have e10 := sb_eq (k := 10) u1 (by omega)
    rw [if_neg (nI_ge c (by omega)), if_neg (nI_in (by omega) (by omega)), ix_n hk, u2]
    by_cases c1 : t k = 32
    · rw [if_pos (show sB (t k) = (32 : Int32) from e32.mpr c1), bI_t ⟨c, Or.inl c1⟩]
    · rw [if_neg (show ¬ sB (t k) = (32 : Int32) from fun z => c1 (e32.mp z))]
      by_cases c2 : t k = 10
      · rw [if_pos (show sB (t k) = (10 : Int32) from e10.mpr c2), bI_t ⟨c, Or.inr c2⟩]
      · rw [if_neg (show ¬ sB (t k) = (10 : Int32) from fun z => c2 (e10.mp z)), bI_f (fun z => z.2.elim c1 c2)]
  · rw [if_pos (nI_le (by omega) hk), bI_f (fun z => c z.1)]
theorem X11_isSame (hfu : 200000 ≤ fu) (hT : TpM t n M m) {q e w : Nat} (hq : M.1 m 10 = nI q) (he : M.1 m 9 = nI e) (hqe : q ≤ e) (hen : e ≤ n) (hw : w < 12) : fX11_isSame fu m (nI (ofW w)) (nI (ofW w + lnW w)) M = some (bI (mtP t q e w)) := by
  have h800 := hT.1
  obtain ⟨o1, o2, o3⟩ := of_ok w hw
  obtain ⟨l3, l4⟩ := lnW_le w hw
  have key : Wp (fX11_isSame fu m (nI (ofW w)) (nI (ofW w + lnW w)) M) (fun v => v = bI (mtP t q e w)) := by
    unfold fX11_isSame
    rw [zi_sub (by omega), Nat.add_sub_cancel_left, hq, he, zi_sub hqe]
    by_cases c1 : e - q = lnW w
    · rw [if_pos (by rw [c1])]
      unfold fX11_isSame_l19
      refine lp_ho (fun i z => z = nI i ∧ ∀ j, j < i → t (q + j) = chW w j) _ (lnW w) (i := 0) (by omega) (by omega) ⟨rfl, fun j hj => absurd hj (by omega)⟩ (fun i z hi hz rec hrec => ?_) (fun z hz rec => ?_)
      · obtain ⟨rfl, hz⟩ := hz
        obtain ⟨h1, _⟩ := of_ch w hw i (by omega) hi
        have hcl := chW_lt w hw i (by omega)
        obtain ⟨u1, u2⟩ := hT.2.2.1 (q + i) (by omega)
        have se := sb_eq (v := t (q + i)) (k := chW w i) u1 (by omega)
        unfold fX11_isSame_b19 fX11_isSame_j48
        rw [zi_sub (show ofW w ≤ ofW w + lnW w by omega), Nat.add_sub_cancel_left, if_neg (nI_ge hi (by omega)), nI_add, if_neg (nI_in (by omega) (by omega)), hq, nI_add, if_neg (nI_in (by omega) (by omega)), ix_n (by omega), ix_n (by omega), hT.2.2.2 _ (by omega), h1, u2, lt_eq, nI_1]
        by_cases ce : t (q + i) = chW w i
        · rw [if_pos (se.mpr ce).symm]
          refine hrec _ ⟨rfl, fun j hj => ?_⟩
          by_cases ej : j = i
          · subst ej; exact ce
          · exact hz j (by omega)
        · rw [if_neg (fun z => ce (se.mp z.symm)), wp_some, bI_f]
          · rfl
          · intro z
            have := smN_nz.mp z.2 i hi
            rw [if_neg ce] at this
            omega
      · obtain ⟨rfl, hz⟩ := hz
        unfold fX11_isSame_b19 fX11_isSame_j56
        rw [zi_sub (show ofW w ≤ ofW w + lnW w by omega), Nat.add_sub_cancel_left, if_pos (Int32.le_refl _), wp_some, bI_t]
        · rfl
        · exact ⟨c1, smN_z fun j hj => if_pos (hz j hj)⟩
    · rw [if_neg (fun z => c1 ((nI_eq (by omega) (by omega)).mp z).symm), wp_some, bI_f (fun z => c1 z.1)]
      rfl
  obtain ⟨v, e', rfl⟩ := key
  exact e'
theorem X11_words (hfu : 200000 ≤ fu) (hT : TpM t n M m) {q e : Nat} (hq : M.1 m 10 = nI q) (he : M.1 m 9 = nI e) (hqe : q ≤ e) (hen : e ≤ n) : Wp (fX11_scanWord_j40 fu m M) (fun M' => WdR (M'.1 m 13) t q e 12 ∧ (∀ j, j ≠ 13 → M'.1 m j = M.1 m j) ∧ FM m M M') := by
  have h800 := hT.1
  unfold fX11_scanWord_j40 fX11_scanWord_l49
  rw [lt_eq]
  refine lp_ho (fun w z => z.1 = nI (ofW w) ∧ z.2.1 = nI w ∧ WdR (z.2.2.1 m 13) t q e w ∧ (∀ j, j ≠ 13 → z.2.2.1 m j = M.1 m j) ∧ FM m M z.2.2) _ 12 (i := 0) (by omega) (by omega) ⟨rfl, rfl, Or.inr ⟨fun w' hw' => absurd hw' (by omega), wI_eq⟩, fun j hj => wI_nk hj, FM.w M _ (by omega)⟩ (fun w z hw hz rec hrec => ?_) (fun z hz rec => ?_)
  · obtain ⟨z0, z1, z2⟩ := z
    obtain ⟨rfl, rfl, g1, g2, g3⟩ := hz
    dsimp only at *
    have Tz := hT.fm g3
    obtain ⟨o1, o2, o3⟩ := of_ok w hw
    obtain ⟨l3, l4⟩ := lnW_le w hw
    have c12 : ¬ (12 : Int32) ≤ nI w := nI_ge (b := 12) hw (by omega)
    unfold fX11_scanWord_b49 fX11_scanWord_l57
    rw [if_neg c12]
    refine lp_ho (fun i y => y = nI (ofW w + i)) _ (lnW w) (i := 0) (by omega) (by omega) rfl (fun i y hi hy rec2 hrec2 => ?_) (fun y hy rec2 => ?_)
    · subst hy
      obtain ⟨h1, h2⟩ := of_ch w hw i (by omega) hi
      have hl := lt_lt (ofW w + i) (by omega)
      unfold fX11_scanWord_b57
      rw [if_neg (nI_in (by omega) (by omega)), ix_n (by omega), Tz.2.2.2 _ (by omega), if_neg (show ¬ nI (ltA.getD (ofW w + i) 0) = (32 : Int32) from fun z => h2 ((nI_eq (a := ltA.getD (ofW w + i) 0) (b := 32) (by omega) (by omega)).mp z)), lt_eq, nI_1]
      exact hrec2 _ rfl
    · subst hy
      unfold fX11_scanWord_b57 fX11_scanWord_j74 fX11_scanWord_j88
      rw [if_neg (nI_in (by omega) (by omega)), ix_n (by omega), Tz.2.2.2 _ (by omega), o3, if_pos (show nI 32 = (32 : Int32) from rfl), X11_isSame hfu Tz (by rw [g2 10 (by omega)]; exact hq) (by rw [g2 9 (by omega)]; exact he) hqe hen hw, bi_s, lt_eq, lt_eq, nI_1, nI_1, ← o1]
      by_cases cm : mtP t q e w
      · rw [bI_t cm, if_neg (by decide), lt_eq, lt_eq]
        exact hrec _ ⟨rfl, rfl, Or.inl ⟨w, by omega, cm, wI_eq⟩, fun j hj => by rw [wI_nk hj]; exact g2 j hj, g3.tr (FM.w _ _ (by omega))⟩
      · rw [bI_f cm, if_pos (by decide)]
        refine hrec _ ⟨rfl, rfl, ?_, g2, g3⟩
        rcases g1 with ⟨w', k1, k2, k3⟩ | ⟨k1, k2⟩
        · exact Or.inl ⟨w', by omega, k2, k3⟩
        · refine Or.inr ⟨fun w' hw' => ?_, k2⟩
          by_cases e : w' = w
          · subst e; exact cm
          · exact k1 w' (by omega)
  · obtain ⟨z0, z1, z2⟩ := z
    obtain ⟨rfl, rfl, g1, g2, g3⟩ := hz
    dsimp only at *
    unfold fX11_scanWord_b49 fX11_scanWord_j98
    rw [if_pos (show (12 : Int32) ≤ nI 12 from Int32.le_refl _), wp_some]
    exact ⟨g1, g2, g3⟩
end WM
