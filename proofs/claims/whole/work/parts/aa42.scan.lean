/-! The reference's scanner, and what it asks of a token. -/
section SC
variable {fu m n p : Nat} {t : Nat → Nat} {M : Mm}
theorem X11_scan (hfu : 200000 ≤ fu) (hT : TpM t n M m) (hp : M.1 m 9 = nI p) (hpn : p ≤ n) : Wp (fX11_scan fu m M) (fun M' => TM t n p M' m ∧ FM m M M') := by
  obtain ⟨h800, hlen, htp, hlt⟩ := id hT
  obtain ⟨s1, s2, s3, s4⟩ : p ≤ stT t n p ∧ (∀ j, p ≤ j → j < stT t n p → j < n ∧ blk (t j)) ∧ ¬ (stT t n p < n ∧ blk (t (stT t n p))) ∧ (p ≤ n → stT t n p ≤ n) := rnE_ok (fun j => blk (t j)) n p
  have s5 := s4 hpn
  unfold fX11_scan fX11_scan_l8
  rw [hp, lt_eq]
  refine lp_ho (fun k z => z.1 m 10 = nI (p + k) ∧ FM m M z) _ (stT t n p - p) (i := 0) (by omega) (by omega) ⟨wI_eq, FM.w M _ (by omega)⟩ (fun k z hk hz rec hrec => ?_) (fun z hz rec => ?_)
  · obtain ⟨g1, g2⟩ := hz
    have Tz := hT.fm g2
    have b := s2 (p + k) (by omega) (by omega)
    unfold fX11_scan_b8
    rw [g1, X11_isBlank Tz (by omega), bi_s, bI_t b, if_neg (by decide), nI_1, lt_eq]
    exact hrec _ ⟨by rw [wI_eq]; rfl, g2.tr (FM.w _ _ (by omega))⟩
  · obtain ⟨g1, g2⟩ := hz
    have Tz := hT.fm g2
    rw [show p + (stT t n p - p) = stT t n p by omega] at g1
    unfold fX11_scan_b8
    rw [g1, X11_isBlank Tz (by omega), bi_s, bI_f s3, if_pos (by decide)]
    unfold fX11_scan_j32
    rw [g1, nI_1, lt_eq]
    generalize hM2 : wI z m 9 (nI (stT t n p + 1)) = M2
    have F2 : FM m M M2 := by rw [← hM2]; exact g2.tr (FM.w _ _ (by omega))
    have e9 : M2.1 m 9 = nI (stT t n p + 1) := by rw [← hM2, wI_eq]
    have e10 : M2.1 m 10 = nI (stT t n p) := by rw [← hM2, wI_nk (by omega)]; exact g1
    clear hM2
    have T2 := hT.fm F2
    rw [e10, X11_signAt T2 (by omega), bi_s, T2.2.1]
    by_cases cn : n ≤ stT t n p
    · have ht : tyT t n p = 4 := if_pos cn
      have he : enT t n p = stT t n p := if_pos ht
      rw [if_neg (show ¬ nI (stT t n p) < nI n from nI_nlt cn (by omega)), lt_eq, lt_eq]
      unfold fX11_scan_j121
      rw [wp_some]
      refine ⟨⟨by rw [wI_nk (by omega), wI_eq, he], by rw [wI_nk (by omega), wI_nk (by omega)]; exact e10, by rw [wI_eq, ht]; rfl, fun z => by omega, fun z => by omega⟩, (F2.tr (FM.w _ _ (by omega))).tr (FM.w _ _ (by omega))⟩
    have hq : stT t n p < n := by omega
    obtain ⟨v1, v2⟩ := T2.2.2.1 _ hq
    rw [if_pos (nI_lt hq (by omega)), if_pos hq, X11_let v1, bi_s]
    by_cases cl : ltr (t (stT t n p))
    · have ht : tyT t n p = 0 := by
        unfold tyT
        rw [if_neg cn, if_pos cl]
      have he : enT t n p = rnE (fun j => ltr (t j)) n (stT t n p) := by
        unfold enT
        rw [if_neg (by omega), if_pos ht]
      obtain ⟨w1, w2, w3, w4⟩ := rnE_ok (fun j => ltr (t j)) n (stT t n p)
      have w5 := w4 (by omega)
      rw [← he] at w1 w2 w3 w5
      rw [bI_t cl, if_neg (by decide), wp_bm]
      unfold fX11_scanWord fX11_scanWord_l13
      rw [lt_eq, lt_eq, wI_nk (by omega), e10]
      refine lp_ho (fun k y => y.1 m 9 = nI (stT t n p + k) ∧ y.1 m 10 = nI (stT t n p) ∧ y.1 m 11 = nI 2 ∧ FM m M y) _ (enT t n p - stT t n p) (i := 0) (by omega) (by omega) ⟨wI_eq, by rw [wI_nk (by omega), wI_nk (by omega)]; exact e10, by rw [wI_nk (by omega), wI_eq]; rfl, (F2.tr (FM.w _ _ (by omega))).tr (FM.w _ _ (by omega))⟩ (fun k y hk hy rec2 hrec2 => ?_) (fun y hy rec2 => ?_)
      · obtain ⟨k1, k2, k3, k4⟩ := hy
        have Ty := hT.fm k4
        obtain ⟨b1, b2⟩ := w2 (stT t n p + k) (by omega) (by omega)
        obtain ⟨u1, u2⟩ := Ty.2.2.1 _ b1
        unfold fX11_scanWord_b13
        rw [k1, X11_signAt Ty (by omega), bi_s, if_pos b1, X11_let u1, bi_s, bI_t b2, if_neg (by decide), nI_1, lt_eq]
        exact hrec2 _ ⟨by rw [wI_eq]; rfl, by rw [wI_nk (by omega)]; exact k2, by rw [wI_nk (by omega)]; exact k3, k4.tr (FM.w _ _ (by omega))⟩
      · obtain ⟨k1, k2, k3, k4⟩ := hy
        have Ty := hT.fm k4
        rw [show stT t n p + (enT t n p - stT t n p) = enT t n p by omega] at k1
        have fin : Wp (fX11_scanWord_j40 fu m y) (fun M' => Wp (fX11_scan_j121 fu M') (fun M' => TM t n p M' m ∧ FM m M M')) := by
          refine (X11_words hfu Ty k2 k1 w1 w5).mono fun M5 q => ?_
          obtain ⟨q1, q2, q3⟩ := q
          unfold fX11_scan_j121
          rw [wp_some]
          refine ⟨⟨by rw [q2 9 (by omega)]; exact k1, by rw [q2 10 (by omega)]; exact k2, by rw [q2 11 (by omega), ht]; exact k3, fun z => by omega, fun _ => q1⟩, k4.tr q3⟩
        unfold fX11_scanWord_b13
        rw [k1, X11_signAt Ty (by omega), bi_s]
        by_cases ce : enT t n p < n
        · obtain ⟨u1, u2⟩ := Ty.2.2.1 _ ce
          rw [if_pos ce, X11_let u1, bi_s, bI_f (fun z => w3 ⟨ce, z⟩), if_pos (by decide)]
          exact fin
        · rw [if_neg ce, X11_let0, bi_s, if_pos (by decide)]
          exact fin
    rw [bI_f cl, if_pos (by decide), X11_dig v1, bi_s]
    by_cases cd : dgt (t (stT t n p))
    · have ht : tyT t n p = 1 := by
        unfold tyT
        rw [if_neg cn, if_neg cl, if_pos cd]
      have he : enT t n p = rnE (fun j => dgt (t j)) n (stT t n p) := by
        unfold enT
        rw [if_neg (by omega), if_neg (by omega), if_pos ht]
      obtain ⟨w1, w2, w3, w4⟩ := rnE_ok (fun j => dgt (t j)) n (stT t n p)
      have w5 := w4 (by omega)
      rw [← he] at w1 w2 w3 w5
      rw [bI_t cd, if_neg (by decide), wp_bm]
      unfold fX11_scanNumber fX11_scanNumber_l18
      rw [lt_eq, lt_eq, lt_eq, wI_nk (by omega), wI_nk (by omega), e10]
      refine lp_ho (fun k y => y.1 m 9 = nI (stT t n p + k) ∧ y.1 m 10 = nI (stT t n p) ∧ y.1 m 11 = nI 3 ∧ ((vaN t (stT t n p) k ≤ 99999 ∧ y.1 m 12 = nI (vaN t (stT t n p) k)) ∨ (99999 < vaN t (stT t n p) k ∧ ∃ x : Nat, 99999 < x ∧ x ≤ 999999 ∧ y.1 m 12 = nI x)) ∧ FM m M y) _ (enT t n p - stT t n p) (i := 0) (by omega) (by omega) ⟨wI_eq, by rw [wI_nk (by omega), wI_nk (by omega), wI_nk (by omega)]; exact e10, by rw [wI_nk (by omega), wI_nk (by omega), wI_eq]; rfl, Or.inl ⟨Nat.zero_le _, by rw [wI_nk (by omega), wI_eq]; rfl⟩, ((F2.tr (FM.w _ _ (by omega))).tr (FM.w _ _ (by omega))).tr (FM.w _ _ (by omega))⟩ (fun k y hk hy rec2 hrec2 => ?_) (fun y hy rec2 => ?_)
      · obtain ⟨k1, k2, k3, k5, k4⟩ := hy
        have Ty := hT.fm k4
        obtain ⟨b1, b2⟩ := w2 (stT t n p + k) (by omega) (by omega)
        obtain ⟨u1, u2⟩ := Ty.2.2.1 _ b1
        have ev : vaN t (stT t n p) (k + 1) = vaN t (stT t n p) k * 10 + (t (stT t n p + k) - 48) := rfl
        have go : ∀ v : Nat, ((vaN t (stT t n p) (k + 1) ≤ 99999 ∧ v = vaN t (stT t n p) (k + 1)) ∨ (99999 < vaN t (stT t n p) (k + 1) ∧ 99999 < v ∧ v ≤ 999999)) → Wp (fX11_scanNumber_j68 fu (fun M => rec2 M) m m (nI v) y) (fun M' => Wp (fX11_scan_j121 fu M') (fun M' => TM t n p M' m ∧ FM m M M')) := fun v hv => by
          unfold fX11_scanNumber_j68
          rw [lt_eq, wI_nk (by omega), k1, nI_1, lt_eq]
          refine hrec2 _ ⟨by rw [wI_eq]; rfl, by rw [wI_nk (by omega), wI_nk (by omega)]; exact k2, by rw [wI_nk (by omega), wI_nk (by omega)]; exact k3, ?_, (k4.tr (FM.w _ _ (by omega))).tr (FM.w _ _ (by omega))⟩
          rw [wI_nk (by omega), wI_eq]
          rcases hv with ⟨h1, h2⟩ | ⟨h1, h2, h3⟩
          · exact Or.inl ⟨h1, by rw [h2]⟩
          · exact Or.inr ⟨h1, v, h2, h3, rfl⟩
        unfold fX11_scanNumber_b18
        rw [k1, X11_signAt Ty (by omega), bi_s, if_pos b1, X11_dig u1, bi_s, bI_t b2, if_neg (by decide), bi_s, sb_lo _ (by omega)]
        rcases k5 with ⟨h1, h2⟩ | ⟨h1, x, h2, h3, h4⟩
        · have c9 : nI (vaN t (stT t n p) k) ≤ (99999 : Int32) := nI_le (b := 99999) h1 (by omega)
          have en : (10 : Int32) * nI (vaN t (stT t n p) k) + nI (t (stT t n p + k)) - 48 = nI (vaN t (stT t n p) (k + 1)) := by
            rw [show (10 : Int32) * nI (vaN t (stT t n p) k) = nI (10 * vaN t (stT t n p) k) from zi_mul 10 _, nI_add]
            have := zi_sub (a := 10 * vaN t (stT t n p) k + t (stT t n p + k)) (b := 48) (by omega)
            rw [show 10 * vaN t (stT t n p) k + t (stT t n p + k) - 48 = vaN t (stT t n p) (k + 1) by omega] at this
            exact this
          rw [h2, if_pos c9, en]
          refine go _ ?_
          by_cases cv : vaN t (stT t n p) (k + 1) ≤ 99999
          · exact Or.inl ⟨cv, rfl⟩
          · exact Or.inr ⟨by omega, by omega, by omega⟩
        · have c9 : ¬ nI x ≤ (99999 : Int32) := nI_ge (a := 99999) h2 (by omega)
          rw [h4, if_neg c9]
          exact go x (Or.inr ⟨by omega, h2, h3⟩)
      · obtain ⟨k1, k2, k3, k5, k4⟩ := hy
        have Ty := hT.fm k4
        rw [show stT t n p + (enT t n p - stT t n p) = enT t n p by omega] at k1
        have fin : Wp (fX11_scanNumber_j84 fu y) (fun M' => Wp (fX11_scan_j121 fu M') (fun M' => TM t n p M' m ∧ FM m M M')) := by
          unfold fX11_scanNumber_j84 fX11_scan_j121
          rw [wp_some, wp_some]
          refine ⟨⟨k1, k2, by rw [ht]; exact k3, fun _ => ?_, fun z => by omega⟩, k4⟩
          have e9 : vaN t (stT t n p) (enT t n p - stT t n p) = vaT t n p := rfl
          rw [e9] at k5
          rcases k5 with ⟨h1, h2⟩ | ⟨h1, x, h2, h3, h4⟩
          · exact Or.inl ⟨h1, h2⟩
          · exact Or.inr ⟨h1, x, h2, by omega, h4⟩
        unfold fX11_scanNumber_b18
        rw [k1, X11_signAt Ty (by omega), bi_s]
        by_cases ce : enT t n p < n
        · obtain ⟨u1, u2⟩ := Ty.2.2.1 _ ce
          rw [if_pos ce, X11_dig u1, bi_s, bI_f (fun z => w3 ⟨ce, z⟩), if_pos (by decide)]
          exact fin
        · rw [if_neg ce, X11_dig0, bi_s, if_pos (by decide)]
          exact fin
    rw [bI_f cd, if_pos (by decide)]
    have last : ∀ v : Int32, v = nI (tkC (tyT t n p)) → (tyT t n p = 2 ∨ tyT t n p = 3) → Wp (fX11_scan_j118 fu m v M2) (fun M' => TM t n p M' m ∧ FM m M M') := fun v hv ht => by
      have he : enT t n p = stT t n p + 1 := by
        unfold enT
        rw [if_neg (by omega), if_neg (by omega), if_neg (by omega)]
      unfold fX11_scan_j118 fX11_scan_j121
      rw [lt_eq, wp_some]
      exact ⟨⟨by rw [wI_nk (by omega), e9, he], by rw [wI_nk (by omega)]; exact e10, by rw [wI_eq]; exact hv, fun z => by omega, fun z => by omega⟩, F2.tr (FM.w _ _ (by omega))⟩
    have e59 := sb_eq (k := 59) v1 (by omega)
    by_cases c59 : t (stT t n p) = 59
    · have ht : tyT t n p = 2 := by
        unfold tyT
        rw [if_neg cn, if_neg cl, if_neg cd, if_pos c59]
      rw [if_pos (show sB (t (stT t n p)) = (59 : Int32) from e59.mpr c59)]
      exact last 4 (by rw [ht]; rfl) (Or.inl ht)
    · have ht : tyT t n p = 3 := by
        unfold tyT
        rw [if_neg cn, if_neg cl, if_neg cd, if_neg c59]
      rw [if_neg (show ¬ sB (t (stT t n p)) = (59 : Int32) from fun z => c59 (e59.mp z))]
      exact last 1 (by rw [ht]; rfl) (Or.inr ht)
-- what is asked of a token, no fault yet
theorem X11_isWord (hX : TM t n p M m) (h0 : M.1 m 14 = nI 0) {w : Nat} (hw : w < 12) : fX11_isWord fu m (nI w) M = some (bI (kwP t n p w)) := by
  obtain ⟨x1, x2, x3, x4, x5⟩ := hX
  have hty := ty_le t n p
  have n28 : ∀ x : Int32, x = 0 ∨ x = 1 → fX11_isWord_j28 fu x M = some x := fun x hx => by
    unfold fX11_isWord_j28
    show (if _ then some x else none) = _
    rw [if_pos hx]
  have n27 : fX11_isWord_j27 fu M = some (nI 0) := n28 0 (Or.inl rfl)
  unfold fX11_isWord
  rw [h0, if_pos (show nI 0 = (0 : Int32) from rfl), x3, n27, n28 1 (Or.inr rfl)]
  by_cases c0 : tyT t n p = 0
  · have : nI (tkC (tyT t n p)) = (2 : Int32) := by rw [c0]; rfl
    rw [if_pos this]
    rcases x5 c0 with ⟨w', k1, k2, k3⟩ | ⟨k1, k2⟩
    · rw [k3]
      by_cases e : w' = w
      · subst e
        rw [if_pos rfl, bI_t ⟨c0, k2⟩]
        rfl
      · rw [if_neg (fun z => e ((nI_eq (by omega) (by omega)).mp z)), bI_f (fun z => e (mt_un k1 hw k2 z.2))]
    · rw [k2, if_neg (fun z => by rw [zi_m_eq (by omega)] at z; exact z), bI_f (fun z => k1 w hw z.2)]
  · have : ¬ nI (tkC (tyT t n p)) = (2 : Int32) := fun z => by
      have h1 : tkC (tyT t n p) ≤ 4 := by
        unfold tkC
        repeat' split
        all_goals omega
      have h2 := (nI_eq (a := tkC (tyT t n p)) (b := 2) (by omega) (by omega)).mp z
      unfold tkC at h2
      rw [if_neg c0] at h2
      repeat' split at h2
      all_goals omega
    rw [if_neg this, bI_f (fun z => c0 z.1)]
theorem X11_isKindWord (hX : TM t n p M m) (h0 : M.1 m 14 = nI 0) : fX11_isKindWord fu m M = some (bI (kiT t n p < 5)) ∧ (kiT t n p < 5 → M.1 m 13 = nI (kiT t n p)) := by
  obtain ⟨x1, x2, x3, x4, x5⟩ := hX
  have hty := ty_le t n p
  have hk5 := kiT_le t n p
  have n32 : ∀ x : Int32, x = 0 ∨ x = 1 → fX11_isKindWord_j32 fu x M = some x := fun x hx => by
    unfold fX11_isKindWord_j32
    show (if _ then some x else none) = _
    rw [if_pos hx]
  have n31 : fX11_isKindWord_j31 fu M = some (nI 0) := n32 0 (Or.inl rfl)
  unfold fX11_isKindWord
  rw [h0, if_pos (show nI 0 = (0 : Int32) from rfl), x3, n31, n32 1 (Or.inr rfl)]
  by_cases c0 : tyT t n p = 0
  · have : nI (tkC (tyT t n p)) = (2 : Int32) := by rw [c0]; rfl
    rw [if_pos this]
    show bi (fX11_isIn fu (M.1 m 13) (nI 0) (nI 4)) _ = _ ∧ _
    rw [X11_isIn, bi_s]
    rcases x5 c0 with ⟨w', k1, k2, k3⟩ | ⟨k1, k2⟩
    · rw [k3]
      by_cases e : w' < 5
      · have hk := (kiT_iff (t := t) (n := n) (p := p) e).mpr ⟨c0, k2⟩
        rw [bI_t (isIn_y (j := w') (by omega) rfl (by omega)), if_neg (by decide), hk, bI_t e]
        exact ⟨rfl, fun _ => rfl⟩
      · have hk : ¬ kiT t n p < 5 := fun z => by
          have := (kiT_iff (t := t) (n := n) (p := p) z).mp rfl
          have := mt_un (by omega) k1 this.2 k2
          omega
        rw [bI_f (fun z => by obtain ⟨j, hj, ej⟩ := (isIn_c (by omega)).mp z; have := (nI_eq (by omega) (by omega)).mp ej; omega), if_pos (by decide), bI_f hk]
        exact ⟨rfl, fun z => absurd z hk⟩
    · have hk : ¬ kiT t n p < 5 := fun z => k1 _ (by omega) ((kiT_iff (t := t) (n := n) (p := p) z).mp rfl).2
      rw [k2, bI_f (fun z => absurd z.1 (by decide +kernel)), if_pos (by decide), bI_f hk]
      exact ⟨rfl, fun z => absurd z hk⟩
  · have : ¬ nI (tkC (tyT t n p)) = (2 : Int32) := fun z => by
      have h1 : tkC (tyT t n p) ≤ 4 := by
        unfold tkC
        repeat' split
        all_goals omega
      have h2 := (nI_eq (a := tkC (tyT t n p)) (b := 2) (by omega) (by omega)).mp z
      unfold tkC at h2
      rw [if_neg c0] at h2
      repeat' split at h2
      all_goals omega
    have hk : ¬ kiT t n p < 5 := fun z => c0 ((kiT_iff (t := t) (n := n) (p := p) z).mp rfl).1
    rw [if_neg this, bI_f hk]
    exact ⟨rfl, fun z => absurd z hk⟩
end SC
