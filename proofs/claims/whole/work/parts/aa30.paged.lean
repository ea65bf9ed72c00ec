/-! Plans with pages; the filler; as asked. -/
theorem pg_16 {S : Sto} (hG : Gd S) : 2 ^ S 140 / 16 = 2 ^ (S 140 - 4) := by
  obtain ⟨n, hn⟩ : ∃ n, S 140 = n + 4 := ⟨S 140 - 4, by have := hG.1.1; omega⟩
  rw [hn, Nat.pow_add, Nat.add_sub_cancel]
  exact Nat.mul_div_cancel _ (by decide)
def Gk (S : Sto) (M : Mm) (a : Nat) : Prop := M.1 a 16 = nI 0 ∨ (M.1 a 16 = nI 1 ∧ BV M (a + 224) (ppS S) ∧ ∀ p, p < 2 ^ S 140 / 16 → M.1 (a + 228) p = nI (pgS S p))
/-- only the planner, the plan with pages and its flag -/
def Gn (a : Nat) (M M' : Mm) : Prop := (∀ c, (c < a + 206 ∨ a + 220 ≤ c) → (c < a + 224 ∨ a + 229 ≤ c) → (c ≠ a → M'.1 c = M.1 c) ∧ M'.2.1 c = M.2.1 c ∧ M'.2.2 c = M.2.2 c) ∧ ∀ j, j ≠ 16 → M'.1 a j = M.1 a j
def wpA (S : Sto) (x : Int32) : Int32 := if x = nI 0 then nI (ppS S).length else if x = nI 1 then nI (owN (pgS S) (2 ^ S 140 / 16)) else mI
def pfA (S : Sto) (x : Int32) : Int32 := if inB x (2 ^ S 140 / 16) then nI (pgS S (ix x)) else mI
def moA (S : Sto) (x : Int32) : Int32 := if inB x 11 then nI (moS S (ix x)) else mI
def bbA (S : Sto) (x1 x2 x3 : Int32) : Int32 := if inB x1 11 then bkA (bsS S (ix x1)) x2 x3 else mI
theorem bsS_len (S : Sto) (r : Nat) : (bsS S r).length ≤ r := Bl_len _ _ _ _ (r + 1) _ _ (by omega) (by omega)
section PN
variable {fu a m : Nat} {S : Sto} {M M1 : Mm} {L : Lay}
theorem X10_pagedNow (hfu : 200000 ≤ fu) (hV : VX S M (a + 12)) (hG : Gd S) (ha : atB L (a + 224) (T0 160) = true) (hR : L.contains (a + 228, (0, 64)) = true) (hP : Gk S M a) : ∃ M1, fX10_pagedNow fu L a M = some M1 ∧ (BV M1 (a + 224) (ppS S) ∧ ∀ p, p < 2 ^ S 140 / 16 → M1.1 (a + 228) p = nI (pgS S p)) ∧ M1.1 a 16 = nI 1 ∧ Gn a M M1 := by
  unfold fX10_pagedNow fX10_pagedNow_j31
  rcases hP with h0 | ⟨h1, hb, hp⟩
  · obtain ⟨M', e, hb, hp, hf, hg⟩ := X6_layPagedPlan (r := a + 206) (Q := a + 224) (R := a + 228) hfu hV hG (Or.inl (by omega)) ha hR (Or.inr (by omega)) (Or.inr (by omega)) (Or.inr (by omega))
    rw [if_pos (show M.1 a 16 = 0 from h0), e, bm_s, lt_eq]
    refine ⟨wI M' a 16 1, rfl, ⟨?_, fun p hp' => ?_⟩, wI_eq, ⟨fun c k1 k2 => ⟨fun k3 => ?_, hg c (by omega) (by omega)⟩, fun j hj => ?_⟩⟩
    · exact BV.fr hb fun c k1 k2 => wI_ne (by omega)
    · rw [wI_ne (by omega)]
      exact hp p (by rw [← pg_16 hG]; exact hp')
    · rw [wI_ne k3]
      exact hf c (by omega) (by omega) (by omega)
    · rw [wI_nk hj, hf a (by omega) (by omega) (by omega)]
  · have c : ¬ M.1 a 16 = (0 : Int32) := by rw [h1]; decide
    rw [if_neg c]
    exact ⟨M, rfl, ⟨hb, hp⟩, h1, ⟨fun _ _ _ => ⟨fun _ => rfl, rfl, rfl⟩, fun _ _ => rfl⟩⟩
theorem X10_withPages (hfu : 200000 ≤ fu) (hG : Gd S) (e : fX10_pagedNow fu L a M = some M1) (hV : VX S M1 (a + 12)) (hB : BV M1 (a + 224) (ppS S)) (hP : ∀ p, p < 2 ^ S 140 / 16 → M1.1 (a + 228) p = nI (pgS S p)) (x : Int32) : fX10_withPages fu L a x M = some (wpA S x, M1) := by
  have hA := hG.ad
  unfold fX10_withPages wpA
  rw [e, bm_s, hB.1, X8_pages hV hG, bi_s, X10_owned hfu (g := pgS S) (by omega) hP (fun p _ => by have := pgS_le S p; omega), bi_s]
  show (if x = nI 0 then _ else if x = nI 1 then _ else _) = _
  by_cases c0 : x = nI 0
  · rw [if_pos c0, if_pos c0]
  · rw [if_neg c0, if_neg c0]
    by_cases c1 : x = nI 1
    · rw [if_pos c1, if_pos c1]
    · rw [if_neg c1, if_neg c1]
      rfl
theorem X11_withPages (hfu : 200000 ≤ fu) (hV : VM S M m) (hG : Gd S) (x : Int32) : Wp (fX11_withPages fu m x M) (fun z => z.1 = wpA S x ∧ Sc m M z.2) := by
  unfold fX11_withPages fX11_withPages_j30 wpA
  show Wp (bi (fX11_isIn fu x (nI 0) (nI 1)) _) _
  rw [X11_isIn, bi_s]
  by_cases c : nI 0 ≤ x ∧ x ≤ nI 1
  · obtain ⟨w, hw, rfl⟩ := (isIn_c (by omega)).mp c
    rw [bI_t c, if_neg (by decide), wp_bm]
    refine (X11_layPagedPlan hfu hV hG).mono fun M1 q => ?_
    obtain ⟨q1, qp, q2⟩ := q
    have V1 := hV.sc q2
    rw [q1.1, X11_ownPages hfu V1 hG qp (fun p _ => by have := pgS_le S p; omega), bi_s]
    have : w = 0 ∨ w = 1 := by omega
    rcases this with rfl | rfl
    · exact ⟨(_, M1), rfl, rfl, q2⟩
    · exact ⟨(_, M1), rfl, rfl, q2⟩
  · rw [bI_f c, if_pos (by decide), if_neg (fun q => c (isIn_y (j := 0) (by omega) q (by omega))), if_neg (fun q => c (isIn_y (j := 1) (by omega) q (by omega)))]
    exact ⟨(_, M), rfl, rfl, Sc.rf m M⟩
theorem X10_pagedPlan (hG : Gd S) (e : fX10_pagedNow fu L a M = some M1) (hB : BV M1 (a + 224) (ppS S)) (x1 x2 : Int32) : fX10_pagedPlan fu L a x1 x2 M = some (bkA (ppS S) x1 x2, M1) := by
  obtain ⟨h1, h2⟩ := ppS_len hG
  unfold fX10_pagedPlan
  rw [e, bm_s, X0_tell hB (by omega) (by omega), bi_s]
theorem X11_pagedPlan (hfu : 200000 ≤ fu) (hV : VM S M m) (hG : Gd S) (x1 x2 : Int32) : Wp (fX11_pagedPlan fu m x1 x2 M) (fun z => z.1 = bkA (ppS S) x1 x2 ∧ Sc m M z.2) := by
  obtain ⟨h1, h2⟩ := ppS_len hG
  unfold fX11_pagedPlan
  rw [wp_bm]
  refine (X11_layPagedPlan hfu hV hG).mono fun M1 q => ?_
  obtain ⟨q1, qp, q2⟩ := q
  rw [X11_blockOf q1 (by omega), bi_s]
  exact ⟨(_, M1), rfl, rfl, q2⟩
theorem X10_pageFor (hG : Gd S) (hV0 : VX S M (a + 12)) (e : fX10_pagedNow fu L a M = some M1) (hP : ∀ p, p < 2 ^ S 140 / 16 → M1.1 (a + 228) p = nI (pgS S p)) (x : Int32) : ∃ M2, fX10_pageFor fu L a x M = some (pfA S x, M2) ∧ (M2 = M ∨ M2 = M1) := by
  have hA := hG.ad
  unfold fX10_pageFor pfA
  obtain ⟨w, ew, ⟨rfl, i, hi, rfl⟩ | ⟨rfl, h⟩⟩ := X8_hasPage (fu := fu) hV0 hG x
  · refine ⟨M1, ?_, Or.inr rfl⟩
    rw [ew, bi_s, if_neg (by decide), e, bm_s, if_neg (nI_in (by omega) (by omega)), if_pos (show inB (nI i) (2 ^ S 140 / 16) from inB_y hi (by omega)), ix_n (by omega), hP i hi]
  · refine ⟨M, ?_, Or.inl rfl⟩
    rw [ew, bi_s, if_pos (by decide), if_neg (inB_n h)]
    rfl
theorem X11_pageFor (hfu : 200000 ≤ fu) (hV : VM S M m) (hG : Gd S) (x : Int32) : Wp (fX11_pageFor fu m x M) (fun z => z.1 = pfA S x ∧ Sc m M z.2) := by
  have hA := hG.ad
  unfold fX11_pageFor pfA
  rw [X11_pages hV hG, bi_s]
  show Wp (bi (fX11_isIn fu x (nI 0) (nI (2 ^ S 140 / 16) - 1)) _) _
  rw [X11_isIn, bi_s]
  by_cases c : nI 0 ≤ x ∧ x ≤ nI (2 ^ S 140 / 16) - 1
  · have c' := (isIn_l (by omega)).mp c
    obtain ⟨i, hi, h31, rfl⟩ := inB_of c'
    rw [bI_t c, if_neg (by decide), wp_bm]
    refine (X11_layPagedPlan hfu hV hG).mono fun M1 q => ?_
    obtain ⟨q1, qp, q2⟩ := q
    rw [if_neg (nI_in (by omega) (by omega)), if_pos c', ix_n (by omega), qp i hi]
    exact ⟨(_, M1), rfl, rfl, q2⟩
  · rw [bI_f c, if_pos (by decide), if_neg (fun z => c ((isIn_l (by omega)).mpr z))]
    exact ⟨(_, M), rfl, rfl, Sc.rf m M⟩
theorem X11_most (hfu : 200000 ≤ fu) (hV : VM S M m) (hG : Gd S) (x : Int32) : Wp (fX11_most fu m x M) (fun z => z.1 = moA S x ∧ Sc m M z.2) := by
  unfold fX11_most fX11_most_j19 moA
  show Wp (bi (fX11_isIn fu x (nI 0) (nI 10)) _) _
  rw [X11_isIn, bi_s]
  by_cases c : nI 0 ≤ x ∧ x ≤ nI 10
  · have c' := (isIn_k (by omega)).mp c
    obtain ⟨i, hi, h31, rfl⟩ := inB_of c'
    rw [bI_t c, if_neg (by decide), wp_bw]
    refine (X11_layAllMost hfu hV hG hi).mono fun z q => ?_
    obtain ⟨z1, M1⟩ := z
    obtain ⟨q1, _, _, _, _, q2, _⟩ := q
    dsimp only at q1 q2
    rw [if_pos c', ix_n h31]
    exact ⟨(_, M1), rfl, q1, q2⟩
  · rw [bI_f c, if_pos (by decide), if_neg (fun z => c ((isIn_k (by omega)).mpr z))]
    exact ⟨(_, M), rfl, rfl, Sc.rf m M⟩
theorem X11_bestSet (hfu : 200000 ≤ fu) (hV : VM S M m) (hG : Gd S) (x1 x2 x3 : Int32) : Wp (fX11_bestSet fu m x1 x2 x3 M) (fun z => z.1 = bbA S x1 x2 x3 ∧ Sc m M z.2) := by
  unfold fX11_bestSet bbA
  show Wp (bi (fX11_isIn fu x1 (nI 0) (nI 10)) _) _
  rw [X11_isIn, bi_s]
  by_cases c : nI 0 ≤ x1 ∧ x1 ≤ nI 10
  · have c' := (isIn_k (by omega)).mp c
    obtain ⟨i, hi, h31, rfl⟩ := inB_of c'
    have hl := bsS_len S i
    rw [bI_t c, if_neg (by decide), wp_bm]
    refine (X11_laySet hfu hV hG hi).mono fun M1 q => ?_
    obtain ⟨q1, q2⟩ := q
    rw [X11_blockOf q1 (by omega), bi_s, if_pos c', ix_n h31]
    exact ⟨(_, M1), rfl, rfl, q2⟩
  · rw [bI_f c, if_pos (by decide), if_neg (fun z => c ((isIn_k (by omega)).mpr z))]
    exact ⟨(_, M), rfl, rfl, Sc.rf m M⟩
def Fk (S : Sto) (M : Mm) (a : Nat) : Prop := M.1 a 17 = nI 0 ∨ (M.1 a 17 = nI 1 ∧ FiV S M (a + 271))
/-- only the filler and its flag -/
def Fn (a : Nat) (M M' : Mm) : Prop := (∀ c, (c < a + 271 ∨ a + 283 ≤ c) → (c ≠ a → M'.1 c = M.1 c) ∧ M'.2.1 c = M.2.1 c ∧ M'.2.2 c = M.2.2 c) ∧ ∀ j, j ≠ 17 → M'.1 a j = M.1 a j
theorem fnow_ok (hfu : 200000 ≤ fu) (hV : VX S M (a + 12)) (hG : Gd S) (hq : M.2.2 a 13 = some (a + 271)) (hF : Fk S M a) : ∃ M1, fnow fu a (a + 271) M = some M1 ∧ FiV S M1 (a + 271) ∧ M1.1 a 17 = nI 1 ∧ Fn a M M1 := by
  unfold fnow
  rcases hF with h0 | ⟨h1, hf⟩
  · obtain ⟨M', e, h2, h3⟩ := X3_make (g := a + 271) hfu hV hG (Or.inl (by omega))
    rw [if_pos (show M.1 a 17 = 0 from h0), e, bm_s]
    have hq' : M'.2.2 a 13 = some (a + 271) := by rw [(h3 a (by omega)).2.2]; exact hq
    show ∃ M1, (if M'.2.2 a 13 = some (a + 271) then some (wI M' a 17 1) else none) = some M1 ∧ _
    rw [if_pos hq']
    refine ⟨wI M' a 17 1, rfl, h2.fr fun c k1 k2 => wI_ne (by omega), wI_eq, ⟨fun c k1 => ⟨fun k2 => ?_, (h3 c (by omega)).2⟩, fun j hj => ?_⟩⟩
    · rw [wI_ne k2]
      exact (h3 c (by omega)).1
    · rw [wI_nk hj, (h3 a (by omega)).1]
  · have c : ¬ M.1 a 17 = (0 : Int32) := by rw [h1]; decide
    rw [if_neg c]
    exact ⟨M, rfl, hf, h1, ⟨fun _ _ => ⟨fun _ => rfl, rfl, rfl⟩, fun _ _ => rfl⟩⟩
end PN
