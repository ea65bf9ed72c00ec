/-! The class's pieces as kept, and what is asked of them. -/
def Pk (S : Sto) (M : Mm) (a : Nat) : Prop := M.1 a 14 = nI 0 ∨ (M.1 a 14 = nI 1 ∧ ∃ n f, PV S M (a + 198) n f)
/-- only the pieces and their flag -/
def Pn (a : Nat) (M M' : Mm) : Prop := (∀ c, (c < a + 198 ∨ a + 206 ≤ c) → (c ≠ a → M'.1 c = M.1 c) ∧ M'.2.1 c = M.2.1 c ∧ M'.2.2 c = M.2.2 c) ∧ ∀ j, j ≠ 14 → M'.1 a j = M.1 a j
section OP
variable {fu a n : Nat} {S : Sto} {M M1 : Mm} {f : Nat → Nat}
theorem X10_piecesNow (hfu : 200000 ≤ fu) (hV : VX S M (a + 12)) (hG : Gd S) (hP : Pk S M a) : ∃ M1 n f, fX10_piecesNow fu a M = some M1 ∧ PV S M1 (a + 198) n f ∧ M1.1 a 14 = nI 1 ∧ Pn a M M1 ∧ VX S M1 (a + 12) := by
  unfold fX10_piecesNow
  rcases hP with h0 | ⟨h1, n, f, hp⟩
  · obtain ⟨M', e, ⟨n, f, hp⟩, hf⟩ := X5_make (p := a + 198) hfu hV hG (Or.inl (by omega))
    rw [if_pos (show M.1 a 14 = 0 from h0), e, bm_s, lt_eq]
    refine ⟨wI M' a 14 1, n, f, rfl, hp.fr fun c k1 k2 k3 => wI_ne (by omega), wI_eq, ⟨fun c k1 => ⟨fun k2 => ?_, (hf c (by omega)).2⟩, fun j hj => ?_⟩, hV.fr fun c k1 k2 => ?_⟩
    · rw [wI_ne k2]
      exact (hf c (by omega)).1
    · simp (disch := omega) only [wI_ne, wI_eq, wI_nk, wIs_ne, wIs_eq]
      rw [(hf a (by omega)).1]
    · rw [wI_ne (by omega)]
      exact (hf c (by omega)).1
  · have c : ¬ M.1 a 14 = (0 : Int32) := by rw [h1]; decide
    rw [if_neg c]
    exact ⟨M, n, f, rfl, hp, h1, ⟨fun _ _ => ⟨fun _ => rfl, rfl, rfl⟩, fun _ _ => rfl⟩, hV⟩
theorem X10_idle (hfu : 200000 ≤ fu) (hV0 : VX S M (a + 12)) (h : PV S M1 (a + 198) n f) (hV : VX S M1 (a + 12)) (hG : Gd S) (e : fX10_piecesNow fu a M = some M1) (x : Int32) : ∃ M2, fX10_idle fu a x M = some (idA S x, M2) ∧ (M2 = M ∨ M2 = M1) := by
  have h1 := hG.1
  unfold fX10_idle idA
  obtain ⟨v, ev, ⟨rfl, r, hr, rfl, hs⟩ | ⟨rfl, hn⟩⟩ := X8_isSet (fu := fu) hV0 hG x
  · refine ⟨M1, ?_, Or.inr rfl⟩
    rw [ev, bi_s, if_neg (by decide), e, bm_s, X5_idleWithout hfu h hV hG hr hs, bi_s, if_pos (isT_y hG hr hs), ix_n (by omega)]
    rfl
  · refine ⟨M, ?_, Or.inl rfl⟩
    rw [ev, bi_s, isT_n hG hn]
    rfl
theorem X10_without (hfu : 200000 ≤ fu) (hV0 : VX S M (a + 12)) (h : PV S M1 (a + 198) n f) (hV : VX S M1 (a + 12)) (hG : Gd S) (e : fX10_piecesNow fu a M = some M1) (x : Int32) : ∃ M2, fX10_without fu a x M = some (woA S x, M2) ∧ (M2 = M ∨ M2 = M1) := by
  have h1 := hG.1
  unfold fX10_without woA
  obtain ⟨v, ev, ⟨rfl, r, hr, rfl, hs⟩ | ⟨rfl, hn⟩⟩ := X8_isSet (fu := fu) hV0 hG x
  · refine ⟨M1, ?_, Or.inr rfl⟩
    rw [ev, bi_s, if_neg (by decide), e, bm_s, X5_gainWithout hfu h hV hG hr hs, bi_s, if_pos (isT_y hG hr hs), ix_n (by omega)]
    rfl
  · refine ⟨M, ?_, Or.inl rfl⟩
    rw [ev, bi_s, isT_n hG hn]
    rfl
end OP
