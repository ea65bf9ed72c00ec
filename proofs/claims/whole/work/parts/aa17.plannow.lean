/-! The class's plan as kept. -/
def Lk (S : Sto) (M : Mm) (a : Nat) : Prop := M.1 a 15 = nI 0 ∨ (M.1 a 15 = nI 1 ∧ BV M (a + 220) (plS S))
/-- only the planner, the plan and its flag -/
def Ln (a : Nat) (M M' : Mm) : Prop := (∀ c, (c < a + 206 ∨ a + 224 ≤ c) → (c ≠ a → M'.1 c = M.1 c) ∧ M'.2.1 c = M.2.1 c ∧ M'.2.2 c = M.2.2 c) ∧ ∀ j, j ≠ 15 → M'.1 a j = M.1 a j
section LN
variable {fu a : Nat} {S : Sto} {M M1 : Mm} {L : Lay}
theorem X10_planNow (hfu : 200000 ≤ fu) (hV : VX S M (a + 12)) (hG : Gd S) (ha : atB L (a + 220) (T0 160) = true) (hP : Lk S M a) : ∃ M1, fX10_planNow fu L a M = some M1 ∧ BV M1 (a + 220) (plS S) ∧ M1.1 a 15 = nI 1 ∧ Ln a M M1 := by
  unfold fX10_planNow
  rcases hP with h0 | ⟨h1, hb⟩
  · obtain ⟨M', e, hb, hf⟩ := X6_layPlan (r := a + 206) (Q := a + 220) hfu hV hG (Or.inl (by omega)) (Or.inr (by omega)) ha
    rw [if_pos (show M.1 a 15 = 0 from h0), e, bm_s, lt_eq]
    refine ⟨wI M' a 15 1, rfl, ?_, wI_eq, ⟨fun c k1 => ⟨fun k2 => ?_, (hf c (by omega) (by omega)).2⟩, fun j hj => ?_⟩⟩
    · unfold BV at hb ⊢
      rw [wI_ne (by omega), wI_ne (by omega), wI_ne (by omega), wI_ne (by omega)]
      exact hb
    · rw [wI_ne k2]
      exact (hf c (by omega) (by omega)).1
    · simp (disch := omega) only [wI_ne, wI_eq, wI_nk, wIs_ne, wIs_eq]
      rw [(hf a (by omega) (by omega)).1]
  · have c : ¬ M.1 a 15 = (0 : Int32) := by rw [h1]; decide
    rw [if_neg c]
    exact ⟨M, rfl, hb, h1, ⟨fun _ _ => ⟨fun _ => rfl, rfl, rfl⟩, fun _ _ => rfl⟩⟩
theorem X10_plan (hG : Gd S) (hb : BV M1 (a + 220) (plS S)) (e : fX10_planNow fu L a M = some M1) (x1 x2 : Int32) : fX10_plan fu L a x1 x2 M = some (bkA (plS S) x1 x2, M1) := by
  have h1 := plS_len hG
  have h2 := cvS_le hG hG.1.2.2.2.2.1
  unfold fX10_plan
  rw [e, bm_s, X0_tell hb (by omega) (by omega), bi_s]
end LN
