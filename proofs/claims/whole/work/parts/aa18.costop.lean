/-! cost, as asked of the class. -/
def coA (S : Sto) (x1 : Int32) : Int32 := if x1 = nI 0 then nI (Ad (wi S (S 0)) (S 0) (S 140) 0) else if x1 = nI 1 then nI (cvS S (S 0)) else mI
section CO
variable {fu a : Nat} {S : Sto} {M M1 : Mm} {L : Lay}
theorem X10_cost (hfu : 200000 ≤ fu) (hV : VX S M (a + 12)) (hG : Gd S) (hb : BV M1 (a + 220) (plS S)) (e : fX10_planNow fu L a M = some M1) (x1 : Int32) : Wp (fX10_cost fu L a x1 M) (fun z => z.1 = coA S x1 ∧ (z.2 = M1 ∨ Fr (a + 206) 14 M z.2)) := by
  have h1 := plS_len hG
  unfold fX10_cost coA
  show Wp (if x1 = nI 0 then _ else if x1 = nI 1 then _ else _) _
  by_cases c0 : x1 = nI 0
  · obtain ⟨⟨v, M2⟩, e2, f1, g⟩ := X6_fewestAdded (r := a + 206) hfu hV hG (Or.inl (by omega))
    rw [if_pos c0, if_pos c0, e2, bw_s]
    exact ⟨_, rfl, f1, Or.inr g⟩
  · rw [if_neg c0, if_neg c0]
    by_cases c1 : x1 = nI 1
    · rw [if_pos c1, if_pos c1, e, bm_s, hb.1, h1]
      exact ⟨_, rfl, rfl, Or.inl rfl⟩
    · rw [if_neg c1, if_neg c1]
      exact ⟨_, rfl, rfl, Or.inr (Fr.rf _ _ M)⟩
end CO
