/-! plan and cost, as asked. -/
section PL
variable {fu m : Nat} {S : Sto} {M : Mm}
theorem X11_plan (hfu : 200000 ≤ fu) (hV : VM S M m) (hG : Gd S) (hl : (plS S).length ≤ 160) (x1 x2 : Int32) : Wp (fX11_plan fu m x1 x2 M) (fun z => z.1 = bkA (plS S) x1 x2 ∧ Sc m M z.2) := by
  obtain ⟨M1, e, hb, hs⟩ := X11_layPlan hfu hV hG
  unfold fX11_plan
  rw [e, bm_s, X11_blockOf hb (by omega), bi_s]
  exact ⟨_, rfl, rfl, hs⟩
theorem X11_cost (hfu : 200000 ≤ fu) (hV : VM S M m) (hG : Gd S) (x1 : Int32) : Wp (fX11_cost fu m x1 M) (fun z => z.1 = (if x1 = nI 0 then nI (Ad (wi S (S 0)) (S 0) (S 140) 0) else if x1 = nI 1 then nI (cvS S (S 0)) else mI) ∧ Sc m M z.2) := by
  have hd5 := hG.1.2.2.2.2.1
  have e0 : M.1 (m + 1) (ix 0) = nI (S 0) := hV.2 0 (by omega)
  unfold fX11_cost
  rw [e0]
  show Wp (if x1 = nI 0 then _ else if x1 = nI 1 then _ else _) _
  by_cases c0 : x1 = nI 0
  · obtain ⟨⟨v, M1⟩, e, f1, g⟩ := X11_addedCost hfu hV hG
    rw [if_pos c0, if_pos c0, e, bw_s]
    exact ⟨_, rfl, f1, g⟩
  · rw [if_neg c0, if_neg c0]
    by_cases c1 : x1 = nI 1
    · obtain ⟨⟨v, M1⟩, e, f1, _, g⟩ := X11_costBy hfu hV hG hd5
      rw [if_pos c1, if_pos c1, e, bw_s]
      exact ⟨_, rfl, f1, g⟩
    · rw [if_neg c1, if_neg c1]
      exact ⟨_, rfl, rfl, Sc.rf m M⟩
end PL
