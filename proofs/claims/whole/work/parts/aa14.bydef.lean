/-! The defaults: what one costs, which is best. -/
def bdN (S : Sto) : Nat → Nat
  | 0 => 0
  | i + 1 => if cvS S (bdN S i) ≤ cvS S (i + 1) then bdN S i else i + 1
theorem bd_le (S : Sto) : ∀ i, bdN S i ≤ i
  | 0 => Nat.le_refl _
  | i + 1 => by
    have := bd_le S i
    unfold bdN
    split <;> omega
def byA (S : Sto) (x : Int32) : Int32 := if nI 0 ≤ x ∧ x ≤ nI 4 then nI (cvS S (ix x)) else mI
theorem VM.sk {S : Sto} {M M' : Mm} {m : Nat} (h : VM S M m) (g : Sc m M M') : VM S M' m := by
  obtain ⟨⟨k, h1, h2, h3, h4, h5⟩, h6⟩ := h
  refine ⟨⟨k, h1, ?_, ?_, ?_, ?_⟩, fun j hj => ?_⟩
  · rw [g.2.1 5 (by omega) (by omega) (by omega) (by omega) (by omega) (by omega) (by omega)]; exact h2
  · rw [g.1 (m + 2) (by omega) (by omega)]; exact h3
  · rw [g.1 (m + 3) (by omega) (by omega)]; exact h4
  · rw [g.1 (m + 4) (by omega) (by omega)]; exact h5
  · rw [g.1 (m + 1) (by omega) (by omega)]; exact h6 j hj
section BD
variable {fu a m : Nat} {S : Sto} {M : Mm}
theorem X11_byDefault (hfu : 200000 ≤ fu) (hV : VM S M m) (hG : Gd S) (x : Int32) : ∃ M2, fX11_byDefault fu m x M = some (byA S x, M2) ∧ Sc m M M2 := by
  unfold fX11_byDefault byA
  rw [X11_isKind, bi_s]
  by_cases c : nI 0 ≤ x ∧ x ≤ nI 4
  · obtain ⟨k, hk, rfl⟩ := (isIn_c (by omega)).mp c
    obtain ⟨⟨v, M2⟩, e, e1, _, e3⟩ := X11_costBy hfu hV hG (d := k) (by omega)
    refine ⟨M2, ?_, e3⟩
    rw [bI_t c, if_neg (by decide), if_pos c, e, bw_s, ix_n (by omega)]
    exact congrArg (fun v => some (v, M2)) e1
  · refine ⟨M, ?_, Sc.rf m M⟩
    rw [bI_f c, if_pos (by decide), if_neg c]
    rfl
theorem X10_byDefault (hfu : 200000 ≤ fu) (hV : VX S M (a + 12)) (hG : Gd S) (x : Int32) : ∃ M2, fX10_byDefault fu a x M = some (byA S x, M2) ∧ Fr (a + 206) 14 M M2 := by
  unfold fX10_byDefault byA
  obtain ⟨v, ev, ⟨rfl, k, hk, rfl⟩ | ⟨rfl, hn⟩⟩ := X10_isKind (fu := fu) x
  · have c : nI 0 ≤ nI k ∧ nI k ≤ nI 4 := (isIn_c (by omega)).mpr ⟨k, by omega, rfl⟩
    obtain ⟨⟨v, M2⟩, e, e1, e3⟩ := X6_fewestOver (r := a + 206) hfu hV hG hk (Or.inl (by omega))
    refine ⟨M2, ?_, e3⟩
    rw [ev, bi_s, if_neg (by decide), if_pos c, e, bw_s, ix_n (by omega)]
    exact congrArg (fun v => some (v, M2)) e1
  · refine ⟨M, ?_, Fr.rf _ _ M⟩
    have c : ¬ (nI 0 ≤ x ∧ x ≤ nI 4) := fun q => by
      obtain ⟨j, hj, ej⟩ := (isIn_c (by omega)).mp q
      exact hn j (by omega) ej
    rw [ev, bi_s, if_pos (by decide), if_neg c]
    rfl
end BD
