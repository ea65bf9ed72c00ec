/-! The law's loop. -/
theorem at_atB {L T : Lay} {a : Nat} (h : At L a T) : atB L a T = true := List.all_eq_true.mpr fun p hp => List.contains_iff_mem.mpr (h p hp)
theorem nL3_in {q : Nat} {L : Lay} {p : Nat × (Nat × Nat)} (h : p ∈ L) : p ∈ nL3 q L := by
  simp [nL3, nL9, nL2, h]
def LyC (a : Nat) (L0 : Lay) (s0 : Nat) (o : Option Nat) (L : Lay) (cells slots : Nat) : Prop := (o = none ∧ L = L0 ∧ cells = 271 ∧ slots = s0) ∨ (o = some (a + 271) ∧ L = nL3 (a + 271) L0 ∧ cells = 283 ∧ slots = s0 + 22822)
section LP
variable {p : Program} {l : Launch} {e : Env} {s : State} {m : MethodId} {below : List Frame} {meth : Method} {c : Code} {E : Ge} {L0 : Lay} {b n a s0 : Nat} {xs : Nat → Int32}
set_option maxHeartbeats 4000000 in
theorem law_loop (hx : p.tables.exec = Jvm.exec) (hb : c.code = code) (hr : meth.sig.returnType = ret) (hlocks : meth.locks = false) (hXs : va_X b n xs s s.heap) (hbl : b < s.heap.size) (hbA : ¬ E.2.2.2 b) (hEA : ∀ q, E.2.2.2 q → s.heap.size ≤ q) (hn : n ≤ 3072) (Y : By p s m #[Value.ref b] c code 4 RLaw E) (hsz : s.heap.size = a) (hs0 : s0 + 22822 ≤ 7302250) (hA0 : At L0 a T10) (hA1 : At L0 (a + 241) T11) (hlast : ∃ q ∈ L0, q.1 + 1 = a + 271) :
    ∀ f i o M L H locs cells slots ls, n < i + 6 * f → i ≤ n → LyC a L0 s0 o L cells slots → Bx p s m #[Value.ref b] c code 4 RLaw E L → JJ o M a → Rx s E L M H locs → lv_has ls 4 [(0, .ref b), (1, .ref a), (2, .ref (a + 241)), (3, .int (nI i))] → W p l e room_1 s m #[Value.ref b] below meth c H locs cells slots (lw_Z below #[Value.ref b] s) (F0 m 18 ls []) := by
  intro f
  induction f with
  | zero =>
    intro i o M L H locs cells slots ls hf hi hC B hJ hR hl
    have hcs : cells ≤ 600000 ∧ slots ≤ 7302250 := by
      rcases hC with ⟨_, _, c1, c2⟩ | ⟨_, _, c1, c2⟩ <;> omega
    exact lw_head hx hb hr hlocks hXs hbl hbA hEA hR.2 hl hn rfl (by omega) hcs.1 hcs.2 (fun h => absurd h (by omega))
  | succ f IH =>
    intro i o M L H locs cells slots ls hf hi hC B hJ hR hl
    have hcs : cells ≤ 600000 ∧ slots ≤ 7302250 := by
      rcases hC with ⟨_, _, c1, c2⟩ | ⟨_, _, c1, c2⟩ <;> omega
    refine lw_head hx hb hr hlocks hXs hbl hbA hEA hR.2 hl hn rfl (by omega) hcs.1 hcs.2 (fun h6 => ?_)
    have hA : At L a T10 ∧ At L (a + 241) T11 := by
      rcases hC with ⟨_, rfl, _, _⟩ | ⟨_, rfl, _, _⟩
      · exact ⟨hA0, hA1⟩
      · exact ⟨fun q hq => nL3_in (hA0 q hq), fun q hq => nL3_in (hA1 q hq)⟩
    have ha : atB L (a + 220) (T0 160) = true := at_atB (hA.1.sub 220 (by decide +kernel))
    have hb' : atB L (a + 224) (T0 160) = true := at_atB (hA.1.sub 224 (by decide +kernel))
    have hd' : atB L (a + 229) (T0 10) = true := at_atB (hA.1.sub 229 (by decide +kernel))
    have hc' : L.contains (a + 228, (0, 64)) = true := List.contains_iff_mem.mpr (hA.1 (228, (0, 64)) (by decide +kernel))
    have hin : ∀ k : Int32, 0 ≤ k → k ≤ 5 → vp_in (nI i + k) n := fun k h1 h2 => by
      rcases i32_cases k with h | ⟨j, hj, rfl⟩
      · exact absurd h (Int32.not_lt.mpr h1)
      · have : j ≤ 5 := Decidable.not_not.mp fun w => nI_ge (a := 5) (b := j) (by omega) (by omega) h2
        rw [nI_add]
        exact vp_in_nI (by omega) (by omega)
    have X : Lx p s m #[Value.ref b] c E L b n a (a + 241) xs (nI i) cells slots ls := ⟨B, hXs, hbl, hbA, hA.1, hA.2, hin, hcs.1, hcs.2, hl⟩
    -- behind a case
    have beh : ∀ o' M' L' H1 locs1 cells' slots', LyC a L0 s0 o' L' cells' slots' → Bx p s m #[Value.ref b] c code 4 RLaw E L' → JJ o' M' a → Rx s E L' M' H1 locs1 → W p l e room_1 s m #[Value.ref b] below meth c H1 locs1 cells' slots' (lw_Z below #[Value.ref b] s) (F0 m 1511 ls []) := fun o' M' L' H1 locs1 cells' slots' hC' B' hJ' hR' => by
      refine lv_iinc (v := nI (i + 6)) (lv' := [(3, .int (nI (i + 6))), (0, .ref b), (1, .ref a), (2, .ref (a + 241))]) hx hb dLw_1511 hl (k := 3) rfl ?_ (by decide) rfl (fun ls' hl' => ?_)
      · exact nI_add i 6
      · refine lv_goto (tgt := 18) hx hb dLw_1514 (by decide) ?_
        exact IH (i + 6) o' M' L' H1 locs1 cells' slots' ls' (by omega) h6 hC' B' hJ' hR' (lv_sub hl' [1, 2, 3, 0] rfl)
    have next : ∀ M' H1 locs1, JJ o M' a → Rx s E L M' H1 locs1 → W p l e room_1 s m #[Value.ref b] below meth c H1 locs1 cells slots (lw_Z below #[Value.ref b] s) (F0 m 1511 ls []) := fun M' H1 locs1 h1 h2 => beh o M' L H1 locs1 cells slots hC B h1 h2
    have hQ : o = some (a + 271) → At L (a + 271) T3 := fun h => by
      rcases hC with ⟨h', _⟩ | ⟨_, rfl, _, _⟩
      · rw [h'] at h; cases h
      · exact aL3 _ _
    have hl3 : o = none → ∃ q ∈ L, q.1 + 1 = a + 271 := fun h => by
      rcases hC with ⟨_, rfl, _, _⟩ | ⟨h', _⟩
      · exact hlast
      · rw [h'] at h; cases h
    have come : o = none → Zr (a + 271) M → L = L0 ∧ cells = 271 ∧ slots = s0 ∧ Nx s E [] L M (a + 271) cells H locs := fun h hz => by
      obtain ⟨q, hq, hq2⟩ := hl3 h
      rcases hC with ⟨_, rfl, c1, c2⟩ | ⟨h', _⟩
      · refine ⟨rfl, c1, c2, hR.1, B.2.2.2.2.2.2.1 M, hR.2, ⟨by omega, ?_⟩, hz⟩
        exact ⟨_, List.mem_map.mpr ⟨q, hq, rfl⟩, hq2⟩
      · rw [h'] at h; cases h
    have k35 : W p l e room_1 s m #[Value.ref b] below meth c H locs cells slots (lw_Z below #[Value.ref b] s) (F0 m 1129 ls []) := by
      rcases o35 (l := l) (E := E) (L := L) (fu := 200000) (Nat.le_refl _) hJ (xs (ix (nI i + 1))) hA.1 hQ hl3 with ⟨d, r, M1, M2, hd, h1, h2, hJ2⟩ | ⟨ho, hz, d, r, M1, M2, hd, h1, h2, hJ2⟩
      · exact lw_c35A X h1 hd h2 hR (fun H1 locs1 hR1 => next M2 H1 locs1 hJ2 hR1)
      · obtain ⟨g1, g2, g3, g4⟩ := come ho hz
        exact lw_c35B X Y h1 hd ⟨by rw [g2]; decide, by rw [g3]; exact hs0⟩ h2 g4 (fun H1 locs1 B1 hR1 => beh _ M2 _ H1 locs1 _ _ (Or.inr ⟨rfl, by rw [g1], by rw [g2], by rw [g3]⟩) B1 hJ2 hR1)
    have k36 : W p l e room_1 s m #[Value.ref b] below meth c H locs cells slots (lw_Z below #[Value.ref b] s) (F0 m 1152 ls []) := by
      rcases o36 (l := l) (E := E) (L := L) (fu := 200000) (Nat.le_refl _) hJ (xs (ix (nI i + 1))) (xs (ix (nI i + 2))) (xs (ix (nI i + 3))) hA.1 hQ hl3 hd' (at_atB ((show At (nL3 (a + 271) L) a T10 from fun q hq => nL3_in (hA.1 q hq)).sub 229 (by decide +kernel))) with ⟨d, r, M1, M2, hd, h1, h2, hJ2⟩ | ⟨ho, hz, d, r, M1, M2, hd, h1, h2, hJ2⟩
      · exact lw_c36A X h1 hd h2 hR (fun H1 locs1 hR1 => next M2 H1 locs1 hJ2 hR1)
      · obtain ⟨g1, g2, g3, g4⟩ := come ho hz
        exact lw_c36B X Y h1 hd ⟨by rw [g2]; decide, by rw [g3]; exact hs0⟩ h2 g4 (fun H1 locs1 B1 hR1 => beh _ M2 _ H1 locs1 _ _ (Or.inr ⟨rfl, by rw [g1], by rw [g2], by rw [g3]⟩) B1 hJ2 hR1)
    apply lw_sw hx hb
    · intro _
      obtain ⟨r, M1, M2, h1, h2, hJ2⟩ := o0 (fu := 200000) (Nat.le_refl _) hJ (xs (ix (nI i + 1))) (xs (ix (nI i + 2))) (xs (ix (nI i + 3))) (xs (ix (nI i + 4))) (xs (ix (nI i + 5)))
      exact lw_c0 X h1 h2 hR (fun H1 locs1 hR1 => next M2 H1 locs1 hJ2 hR1)
    · intro _
      obtain ⟨r, M1, M2, h1, h2, hJ2⟩ := o1 (fu := 200000) hJ (xs (ix (nI i + 1)))
      exact lw_c1 X h1 h2 hR (fun H1 locs1 hR1 => next M2 H1 locs1 hJ2 hR1)
    · intro _
      obtain ⟨r, M1, M2, h1, h2, hJ2⟩ := o2 (fu := 200000) (Nat.le_refl _) hJ
      exact lw_c2 X h1 h2 hR (fun H1 locs1 hR1 => next M2 H1 locs1 hJ2 hR1)
    · intro _
      obtain ⟨r, h1, h2⟩ := o3 (fu := 200000) hJ (xs (ix (nI i + 1)))
      exact lw_c3 X h1 h2 hR (fun H1 locs1 hR1 => next M H1 locs1 hJ hR1)
    · intro _
      obtain ⟨r, M1, M2, h1, h2, hJ2⟩ := o4 (fu := 200000) (Nat.le_refl _) hJ (xs (ix (nI i + 1))) (xs (ix (nI i + 2))) (xs (ix (nI i + 3)))
      exact lw_c4 X h1 h2 hR (fun H1 locs1 hR1 => next M2 H1 locs1 hJ2 hR1)
    · intro _
      obtain ⟨r, M1, M2, h1, h2, hJ2⟩ := o5 (fu := 200000) (Nat.le_refl _) hJ (xs (ix (nI i + 1)))
      exact lw_c5 X h1 h2 hR (fun H1 locs1 hR1 => next M2 H1 locs1 hJ2 hR1)
    · intro _
      obtain ⟨r, M1, M2, h1, h2, hJ2⟩ := o6 (fu := 200000) (Nat.le_refl _) hJ (xs (ix (nI i + 1)))
      exact lw_c6 X h1 h2 hR (fun H1 locs1 hR1 => next M2 H1 locs1 hJ2 hR1)
    · intro _
      obtain ⟨r, M1, M2, h1, h2, hJ2⟩ := o7 (fu := 200000) (Nat.le_refl _) hJ (xs (ix (nI i + 1))) (xs (ix (nI i + 2)))
      exact lw_c7 X h1 h2 hR (fun H1 locs1 hR1 => next M2 H1 locs1 hJ2 hR1)
    · intro _
      obtain ⟨r, M1, M2, h1, h2, hJ2⟩ := o8 (fu := 200000) (Nat.le_refl _) hJ (xs (ix (nI i + 1))) (xs (ix (nI i + 2))) (xs (ix (nI i + 3))) (xs (ix (nI i + 4)))
      exact lw_c8 X h1 h2 hR (fun H1 locs1 hR1 => next M2 H1 locs1 hJ2 hR1)
    · intro _
      obtain ⟨r, M1, M2, h1, h2, hJ2⟩ := o9 (fu := 200000) (Nat.le_refl _) hJ (xs (ix (nI i + 1)))
      exact lw_c9 X h1 h2 hR (fun H1 locs1 hR1 => next M2 H1 locs1 hJ2 hR1)
    · intro _
      obtain ⟨r, M1, M2, h1, h2, hJ2⟩ := o10 (fu := 200000) (Nat.le_refl _) ha hJ
      exact lw_c10 X h1 h2 hR (fun H1 locs1 hR1 => next M2 H1 locs1 hJ2 hR1)
    · intro _
      obtain ⟨r, M1, M2, h1, h2, hJ2⟩ := o11 (fu := 200000) (Nat.le_refl _) hJ (xs (ix (nI i + 1))) (xs (ix (nI i + 2)))
      exact lw_c11 X h1 h2 hR (fun H1 locs1 hR1 => next M2 H1 locs1 hJ2 hR1)
    · intro _
      obtain ⟨r, M1, M2, h1, h2, hJ2⟩ := o12 (fu := 200000) (Nat.le_refl _) hJ
      exact lw_c12 X h1 h2 hR (fun H1 locs1 hR1 => next M2 H1 locs1 hJ2 hR1)
    · intro _
      obtain ⟨r, M1, M2, h1, h2, hJ2⟩ := o13 (fu := 200000) (Nat.le_refl _) hb' hc' hJ
      exact lw_c13 X h1 h2 hR (fun H1 locs1 hR1 => next M2 H1 locs1 hJ2 hR1)
    · intro _
      obtain ⟨r, M1, M2, h1, h2, hJ2⟩ := o14 (fu := 200000) (Nat.le_refl _) hJ
      exact lw_c14 X h1 h2 hR (fun H1 locs1 hR1 => next M2 H1 locs1 hJ2 hR1)
    · intro _
      obtain ⟨r, M1, M2, h1, h2, hJ2⟩ := o15 (fu := 200000) (Nat.le_refl _) hJ
      exact lw_c15 X h1 h2 hR (fun H1 locs1 hR1 => next M2 H1 locs1 hJ2 hR1)
    · intro _
      obtain ⟨r, M1, M2, h1, h2, hJ2⟩ := o16 (fu := 200000) (Nat.le_refl _) hJ
      exact lw_c16 X h1 h2 hR (fun H1 locs1 hR1 => next M2 H1 locs1 hJ2 hR1)
    · intro _
      obtain ⟨r, h1, h2⟩ := o17 (fu := 200000) hJ (xs (ix (nI i + 1))) (xs (ix (nI i + 2)))
      exact lw_c17 X h1 h2 hR (fun H1 locs1 hR1 => next M H1 locs1 hJ hR1)
    · intro _
      obtain ⟨r, h1, h2⟩ := o18 (fu := 200000) hJ (xs (ix (nI i + 1))) (xs (ix (nI i + 2)))
      exact lw_c18 X h1 h2 hR (fun H1 locs1 hR1 => next M H1 locs1 hJ hR1)
    · intro _
      obtain ⟨r, h1, h2⟩ := o19 (fu := 200000) hJ (xs (ix (nI i + 1)))
      exact lw_c19 X h1 h2 hR (fun H1 locs1 hR1 => next M H1 locs1 hJ hR1)
    · intro _
      obtain ⟨r, h1, h2⟩ := o20 (fu := 200000) (Nat.le_refl _) hJ (xs (ix (nI i + 1)))
      exact lw_c20 X h1 h2 hR (fun H1 locs1 hR1 => next M H1 locs1 hJ hR1)
    · intro _
      obtain ⟨r, h1, h2⟩ := o21 (fu := 200000) (Nat.le_refl _) hJ (xs (ix (nI i + 1)))
      exact lw_c21 X h1 h2 hR (fun H1 locs1 hR1 => next M H1 locs1 hJ hR1)
    · intro _
      obtain ⟨r, M1, h1, h2, hJ2⟩ := o22 (fu := 200000) (Nat.le_refl _) hJ (xs (ix (nI i + 1))) (xs (ix (nI i + 2)))
      exact lw_c22 X h1 h2 hR (fun H1 locs1 hR1 => next M1 H1 locs1 hJ2 hR1)
    · intro _
      obtain ⟨r, h1, h2⟩ := o23 (fu := 200000) hJ (xs (ix (nI i + 1)))
      exact lw_c23 X h1 h2 hR (fun H1 locs1 hR1 => next M H1 locs1 hJ hR1)
    · intro _
      obtain ⟨r, h1, h2⟩ := o24 (fu := 200000) (Nat.le_refl _) hJ (xs (ix (nI i + 1)))
      exact lw_c24 X h1 h2 hR (fun H1 locs1 hR1 => next M H1 locs1 hJ hR1)
    · intro _
      obtain ⟨r, M1, h1, h2, hJ2⟩ := o25 (fu := 200000) (Nat.le_refl _) hJ (xs (ix (nI i + 1)))
      exact lw_c25 X h1 h2 hR (fun H1 locs1 hR1 => next M1 H1 locs1 hJ2 hR1)
    · intro _
      obtain ⟨r, M1, h1, h2, hJ2⟩ := o26 (fu := 200000) (Nat.le_refl _) hJ (xs (ix (nI i + 1)))
      exact lw_c26 X h1 h2 hR (fun H1 locs1 hR1 => next M1 H1 locs1 hJ2 hR1)
    · intro _
      obtain ⟨r, M1, M2, h1, h2, hJ2⟩ := o27 (fu := 200000) (Nat.le_refl _) hb' hc' hJ (xs (ix (nI i + 1)))
      exact lw_c27 X h1 h2 hR (fun H1 locs1 hR1 => next M2 H1 locs1 hJ2 hR1)
    · intro _
      obtain ⟨r, M1, M2, h1, h2, hJ2⟩ := o28 (fu := 200000) (Nat.le_refl _) hb' hc' hJ (xs (ix (nI i + 1))) (xs (ix (nI i + 2)))
      exact lw_c28 X h1 h2 hR (fun H1 locs1 hR1 => next M2 H1 locs1 hJ2 hR1)
    · intro _
      obtain ⟨r, M1, M2, h1, h2, hJ2⟩ := o29 (fu := 200000) (Nat.le_refl _) hb' hc' hJ (xs (ix (nI i + 1)))
      exact lw_c29 X h1 h2 hR (fun H1 locs1 hR1 => next M2 H1 locs1 hJ2 hR1)
    · intro _
      obtain ⟨r, M1, h1, h2, hJ2⟩ := o30 (fu := 200000) (Nat.le_refl _) hJ (xs (ix (nI i + 1)))
      exact lw_c30 X h1 h2 hR (fun H1 locs1 hR1 => next M1 H1 locs1 hJ2 hR1)
    · intro _
      obtain ⟨r, M1, M2, h1, h2, hJ2⟩ := o31 (fu := 200000) (Nat.le_refl _) ha hJ (xs (ix (nI i + 1)))
      exact lw_c31 X h1 h2 hR (fun H1 locs1 hR1 => next M2 H1 locs1 hJ2 hR1)
    · intro _
      obtain ⟨r, M1, M2, h1, h2, hJ2⟩ := o32 (fu := 200000) (Nat.le_refl _) ha hJ (xs (ix (nI i + 1))) (xs (ix (nI i + 2)))
      exact lw_c32 X h1 h2 hR (fun H1 locs1 hR1 => next M2 H1 locs1 hJ2 hR1)
    · intro _
      obtain ⟨r, M1, M2, h1, h2, hJ2⟩ := o33 (fu := 200000) (Nat.le_refl _) hJ (xs (ix (nI i + 1)))
      exact lw_c33 X h1 h2 hR (fun H1 locs1 hR1 => next M2 H1 locs1 hJ2 hR1)
    · intro _
      obtain ⟨r, M1, M2, h1, h2, hJ2⟩ := o34 (fu := 200000) (Nat.le_refl _) hJ
      exact lw_c34 X h1 h2 hR (fun H1 locs1 hR1 => next M2 H1 locs1 hJ2 hR1)
    · intro _
      exact k35
    · intro _
      exact k36
    · intro _
      obtain ⟨r, M1, h1, h2, hJ2⟩ := o37 (fu := 200000) (Nat.le_refl _) hJ (xs (ix (nI i + 1)))
      exact lw_c37 X h1 h2 hR (fun H1 locs1 hR1 => next M1 H1 locs1 hJ2 hR1)
    · intro _
      obtain ⟨r, M1, h1, h2, hJ2⟩ := o38 (fu := 200000) (Nat.le_refl _) hJ (xs (ix (nI i + 1)))
      exact lw_c38 X h1 h2 hR (fun H1 locs1 hR1 => next M1 H1 locs1 hJ2 hR1)
    · intro _
      obtain ⟨r, M1, h1, h2, hJ2⟩ := o39 (fu := 200000) (Nat.le_refl _) hJ (xs (ix (nI i + 1))) (xs (ix (nI i + 2))) (xs (ix (nI i + 3)))
      exact lw_c39 X h1 h2 hR (fun H1 locs1 hR1 => next M1 H1 locs1 hJ2 hR1)
    · intro _
      obtain ⟨r, M1, M2, h1, h2, hJ2⟩ := o40 (fu := 200000) (Nat.le_refl _) ha hJ (xs (ix (nI i + 1)))
      exact lw_c40 X h1 h2 hR (fun H1 locs1 hR1 => next M2 H1 locs1 hJ2 hR1)
    · intro _
      obtain ⟨r, M1, M2, h1, h2, hJ2⟩ := o41 (fu := 200000) (Nat.le_refl _) ha hJ (xs (ix (nI i + 1)))
      exact lw_c41 X h1 h2 hR (fun H1 locs1 hR1 => next M2 H1 locs1 hJ2 hR1)
    · intro _
      obtain ⟨r, M1, M2, h1, h2, hJ2⟩ := o42 (fu := 200000) (Nat.le_refl _) ha hJ (xs (ix (nI i + 1)))
      exact lw_c42 X h1 h2 hR (fun H1 locs1 hR1 => next M2 H1 locs1 hJ2 hR1)
    · intro _
      obtain ⟨r, M1, h1, h2, hJ2⟩ := o43 (fu := 200000) (Nat.le_refl _) hJ (xs (ix (nI i + 1))) (xs (ix (nI i + 2)))
      exact lw_c43 X h1 h2 hR (fun H1 locs1 hR1 => next M1 H1 locs1 hJ2 hR1)
    · intro _
      obtain ⟨r, M1, h1, h2, hJ2⟩ := o44 (fu := 200000) (Nat.le_refl _) hJ (xs (ix (nI i + 1)))
      exact lw_c44 X h1 h2 hR (fun H1 locs1 hR1 => next M1 H1 locs1 hJ2 hR1)
    · intro _
      obtain ⟨r, M1, M2, h1, h2, hJ2⟩ := o45 (fu := 200000) (Nat.le_refl _) hJ (xs (ix (nI i + 1)))
      exact lw_c45 X h1 h2 hR (fun H1 locs1 hR1 => next M2 H1 locs1 hJ2 hR1)
    · intro _
      obtain ⟨r, M1, M2, h1, h2, hJ2⟩ := o46 (fu := 200000) (Nat.le_refl _) hJ (xs (ix (nI i + 1))) (xs (ix (nI i + 2)))
      exact lw_c46 X h1 h2 hR (fun H1 locs1 hR1 => next M2 H1 locs1 hJ2 hR1)
    · intro _
      obtain ⟨r, M1, M2, h1, h2, hJ2⟩ := o47 (fu := 200000) (Nat.le_refl _) hJ (xs (ix (nI i + 1)))
      exact lw_c47 X h1 h2 hR (fun H1 locs1 hR1 => next M2 H1 locs1 hJ2 hR1)
    · intro _
      obtain ⟨r, M1, h1, h2, hJ2⟩ := o48 (fu := 200000) (Nat.le_refl _) hJ (xs (ix (nI i + 1)))
      exact lw_c48 X h1 h2 hR (fun H1 locs1 hR1 => next M1 H1 locs1 hJ2 hR1)
    · exact next M H locs hJ hR
end LP
