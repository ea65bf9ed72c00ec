/-! whole_start; the claim. -/
theorem fl_ne : ∀ i, i < 12 → ∀ j, j < 12 → i ≠ j → Cond.not (Cond.eq (tmS i) (tmS j)) ∈ flatC gvC ∨ Cond.not (Cond.eq (tmS j) (tmS i)) ∈ flatC gvC := by decide +kernel
theorem nest_any {w : Cond} {args : Array Value} {s : State} (hn : isNest w = true) (h : w.before args s = true) : va_Nw w s := by
  unfold isNest at hn
  split at hn
  · exact h
  · exact h
  · exact h
  · cases hn
theorem start_sx {s : State} {b : Nat} (hts : ∀ w ∈ lw_tbl, w.before #[Value.ref b] s = true) (hgv : gvC.before #[Value.ref b] s = true) : ∃ κ : Kp, SX κ (fun q => s.heap.size ≤ q) s s.heap := by
  have hs := flat_of_before gvC hgv
  have hA : ∀ a : Nat, a < s.heap.size → ¬ (fun q : Nat => s.heap.size ≤ q) a := fun a h => Nat.not_le.mpr h
  obtain ⟨l1, l2, l3, l4, l5, l6, l7⟩ := lw_ls
  obtain ⟨t1, e1, T1⟩ := va_Tof (f := fun j => .int (laidT.getD j 0)) (N := 30) (by decide) (hs _ fl_laid.1.1) (va_eqt (hs _ fl_laid.1.2)) (fun j hj => va_eqt (hs _ (fl_laid.2 j hj))) hA
  obtain ⟨t2, e2, T2⟩ := va_Tof (f := fun j => .int (seenT.getD j 0)) (N := 36) (by decide) (hs _ fl_seen.1.1) (va_eqt (hs _ fl_seen.1.2)) (fun j hj => va_eqt (hs _ (fl_seen.2 j hj))) hA
  obtain ⟨adK, adV, S, eS⟩ := vk_Sof (N := 12) (tm := tmS) (len := strL) (byt := strB) (by decide) (fun i hi => hs _ (fl_st i hi).1) (fun i hi => hs _ (fl_st i hi).2.1) (fun i hi => hs _ (fl_st i hi).2.2.1) (fun i hi => hs _ (fl_st i hi).2.2.2) (fun i hi j hj => hs _ (fl_ch i hi j hj)) (fun i j hi hj hne => (fl_ne i hi j hj hne).imp (fun h => hs _ h) (fun h => hs _ h)) hA
  exact ⟨(t1, t2, adK, adV), ⟨va_Zof (hts _ l1) (hts _ l5) e1 hA, T1⟩, ⟨va_Zof (hts _ l2) (hts _ l5) e2 hA, T2⟩, va_Zof (hts _ l3) (hts _ l6) (va_eqt (hs _ fl_cs.1)) hA, va_Zqof (hts _ l4) (hts _ l7) (hs _ fl_cs.2) hA, S, fun i hi => ⟨hts _ (lw_sr i hi), eS i hi⟩, fun w hw => nest_any (List.mem_filter.mp hw).2 (hts w (List.mem_filter.mp hw).1)⟩
theorem whole_start {p : Program} {e : Env} {s : State} {m : MethodId} {below : List Frame} {meth : Method} {c : Code} (l : Launch) (hflags : l.flags = flags0) {b L : Nat} {xs : Nat → Int32} (hL : L ≤ 3072) (C0 : lw_At p s m meth c b L xs) : W p l e room_1 s m #[Value.ref b] below meth c s.heap [] 0 0 (lw_Z below #[Value.ref b] s) (entryFrame m ([Value.ref b] : List Value).toArray 4) := by
  obtain ⟨hx, hb, hr, hml, hown, hts, hX, hbl, hlocks, hgv⟩ := id C0
  have hts0 : ∀ w ∈ ws0, w.before #[Value.ref b] s = true := fun w hw => hts w (List.mem_filter.mp hw).1
  obtain ⟨κ, hSX⟩ := start_sx hts hgv
  obtain ⟨D, g, hK⟩ := known hts0 (hts _ (List.mem_filter.mp ao_8).1)
  exact start_run (E := (D, g, κ, fun q => s.heap.size ≤ q)) hr hlocks hX hbl (Nat.not_le.mpr hbl) (fun q h => h) hL ⟨hx, hb, hml, hown, hts0, hK, hSX, fun q h => h⟩
