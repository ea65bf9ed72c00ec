/-! What the tables give at the start: the classes' and the arrays' class numbers. -/
theorem arr_of {args : Array Value} {s : State} {ty : FieldType} (h : (Cond.arrayClass ty).before args s = true) : ∃ cA : ClassId, ArrOfT s cA ty ∧ s.vm.findClass ("[" ++ ty.toString) = some cA := by
  obtain ⟨cA, kA, comp, hfind, hk, hkind⟩ := Cond.arrayClass_spec h
  exact ⟨cA, fun N z => ⟨(fun k h => by cases h), kA, hk, comp, hkind⟩, hfind⟩
theorem ac_int : Cond.arrayClass .int ∈ ws0 := by decide +kernel
theorem ac_bool : Cond.arrayClass .boolean ∈ ws0 := by decide +kernel
theorem ac_byte : Cond.arrayClass .byte ∈ ws0 := by decide +kernel
theorem ac_long : Cond.arrayClass .long ∈ ws0 := by decide +kernel
theorem over_of {args : Array Value} {s : State} {C : String} (h : (Cond.arrayOver (.object C)).before args s = true) : ∃ cA : ClassId, ArrOfT s cA (.object C) ∧ va_RA s cA (.object C) := by
  obtain ⟨comp, cA, kA, hcomp, hidx, hkA, hkindA, hnameA⟩ := Cond.arrayOver_spec h
  exact ⟨cA, fun N z => ⟨(fun k h => by cases h), kA, hkA, comp, hkindA⟩, kA, comp, hkA, hkindA, hcomp, hnameA⟩
set_option maxHeartbeats 2000000 in
theorem known {args : Array Value} {s : State} (hts : ∀ w ∈ ws0, w.before args s = true) (hov : (Cond.arrayOver (.object RX8)).before args s = true) : ∃ (D : va_G) (g : Nat → ClassId), va_K D vwCl (tyG g) s := by
  obtain ⟨c0, j0, k0⟩ := u_known (C := RX0) (T := TX0) (N := 4) (n := 4) hts in0 (hts _ win_0)
  obtain ⟨c1, j1, k1⟩ := u_known (C := RX1) (T := TX1) (N := 13) (n := 13) hts in1 (hts _ win_1)
  obtain ⟨c2, j2, k2⟩ := u_known (C := RX2) (T := TX2) (N := 2) (n := 2) hts in2 (hts _ win_2)
  obtain ⟨c3, j3, k3⟩ := u_known (C := RX3) (T := TX3) (N := 3) (n := 3) hts in3 (hts _ win_3)
  obtain ⟨c4, j4, k4⟩ := u_known (C := RX4) (T := TX4) (N := 4) (n := 4) hts in4 (hts _ win_4)
  obtain ⟨c5, j5, k5⟩ := u_known (C := RX5) (T := TX5) (N := 9) (n := 9) hts in5 (hts _ win_5)
  obtain ⟨c6, j6, k6⟩ := u_known (C := RX6) (T := TX6) (N := 7) (n := 7) hts in6 (hts _ win_6)
  obtain ⟨c7, j7, k7⟩ := u_known (C := RX7) (T := TX7) (N := 14) (n := 14) hts in7 (hts _ win_7)
  obtain ⟨c8, j8, k8⟩ := u_known (C := RX8) (T := TX8) (N := 13) (n := 13) hts in8 (hts _ win_8)
  obtain ⟨c9, j9, k9⟩ := u_known (C := RX9) (T := TX9) (N := 13) (n := 13) hts in9 (hts _ win_9)
  obtain ⟨c10, j10, k10⟩ := u_known (C := RX10) (T := TX10) (N := 19) (n := 19) hts in10 (hts _ win_10)
  obtain ⟨c11, j11, k11⟩ := u_known (C := RX11) (T := TX11) (N := 52) (n := 52) hts in11 (hts _ win_11)
  obtain ⟨a0, b0, d0⟩ := arr_of (hts _ ac_int)
  obtain ⟨a1, b1, d1⟩ := arr_of (hts _ ac_bool)
  obtain ⟨a2, b2, d2⟩ := arr_of (hts _ ac_byte)
  obtain ⟨a3, b3, d3⟩ := arr_of (hts _ ac_long)
  obtain ⟨a4, b4, d4⟩ := over_of hov
  refine ⟨(fun k => if k = 0 then c0 else if k = 1 then c1 else if k = 2 then c2 else if k = 3 then c3 else if k = 4 then c4 else if k = 5 then c5 else if k = 6 then c6 else if k = 7 then c7 else if k = 8 then c8 else if k = 9 then c9 else if k = 10 then c10 else c11, fun k => if k = 0 then j0 else if k = 1 then j1 else if k = 2 then j2 else if k = 3 then j3 else if k = 4 then j4 else if k = 5 then j5 else if k = 6 then j6 else if k = 7 then j7 else if k = 8 then j8 else if k = 9 then j9 else if k = 10 then j10 else j11), fun k => if k = 0 then a0 else if k = 1 then a1 else if k = 2 then a2 else if k = 3 then a3 else a4, ?_, ?_⟩
  · intro k q hq
    match k, hq with
    | 0, hq => cases hq; exact k0
    | 1, hq => cases hq; exact k1
    | 2, hq => cases hq; exact k2
    | 3, hq => cases hq; exact k3
    | 4, hq => cases hq; exact k4
    | 5, hq => cases hq; exact k5
    | 6, hq => cases hq; exact k6
    | 7, hq => cases hq; exact k7
    | 8, hq => cases hq; exact k8
    | 9, hq => cases hq; exact k9
    | 10, hq => cases hq; exact k10
    | 11, hq => cases hq; exact k11
    | k + 12, hq => simp [vwCl] at hq
  · intro k q hq
    match k, hq with
    | 0, hq => cases hq; exact ⟨b0, d0⟩
    | 1, hq => cases hq; exact ⟨b1, d1⟩
    | 2, hq => cases hq; exact ⟨b2, d2⟩
    | 3, hq => cases hq; exact ⟨b3, d3⟩
    | 4, hq => cases hq; exact ⟨b4, d4⟩
    | k + 5, hq => simp [tyG] at hq
