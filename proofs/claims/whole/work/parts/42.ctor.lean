def pt (a : Nat) (row : Nat → Int32) (M : Mm) : Mm := (fun b => if b = a then row else M.1 b, M.2.1, fun b => if b = a then fun _ => none else M.2.2 b)
theorem pt_Zr {a sz : Nat} {row : Nat → Int32} {M : Mm} (h : Zr sz M) (ha : a < sz) : Zr sz (pt a row M) := fun q hq => by
  obtain ⟨h1, h2, h3⟩ := h q hq
  have hne : q ≠ a := by omega
  exact ⟨by simp [pt, hne, h1], h2, by simp [pt, hne, h3]⟩
def dfl0 : List Value := [.null, .null, .null, .int 0]
theorem dfv0 : ∀ j, j < 4 → defaultValue (tyX0 j) = vp_V dfl0 j := by decide +kernel
theorem wci_0 : Cond.code yX0_init cX0_init 2 none ∈ ws0 := tb_2 133 (by decide +kernel) rfl
theorem wii_0 : Cond.instanceMethod yX0_init ∈ ws0 := tb_2 132 (by decide +kernel) rfl
theorem win_0 : Cond.instantiable RX0 4 ∈ ws0 := tb_2 130 (by decide +kernel) rfl
theorem dX0_init_0 : decode cX0_init 0 = .ok (.aload_n 0, 1) := by decide +kernel
theorem dX0_init_1 : decode cX0_init 1 = .ok (.invokespecial 3, 3) := by decide +kernel
theorem dX0_init_4 : decode cX0_init 4 = .ok (.aload_n 0, 1) := by decide +kernel
theorem dX0_init_5 : decode cX0_init 5 = .ok (.iload_n 1, 1) := by decide +kernel
theorem dX0_init_6 : decode cX0_init 6 = .ok (.newarray .int, 2) := by decide +kernel
theorem dX0_init_8 : decode cX0_init 8 = .ok (.putfield 9, 3) := by decide +kernel
theorem dX0_init_11 : decode cX0_init 11 = .ok (.aload_n 0, 1) := by decide +kernel
theorem dX0_init_12 : decode cX0_init 12 = .ok (.iload_n 1, 1) := by decide +kernel
theorem dX0_init_13 : decode cX0_init 13 = .ok (.newarray .int, 2) := by decide +kernel
theorem dX0_init_15 : decode cX0_init 15 = .ok (.putfield 15, 3) := by decide +kernel
theorem dX0_init_18 : decode cX0_init 18 = .ok (.aload_n 0, 1) := by decide +kernel
theorem dX0_init_19 : decode cX0_init 19 = .ok (.iload_n 1, 1) := by decide +kernel
theorem dX0_init_20 : decode cX0_init 20 = .ok (.newarray .int, 2) := by decide +kernel
theorem dX0_init_22 : decode cX0_init 22 = .ok (.putfield 18, 3) := by decide +kernel
theorem dX0_init_25 : decode cX0_init 25 = .ok (.return_, 1) := by decide +kernel
theorem ob_X0 : Cond.methodLink RX0 3 objectInit ∈ ws0 := tb_2 134 (by decide +kernel) rfl
def nL0 (a : Nat) (N : Nat) (L : Lay) : Lay := (a, (5, 0)) :: (L ++ [(a + 1, (0, N))] ++ [(a + 2, (0, N))] ++ [(a + 3, (0, N))])
theorem aL0 (a : Nat) (N : Nat) (L : Lay) : At (nL0 a N L) a (T0 N) := by
  intro p hp
  simp only [T0, List.mem_cons, List.not_mem_nil, or_false] at hp
  rcases hp with rfl | rfl | rfl | rfl <;> simp [nL0]
theorem nL0_last (a : Nat) (L : Lay) (N : Nat) : ∃ p ∈ nL0 a N L, p.1 = a + 3 := ⟨(a + 3, (0, N)), aL0 a N L (3, (0, N)) (by simp [T0]), rfl⟩
def iC0 (fu a : Nat) (M : Mm) : Option Mm :=
  lt (pt a (fun _ => 0) M) fun M1 =>
  some M1
theorem iC0_Z {fu a : Nat} {M M' : Mm} (h : iC0 fu a M = some M') (hZ : Zr (a + 1) M) : Zr (a + 1 + 3) M' := by
  unfold iC0 at h
  obtain ⟨M1, eM1, h⟩ := lt_el h
  have zM1 : Zr (a + 1 + 3) M1 := by rw [eM1]; exact pt_Zr (hZ.mono (by omega)) (by omega)
  cases h
  exact zM1
set_option maxRecDepth 100000 in
set_option maxHeartbeats 4000000 in
theorem kC0 {l : Launch} {E : Ge} (fu d : Nat) {a : Nat} {L : Lay} {M M' : Mm} {k1 : Int32} {N : Nat} (hk : ¬ k1 < 0) (hKN : ix k1 = N) (hN9 : N ≤ 1000) (hZ0 : Zr a M) (h : iC0 fu a M = some M') : Cn l E 0 dfl0 yX0_init cX0_init 2 (d + 1) 3 (N + N + N) a [.int k1] L M (nL0 a N L) M' := by
  refine Cn.of (by decide) hZ0 ?_
  intro p e s m below meth c hr hlk hnm Y hs0 hN
  have Y : By p s m _ c cX0_init 2 RX0 E := Y
  have hx := Y.1
  have hb := Y.2.1
  have hin : meth.name = "<init>" := hnm
  have hl := lv_entry ([.ref a, .int k1]) (n := 2) (Nat.le_of_ble_eq_true rfl)
  rw [lg_entry_eq]
  generalize (lg_sl ([.ref a, .int k1]) ++ List.replicate (2 - (lg_sl ([.ref a, .int k1])).length) Slot.unset).toArray = ls at hl ⊢
  have hl : lv_has ls 2 [(0, .ref a), (1, .int k1)] := hl
  unfold iC0 at h
  have hN : Nx s E [(a, .inr (0, [.null, .null, .null, .int 0]))] L M (a + 1) 0 s.heap [] := hN
  refine lv_aload_n hx hb dX0_init_0 rfl (lv_at hl 0 rfl) ?_
  refine n_obj Y ob_X0 hl.1 dX0_init_1 (by show 1 ≤ d + 1; omega) (by show 0 + 12 ≤ 42 * (d + 1); omega) ?_
  refine lv_aload_n hx hb dX0_init_4 rfl (lv_at hl 0 rfl) ?_
  refine lv_iload_n hx hb dX0_init_5 rfl (lv_at hl 1 rfl) ?_
  refine n_arrI (N := N) Y hN hk hKN (by omega) (Nat.le_of_ble_eq_true rfl) (by show _ ≤ N + N + N; omega) dX0_init_6 (fun H hN => ?_)
  have hN : Nx s E [(a, .inr (0, [.null, .null, .null, .int 0]))] (L ++ [(a + 1, (0, N))]) M (a + 2) 1 H [] := hN
  refine n_putF (er := []) (ci := 0) (C := RX0) (T := TX0) (N := 4) (k := 0) (ty0 := tyX0) (fs := [.null, .null, .null, .int 0]) (fs' := [.ref (a + 1), .null, .null, .int 0]) Y hN rfl in0 tyX0_ok nmX0 (by decide) lk_X0_9 rfl hin rfl rfl rfl (Nat.le_of_ble_eq_true rfl) rfl dX0_init_8 (fun H locs hN => ?_)
  have hN : Nx s E [(a, .inr (0, [.ref (a + 1), .null, .null, .int 0]))] (L ++ [(a + 1, (0, N))]) M (a + 2) 1 H locs := hN
  refine lv_aload_n hx hb dX0_init_11 rfl (lv_at hl 0 rfl) ?_
  refine lv_iload_n hx hb dX0_init_12 rfl (lv_at hl 1 rfl) ?_
  refine n_arrI (N := N) Y hN hk hKN (by omega) (Nat.le_of_ble_eq_true rfl) (by show _ ≤ N + N + N; omega) dX0_init_13 (fun H hN => ?_)
  have hN : Nx s E [(a, .inr (0, [.ref (a + 1), .null, .null, .int 0]))] (L ++ [(a + 1, (0, N))] ++ [(a + 2, (0, N))]) M (a + 3) 2 H locs := hN
  refine n_putF (er := []) (ci := 0) (C := RX0) (T := TX0) (N := 4) (k := 1) (ty0 := tyX0) (fs := [.ref (a + 1), .null, .null, .int 0]) (fs' := [.ref (a + 1), .ref (a + 2), .null, .int 0]) Y hN rfl in0 tyX0_ok nmX0 (by decide) lk_X0_15 rfl hin rfl rfl rfl (Nat.le_of_ble_eq_true rfl) rfl dX0_init_15 (fun H locs hN => ?_)
  have hN : Nx s E [(a, .inr (0, [.ref (a + 1), .ref (a + 2), .null, .int 0]))] (L ++ [(a + 1, (0, N))] ++ [(a + 2, (0, N))]) M (a + 3) 2 H locs := hN
  refine lv_aload_n hx hb dX0_init_18 rfl (lv_at hl 0 rfl) ?_
  refine lv_iload_n hx hb dX0_init_19 rfl (lv_at hl 1 rfl) ?_
  refine n_arrI (N := N) Y hN hk hKN (by omega) (Nat.le_of_ble_eq_true rfl) (by show _ ≤ N + N + N; omega) dX0_init_20 (fun H hN => ?_)
  have hN : Nx s E [(a, .inr (0, [.ref (a + 1), .ref (a + 2), .null, .int 0]))] (L ++ [(a + 1, (0, N))] ++ [(a + 2, (0, N))] ++ [(a + 3, (0, N))]) M (a + 4) 3 H locs := hN
  refine n_putF (er := []) (ci := 0) (C := RX0) (T := TX0) (N := 4) (k := 2) (ty0 := tyX0) (fs := [.ref (a + 1), .ref (a + 2), .null, .int 0]) (fs' := [.ref (a + 1), .ref (a + 2), .ref (a + 3), .int 0]) Y hN rfl in0 tyX0_ok nmX0 (by decide) lk_X0_18 rfl hin rfl rfl rfl (Nat.le_of_ble_eq_true rfl) rfl dX0_init_22 (fun H locs hN => ?_)
  have hN : Nx s E [(a, .inr (0, [.ref (a + 1), .ref (a + 2), .ref (a + 3), .int 0]))] (L ++ [(a + 1, (0, N))] ++ [(a + 2, (0, N))] ++ [(a + 3, (0, N))]) M (a + 4) 3 H locs := hN
  obtain ⟨M1, eM1, h⟩ := lt_el h
  have hN := hN.done (a := a) (k := 5) (n := 0) (M1 := M1) (by subst eM1; simp [cellOf, flds, pt, va_rf]) (by subst eM1; intro b hb; simp [pt, hb]) (by omega)
  have hN : Nx s E [] ((a, (5, 0)) :: (L ++ [(a + 1, (0, N))] ++ [(a + 2, (0, N))] ++ [(a + 3, (0, N))])) M1 (a + 4) 3 H locs := hN
  cases h
  exact n_ret Y hN hs0 (by show _ ≤ N + N + N; omega) hr hlk dX0_init_25
def dfl2 : List Value := [.null, .int 0]
theorem dfv2 : ∀ j, j < 2 → defaultValue (tyX2 j) = vp_V dfl2 j := by decide +kernel
theorem wci_2 : Cond.code yX2_init cX2_init 2 none ∈ ws0 := tb_1 224 (by decide +kernel) rfl
theorem wii_2 : Cond.instanceMethod yX2_init ∈ ws0 := tb_1 223 (by decide +kernel) rfl
theorem win_2 : Cond.instantiable RX2 2 ∈ ws0 := tb_1 221 (by decide +kernel) rfl
theorem dX2_init_0 : decode cX2_init 0 = .ok (.aload_n 0, 1) := by decide +kernel
theorem dX2_init_1 : decode cX2_init 1 = .ok (.invokespecial 3, 3) := by decide +kernel
theorem dX2_init_4 : decode cX2_init 4 = .ok (.aload_n 0, 1) := by decide +kernel
theorem dX2_init_5 : decode cX2_init 5 = .ok (.iload_n 1, 1) := by decide +kernel
theorem dX2_init_6 : decode cX2_init 6 = .ok (.newarray .int, 2) := by decide +kernel
theorem dX2_init_8 : decode cX2_init 8 = .ok (.putfield 9, 3) := by decide +kernel
theorem dX2_init_11 : decode cX2_init 11 = .ok (.return_, 1) := by decide +kernel
theorem ob_X2 : Cond.methodLink RX2 3 objectInit ∈ ws0 := tb_1 225 (by decide +kernel) rfl
def nL2 (a : Nat) (N : Nat) (L : Lay) : Lay := (a, (7, 0)) :: (L ++ [(a + 1, (0, N))])
theorem aL2 (a : Nat) (N : Nat) (L : Lay) : At (nL2 a N L) a (T2 N) := by
  intro p hp
  simp only [T2, List.mem_cons, List.not_mem_nil, or_false] at hp
  rcases hp with rfl | rfl <;> simp [nL2]
theorem nL2_last (a : Nat) (L : Lay) (N : Nat) : ∃ p ∈ nL2 a N L, p.1 = a + 1 := ⟨(a + 1, (0, N)), aL2 a N L (1, (0, N)) (by simp [T2]), rfl⟩
def iC2 (fu a : Nat) (M : Mm) : Option Mm :=
  lt (pt a (fun _ => 0) M) fun M1 =>
  some M1
theorem iC2_Z {fu a : Nat} {M M' : Mm} (h : iC2 fu a M = some M') (hZ : Zr (a + 1) M) : Zr (a + 1 + 1) M' := by
  unfold iC2 at h
  obtain ⟨M1, eM1, h⟩ := lt_el h
  have zM1 : Zr (a + 1 + 1) M1 := by rw [eM1]; exact pt_Zr (hZ.mono (by omega)) (by omega)
  cases h
  exact zM1
set_option maxRecDepth 100000 in
set_option maxHeartbeats 4000000 in
theorem kC2 {l : Launch} {E : Ge} (fu d : Nat) {a : Nat} {L : Lay} {M M' : Mm} {k1 : Int32} {N : Nat} (hk : ¬ k1 < 0) (hKN : ix k1 = N) (hN9 : N ≤ 1000) (hZ0 : Zr a M) (h : iC2 fu a M = some M') : Cn l E 2 dfl2 yX2_init cX2_init 2 (d + 1) 1 (N) a [.int k1] L M (nL2 a N L) M' := by
  refine Cn.of (by decide) hZ0 ?_
  intro p e s m below meth c hr hlk hnm Y hs0 hN
  have Y : By p s m _ c cX2_init 2 RX2 E := Y
  have hx := Y.1
  have hb := Y.2.1
  have hin : meth.name = "<init>" := hnm
  have hl := lv_entry ([.ref a, .int k1]) (n := 2) (Nat.le_of_ble_eq_true rfl)
  rw [lg_entry_eq]
  generalize (lg_sl ([.ref a, .int k1]) ++ List.replicate (2 - (lg_sl ([.ref a, .int k1])).length) Slot.unset).toArray = ls at hl ⊢
  have hl : lv_has ls 2 [(0, .ref a), (1, .int k1)] := hl
  unfold iC2 at h
  have hN : Nx s E [(a, .inr (2, [.null, .int 0]))] L M (a + 1) 0 s.heap [] := hN
  refine lv_aload_n hx hb dX2_init_0 rfl (lv_at hl 0 rfl) ?_
  refine n_obj Y ob_X2 hl.1 dX2_init_1 (by show 1 ≤ d + 1; omega) (by show 0 + 12 ≤ 42 * (d + 1); omega) ?_
  refine lv_aload_n hx hb dX2_init_4 rfl (lv_at hl 0 rfl) ?_
  refine lv_iload_n hx hb dX2_init_5 rfl (lv_at hl 1 rfl) ?_
  refine n_arrI (N := N) Y hN hk hKN (by omega) (Nat.le_of_ble_eq_true rfl) (by show _ ≤ N; omega) dX2_init_6 (fun H hN => ?_)
  have hN : Nx s E [(a, .inr (2, [.null, .int 0]))] (L ++ [(a + 1, (0, N))]) M (a + 2) 1 H [] := hN
  refine n_putF (er := []) (ci := 2) (C := RX2) (T := TX2) (N := 2) (k := 0) (ty0 := tyX2) (fs := [.null, .int 0]) (fs' := [.ref (a + 1), .int 0]) Y hN rfl in2 tyX2_ok nmX2 (by decide) lk_X2_9 rfl hin rfl rfl rfl (Nat.le_of_ble_eq_true rfl) rfl dX2_init_8 (fun H locs hN => ?_)
  have hN : Nx s E [(a, .inr (2, [.ref (a + 1), .int 0]))] (L ++ [(a + 1, (0, N))]) M (a + 2) 1 H locs := hN
  obtain ⟨M1, eM1, h⟩ := lt_el h
  have hN := hN.done (a := a) (k := 7) (n := 0) (M1 := M1) (by subst eM1; simp [cellOf, flds, pt, va_rf]) (by subst eM1; intro b hb; simp [pt, hb]) (by omega)
  have hN : Nx s E [] ((a, (7, 0)) :: (L ++ [(a + 1, (0, N))])) M1 (a + 2) 1 H locs := hN
  cases h
  exact n_ret Y hN hs0 (by show _ ≤ N; omega) hr hlk dX2_init_11
def dfl8 : List Value := [.int 0, .int 0, .int 0, .int 0, .int 0, .null, .null, .null, .null, .null, .null, .null, .null]
theorem dfv8 : ∀ j, j < 13 → defaultValue (tyX8 j) = vp_V dfl8 j := by decide +kernel
theorem wci_8 : Cond.code yX8_init cX8_init 1 none ∈ ws0 := tb_1 38 (by decide +kernel) rfl
theorem wii_8 : Cond.instanceMethod yX8_init ∈ ws0 := tb_1 37 (by decide +kernel) rfl
theorem win_8 : Cond.instantiable RX8 13 ∈ ws0 := tb_1 35 (by decide +kernel) rfl
theorem dX8_init_0 : decode cX8_init 0 = .ok (.aload_n 0, 1) := by decide +kernel
theorem dX8_init_1 : decode cX8_init 1 = .ok (.invokespecial 3, 3) := by decide +kernel
theorem dX8_init_4 : decode cX8_init 4 = .ok (.aload_n 0, 1) := by decide +kernel
theorem dX8_init_5 : decode cX8_init 5 = .ok (.bipush 12, 2) := by decide +kernel
theorem dX8_init_7 : decode cX8_init 7 = .ok (.newarray .int, 2) := by decide +kernel
theorem dX8_init_9 : decode cX8_init 9 = .ok (.putfield 9, 3) := by decide +kernel
theorem dX8_init_12 : decode cX8_init 12 = .ok (.aload_n 0, 1) := by decide +kernel
theorem dX8_init_13 : decode cX8_init 13 = .ok (.bipush 12, 2) := by decide +kernel
theorem dX8_init_15 : decode cX8_init 15 = .ok (.newarray .int, 2) := by decide +kernel
theorem dX8_init_17 : decode cX8_init 17 = .ok (.putfield 15, 3) := by decide +kernel
theorem dX8_init_20 : decode cX8_init 20 = .ok (.aload_n 0, 1) := by decide +kernel
theorem dX8_init_21 : decode cX8_init 21 = .ok (.bipush 12, 2) := by decide +kernel
theorem dX8_init_23 : decode cX8_init 23 = .ok (.newarray .int, 2) := by decide +kernel
theorem dX8_init_25 : decode cX8_init 25 = .ok (.putfield 18, 3) := by decide +kernel
theorem dX8_init_28 : decode cX8_init 28 = .ok (.aload_n 0, 1) := by decide +kernel
theorem dX8_init_29 : decode cX8_init 29 = .ok (.bipush 8, 2) := by decide +kernel
theorem dX8_init_31 : decode cX8_init 31 = .ok (.newarray .int, 2) := by decide +kernel
theorem dX8_init_33 : decode cX8_init 33 = .ok (.putfield 21, 3) := by decide +kernel
theorem dX8_init_36 : decode cX8_init 36 = .ok (.aload_n 0, 1) := by decide +kernel
theorem dX8_init_37 : decode cX8_init 37 = .ok (.bipush 10, 2) := by decide +kernel
theorem dX8_init_39 : decode cX8_init 39 = .ok (.newarray .int, 2) := by decide +kernel
theorem dX8_init_41 : decode cX8_init 41 = .ok (.putfield 24, 3) := by decide +kernel
theorem dX8_init_44 : decode cX8_init 44 = .ok (.aload_n 0, 1) := by decide +kernel
theorem dX8_init_45 : decode cX8_init 45 = .ok (.bipush 10, 2) := by decide +kernel
theorem dX8_init_47 : decode cX8_init 47 = .ok (.newarray .int, 2) := by decide +kernel
theorem dX8_init_49 : decode cX8_init 49 = .ok (.putfield 27, 3) := by decide +kernel
theorem dX8_init_52 : decode cX8_init 52 = .ok (.aload_n 0, 1) := by decide +kernel
theorem dX8_init_53 : decode cX8_init 53 = .ok (.bipush 10, 2) := by decide +kernel
theorem dX8_init_55 : decode cX8_init 55 = .ok (.newarray .int, 2) := by decide +kernel
theorem dX8_init_57 : decode cX8_init 57 = .ok (.putfield 30, 3) := by decide +kernel
theorem dX8_init_60 : decode cX8_init 60 = .ok (.aload_n 0, 1) := by decide +kernel
theorem dX8_init_61 : decode cX8_init 61 = .ok (.bipush 64, 2) := by decide +kernel
theorem dX8_init_63 : decode cX8_init 63 = .ok (.newarray .int, 2) := by decide +kernel
theorem dX8_init_65 : decode cX8_init 65 = .ok (.putfield 33, 3) := by decide +kernel
theorem dX8_init_68 : decode cX8_init 68 = .ok (.aload_n 0, 1) := by decide +kernel
theorem dX8_init_69 : decode cX8_init 69 = .ok (.invokevirtual 36, 3) := by decide +kernel
theorem dX8_init_72 : decode cX8_init 72 = .ok (.return_, 1) := by decide +kernel
theorem ob_X8 : Cond.methodLink RX8 3 objectInit ∈ ws0 := tb_1 39 (by decide +kernel) rfl
theorem ml_X8_36 : Cond.methodLink RX8 36 yX8_wipe ∈ ws0 := tb_1 40 (by decide +kernel) rfl
def nL8 (a : Nat) (L : Lay) : Lay := (a, (13, 0)) :: (L ++ [(a + 1, (0, 12))] ++ [(a + 2, (0, 12))] ++ [(a + 3, (0, 12))] ++ [(a + 4, (0, 8))] ++ [(a + 5, (0, 10))] ++ [(a + 6, (0, 10))] ++ [(a + 7, (0, 10))] ++ [(a + 8, (0, 64))])
theorem aL8 (a : Nat) (L : Lay) : At (nL8 a L) a T8 := by
  intro p hp
  simp only [T8, List.mem_cons, List.not_mem_nil, or_false] at hp
  rcases hp with rfl | rfl | rfl | rfl | rfl | rfl | rfl | rfl | rfl <;> simp [nL8]
theorem nL8_last (a : Nat) (L : Lay) : ∃ p ∈ nL8 a L, p.1 = a + 8 := ⟨(a + 8, (0, 64)), aL8 a L (8, (0, 64)) (by simp [T8]), rfl⟩
def iC8 (fu a : Nat) (M : Mm) : Option Mm :=
  lt (pt a (fun _ => 0) M) fun M1 =>
  bm (fX8_wipe fu a M1) fun M2 =>
  lt (trunc (a + 9) M2) fun M3 =>
  some M3
theorem iC8_Z {fu a : Nat} {M M' : Mm} (h : iC8 fu a M = some M') (hZ : Zr (a + 1) M) : Zr (a + 1 + 8) M' := by
  unfold iC8 at h
  obtain ⟨M1, eM1, h⟩ := lt_el h
  have zM1 : Zr (a + 1 + 8) M1 := by rw [eM1]; exact pt_Zr (hZ.mono (by omega)) (by omega)
  obtain ⟨M2, hcM2, h⟩ := bm_el h
  obtain ⟨M3, eM3, h⟩ := lt_el h
  have zM3 : Zr (a + 1 + 8) M3 := by rw [eM3]; exact (trunc_Zr _ _).mono (by omega)
  cases h
  exact zM3
set_option maxRecDepth 100000 in
set_option maxHeartbeats 4000000 in
theorem kC8 {l : Launch} {E : Ge} (fu d : Nat) {a : Nat} {L : Lay} {M M' : Mm} (hZ0 : Zr a M) (h : iC8 fu a M = some M') : Cn l E 8 dfl8 yX8_init cX8_init 1 (d + 2) 8 (138) a [] L M (nL8 a L) M' := by
  refine Cn.of (by decide) hZ0 ?_
  intro p e s m below meth c hr hlk hnm Y hs0 hN
  have Y : By p s m _ c cX8_init 1 RX8 E := Y
  have hx := Y.1
  have hb := Y.2.1
  have hin : meth.name = "<init>" := hnm
  have hl := lv_entry ([.ref a]) (n := 1) (Nat.le_of_ble_eq_true rfl)
  rw [lg_entry_eq]
  generalize (lg_sl ([.ref a]) ++ List.replicate (1 - (lg_sl ([.ref a])).length) Slot.unset).toArray = ls at hl ⊢
  have hl : lv_has ls 1 [(0, .ref a)] := hl
  unfold iC8 at h
  have hN : Nx s E [(a, .inr (8, [.int 0, .int 0, .int 0, .int 0, .int 0, .null, .null, .null, .null, .null, .null, .null, .null]))] L M (a + 1) 0 s.heap [] := hN
  refine lv_aload_n hx hb dX8_init_0 rfl (lv_at hl 0 rfl) ?_
  refine n_obj Y ob_X8 hl.1 dX8_init_1 (by show 1 ≤ d + 2; omega) (by show 0 + 12 ≤ 42 * (d + 2); omega) ?_
  refine lv_aload_n hx hb dX8_init_4 rfl (lv_at hl 0 rfl) ?_
  refine lv_bipush (v := 12) hx hb dX8_init_5 (by decide) ?_
  refine n_arrI (N := 12) Y hN (by decide) (by decide +kernel) (Nat.le_of_ble_eq_true rfl) (Nat.le_of_ble_eq_true rfl) (Nat.le_of_ble_eq_true rfl) dX8_init_7 (fun H hN => ?_)
  have hN : Nx s E [(a, .inr (8, [.int 0, .int 0, .int 0, .int 0, .int 0, .null, .null, .null, .null, .null, .null, .null, .null]))] (L ++ [(a + 1, (0, 12))]) M (a + 2) 1 H [] := hN
  refine n_putF (er := []) (ci := 8) (C := RX8) (T := TX8) (N := 13) (k := 5) (ty0 := tyX8) (fs := [.int 0, .int 0, .int 0, .int 0, .int 0, .null, .null, .null, .null, .null, .null, .null, .null]) (fs' := [.int 0, .int 0, .int 0, .int 0, .int 0, .ref (a + 1), .null, .null, .null, .null, .null, .null, .null]) Y hN rfl in8 tyX8_ok nmX8 (by decide) lk_X8_9 rfl hin rfl rfl rfl (Nat.le_of_ble_eq_true rfl) rfl dX8_init_9 (fun H locs hN => ?_)
  have hN : Nx s E [(a, .inr (8, [.int 0, .int 0, .int 0, .int 0, .int 0, .ref (a + 1), .null, .null, .null, .null, .null, .null, .null]))] (L ++ [(a + 1, (0, 12))]) M (a + 2) 1 H locs := hN
  refine lv_aload_n hx hb dX8_init_12 rfl (lv_at hl 0 rfl) ?_
  refine lv_bipush (v := 12) hx hb dX8_init_13 (by decide) ?_
  refine n_arrI (N := 12) Y hN (by decide) (by decide +kernel) (Nat.le_of_ble_eq_true rfl) (Nat.le_of_ble_eq_true rfl) (Nat.le_of_ble_eq_true rfl) dX8_init_15 (fun H hN => ?_)
  have hN : Nx s E [(a, .inr (8, [.int 0, .int 0, .int 0, .int 0, .int 0, .ref (a + 1), .null, .null, .null, .null, .null, .null, .null]))] (L ++ [(a + 1, (0, 12))] ++ [(a + 2, (0, 12))]) M (a + 3) 2 H locs := hN
  refine n_putF (er := []) (ci := 8) (C := RX8) (T := TX8) (N := 13) (k := 6) (ty0 := tyX8) (fs := [.int 0, .int 0, .int 0, .int 0, .int 0, .ref (a + 1), .null, .null, .null, .null, .null, .null, .null]) (fs' := [.int 0, .int 0, .int 0, .int 0, .int 0, .ref (a + 1), .ref (a + 2), .null, .null, .null, .null, .null, .null]) Y hN rfl in8 tyX8_ok nmX8 (by decide) lk_X8_15 rfl hin rfl rfl rfl (Nat.le_of_ble_eq_true rfl) rfl dX8_init_17 (fun H locs hN => ?_)
  have hN : Nx s E [(a, .inr (8, [.int 0, .int 0, .int 0, .int 0, .int 0, .ref (a + 1), .ref (a + 2), .null, .null, .null, .null, .null, .null]))] (L ++ [(a + 1, (0, 12))] ++ [(a + 2, (0, 12))]) M (a + 3) 2 H locs := hN
  refine lv_aload_n hx hb dX8_init_20 rfl (lv_at hl 0 rfl) ?_
  refine lv_bipush (v := 12) hx hb dX8_init_21 (by decide) ?_
  refine n_arrI (N := 12) Y hN (by decide) (by decide +kernel) (Nat.le_of_ble_eq_true rfl) (Nat.le_of_ble_eq_true rfl) (Nat.le_of_ble_eq_true rfl) dX8_init_23 (fun H hN => ?_)
  have hN : Nx s E [(a, .inr (8, [.int 0, .int 0, .int 0, .int 0, .int 0, .ref (a + 1), .ref (a + 2), .null, .null, .null, .null, .null, .null]))] (L ++ [(a + 1, (0, 12))] ++ [(a + 2, (0, 12))] ++ [(a + 3, (0, 12))]) M (a + 4) 3 H locs := hN
  refine n_putF (er := []) (ci := 8) (C := RX8) (T := TX8) (N := 13) (k := 7) (ty0 := tyX8) (fs := [.int 0, .int 0, .int 0, .int 0, .int 0, .ref (a + 1), .ref (a + 2), .null, .null, .null, .null, .null, .null]) (fs' := [.int 0, .int 0, .int 0, .int 0, .int 0, .ref (a + 1), .ref (a + 2), .ref (a + 3), .null, .null, .null, .null, .null]) Y hN rfl in8 tyX8_ok nmX8 (by decide) lk_X8_18 rfl hin rfl rfl rfl (Nat.le_of_ble_eq_true rfl) rfl dX8_init_25 (fun H locs hN => ?_)
  have hN : Nx s E [(a, .inr (8, [.int 0, .int 0, .int 0, .int 0, .int 0, .ref (a + 1), .ref (a + 2), .ref (a + 3), .null, .null, .null, .null, .null]))] (L ++ [(a + 1, (0, 12))] ++ [(a + 2, (0, 12))] ++ [(a + 3, (0, 12))]) M (a + 4) 3 H locs := hN
  refine lv_aload_n hx hb dX8_init_28 rfl (lv_at hl 0 rfl) ?_
  refine lv_bipush (v := 8) hx hb dX8_init_29 (by decide) ?_
  refine n_arrI (N := 8) Y hN (by decide) (by decide +kernel) (Nat.le_of_ble_eq_true rfl) (Nat.le_of_ble_eq_true rfl) (Nat.le_of_ble_eq_true rfl) dX8_init_31 (fun H hN => ?_)
  have hN : Nx s E [(a, .inr (8, [.int 0, .int 0, .int 0, .int 0, .int 0, .ref (a + 1), .ref (a + 2), .ref (a + 3), .null, .null, .null, .null, .null]))] (L ++ [(a + 1, (0, 12))] ++ [(a + 2, (0, 12))] ++ [(a + 3, (0, 12))] ++ [(a + 4, (0, 8))]) M (a + 5) 4 H locs := hN
  refine n_putF (er := []) (ci := 8) (C := RX8) (T := TX8) (N := 13) (k := 8) (ty0 := tyX8) (fs := [.int 0, .int 0, .int 0, .int 0, .int 0, .ref (a + 1), .ref (a + 2), .ref (a + 3), .null, .null, .null, .null, .null]) (fs' := [.int 0, .int 0, .int 0, .int 0, .int 0, .ref (a + 1), .ref (a + 2), .ref (a + 3), .ref (a + 4), .null, .null, .null, .null]) Y hN rfl in8 tyX8_ok nmX8 (by decide) lk_X8_21 rfl hin rfl rfl rfl (Nat.le_of_ble_eq_true rfl) rfl dX8_init_33 (fun H locs hN => ?_)
  have hN : Nx s E [(a, .inr (8, [.int 0, .int 0, .int 0, .int 0, .int 0, .ref (a + 1), .ref (a + 2), .ref (a + 3), .ref (a + 4), .null, .null, .null, .null]))] (L ++ [(a + 1, (0, 12))] ++ [(a + 2, (0, 12))] ++ [(a + 3, (0, 12))] ++ [(a + 4, (0, 8))]) M (a + 5) 4 H locs := hN
  refine lv_aload_n hx hb dX8_init_36 rfl (lv_at hl 0 rfl) ?_
  refine lv_bipush (v := 10) hx hb dX8_init_37 (by decide) ?_
  refine n_arrI (N := 10) Y hN (by decide) (by decide +kernel) (Nat.le_of_ble_eq_true rfl) (Nat.le_of_ble_eq_true rfl) (Nat.le_of_ble_eq_true rfl) dX8_init_39 (fun H hN => ?_)
  have hN : Nx s E [(a, .inr (8, [.int 0, .int 0, .int 0, .int 0, .int 0, .ref (a + 1), .ref (a + 2), .ref (a + 3), .ref (a + 4), .null, .null, .null, .null]))] (L ++ [(a + 1, (0, 12))] ++ [(a + 2, (0, 12))] ++ [(a + 3, (0, 12))] ++ [(a + 4, (0, 8))] ++ [(a + 5, (0, 10))]) M (a + 6) 5 H locs := hN
  refine n_putF (er := []) (ci := 8) (C := RX8) (T := TX8) (N := 13) (k := 9) (ty0 := tyX8) (fs := [.int 0, .int 0, .int 0, .int 0, .int 0, .ref (a + 1), .ref (a + 2), .ref (a + 3), .ref (a + 4), .null, .null, .null, .null]) (fs' := [.int 0, .int 0, .int 0, .int 0, .int 0, .ref (a + 1), .ref (a + 2), .ref (a + 3), .ref (a + 4), .ref (a + 5), .null, .null, .null]) Y hN rfl in8 tyX8_ok nmX8 (by decide) lk_X8_24 rfl hin rfl rfl rfl (Nat.le_of_ble_eq_true rfl) rfl dX8_init_41 (fun H locs hN => ?_)
  have hN : Nx s E [(a, .inr (8, [.int 0, .int 0, .int 0, .int 0, .int 0, .ref (a + 1), .ref (a + 2), .ref (a + 3), .ref (a + 4), .ref (a + 5), .null, .null, .null]))] (L ++ [(a + 1, (0, 12))] ++ [(a + 2, (0, 12))] ++ [(a + 3, (0, 12))] ++ [(a + 4, (0, 8))] ++ [(a + 5, (0, 10))]) M (a + 6) 5 H locs := hN
  refine lv_aload_n hx hb dX8_init_44 rfl (lv_at hl 0 rfl) ?_
  refine lv_bipush (v := 10) hx hb dX8_init_45 (by decide) ?_
  refine n_arrI (N := 10) Y hN (by decide) (by decide +kernel) (Nat.le_of_ble_eq_true rfl) (Nat.le_of_ble_eq_true rfl) (Nat.le_of_ble_eq_true rfl) dX8_init_47 (fun H hN => ?_)
  have hN : Nx s E [(a, .inr (8, [.int 0, .int 0, .int 0, .int 0, .int 0, .ref (a + 1), .ref (a + 2), .ref (a + 3), .ref (a + 4), .ref (a + 5), .null, .null, .null]))] (L ++ [(a + 1, (0, 12))] ++ [(a + 2, (0, 12))] ++ [(a + 3, (0, 12))] ++ [(a + 4, (0, 8))] ++ [(a + 5, (0, 10))] ++ [(a + 6, (0, 10))]) M (a + 7) 6 H locs := hN
  refine n_putF (er := []) (ci := 8) (C := RX8) (T := TX8) (N := 13) (k := 10) (ty0 := tyX8) (fs := [.int 0, .int 0, .int 0, .int 0, .int 0, .ref (a + 1), .ref (a + 2), .ref (a + 3), .ref (a + 4), .ref (a + 5), .null, .null, .null]) (fs' := [.int 0, .int 0, .int 0, .int 0, .int 0, .ref (a + 1), .ref (a + 2), .ref (a + 3), .ref (a + 4), .ref (a + 5), .ref (a + 6), .null, .null]) Y hN rfl in8 tyX8_ok nmX8 (by decide) lk_X8_27 rfl hin rfl rfl rfl (Nat.le_of_ble_eq_true rfl) rfl dX8_init_49 (fun H locs hN => ?_)
  have hN : Nx s E [(a, .inr (8, [.int 0, .int 0, .int 0, .int 0, .int 0, .ref (a + 1), .ref (a + 2), .ref (a + 3), .ref (a + 4), .ref (a + 5), .ref (a + 6), .null, .null]))] (L ++ [(a + 1, (0, 12))] ++ [(a + 2, (0, 12))] ++ [(a + 3, (0, 12))] ++ [(a + 4, (0, 8))] ++ [(a + 5, (0, 10))] ++ [(a + 6, (0, 10))]) M (a + 7) 6 H locs := hN
  refine lv_aload_n hx hb dX8_init_52 rfl (lv_at hl 0 rfl) ?_
  refine lv_bipush (v := 10) hx hb dX8_init_53 (by decide) ?_
  refine n_arrI (N := 10) Y hN (by decide) (by decide +kernel) (Nat.le_of_ble_eq_true rfl) (Nat.le_of_ble_eq_true rfl) (Nat.le_of_ble_eq_true rfl) dX8_init_55 (fun H hN => ?_)
  have hN : Nx s E [(a, .inr (8, [.int 0, .int 0, .int 0, .int 0, .int 0, .ref (a + 1), .ref (a + 2), .ref (a + 3), .ref (a + 4), .ref (a + 5), .ref (a + 6), .null, .null]))] (L ++ [(a + 1, (0, 12))] ++ [(a + 2, (0, 12))] ++ [(a + 3, (0, 12))] ++ [(a + 4, (0, 8))] ++ [(a + 5, (0, 10))] ++ [(a + 6, (0, 10))] ++ [(a + 7, (0, 10))]) M (a + 8) 7 H locs := hN
  refine n_putF (er := []) (ci := 8) (C := RX8) (T := TX8) (N := 13) (k := 11) (ty0 := tyX8) (fs := [.int 0, .int 0, .int 0, .int 0, .int 0, .ref (a + 1), .ref (a + 2), .ref (a + 3), .ref (a + 4), .ref (a + 5), .ref (a + 6), .null, .null]) (fs' := [.int 0, .int 0, .int 0, .int 0, .int 0, .ref (a + 1), .ref (a + 2), .ref (a + 3), .ref (a + 4), .ref (a + 5), .ref (a + 6), .ref (a + 7), .null]) Y hN rfl in8 tyX8_ok nmX8 (by decide) lk_X8_30 rfl hin rfl rfl rfl (Nat.le_of_ble_eq_true rfl) rfl dX8_init_57 (fun H locs hN => ?_)
  have hN : Nx s E [(a, .inr (8, [.int 0, .int 0, .int 0, .int 0, .int 0, .ref (a + 1), .ref (a + 2), .ref (a + 3), .ref (a + 4), .ref (a + 5), .ref (a + 6), .ref (a + 7), .null]))] (L ++ [(a + 1, (0, 12))] ++ [(a + 2, (0, 12))] ++ [(a + 3, (0, 12))] ++ [(a + 4, (0, 8))] ++ [(a + 5, (0, 10))] ++ [(a + 6, (0, 10))] ++ [(a + 7, (0, 10))]) M (a + 8) 7 H locs := hN
  refine lv_aload_n hx hb dX8_init_60 rfl (lv_at hl 0 rfl) ?_
  refine lv_bipush (v := 64) hx hb dX8_init_61 (by decide) ?_
  refine n_arrI (N := 64) Y hN (by decide) (by decide +kernel) (Nat.le_of_ble_eq_true rfl) (Nat.le_of_ble_eq_true rfl) (Nat.le_of_ble_eq_true rfl) dX8_init_63 (fun H hN => ?_)
  have hN : Nx s E [(a, .inr (8, [.int 0, .int 0, .int 0, .int 0, .int 0, .ref (a + 1), .ref (a + 2), .ref (a + 3), .ref (a + 4), .ref (a + 5), .ref (a + 6), .ref (a + 7), .null]))] (L ++ [(a + 1, (0, 12))] ++ [(a + 2, (0, 12))] ++ [(a + 3, (0, 12))] ++ [(a + 4, (0, 8))] ++ [(a + 5, (0, 10))] ++ [(a + 6, (0, 10))] ++ [(a + 7, (0, 10))] ++ [(a + 8, (0, 64))]) M (a + 9) 8 H locs := hN
  refine n_putF (er := []) (ci := 8) (C := RX8) (T := TX8) (N := 13) (k := 12) (ty0 := tyX8) (fs := [.int 0, .int 0, .int 0, .int 0, .int 0, .ref (a + 1), .ref (a + 2), .ref (a + 3), .ref (a + 4), .ref (a + 5), .ref (a + 6), .ref (a + 7), .null]) (fs' := [.int 0, .int 0, .int 0, .int 0, .int 0, .ref (a + 1), .ref (a + 2), .ref (a + 3), .ref (a + 4), .ref (a + 5), .ref (a + 6), .ref (a + 7), .ref (a + 8)]) Y hN rfl in8 tyX8_ok nmX8 (by decide) lk_X8_33 rfl hin rfl rfl rfl (Nat.le_of_ble_eq_true rfl) rfl dX8_init_65 (fun H locs hN => ?_)
  have hN : Nx s E [(a, .inr (8, [.int 0, .int 0, .int 0, .int 0, .int 0, .ref (a + 1), .ref (a + 2), .ref (a + 3), .ref (a + 4), .ref (a + 5), .ref (a + 6), .ref (a + 7), .ref (a + 8)]))] (L ++ [(a + 1, (0, 12))] ++ [(a + 2, (0, 12))] ++ [(a + 3, (0, 12))] ++ [(a + 4, (0, 8))] ++ [(a + 5, (0, 10))] ++ [(a + 6, (0, 10))] ++ [(a + 7, (0, 10))] ++ [(a + 8, (0, 64))]) M (a + 9) 8 H locs := hN
  obtain ⟨M1, eM1, h⟩ := lt_el h
  have hN := hN.done (a := a) (k := 13) (n := 0) (M1 := M1) (by subst eM1; simp [cellOf, flds, pt, va_rf]) (by subst eM1; intro b hb; simp [pt, hb]) (by omega)
  have hN : Nx s E [] ((a, (13, 0)) :: (L ++ [(a + 1, (0, 12))] ++ [(a + 2, (0, 12))] ++ [(a + 3, (0, 12))] ++ [(a + 4, (0, 8))] ++ [(a + 5, (0, 10))] ++ [(a + 6, (0, 10))] ++ [(a + 7, (0, 10))] ++ [(a + 8, (0, 64))])) M1 (a + 9) 8 H locs := hN
  refine lv_aload_n hx hb dX8_init_68 rfl (lv_at hl 0 rfl) ?_
  obtain ⟨M2, hcM2, h⟩ := bm_el h
  obtain ⟨M3, eM3, h⟩ := lt_el h
  refine n_call (ck := 8) (C := RX8) (T := TX8) (N := 13) (As := []) (n := 0) (r := none) Y hN rfl wc_X8_wipe ml_X8_36 wi_X8_wipe we_X8_wipe ini_8 (by decide +kernel) (by decide) List.mem_cons_self rfl hl.1 (mX8_wipe fu d (aL8 _ _) hcM2) ⟨by show _ ≤ d + 2; omega, by show _ ≤ 42 * (d + 2); omega, Nat.le_of_ble_eq_true rfl, Nat.le_of_ble_eq_true rfl⟩ (Nat.le_of_ble_eq_true rfl) dX8_init_69 (fun H locs hN => ?_)
  rw [← eM3] at hN
  have hN : Nx s E [] ((a, (13, 0)) :: (L ++ [(a + 1, (0, 12))] ++ [(a + 2, (0, 12))] ++ [(a + 3, (0, 12))] ++ [(a + 4, (0, 8))] ++ [(a + 5, (0, 10))] ++ [(a + 6, (0, 10))] ++ [(a + 7, (0, 10))] ++ [(a + 8, (0, 64))])) M3 (a + 9) 8 H locs := hN
  cases h
  exact n_ret Y hN hs0 (by show _ ≤ 138; omega) hr hlk dX8_init_72
def dfl5 : List Value := [.null, .null, .null, .null, .null, .null, .int 0, .int 0, .int 0]
theorem dfv5 : ∀ j, j < 9 → defaultValue (tyX5 j) = vp_V dfl5 j := by decide +kernel
theorem wci_5 : Cond.code yX5_init cX5_init 1 none ∈ ws0 := tb_2 6 (by decide +kernel) rfl
theorem wii_5 : Cond.instanceMethod yX5_init ∈ ws0 := tb_2 5 (by decide +kernel) rfl
theorem win_5 : Cond.instantiable RX5 9 ∈ ws0 := tb_2 3 (by decide +kernel) rfl
theorem dX5_init_0 : decode cX5_init 0 = .ok (.aload_n 0, 1) := by decide +kernel
theorem dX5_init_1 : decode cX5_init 1 = .ok (.invokespecial 3, 3) := by decide +kernel
theorem dX5_init_4 : decode cX5_init 4 = .ok (.aload_n 0, 1) := by decide +kernel
theorem dX5_init_5 : decode cX5_init 5 = .ok (.new 9, 3) := by decide +kernel
theorem dX5_init_8 : decode cX5_init 8 = .ok (.dup, 1) := by decide +kernel
theorem dX5_init_9 : decode cX5_init 9 = .ok (.sipush 128, 3) := by decide +kernel
theorem dX5_init_12 : decode cX5_init 12 = .ok (.invokespecial 11, 3) := by decide +kernel
theorem dX5_init_15 : decode cX5_init 15 = .ok (.putfield 14, 3) := by decide +kernel
theorem dX5_init_18 : decode cX5_init 18 = .ok (.aload_n 0, 1) := by decide +kernel
theorem dX5_init_19 : decode cX5_init 19 = .ok (.sipush 128, 3) := by decide +kernel
theorem dX5_init_22 : decode cX5_init 22 = .ok (.newarray .int, 2) := by decide +kernel
theorem dX5_init_24 : decode cX5_init 24 = .ok (.putfield 20, 3) := by decide +kernel
theorem dX5_init_27 : decode cX5_init 27 = .ok (.aload_n 0, 1) := by decide +kernel
theorem dX5_init_28 : decode cX5_init 28 = .ok (.sipush 128, 3) := by decide +kernel
theorem dX5_init_31 : decode cX5_init 31 = .ok (.newarray .int, 2) := by decide +kernel
theorem dX5_init_33 : decode cX5_init 33 = .ok (.putfield 24, 3) := by decide +kernel
theorem dX5_init_36 : decode cX5_init 36 = .ok (.aload_n 0, 1) := by decide +kernel
theorem dX5_init_37 : decode cX5_init 37 = .ok (.sipush 128, 3) := by decide +kernel
theorem dX5_init_40 : decode cX5_init 40 = .ok (.newarray .int, 2) := by decide +kernel
theorem dX5_init_42 : decode cX5_init 42 = .ok (.putfield 27, 3) := by decide +kernel
theorem dX5_init_45 : decode cX5_init 45 = .ok (.aload_n 0, 1) := by decide +kernel
theorem dX5_init_46 : decode cX5_init 46 = .ok (.bipush 26, 2) := by decide +kernel
theorem dX5_init_48 : decode cX5_init 48 = .ok (.newarray .int, 2) := by decide +kernel
theorem dX5_init_50 : decode cX5_init 50 = .ok (.putfield 30, 3) := by decide +kernel
theorem dX5_init_53 : decode cX5_init 53 = .ok (.aload_n 0, 1) := by decide +kernel
theorem dX5_init_54 : decode cX5_init 54 = .ok (.bipush 26, 2) := by decide +kernel
theorem dX5_init_56 : decode cX5_init 56 = .ok (.newarray .int, 2) := by decide +kernel
theorem dX5_init_58 : decode cX5_init 58 = .ok (.putfield 33, 3) := by decide +kernel
theorem dX5_init_61 : decode cX5_init 61 = .ok (.return_, 1) := by decide +kernel
theorem ob_X5 : Cond.methodLink RX5 3 objectInit ∈ ws0 := tb_2 7 (by decide +kernel) rfl
theorem cl_X5_9 : Cond.classLink RX5 9 RX2 ∈ ws0 := tb_2 8 (by decide +kernel) rfl
theorem mi_X5_11 : Cond.methodLink RX5 11 yX2_init ∈ ws0 := tb_2 9 (by decide +kernel) rfl
def nL5 (a : Nat) (L : Lay) : Lay := (a, (10, 0)) :: (nL2 (a + 1) 128 (L) ++ [(a + 3, (0, 128))] ++ [(a + 4, (0, 128))] ++ [(a + 5, (0, 128))] ++ [(a + 6, (0, 26))] ++ [(a + 7, (0, 26))])
theorem aL5 (a : Nat) (L : Lay) : At (nL5 a L) a T5 := by
  intro p hp
  simp only [T5, List.mem_cons, List.not_mem_nil, or_false] at hp
  rcases hp with rfl | rfl | rfl | rfl | rfl | rfl | rfl | rfl <;> simp [nL2, nL5]
theorem nL5_last (a : Nat) (L : Lay) : ∃ p ∈ nL5 a L, p.1 = a + 7 := ⟨(a + 7, (0, 26)), aL5 a L (7, (0, 26)) (by simp [T5]), rfl⟩
def iC5 (fu a : Nat) (M : Mm) : Option Mm :=
  bm (iC2 fu (a + 1) M) fun M1 =>
  lt (pt a (fun _ => 0) M1) fun M2 =>
  some M2
theorem iC5_Z {fu a : Nat} {M M' : Mm} (h : iC5 fu a M = some M') (hZ : Zr (a + 1) M) : Zr (a + 1 + 7) M' := by
  unfold iC5 at h
  obtain ⟨M1, hcM1, h⟩ := bm_el h
  have zM1 := iC2_Z hcM1 (hZ.mono (by omega))
  obtain ⟨M2, eM2, h⟩ := lt_el h
  have zM2 : Zr (a + 1 + 7) M2 := by rw [eM2]; exact pt_Zr ((zM1).mono (by omega)) (by omega)
  cases h
  exact zM2
set_option maxRecDepth 100000 in
set_option maxHeartbeats 4000000 in
theorem kC5 {l : Launch} {E : Ge} (fu d : Nat) {a : Nat} {L : Lay} {M M' : Mm} (hZ0 : Zr a M) (h : iC5 fu a M = some M') : Cn l E 5 dfl5 yX5_init cX5_init 1 (d + 2) 7 (566) a [] L M (nL5 a L) M' := by
  refine Cn.of (by decide) hZ0 ?_
  intro p e s m below meth c hr hlk hnm Y hs0 hN
  have Y : By p s m _ c cX5_init 1 RX5 E := Y
  have hx := Y.1
  have hb := Y.2.1
  have hin : meth.name = "<init>" := hnm
  have hl := lv_entry ([.ref a]) (n := 1) (Nat.le_of_ble_eq_true rfl)
  rw [lg_entry_eq]
  generalize (lg_sl ([.ref a]) ++ List.replicate (1 - (lg_sl ([.ref a])).length) Slot.unset).toArray = ls at hl ⊢
  have hl : lv_has ls 1 [(0, .ref a)] := hl
  unfold iC5 at h
  have hN : Nx s E [(a, .inr (5, [.null, .null, .null, .null, .null, .null, .int 0, .int 0, .int 0]))] L M (a + 1) 0 s.heap [] := hN
  refine lv_aload_n hx hb dX5_init_0 rfl (lv_at hl 0 rfl) ?_
  refine n_obj Y ob_X5 hl.1 dX5_init_1 (by show 1 ≤ d + 2; omega) (by show 0 + 12 ≤ 42 * (d + 2); omega) ?_
  refine lv_aload_n hx hb dX5_init_4 rfl (lv_at hl 0 rfl) ?_
  refine n_new (ci := 2) (C := RX2) (T := TX2) (N := 2) (ty0 := tyX2) (df := dfl2) Y hN rfl in2 tyX2_ok cl_X5_9 win_2 ini_2 dfv2 (Nat.le_of_ble_eq_true rfl) (Nat.le_of_ble_eq_true rfl) dX5_init_5 (fun H hP hD hS hsz hcs hZ => ?_)
  refine lv_dup hx hb dX5_init_8 rfl ?_
  refine lv_sipush (v := 128) hx hb dX5_init_9 (by decide) ?_
  obtain ⟨M1, hc1, h⟩ := bm_el h
  refine n_callI (L' := nL2 (a + 1) 128 (L)) (M' := M1) (ex := [(a, .inr (5, [.null, .null, .null, .null, .null, .null, .int 0, .int 0, .int 0]))]) (ci := 2) (df := dfl2) (mc := 1) (ms := 128) (As := [.int 128]) (n := 1) Y hP hD hS hsz hcs (by decide) (by intro z hz; rw [List.mem_singleton] at hz; subst hz; show a < a + 1; omega) (iC2_Z hc1 (hZ.mono (by omega))) (nL2_last _ _ _) wci_2 (Or.inl mi_X5_11) wii_2 ini_2 rfl (by decide +kernel) (by decide) rfl hl.1 (kC2 fu d (N := 128) (by decide) (by decide +kernel) (by decide) hZ hc1) ⟨by show _ ≤ d + 2; omega, by show _ ≤ 42 * (d + 2); omega, Nat.le_of_ble_eq_true rfl, Nat.le_of_ble_eq_true rfl⟩ (Nat.le_of_ble_eq_true rfl) dX5_init_12 (fun H locs hN => ?_)
  have hN : Nx s E [(a, .inr (5, [.null, .null, .null, .null, .null, .null, .int 0, .int 0, .int 0]))] (nL2 (a + 1) 128 (L)) M1 (a + 3) 2 H locs := hN
  refine n_putF (er := []) (ci := 5) (C := RX5) (T := TX5) (N := 9) (k := 0) (ty0 := tyX5) (fs := [.null, .null, .null, .null, .null, .null, .int 0, .int 0, .int 0]) (fs' := [.ref (a + 1), .null, .null, .null, .null, .null, .int 0, .int 0, .int 0]) Y hN rfl in5 tyX5_ok nmX5 (by decide) lk_X5_14 rfl hin rfl rfl rfl (Nat.le_of_ble_eq_true rfl) rfl dX5_init_15 (fun H locs hN => ?_)
  have hN : Nx s E [(a, .inr (5, [.ref (a + 1), .null, .null, .null, .null, .null, .int 0, .int 0, .int 0]))] (nL2 (a + 1) 128 (L)) M1 (a + 3) 2 H locs := hN
  refine lv_aload_n hx hb dX5_init_18 rfl (lv_at hl 0 rfl) ?_
  refine lv_sipush (v := 128) hx hb dX5_init_19 (by decide) ?_
  refine n_arrI (N := 128) Y hN (by decide) (by decide +kernel) (Nat.le_of_ble_eq_true rfl) (Nat.le_of_ble_eq_true rfl) (Nat.le_of_ble_eq_true rfl) dX5_init_22 (fun H hN => ?_)
  have hN : Nx s E [(a, .inr (5, [.ref (a + 1), .null, .null, .null, .null, .null, .int 0, .int 0, .int 0]))] (nL2 (a + 1) 128 (L) ++ [(a + 3, (0, 128))]) M1 (a + 4) 3 H locs := hN
  refine n_putF (er := []) (ci := 5) (C := RX5) (T := TX5) (N := 9) (k := 1) (ty0 := tyX5) (fs := [.ref (a + 1), .null, .null, .null, .null, .null, .int 0, .int 0, .int 0]) (fs' := [.ref (a + 1), .ref (a + 3), .null, .null, .null, .null, .int 0, .int 0, .int 0]) Y hN rfl in5 tyX5_ok nmX5 (by decide) lk_X5_20 rfl hin rfl rfl rfl (Nat.le_of_ble_eq_true rfl) rfl dX5_init_24 (fun H locs hN => ?_)
  have hN : Nx s E [(a, .inr (5, [.ref (a + 1), .ref (a + 3), .null, .null, .null, .null, .int 0, .int 0, .int 0]))] (nL2 (a + 1) 128 (L) ++ [(a + 3, (0, 128))]) M1 (a + 4) 3 H locs := hN
  refine lv_aload_n hx hb dX5_init_27 rfl (lv_at hl 0 rfl) ?_
  refine lv_sipush (v := 128) hx hb dX5_init_28 (by decide) ?_
  refine n_arrI (N := 128) Y hN (by decide) (by decide +kernel) (Nat.le_of_ble_eq_true rfl) (Nat.le_of_ble_eq_true rfl) (Nat.le_of_ble_eq_true rfl) dX5_init_31 (fun H hN => ?_)
  have hN : Nx s E [(a, .inr (5, [.ref (a + 1), .ref (a + 3), .null, .null, .null, .null, .int 0, .int 0, .int 0]))] (nL2 (a + 1) 128 (L) ++ [(a + 3, (0, 128))] ++ [(a + 4, (0, 128))]) M1 (a + 5) 4 H locs := hN
  refine n_putF (er := []) (ci := 5) (C := RX5) (T := TX5) (N := 9) (k := 2) (ty0 := tyX5) (fs := [.ref (a + 1), .ref (a + 3), .null, .null, .null, .null, .int 0, .int 0, .int 0]) (fs' := [.ref (a + 1), .ref (a + 3), .ref (a + 4), .null, .null, .null, .int 0, .int 0, .int 0]) Y hN rfl in5 tyX5_ok nmX5 (by decide) lk_X5_24 rfl hin rfl rfl rfl (Nat.le_of_ble_eq_true rfl) rfl dX5_init_33 (fun H locs hN => ?_)
  have hN : Nx s E [(a, .inr (5, [.ref (a + 1), .ref (a + 3), .ref (a + 4), .null, .null, .null, .int 0, .int 0, .int 0]))] (nL2 (a + 1) 128 (L) ++ [(a + 3, (0, 128))] ++ [(a + 4, (0, 128))]) M1 (a + 5) 4 H locs := hN
  refine lv_aload_n hx hb dX5_init_36 rfl (lv_at hl 0 rfl) ?_
  refine lv_sipush (v := 128) hx hb dX5_init_37 (by decide) ?_
  refine n_arrI (N := 128) Y hN (by decide) (by decide +kernel) (Nat.le_of_ble_eq_true rfl) (Nat.le_of_ble_eq_true rfl) (Nat.le_of_ble_eq_true rfl) dX5_init_40 (fun H hN => ?_)
  have hN : Nx s E [(a, .inr (5, [.ref (a + 1), .ref (a + 3), .ref (a + 4), .null, .null, .null, .int 0, .int 0, .int 0]))] (nL2 (a + 1) 128 (L) ++ [(a + 3, (0, 128))] ++ [(a + 4, (0, 128))] ++ [(a + 5, (0, 128))]) M1 (a + 6) 5 H locs := hN
  refine n_putF (er := []) (ci := 5) (C := RX5) (T := TX5) (N := 9) (k := 3) (ty0 := tyX5) (fs := [.ref (a + 1), .ref (a + 3), .ref (a + 4), .null, .null, .null, .int 0, .int 0, .int 0]) (fs' := [.ref (a + 1), .ref (a + 3), .ref (a + 4), .ref (a + 5), .null, .null, .int 0, .int 0, .int 0]) Y hN rfl in5 tyX5_ok nmX5 (by decide) lk_X5_27 rfl hin rfl rfl rfl (Nat.le_of_ble_eq_true rfl) rfl dX5_init_42 (fun H locs hN => ?_)
  have hN : Nx s E [(a, .inr (5, [.ref (a + 1), .ref (a + 3), .ref (a + 4), .ref (a + 5), .null, .null, .int 0, .int 0, .int 0]))] (nL2 (a + 1) 128 (L) ++ [(a + 3, (0, 128))] ++ [(a + 4, (0, 128))] ++ [(a + 5, (0, 128))]) M1 (a + 6) 5 H locs := hN
  refine lv_aload_n hx hb dX5_init_45 rfl (lv_at hl 0 rfl) ?_
  refine lv_bipush (v := 26) hx hb dX5_init_46 (by decide) ?_
  refine n_arrI (N := 26) Y hN (by decide) (by decide +kernel) (Nat.le_of_ble_eq_true rfl) (Nat.le_of_ble_eq_true rfl) (Nat.le_of_ble_eq_true rfl) dX5_init_48 (fun H hN => ?_)
  have hN : Nx s E [(a, .inr (5, [.ref (a + 1), .ref (a + 3), .ref (a + 4), .ref (a + 5), .null, .null, .int 0, .int 0, .int 0]))] (nL2 (a + 1) 128 (L) ++ [(a + 3, (0, 128))] ++ [(a + 4, (0, 128))] ++ [(a + 5, (0, 128))] ++ [(a + 6, (0, 26))]) M1 (a + 7) 6 H locs := hN
  refine n_putF (er := []) (ci := 5) (C := RX5) (T := TX5) (N := 9) (k := 4) (ty0 := tyX5) (fs := [.ref (a + 1), .ref (a + 3), .ref (a + 4), .ref (a + 5), .null, .null, .int 0, .int 0, .int 0]) (fs' := [.ref (a + 1), .ref (a + 3), .ref (a + 4), .ref (a + 5), .ref (a + 6), .null, .int 0, .int 0, .int 0]) Y hN rfl in5 tyX5_ok nmX5 (by decide) lk_X5_30 rfl hin rfl rfl rfl (Nat.le_of_ble_eq_true rfl) rfl dX5_init_50 (fun H locs hN => ?_)
  have hN : Nx s E [(a, .inr (5, [.ref (a + 1), .ref (a + 3), .ref (a + 4), .ref (a + 5), .ref (a + 6), .null, .int 0, .int 0, .int 0]))] (nL2 (a + 1) 128 (L) ++ [(a + 3, (0, 128))] ++ [(a + 4, (0, 128))] ++ [(a + 5, (0, 128))] ++ [(a + 6, (0, 26))]) M1 (a + 7) 6 H locs := hN
  refine lv_aload_n hx hb dX5_init_53 rfl (lv_at hl 0 rfl) ?_
  refine lv_bipush (v := 26) hx hb dX5_init_54 (by decide) ?_
  refine n_arrI (N := 26) Y hN (by decide) (by decide +kernel) (Nat.le_of_ble_eq_true rfl) (Nat.le_of_ble_eq_true rfl) (Nat.le_of_ble_eq_true rfl) dX5_init_56 (fun H hN => ?_)
  have hN : Nx s E [(a, .inr (5, [.ref (a + 1), .ref (a + 3), .ref (a + 4), .ref (a + 5), .ref (a + 6), .null, .int 0, .int 0, .int 0]))] (nL2 (a + 1) 128 (L) ++ [(a + 3, (0, 128))] ++ [(a + 4, (0, 128))] ++ [(a + 5, (0, 128))] ++ [(a + 6, (0, 26))] ++ [(a + 7, (0, 26))]) M1 (a + 8) 7 H locs := hN
  refine n_putF (er := []) (ci := 5) (C := RX5) (T := TX5) (N := 9) (k := 5) (ty0 := tyX5) (fs := [.ref (a + 1), .ref (a + 3), .ref (a + 4), .ref (a + 5), .ref (a + 6), .null, .int 0, .int 0, .int 0]) (fs' := [.ref (a + 1), .ref (a + 3), .ref (a + 4), .ref (a + 5), .ref (a + 6), .ref (a + 7), .int 0, .int 0, .int 0]) Y hN rfl in5 tyX5_ok nmX5 (by decide) lk_X5_33 rfl hin rfl rfl rfl (Nat.le_of_ble_eq_true rfl) rfl dX5_init_58 (fun H locs hN => ?_)
  have hN : Nx s E [(a, .inr (5, [.ref (a + 1), .ref (a + 3), .ref (a + 4), .ref (a + 5), .ref (a + 6), .ref (a + 7), .int 0, .int 0, .int 0]))] (nL2 (a + 1) 128 (L) ++ [(a + 3, (0, 128))] ++ [(a + 4, (0, 128))] ++ [(a + 5, (0, 128))] ++ [(a + 6, (0, 26))] ++ [(a + 7, (0, 26))]) M1 (a + 8) 7 H locs := hN
  obtain ⟨M2, eM2, h⟩ := lt_el h
  have hN := hN.done (a := a) (k := 10) (n := 0) (M1 := M2) (by subst eM2; simp [cellOf, flds, pt, va_rf]) (by subst eM2; intro b hb; simp [pt, hb]) (by omega)
  have hN : Nx s E [] ((a, (10, 0)) :: (nL2 (a + 1) 128 (L) ++ [(a + 3, (0, 128))] ++ [(a + 4, (0, 128))] ++ [(a + 5, (0, 128))] ++ [(a + 6, (0, 26))] ++ [(a + 7, (0, 26))])) M2 (a + 8) 7 H locs := hN
  cases h
  exact n_ret Y hN hs0 (by show _ ≤ 566; omega) hr hlk dX5_init_61
def dfl9 : List Value := [.null, .null, .null, .null, .null, .int 0, .int 0, .int 0, .null, .null, .null, .int 0, .int 0]
theorem dfv9 : ∀ j, j < 13 → defaultValue (tyX9 j) = vp_V dfl9 j := by decide +kernel
theorem wci_9 : Cond.code yX9_init cX9_init 1 none ∈ ws0 := tb_2 54 (by decide +kernel) rfl
theorem wii_9 : Cond.instanceMethod yX9_init ∈ ws0 := tb_2 53 (by decide +kernel) rfl
theorem win_9 : Cond.instantiable RX9 13 ∈ ws0 := tb_2 51 (by decide +kernel) rfl
theorem dX9_init_0 : decode cX9_init 0 = .ok (.aload_n 0, 1) := by decide +kernel
theorem dX9_init_1 : decode cX9_init 1 = .ok (.invokespecial 3, 3) := by decide +kernel
theorem dX9_init_4 : decode cX9_init 4 = .ok (.aload_n 0, 1) := by decide +kernel
theorem dX9_init_5 : decode cX9_init 5 = .ok (.sipush 320, 3) := by decide +kernel
theorem dX9_init_8 : decode cX9_init 8 = .ok (.newarray .int, 2) := by decide +kernel
theorem dX9_init_10 : decode cX9_init 10 = .ok (.putfield 9, 3) := by decide +kernel
theorem dX9_init_13 : decode cX9_init 13 = .ok (.aload_n 0, 1) := by decide +kernel
theorem dX9_init_14 : decode cX9_init 14 = .ok (.sipush 320, 3) := by decide +kernel
theorem dX9_init_17 : decode cX9_init 17 = .ok (.newarray .int, 2) := by decide +kernel
theorem dX9_init_19 : decode cX9_init 19 = .ok (.putfield 15, 3) := by decide +kernel
theorem dX9_init_22 : decode cX9_init 22 = .ok (.aload_n 0, 1) := by decide +kernel
theorem dX9_init_23 : decode cX9_init 23 = .ok (.sipush 320, 3) := by decide +kernel
theorem dX9_init_26 : decode cX9_init 26 = .ok (.newarray .int, 2) := by decide +kernel
theorem dX9_init_28 : decode cX9_init 28 = .ok (.putfield 18, 3) := by decide +kernel
theorem dX9_init_31 : decode cX9_init 31 = .ok (.aload_n 0, 1) := by decide +kernel
theorem dX9_init_32 : decode cX9_init 32 = .ok (.sipush 320, 3) := by decide +kernel
theorem dX9_init_35 : decode cX9_init 35 = .ok (.newarray .int, 2) := by decide +kernel
theorem dX9_init_37 : decode cX9_init 37 = .ok (.putfield 21, 3) := by decide +kernel
theorem dX9_init_40 : decode cX9_init 40 = .ok (.aload_n 0, 1) := by decide +kernel
theorem dX9_init_41 : decode cX9_init 41 = .ok (.sipush 320, 3) := by decide +kernel
theorem dX9_init_44 : decode cX9_init 44 = .ok (.newarray .int, 2) := by decide +kernel
theorem dX9_init_46 : decode cX9_init 46 = .ok (.putfield 24, 3) := by decide +kernel
theorem dX9_init_49 : decode cX9_init 49 = .ok (.aload_n 0, 1) := by decide +kernel
theorem dX9_init_50 : decode cX9_init 50 = .ok (.new 27, 3) := by decide +kernel
theorem dX9_init_53 : decode cX9_init 53 = .ok (.dup, 1) := by decide +kernel
theorem dX9_init_54 : decode cX9_init 54 = .ok (.bipush 28, 2) := by decide +kernel
theorem dX9_init_56 : decode cX9_init 56 = .ok (.invokespecial 29, 3) := by decide +kernel
theorem dX9_init_59 : decode cX9_init 59 = .ok (.putfield 32, 3) := by decide +kernel
theorem dX9_init_62 : decode cX9_init 62 = .ok (.aload_n 0, 1) := by decide +kernel
theorem dX9_init_63 : decode cX9_init 63 = .ok (.bipush 28, 2) := by decide +kernel
theorem dX9_init_65 : decode cX9_init 65 = .ok (.newarray .int, 2) := by decide +kernel
theorem dX9_init_67 : decode cX9_init 67 = .ok (.putfield 36, 3) := by decide +kernel
theorem dX9_init_70 : decode cX9_init 70 = .ok (.aload_n 0, 1) := by decide +kernel
theorem dX9_init_71 : decode cX9_init 71 = .ok (.bipush 28, 2) := by decide +kernel
theorem dX9_init_73 : decode cX9_init 73 = .ok (.newarray .int, 2) := by decide +kernel
theorem dX9_init_75 : decode cX9_init 75 = .ok (.putfield 39, 3) := by decide +kernel
theorem dX9_init_78 : decode cX9_init 78 = .ok (.return_, 1) := by decide +kernel
theorem ob_X9 : Cond.methodLink RX9 3 objectInit ∈ ws0 := tb_2 55 (by decide +kernel) rfl
theorem cl_X9_27 : Cond.classLink RX9 27 RX2 ∈ ws0 := tb_2 56 (by decide +kernel) rfl
theorem mi_X9_29 : Cond.methodLink RX9 29 yX2_init ∈ ws0 := tb_2 57 (by decide +kernel) rfl
def nL9 (a : Nat) (L : Lay) : Lay := (a, (14, 0)) :: (nL2 (a + 6) 28 (L ++ [(a + 1, (0, 320))] ++ [(a + 2, (0, 320))] ++ [(a + 3, (0, 320))] ++ [(a + 4, (0, 320))] ++ [(a + 5, (0, 320))]) ++ [(a + 8, (0, 28))] ++ [(a + 9, (0, 28))])
theorem aL9 (a : Nat) (L : Lay) : At (nL9 a L) a T9 := by
  intro p hp
  simp only [T9, List.mem_cons, List.not_mem_nil, or_false] at hp
  rcases hp with rfl | rfl | rfl | rfl | rfl | rfl | rfl | rfl | rfl | rfl <;> simp [nL2, nL9]
theorem nL9_last (a : Nat) (L : Lay) : ∃ p ∈ nL9 a L, p.1 = a + 9 := ⟨(a + 9, (0, 28)), aL9 a L (9, (0, 28)) (by simp [T9]), rfl⟩
def iC9 (fu a : Nat) (M : Mm) : Option Mm :=
  bm (iC2 fu (a + 6) M) fun M1 =>
  lt (pt a (fun _ => 0) M1) fun M2 =>
  some M2
theorem iC9_Z {fu a : Nat} {M M' : Mm} (h : iC9 fu a M = some M') (hZ : Zr (a + 1) M) : Zr (a + 1 + 9) M' := by
  unfold iC9 at h
  obtain ⟨M1, hcM1, h⟩ := bm_el h
  have zM1 := iC2_Z hcM1 (hZ.mono (by omega))
  obtain ⟨M2, eM2, h⟩ := lt_el h
  have zM2 : Zr (a + 1 + 9) M2 := by rw [eM2]; exact pt_Zr ((zM1).mono (by omega)) (by omega)
  cases h
  exact zM2
set_option maxRecDepth 100000 in
set_option maxHeartbeats 4000000 in
theorem kC9 {l : Launch} {E : Ge} (fu d : Nat) {a : Nat} {L : Lay} {M M' : Mm} (hZ0 : Zr a M) (h : iC9 fu a M = some M') : Cn l E 9 dfl9 yX9_init cX9_init 1 (d + 2) 9 (1686) a [] L M (nL9 a L) M' := by
  refine Cn.of (by decide) hZ0 ?_
  intro p e s m below meth c hr hlk hnm Y hs0 hN
  have Y : By p s m _ c cX9_init 1 RX9 E := Y
  have hx := Y.1
  have hb := Y.2.1
  have hin : meth.name = "<init>" := hnm
  have hl := lv_entry ([.ref a]) (n := 1) (Nat.le_of_ble_eq_true rfl)
  rw [lg_entry_eq]
  generalize (lg_sl ([.ref a]) ++ List.replicate (1 - (lg_sl ([.ref a])).length) Slot.unset).toArray = ls at hl ⊢
  have hl : lv_has ls 1 [(0, .ref a)] := hl
  unfold iC9 at h
  have hN : Nx s E [(a, .inr (9, [.null, .null, .null, .null, .null, .int 0, .int 0, .int 0, .null, .null, .null, .int 0, .int 0]))] L M (a + 1) 0 s.heap [] := hN
  refine lv_aload_n hx hb dX9_init_0 rfl (lv_at hl 0 rfl) ?_
  refine n_obj Y ob_X9 hl.1 dX9_init_1 (by show 1 ≤ d + 2; omega) (by show 0 + 12 ≤ 42 * (d + 2); omega) ?_
  refine lv_aload_n hx hb dX9_init_4 rfl (lv_at hl 0 rfl) ?_
  refine lv_sipush (v := 320) hx hb dX9_init_5 (by decide) ?_
  refine n_arrI (N := 320) Y hN (by decide) (by decide +kernel) (Nat.le_of_ble_eq_true rfl) (Nat.le_of_ble_eq_true rfl) (Nat.le_of_ble_eq_true rfl) dX9_init_8 (fun H hN => ?_)
  have hN : Nx s E [(a, .inr (9, [.null, .null, .null, .null, .null, .int 0, .int 0, .int 0, .null, .null, .null, .int 0, .int 0]))] (L ++ [(a + 1, (0, 320))]) M (a + 2) 1 H [] := hN
  refine n_putF (er := []) (ci := 9) (C := RX9) (T := TX9) (N := 13) (k := 0) (ty0 := tyX9) (fs := [.null, .null, .null, .null, .null, .int 0, .int 0, .int 0, .null, .null, .null, .int 0, .int 0]) (fs' := [.ref (a + 1), .null, .null, .null, .null, .int 0, .int 0, .int 0, .null, .null, .null, .int 0, .int 0]) Y hN rfl in9 tyX9_ok nmX9 (by decide) lk_X9_9 rfl hin rfl rfl rfl (Nat.le_of_ble_eq_true rfl) rfl dX9_init_10 (fun H locs hN => ?_)
  have hN : Nx s E [(a, .inr (9, [.ref (a + 1), .null, .null, .null, .null, .int 0, .int 0, .int 0, .null, .null, .null, .int 0, .int 0]))] (L ++ [(a + 1, (0, 320))]) M (a + 2) 1 H locs := hN
  refine lv_aload_n hx hb dX9_init_13 rfl (lv_at hl 0 rfl) ?_
  refine lv_sipush (v := 320) hx hb dX9_init_14 (by decide) ?_
  refine n_arrI (N := 320) Y hN (by decide) (by decide +kernel) (Nat.le_of_ble_eq_true rfl) (Nat.le_of_ble_eq_true rfl) (Nat.le_of_ble_eq_true rfl) dX9_init_17 (fun H hN => ?_)
  have hN : Nx s E [(a, .inr (9, [.ref (a + 1), .null, .null, .null, .null, .int 0, .int 0, .int 0, .null, .null, .null, .int 0, .int 0]))] (L ++ [(a + 1, (0, 320))] ++ [(a + 2, (0, 320))]) M (a + 3) 2 H locs := hN
  refine n_putF (er := []) (ci := 9) (C := RX9) (T := TX9) (N := 13) (k := 1) (ty0 := tyX9) (fs := [.ref (a + 1), .null, .null, .null, .null, .int 0, .int 0, .int 0, .null, .null, .null, .int 0, .int 0]) (fs' := [.ref (a + 1), .ref (a + 2), .null, .null, .null, .int 0, .int 0, .int 0, .null, .null, .null, .int 0, .int 0]) Y hN rfl in9 tyX9_ok nmX9 (by decide) lk_X9_15 rfl hin rfl rfl rfl (Nat.le_of_ble_eq_true rfl) rfl dX9_init_19 (fun H locs hN => ?_)
  have hN : Nx s E [(a, .inr (9, [.ref (a + 1), .ref (a + 2), .null, .null, .null, .int 0, .int 0, .int 0, .null, .null, .null, .int 0, .int 0]))] (L ++ [(a + 1, (0, 320))] ++ [(a + 2, (0, 320))]) M (a + 3) 2 H locs := hN
  refine lv_aload_n hx hb dX9_init_22 rfl (lv_at hl 0 rfl) ?_
  refine lv_sipush (v := 320) hx hb dX9_init_23 (by decide) ?_
  refine n_arrI (N := 320) Y hN (by decide) (by decide +kernel) (Nat.le_of_ble_eq_true rfl) (Nat.le_of_ble_eq_true rfl) (Nat.le_of_ble_eq_true rfl) dX9_init_26 (fun H hN => ?_)
  have hN : Nx s E [(a, .inr (9, [.ref (a + 1), .ref (a + 2), .null, .null, .null, .int 0, .int 0, .int 0, .null, .null, .null, .int 0, .int 0]))] (L ++ [(a + 1, (0, 320))] ++ [(a + 2, (0, 320))] ++ [(a + 3, (0, 320))]) M (a + 4) 3 H locs := hN
  refine n_putF (er := []) (ci := 9) (C := RX9) (T := TX9) (N := 13) (k := 2) (ty0 := tyX9) (fs := [.ref (a + 1), .ref (a + 2), .null, .null, .null, .int 0, .int 0, .int 0, .null, .null, .null, .int 0, .int 0]) (fs' := [.ref (a + 1), .ref (a + 2), .ref (a + 3), .null, .null, .int 0, .int 0, .int 0, .null, .null, .null, .int 0, .int 0]) Y hN rfl in9 tyX9_ok nmX9 (by decide) lk_X9_18 rfl hin rfl rfl rfl (Nat.le_of_ble_eq_true rfl) rfl dX9_init_28 (fun H locs hN => ?_)
  have hN : Nx s E [(a, .inr (9, [.ref (a + 1), .ref (a + 2), .ref (a + 3), .null, .null, .int 0, .int 0, .int 0, .null, .null, .null, .int 0, .int 0]))] (L ++ [(a + 1, (0, 320))] ++ [(a + 2, (0, 320))] ++ [(a + 3, (0, 320))]) M (a + 4) 3 H locs := hN
  refine lv_aload_n hx hb dX9_init_31 rfl (lv_at hl 0 rfl) ?_
  refine lv_sipush (v := 320) hx hb dX9_init_32 (by decide) ?_
  refine n_arrI (N := 320) Y hN (by decide) (by decide +kernel) (Nat.le_of_ble_eq_true rfl) (Nat.le_of_ble_eq_true rfl) (Nat.le_of_ble_eq_true rfl) dX9_init_35 (fun H hN => ?_)
  have hN : Nx s E [(a, .inr (9, [.ref (a + 1), .ref (a + 2), .ref (a + 3), .null, .null, .int 0, .int 0, .int 0, .null, .null, .null, .int 0, .int 0]))] (L ++ [(a + 1, (0, 320))] ++ [(a + 2, (0, 320))] ++ [(a + 3, (0, 320))] ++ [(a + 4, (0, 320))]) M (a + 5) 4 H locs := hN
  refine n_putF (er := []) (ci := 9) (C := RX9) (T := TX9) (N := 13) (k := 3) (ty0 := tyX9) (fs := [.ref (a + 1), .ref (a + 2), .ref (a + 3), .null, .null, .int 0, .int 0, .int 0, .null, .null, .null, .int 0, .int 0]) (fs' := [.ref (a + 1), .ref (a + 2), .ref (a + 3), .ref (a + 4), .null, .int 0, .int 0, .int 0, .null, .null, .null, .int 0, .int 0]) Y hN rfl in9 tyX9_ok nmX9 (by decide) lk_X9_21 rfl hin rfl rfl rfl (Nat.le_of_ble_eq_true rfl) rfl dX9_init_37 (fun H locs hN => ?_)
  have hN : Nx s E [(a, .inr (9, [.ref (a + 1), .ref (a + 2), .ref (a + 3), .ref (a + 4), .null, .int 0, .int 0, .int 0, .null, .null, .null, .int 0, .int 0]))] (L ++ [(a + 1, (0, 320))] ++ [(a + 2, (0, 320))] ++ [(a + 3, (0, 320))] ++ [(a + 4, (0, 320))]) M (a + 5) 4 H locs := hN
  refine lv_aload_n hx hb dX9_init_40 rfl (lv_at hl 0 rfl) ?_
  refine lv_sipush (v := 320) hx hb dX9_init_41 (by decide) ?_
  refine n_arrI (N := 320) Y hN (by decide) (by decide +kernel) (Nat.le_of_ble_eq_true rfl) (Nat.le_of_ble_eq_true rfl) (Nat.le_of_ble_eq_true rfl) dX9_init_44 (fun H hN => ?_)
  have hN : Nx s E [(a, .inr (9, [.ref (a + 1), .ref (a + 2), .ref (a + 3), .ref (a + 4), .null, .int 0, .int 0, .int 0, .null, .null, .null, .int 0, .int 0]))] (L ++ [(a + 1, (0, 320))] ++ [(a + 2, (0, 320))] ++ [(a + 3, (0, 320))] ++ [(a + 4, (0, 320))] ++ [(a + 5, (0, 320))]) M (a + 6) 5 H locs := hN
  refine n_putF (er := []) (ci := 9) (C := RX9) (T := TX9) (N := 13) (k := 4) (ty0 := tyX9) (fs := [.ref (a + 1), .ref (a + 2), .ref (a + 3), .ref (a + 4), .null, .int 0, .int 0, .int 0, .null, .null, .null, .int 0, .int 0]) (fs' := [.ref (a + 1), .ref (a + 2), .ref (a + 3), .ref (a + 4), .ref (a + 5), .int 0, .int 0, .int 0, .null, .null, .null, .int 0, .int 0]) Y hN rfl in9 tyX9_ok nmX9 (by decide) lk_X9_24 rfl hin rfl rfl rfl (Nat.le_of_ble_eq_true rfl) rfl dX9_init_46 (fun H locs hN => ?_)
  have hN : Nx s E [(a, .inr (9, [.ref (a + 1), .ref (a + 2), .ref (a + 3), .ref (a + 4), .ref (a + 5), .int 0, .int 0, .int 0, .null, .null, .null, .int 0, .int 0]))] (L ++ [(a + 1, (0, 320))] ++ [(a + 2, (0, 320))] ++ [(a + 3, (0, 320))] ++ [(a + 4, (0, 320))] ++ [(a + 5, (0, 320))]) M (a + 6) 5 H locs := hN
  refine lv_aload_n hx hb dX9_init_49 rfl (lv_at hl 0 rfl) ?_
  refine n_new (ci := 2) (C := RX2) (T := TX2) (N := 2) (ty0 := tyX2) (df := dfl2) Y hN rfl in2 tyX2_ok cl_X9_27 win_2 ini_2 dfv2 (Nat.le_of_ble_eq_true rfl) (Nat.le_of_ble_eq_true rfl) dX9_init_50 (fun H hP hD hS hsz hcs hZ => ?_)
  refine lv_dup hx hb dX9_init_53 rfl ?_
  refine lv_bipush (v := 28) hx hb dX9_init_54 (by decide) ?_
  obtain ⟨M1, hc1, h⟩ := bm_el h
  refine n_callI (L' := nL2 (a + 6) 28 (L ++ [(a + 1, (0, 320))] ++ [(a + 2, (0, 320))] ++ [(a + 3, (0, 320))] ++ [(a + 4, (0, 320))] ++ [(a + 5, (0, 320))])) (M' := M1) (ex := [(a, .inr (9, [.ref (a + 1), .ref (a + 2), .ref (a + 3), .ref (a + 4), .ref (a + 5), .int 0, .int 0, .int 0, .null, .null, .null, .int 0, .int 0]))]) (ci := 2) (df := dfl2) (mc := 1) (ms := 28) (As := [.int 28]) (n := 1) Y hP hD hS hsz hcs (by decide) (by intro z hz; rw [List.mem_singleton] at hz; subst hz; show a < a + 6; omega) (iC2_Z hc1 (hZ.mono (by omega))) (nL2_last _ _ _) wci_2 (Or.inl mi_X9_29) wii_2 ini_2 rfl (by decide +kernel) (by decide) rfl hl.1 (kC2 fu d (N := 28) (by decide) (by decide +kernel) (by decide) hZ hc1) ⟨by show _ ≤ d + 2; omega, by show _ ≤ 42 * (d + 2); omega, Nat.le_of_ble_eq_true rfl, Nat.le_of_ble_eq_true rfl⟩ (Nat.le_of_ble_eq_true rfl) dX9_init_56 (fun H locs hN => ?_)
  have hN : Nx s E [(a, .inr (9, [.ref (a + 1), .ref (a + 2), .ref (a + 3), .ref (a + 4), .ref (a + 5), .int 0, .int 0, .int 0, .null, .null, .null, .int 0, .int 0]))] (nL2 (a + 6) 28 (L ++ [(a + 1, (0, 320))] ++ [(a + 2, (0, 320))] ++ [(a + 3, (0, 320))] ++ [(a + 4, (0, 320))] ++ [(a + 5, (0, 320))])) M1 (a + 8) 7 H locs := hN
  refine n_putF (er := []) (ci := 9) (C := RX9) (T := TX9) (N := 13) (k := 8) (ty0 := tyX9) (fs := [.ref (a + 1), .ref (a + 2), .ref (a + 3), .ref (a + 4), .ref (a + 5), .int 0, .int 0, .int 0, .null, .null, .null, .int 0, .int 0]) (fs' := [.ref (a + 1), .ref (a + 2), .ref (a + 3), .ref (a + 4), .ref (a + 5), .int 0, .int 0, .int 0, .ref (a + 6), .null, .null, .int 0, .int 0]) Y hN rfl in9 tyX9_ok nmX9 (by decide) lk_X9_32 rfl hin rfl rfl rfl (Nat.le_of_ble_eq_true rfl) rfl dX9_init_59 (fun H locs hN => ?_)
  have hN : Nx s E [(a, .inr (9, [.ref (a + 1), .ref (a + 2), .ref (a + 3), .ref (a + 4), .ref (a + 5), .int 0, .int 0, .int 0, .ref (a + 6), .null, .null, .int 0, .int 0]))] (nL2 (a + 6) 28 (L ++ [(a + 1, (0, 320))] ++ [(a + 2, (0, 320))] ++ [(a + 3, (0, 320))] ++ [(a + 4, (0, 320))] ++ [(a + 5, (0, 320))])) M1 (a + 8) 7 H locs := hN
  refine lv_aload_n hx hb dX9_init_62 rfl (lv_at hl 0 rfl) ?_
  refine lv_bipush (v := 28) hx hb dX9_init_63 (by decide) ?_
  refine n_arrI (N := 28) Y hN (by decide) (by decide +kernel) (Nat.le_of_ble_eq_true rfl) (Nat.le_of_ble_eq_true rfl) (Nat.le_of_ble_eq_true rfl) dX9_init_65 (fun H hN => ?_)
  have hN : Nx s E [(a, .inr (9, [.ref (a + 1), .ref (a + 2), .ref (a + 3), .ref (a + 4), .ref (a + 5), .int 0, .int 0, .int 0, .ref (a + 6), .null, .null, .int 0, .int 0]))] (nL2 (a + 6) 28 (L ++ [(a + 1, (0, 320))] ++ [(a + 2, (0, 320))] ++ [(a + 3, (0, 320))] ++ [(a + 4, (0, 320))] ++ [(a + 5, (0, 320))]) ++ [(a + 8, (0, 28))]) M1 (a + 9) 8 H locs := hN
  refine n_putF (er := []) (ci := 9) (C := RX9) (T := TX9) (N := 13) (k := 9) (ty0 := tyX9) (fs := [.ref (a + 1), .ref (a + 2), .ref (a + 3), .ref (a + 4), .ref (a + 5), .int 0, .int 0, .int 0, .ref (a + 6), .null, .null, .int 0, .int 0]) (fs' := [.ref (a + 1), .ref (a + 2), .ref (a + 3), .ref (a + 4), .ref (a + 5), .int 0, .int 0, .int 0, .ref (a + 6), .ref (a + 8), .null, .int 0, .int 0]) Y hN rfl in9 tyX9_ok nmX9 (by decide) lk_X9_36 rfl hin rfl rfl rfl (Nat.le_of_ble_eq_true rfl) rfl dX9_init_67 (fun H locs hN => ?_)
  have hN : Nx s E [(a, .inr (9, [.ref (a + 1), .ref (a + 2), .ref (a + 3), .ref (a + 4), .ref (a + 5), .int 0, .int 0, .int 0, .ref (a + 6), .ref (a + 8), .null, .int 0, .int 0]))] (nL2 (a + 6) 28 (L ++ [(a + 1, (0, 320))] ++ [(a + 2, (0, 320))] ++ [(a + 3, (0, 320))] ++ [(a + 4, (0, 320))] ++ [(a + 5, (0, 320))]) ++ [(a + 8, (0, 28))]) M1 (a + 9) 8 H locs := hN
  refine lv_aload_n hx hb dX9_init_70 rfl (lv_at hl 0 rfl) ?_
  refine lv_bipush (v := 28) hx hb dX9_init_71 (by decide) ?_
  refine n_arrI (N := 28) Y hN (by decide) (by decide +kernel) (Nat.le_of_ble_eq_true rfl) (Nat.le_of_ble_eq_true rfl) (Nat.le_of_ble_eq_true rfl) dX9_init_73 (fun H hN => ?_)
  have hN : Nx s E [(a, .inr (9, [.ref (a + 1), .ref (a + 2), .ref (a + 3), .ref (a + 4), .ref (a + 5), .int 0, .int 0, .int 0, .ref (a + 6), .ref (a + 8), .null, .int 0, .int 0]))] (nL2 (a + 6) 28 (L ++ [(a + 1, (0, 320))] ++ [(a + 2, (0, 320))] ++ [(a + 3, (0, 320))] ++ [(a + 4, (0, 320))] ++ [(a + 5, (0, 320))]) ++ [(a + 8, (0, 28))] ++ [(a + 9, (0, 28))]) M1 (a + 10) 9 H locs := hN
  refine n_putF (er := []) (ci := 9) (C := RX9) (T := TX9) (N := 13) (k := 10) (ty0 := tyX9) (fs := [.ref (a + 1), .ref (a + 2), .ref (a + 3), .ref (a + 4), .ref (a + 5), .int 0, .int 0, .int 0, .ref (a + 6), .ref (a + 8), .null, .int 0, .int 0]) (fs' := [.ref (a + 1), .ref (a + 2), .ref (a + 3), .ref (a + 4), .ref (a + 5), .int 0, .int 0, .int 0, .ref (a + 6), .ref (a + 8), .ref (a + 9), .int 0, .int 0]) Y hN rfl in9 tyX9_ok nmX9 (by decide) lk_X9_39 rfl hin rfl rfl rfl (Nat.le_of_ble_eq_true rfl) rfl dX9_init_75 (fun H locs hN => ?_)
  have hN : Nx s E [(a, .inr (9, [.ref (a + 1), .ref (a + 2), .ref (a + 3), .ref (a + 4), .ref (a + 5), .int 0, .int 0, .int 0, .ref (a + 6), .ref (a + 8), .ref (a + 9), .int 0, .int 0]))] (nL2 (a + 6) 28 (L ++ [(a + 1, (0, 320))] ++ [(a + 2, (0, 320))] ++ [(a + 3, (0, 320))] ++ [(a + 4, (0, 320))] ++ [(a + 5, (0, 320))]) ++ [(a + 8, (0, 28))] ++ [(a + 9, (0, 28))]) M1 (a + 10) 9 H locs := hN
  obtain ⟨M2, eM2, h⟩ := lt_el h
  have hN := hN.done (a := a) (k := 14) (n := 0) (M1 := M2) (by subst eM2; simp [cellOf, flds, pt, va_rf]) (by subst eM2; intro b hb; simp [pt, hb]) (by omega)
  have hN : Nx s E [] ((a, (14, 0)) :: (nL2 (a + 6) 28 (L ++ [(a + 1, (0, 320))] ++ [(a + 2, (0, 320))] ++ [(a + 3, (0, 320))] ++ [(a + 4, (0, 320))] ++ [(a + 5, (0, 320))]) ++ [(a + 8, (0, 28))] ++ [(a + 9, (0, 28))])) M2 (a + 10) 9 H locs := hN
  cases h
  exact n_ret Y hN hs0 (by show _ ≤ 1686; omega) hr hlk dX9_init_78
def dfl6 : List Value := [.null, .null, .null, .null, .int 0, .null, .null]
theorem dfv6 : ∀ j, j < 7 → defaultValue (tyX6 j) = vp_V dfl6 j := by decide +kernel
theorem wci_6 : Cond.code yX6_init cX6_init 1 none ∈ ws0 := tb_2 48 (by decide +kernel) rfl
theorem wii_6 : Cond.instanceMethod yX6_init ∈ ws0 := tb_2 47 (by decide +kernel) rfl
theorem win_6 : Cond.instantiable RX6 7 ∈ ws0 := tb_2 45 (by decide +kernel) rfl
theorem dX6_init_0 : decode cX6_init 0 = .ok (.aload_n 0, 1) := by decide +kernel
theorem dX6_init_1 : decode cX6_init 1 = .ok (.invokespecial 3, 3) := by decide +kernel
theorem dX6_init_4 : decode cX6_init 4 = .ok (.aload_n 0, 1) := by decide +kernel
theorem dX6_init_5 : decode cX6_init 5 = .ok (.new 9, 3) := by decide +kernel
theorem dX6_init_8 : decode cX6_init 8 = .ok (.dup, 1) := by decide +kernel
theorem dX6_init_9 : decode cX6_init 9 = .ok (.invokespecial 11, 3) := by decide +kernel
theorem dX6_init_12 : decode cX6_init 12 = .ok (.putfield 12, 3) := by decide +kernel
theorem dX6_init_15 : decode cX6_init 15 = .ok (.aload_n 0, 1) := by decide +kernel
theorem dX6_init_16 : decode cX6_init 16 = .ok (.sipush 1920, 3) := by decide +kernel
theorem dX6_init_19 : decode cX6_init 19 = .ok (.newarray .int, 2) := by decide +kernel
theorem dX6_init_21 : decode cX6_init 21 = .ok (.putfield 18, 3) := by decide +kernel
theorem dX6_init_24 : decode cX6_init 24 = .ok (.aload_n 0, 1) := by decide +kernel
theorem dX6_init_25 : decode cX6_init 25 = .ok (.sipush 1920, 3) := by decide +kernel
theorem dX6_init_28 : decode cX6_init 28 = .ok (.newarray .int, 2) := by decide +kernel
theorem dX6_init_30 : decode cX6_init 30 = .ok (.putfield 22, 3) := by decide +kernel
theorem dX6_init_33 : decode cX6_init 33 = .ok (.aload_n 0, 1) := by decide +kernel
theorem dX6_init_34 : decode cX6_init 34 = .ok (.bipush 6, 2) := by decide +kernel
theorem dX6_init_36 : decode cX6_init 36 = .ok (.newarray .int, 2) := by decide +kernel
theorem dX6_init_38 : decode cX6_init 38 = .ok (.putfield 25, 3) := by decide +kernel
theorem dX6_init_41 : decode cX6_init 41 = .ok (.return_, 1) := by decide +kernel
theorem ob_X6 : Cond.methodLink RX6 3 objectInit ∈ ws0 := tb_2 49 (by decide +kernel) rfl
theorem cl_X6_9 : Cond.classLink RX6 9 RX9 ∈ ws0 := tb_2 50 (by decide +kernel) rfl
theorem mi_X6_11 : Cond.methodLinkNest RX6 11 yX9_init "SpanKinds" ∈ nestW := tn_2 52 (by decide +kernel) rfl
def nL6 (a : Nat) (L : Lay) : Lay := (a, (11, 0)) :: (nL9 (a + 1) (L) ++ [(a + 11, (0, 1920))] ++ [(a + 12, (0, 1920))] ++ [(a + 13, (0, 6))])
theorem aL6 (a : Nat) (L : Lay) : At (nL6 a L) a T6 := by
  intro p hp
  simp only [T6, List.mem_cons, List.not_mem_nil, or_false] at hp
  rcases hp with rfl | rfl | rfl | rfl | rfl | rfl | rfl | rfl | rfl | rfl | rfl | rfl | rfl | rfl <;> simp [nL2, nL6, nL9]
theorem nL6_last (a : Nat) (L : Lay) : ∃ p ∈ nL6 a L, p.1 = a + 13 := ⟨(a + 13, (0, 6)), aL6 a L (13, (0, 6)) (by simp [T6]), rfl⟩
def iC6 (fu a : Nat) (M : Mm) : Option Mm :=
  bm (iC9 fu (a + 1) M) fun M1 =>
  lt (pt a (fun _ => 0) M1) fun M2 =>
  some M2
theorem iC6_Z {fu a : Nat} {M M' : Mm} (h : iC6 fu a M = some M') (hZ : Zr (a + 1) M) : Zr (a + 1 + 13) M' := by
  unfold iC6 at h
  obtain ⟨M1, hcM1, h⟩ := bm_el h
  have zM1 := iC9_Z hcM1 (hZ.mono (by omega))
  obtain ⟨M2, eM2, h⟩ := lt_el h
  have zM2 : Zr (a + 1 + 13) M2 := by rw [eM2]; exact pt_Zr ((zM1).mono (by omega)) (by omega)
  cases h
  exact zM2
set_option maxRecDepth 100000 in
set_option maxHeartbeats 4000000 in
theorem kC6 {l : Launch} {E : Ge} (fu d : Nat) {a : Nat} {L : Lay} {M M' : Mm} (hZ0 : Zr a M) (h : iC6 fu a M = some M') : Cn l E 6 dfl6 yX6_init cX6_init 1 (d + 3) 13 (5545) a [] L M (nL6 a L) M' := by
  refine Cn.of (by decide) hZ0 ?_
  intro p e s m below meth c hr hlk hnm Y hs0 hN
  have Y : By p s m _ c cX6_init 1 RX6 E := Y
  have hx := Y.1
  have hb := Y.2.1
  have hin : meth.name = "<init>" := hnm
  have hl := lv_entry ([.ref a]) (n := 1) (Nat.le_of_ble_eq_true rfl)
  rw [lg_entry_eq]
  generalize (lg_sl ([.ref a]) ++ List.replicate (1 - (lg_sl ([.ref a])).length) Slot.unset).toArray = ls at hl ⊢
  have hl : lv_has ls 1 [(0, .ref a)] := hl
  unfold iC6 at h
  have hN : Nx s E [(a, .inr (6, [.null, .null, .null, .null, .int 0, .null, .null]))] L M (a + 1) 0 s.heap [] := hN
  refine lv_aload_n hx hb dX6_init_0 rfl (lv_at hl 0 rfl) ?_
  refine n_obj Y ob_X6 hl.1 dX6_init_1 (by show 1 ≤ d + 3; omega) (by show 0 + 12 ≤ 42 * (d + 3); omega) ?_
  refine lv_aload_n hx hb dX6_init_4 rfl (lv_at hl 0 rfl) ?_
  refine n_new (ci := 9) (C := RX9) (T := TX9) (N := 13) (ty0 := tyX9) (df := dfl9) Y hN rfl in9 tyX9_ok cl_X6_9 win_9 ini_9 dfv9 (Nat.le_of_ble_eq_true rfl) (Nat.le_of_ble_eq_true rfl) dX6_init_5 (fun H hP hD hS hsz hcs hZ => ?_)
  refine lv_dup hx hb dX6_init_8 rfl ?_
  obtain ⟨M1, hc1, h⟩ := bm_el h
  refine n_callI (L' := nL9 (a + 1) (L)) (M' := M1) (ex := [(a, .inr (6, [.null, .null, .null, .null, .int 0, .null, .null]))]) (ci := 9) (df := dfl9) (mc := 9) (ms := 1686) (As := []) (n := 0) Y hP hD hS hsz hcs (by decide) (by intro z hz; rw [List.mem_singleton] at hz; subst hz; show a < a + 1; omega) (iC9_Z hc1 (hZ.mono (by omega))) (nL9_last _ _) wci_9 (Or.inr mi_X6_11) wii_9 ini_9 rfl (by decide +kernel) (by decide) rfl hl.1 (kC9 fu d hZ hc1) ⟨by show _ ≤ d + 3; omega, by show _ ≤ 42 * (d + 3); omega, Nat.le_of_ble_eq_true rfl, Nat.le_of_ble_eq_true rfl⟩ (Nat.le_of_ble_eq_true rfl) dX6_init_9 (fun H locs hN => ?_)
  have hN : Nx s E [(a, .inr (6, [.null, .null, .null, .null, .int 0, .null, .null]))] (nL9 (a + 1) (L)) M1 (a + 11) 10 H locs := hN
  refine n_putF (er := []) (ci := 6) (C := RX6) (T := TX6) (N := 7) (k := 0) (ty0 := tyX6) (fs := [.null, .null, .null, .null, .int 0, .null, .null]) (fs' := [.ref (a + 1), .null, .null, .null, .int 0, .null, .null]) Y hN rfl in6 tyX6_ok nmX6 (by decide) lk_X6_12 rfl hin rfl rfl rfl (Nat.le_of_ble_eq_true rfl) rfl dX6_init_12 (fun H locs hN => ?_)
  have hN : Nx s E [(a, .inr (6, [.ref (a + 1), .null, .null, .null, .int 0, .null, .null]))] (nL9 (a + 1) (L)) M1 (a + 11) 10 H locs := hN
  refine lv_aload_n hx hb dX6_init_15 rfl (lv_at hl 0 rfl) ?_
  refine lv_sipush (v := 1920) hx hb dX6_init_16 (by decide) ?_
  refine n_arrI (N := 1920) Y hN (by decide) (by decide +kernel) (Nat.le_of_ble_eq_true rfl) (Nat.le_of_ble_eq_true rfl) (Nat.le_of_ble_eq_true rfl) dX6_init_19 (fun H hN => ?_)
  have hN : Nx s E [(a, .inr (6, [.ref (a + 1), .null, .null, .null, .int 0, .null, .null]))] (nL9 (a + 1) (L) ++ [(a + 11, (0, 1920))]) M1 (a + 12) 11 H locs := hN
  refine n_putF (er := []) (ci := 6) (C := RX6) (T := TX6) (N := 7) (k := 1) (ty0 := tyX6) (fs := [.ref (a + 1), .null, .null, .null, .int 0, .null, .null]) (fs' := [.ref (a + 1), .ref (a + 11), .null, .null, .int 0, .null, .null]) Y hN rfl in6 tyX6_ok nmX6 (by decide) lk_X6_18 rfl hin rfl rfl rfl (Nat.le_of_ble_eq_true rfl) rfl dX6_init_21 (fun H locs hN => ?_)
  have hN : Nx s E [(a, .inr (6, [.ref (a + 1), .ref (a + 11), .null, .null, .int 0, .null, .null]))] (nL9 (a + 1) (L) ++ [(a + 11, (0, 1920))]) M1 (a + 12) 11 H locs := hN
  refine lv_aload_n hx hb dX6_init_24 rfl (lv_at hl 0 rfl) ?_
  refine lv_sipush (v := 1920) hx hb dX6_init_25 (by decide) ?_
  refine n_arrI (N := 1920) Y hN (by decide) (by decide +kernel) (Nat.le_of_ble_eq_true rfl) (Nat.le_of_ble_eq_true rfl) (Nat.le_of_ble_eq_true rfl) dX6_init_28 (fun H hN => ?_)
  have hN : Nx s E [(a, .inr (6, [.ref (a + 1), .ref (a + 11), .null, .null, .int 0, .null, .null]))] (nL9 (a + 1) (L) ++ [(a + 11, (0, 1920))] ++ [(a + 12, (0, 1920))]) M1 (a + 13) 12 H locs := hN
  refine n_putF (er := []) (ci := 6) (C := RX6) (T := TX6) (N := 7) (k := 2) (ty0 := tyX6) (fs := [.ref (a + 1), .ref (a + 11), .null, .null, .int 0, .null, .null]) (fs' := [.ref (a + 1), .ref (a + 11), .ref (a + 12), .null, .int 0, .null, .null]) Y hN rfl in6 tyX6_ok nmX6 (by decide) lk_X6_22 rfl hin rfl rfl rfl (Nat.le_of_ble_eq_true rfl) rfl dX6_init_30 (fun H locs hN => ?_)
  have hN : Nx s E [(a, .inr (6, [.ref (a + 1), .ref (a + 11), .ref (a + 12), .null, .int 0, .null, .null]))] (nL9 (a + 1) (L) ++ [(a + 11, (0, 1920))] ++ [(a + 12, (0, 1920))]) M1 (a + 13) 12 H locs := hN
  refine lv_aload_n hx hb dX6_init_33 rfl (lv_at hl 0 rfl) ?_
  refine lv_bipush (v := 6) hx hb dX6_init_34 (by decide) ?_
  refine n_arrI (N := 6) Y hN (by decide) (by decide +kernel) (Nat.le_of_ble_eq_true rfl) (Nat.le_of_ble_eq_true rfl) (Nat.le_of_ble_eq_true rfl) dX6_init_36 (fun H hN => ?_)
  have hN : Nx s E [(a, .inr (6, [.ref (a + 1), .ref (a + 11), .ref (a + 12), .null, .int 0, .null, .null]))] (nL9 (a + 1) (L) ++ [(a + 11, (0, 1920))] ++ [(a + 12, (0, 1920))] ++ [(a + 13, (0, 6))]) M1 (a + 14) 13 H locs := hN
  refine n_putF (er := []) (ci := 6) (C := RX6) (T := TX6) (N := 7) (k := 3) (ty0 := tyX6) (fs := [.ref (a + 1), .ref (a + 11), .ref (a + 12), .null, .int 0, .null, .null]) (fs' := [.ref (a + 1), .ref (a + 11), .ref (a + 12), .ref (a + 13), .int 0, .null, .null]) Y hN rfl in6 tyX6_ok nmX6 (by decide) lk_X6_25 rfl hin rfl rfl rfl (Nat.le_of_ble_eq_true rfl) rfl dX6_init_38 (fun H locs hN => ?_)
  have hN : Nx s E [(a, .inr (6, [.ref (a + 1), .ref (a + 11), .ref (a + 12), .ref (a + 13), .int 0, .null, .null]))] (nL9 (a + 1) (L) ++ [(a + 11, (0, 1920))] ++ [(a + 12, (0, 1920))] ++ [(a + 13, (0, 6))]) M1 (a + 14) 13 H locs := hN
  obtain ⟨M2, eM2, h⟩ := lt_el h
  have hN := hN.done (a := a) (k := 11) (n := 0) (M1 := M2) (by subst eM2; simp [cellOf, flds, pt, va_rf]) (by subst eM2; intro b hb; simp [pt, hb]) (by omega)
  have hN : Nx s E [] ((a, (11, 0)) :: (nL9 (a + 1) (L) ++ [(a + 11, (0, 1920))] ++ [(a + 12, (0, 1920))] ++ [(a + 13, (0, 6))])) M2 (a + 14) 13 H locs := hN
  cases h
  exact n_ret Y hN hs0 (by show _ ≤ 5545; omega) hr hlk dX6_init_41
def dfl3 : List Value := [.null, .null, .null]
theorem dfv3 : ∀ j, j < 3 → defaultValue (tyX3 j) = vp_V dfl3 j := by decide +kernel
theorem wci_3 : Cond.code yX3_init cX3_init 1 none ∈ ws0 := tb_5 162 (by decide +kernel) rfl
theorem wii_3 : Cond.instanceMethod yX3_init ∈ ws0 := tb_5 161 (by decide +kernel) rfl
theorem win_3 : Cond.instantiable RX3 3 ∈ ws0 := tb_5 159 (by decide +kernel) rfl
theorem dX3_init_0 : decode cX3_init 0 = .ok (.aload_n 0, 1) := by decide +kernel
theorem dX3_init_1 : decode cX3_init 1 = .ok (.invokespecial 3, 3) := by decide +kernel
theorem dX3_init_4 : decode cX3_init 4 = .ok (.aload_n 0, 1) := by decide +kernel
theorem dX3_init_5 : decode cX3_init 5 = .ok (.new 9, 3) := by decide +kernel
theorem dX3_init_8 : decode cX3_init 8 = .ok (.dup, 1) := by decide +kernel
theorem dX3_init_9 : decode cX3_init 9 = .ok (.invokespecial 11, 3) := by decide +kernel
theorem dX3_init_12 : decode cX3_init 12 = .ok (.putfield 12, 3) := by decide +kernel
theorem dX3_init_15 : decode cX3_init 15 = .ok (.aload_n 0, 1) := by decide +kernel
theorem dX3_init_16 : decode cX3_init 16 = .ok (.sipush 21120, 3) := by decide +kernel
theorem dX3_init_19 : decode cX3_init 19 = .ok (.newarray .int, 2) := by decide +kernel
theorem dX3_init_21 : decode cX3_init 21 = .ok (.putfield 18, 3) := by decide +kernel
theorem dX3_init_24 : decode cX3_init 24 = .ok (.return_, 1) := by decide +kernel
theorem ob_X3 : Cond.methodLink RX3 3 objectInit ∈ ws0 := tb_5 163 (by decide +kernel) rfl
theorem cl_X3_9 : Cond.classLink RX3 9 RX9 ∈ ws0 := tb_5 164 (by decide +kernel) rfl
theorem mi_X3_11 : Cond.methodLinkNest RX3 11 yX9_init "SpanKinds" ∈ nestW := tn_5 165 (by decide +kernel) rfl
def nL3 (a : Nat) (L : Lay) : Lay := (a, (8, 0)) :: (nL9 (a + 1) (L) ++ [(a + 11, (0, 21120))])
theorem aL3 (a : Nat) (L : Lay) : At (nL3 a L) a T3 := by
  intro p hp
  simp only [T3, List.mem_cons, List.not_mem_nil, or_false] at hp
  rcases hp with rfl | rfl | rfl | rfl | rfl | rfl | rfl | rfl | rfl | rfl | rfl | rfl <;> simp [nL2, nL3, nL9]
theorem nL3_last (a : Nat) (L : Lay) : ∃ p ∈ nL3 a L, p.1 = a + 11 := ⟨(a + 11, (0, 21120)), aL3 a L (11, (0, 21120)) (by simp [T3]), rfl⟩
def iC3 (fu a : Nat) (M : Mm) : Option Mm :=
  bm (iC9 fu (a + 1) M) fun M1 =>
  lt (pt a (fun _ => 0) M1) fun M2 =>
  some M2
theorem iC3_Z {fu a : Nat} {M M' : Mm} (h : iC3 fu a M = some M') (hZ : Zr (a + 1) M) : Zr (a + 1 + 11) M' := by
  unfold iC3 at h
  obtain ⟨M1, hcM1, h⟩ := bm_el h
  have zM1 := iC9_Z hcM1 (hZ.mono (by omega))
  obtain ⟨M2, eM2, h⟩ := lt_el h
  have zM2 : Zr (a + 1 + 11) M2 := by rw [eM2]; exact pt_Zr ((zM1).mono (by omega)) (by omega)
  cases h
  exact zM2
set_option maxRecDepth 100000 in
set_option maxHeartbeats 4000000 in
theorem kC3 {l : Launch} {E : Ge} (fu d : Nat) {a : Nat} {L : Lay} {M M' : Mm} (hZ0 : Zr a M) (h : iC3 fu a M = some M') : Cn l E 3 dfl3 yX3_init cX3_init 1 (d + 3) 11 (22819) a [] L M (nL3 a L) M' := by
  refine Cn.of (by decide) hZ0 ?_
  intro p e s m below meth c hr hlk hnm Y hs0 hN
  have Y : By p s m _ c cX3_init 1 RX3 E := Y
  have hx := Y.1
  have hb := Y.2.1
  have hin : meth.name = "<init>" := hnm
  have hl := lv_entry ([.ref a]) (n := 1) (Nat.le_of_ble_eq_true rfl)
  rw [lg_entry_eq]
  generalize (lg_sl ([.ref a]) ++ List.replicate (1 - (lg_sl ([.ref a])).length) Slot.unset).toArray = ls at hl ⊢
  have hl : lv_has ls 1 [(0, .ref a)] := hl
  unfold iC3 at h
  have hN : Nx s E [(a, .inr (3, [.null, .null, .null]))] L M (a + 1) 0 s.heap [] := hN
  refine lv_aload_n hx hb dX3_init_0 rfl (lv_at hl 0 rfl) ?_
  refine n_obj Y ob_X3 hl.1 dX3_init_1 (by show 1 ≤ d + 3; omega) (by show 0 + 12 ≤ 42 * (d + 3); omega) ?_
  refine lv_aload_n hx hb dX3_init_4 rfl (lv_at hl 0 rfl) ?_
  refine n_new (ci := 9) (C := RX9) (T := TX9) (N := 13) (ty0 := tyX9) (df := dfl9) Y hN rfl in9 tyX9_ok cl_X3_9 win_9 ini_9 dfv9 (Nat.le_of_ble_eq_true rfl) (Nat.le_of_ble_eq_true rfl) dX3_init_5 (fun H hP hD hS hsz hcs hZ => ?_)
  refine lv_dup hx hb dX3_init_8 rfl ?_
  obtain ⟨M1, hc1, h⟩ := bm_el h
  refine n_callI (L' := nL9 (a + 1) (L)) (M' := M1) (ex := [(a, .inr (3, [.null, .null, .null]))]) (ci := 9) (df := dfl9) (mc := 9) (ms := 1686) (As := []) (n := 0) Y hP hD hS hsz hcs (by decide) (by intro z hz; rw [List.mem_singleton] at hz; subst hz; show a < a + 1; omega) (iC9_Z hc1 (hZ.mono (by omega))) (nL9_last _ _) wci_9 (Or.inr mi_X3_11) wii_9 ini_9 rfl (by decide +kernel) (by decide) rfl hl.1 (kC9 fu d hZ hc1) ⟨by show _ ≤ d + 3; omega, by show _ ≤ 42 * (d + 3); omega, Nat.le_of_ble_eq_true rfl, Nat.le_of_ble_eq_true rfl⟩ (Nat.le_of_ble_eq_true rfl) dX3_init_9 (fun H locs hN => ?_)
  have hN : Nx s E [(a, .inr (3, [.null, .null, .null]))] (nL9 (a + 1) (L)) M1 (a + 11) 10 H locs := hN
  refine n_putF (er := []) (ci := 3) (C := RX3) (T := TX3) (N := 3) (k := 0) (ty0 := tyX3) (fs := [.null, .null, .null]) (fs' := [.ref (a + 1), .null, .null]) Y hN rfl in3 tyX3_ok nmX3 (by decide) lk_X3_12 rfl hin rfl rfl rfl (Nat.le_of_ble_eq_true rfl) rfl dX3_init_12 (fun H locs hN => ?_)
  have hN : Nx s E [(a, .inr (3, [.ref (a + 1), .null, .null]))] (nL9 (a + 1) (L)) M1 (a + 11) 10 H locs := hN
  refine lv_aload_n hx hb dX3_init_15 rfl (lv_at hl 0 rfl) ?_
  refine lv_sipush (v := 21120) hx hb dX3_init_16 (by decide) ?_
  refine n_arrI (N := 21120) Y hN (by decide) (by decide +kernel) (Nat.le_of_ble_eq_true rfl) (Nat.le_of_ble_eq_true rfl) (Nat.le_of_ble_eq_true rfl) dX3_init_19 (fun H hN => ?_)
  have hN : Nx s E [(a, .inr (3, [.ref (a + 1), .null, .null]))] (nL9 (a + 1) (L) ++ [(a + 11, (0, 21120))]) M1 (a + 12) 11 H locs := hN
  refine n_putF (er := []) (ci := 3) (C := RX3) (T := TX3) (N := 3) (k := 1) (ty0 := tyX3) (fs := [.ref (a + 1), .null, .null]) (fs' := [.ref (a + 1), .ref (a + 11), .null]) Y hN rfl in3 tyX3_ok nmX3 (by decide) lk_X3_18 rfl hin rfl rfl rfl (Nat.le_of_ble_eq_true rfl) rfl dX3_init_21 (fun H locs hN => ?_)
  have hN : Nx s E [(a, .inr (3, [.ref (a + 1), .ref (a + 11), .null]))] (nL9 (a + 1) (L) ++ [(a + 11, (0, 21120))]) M1 (a + 12) 11 H locs := hN
  obtain ⟨M2, eM2, h⟩ := lt_el h
  have hN := hN.done (a := a) (k := 8) (n := 0) (M1 := M2) (by subst eM2; simp [cellOf, flds, pt, va_rf]) (by subst eM2; intro b hb; simp [pt, hb]) (by omega)
  have hN : Nx s E [] ((a, (8, 0)) :: (nL9 (a + 1) (L) ++ [(a + 11, (0, 21120))])) M2 (a + 12) 11 H locs := hN
  cases h
  exact n_ret Y hN hs0 (by show _ ≤ 22819; omega) hr hlk dX3_init_24
def dfl7 : List Value := [.null, .int 0, .int 0, .int 0, .null, .int 0, .int 0, .int 0, .int 0, .int 0, .int 0, .int 0, .int 0, .int 0]
theorem dfv7 : ∀ j, j < 14 → defaultValue (tyX7 j) = vp_V dfl7 j := by decide +kernel
theorem wci_7 : Cond.code yX7_init cX7_init 1 none ∈ ws0 := tb_1 32 (by decide +kernel) rfl
theorem wii_7 : Cond.instanceMethod yX7_init ∈ ws0 := tb_1 31 (by decide +kernel) rfl
theorem win_7 : Cond.instantiable RX7 14 ∈ ws0 := tb_1 29 (by decide +kernel) rfl
theorem dX7_init_0 : decode cX7_init 0 = .ok (.aload_n 0, 1) := by decide +kernel
theorem dX7_init_1 : decode cX7_init 1 = .ok (.invokespecial 3, 3) := by decide +kernel
theorem dX7_init_4 : decode cX7_init 4 = .ok (.aload_n 0, 1) := by decide +kernel
theorem dX7_init_5 : decode cX7_init 5 = .ok (.sipush 800, 3) := by decide +kernel
theorem dX7_init_8 : decode cX7_init 8 = .ok (.newarray .int, 2) := by decide +kernel
theorem dX7_init_10 : decode cX7_init 10 = .ok (.putfield 9, 3) := by decide +kernel
theorem dX7_init_13 : decode cX7_init 13 = .ok (.aload_n 0, 1) := by decide +kernel
theorem dX7_init_14 : decode cX7_init 14 = .ok (.iconst (-1), 1) := by decide +kernel
theorem dX7_init_15 : decode cX7_init 15 = .ok (.putfield 15, 3) := by decide +kernel
theorem dX7_init_18 : decode cX7_init 18 = .ok (.aload_n 0, 1) := by decide +kernel
theorem dX7_init_19 : decode cX7_init 19 = .ok (.new 19, 3) := by decide +kernel
theorem dX7_init_22 : decode cX7_init 22 = .ok (.dup, 1) := by decide +kernel
theorem dX7_init_23 : decode cX7_init 23 = .ok (.invokespecial 21, 3) := by decide +kernel
theorem dX7_init_26 : decode cX7_init 26 = .ok (.putfield 22, 3) := by decide +kernel
theorem dX7_init_29 : decode cX7_init 29 = .ok (.return_, 1) := by decide +kernel
theorem ob_X7 : Cond.methodLink RX7 3 objectInit ∈ ws0 := tb_1 33 (by decide +kernel) rfl
theorem cl_X7_19 : Cond.classLink RX7 19 RX8 ∈ ws0 := tb_1 34 (by decide +kernel) rfl
theorem mi_X7_21 : Cond.methodLink RX7 21 yX8_init ∈ ws0 := tb_1 36 (by decide +kernel) rfl
def nL7 (a : Nat) (L : Lay) : Lay := (a, (12, 0)) :: (nL8 (a + 2) (L ++ [(a + 1, (0, 800))]))
theorem aL7 (a : Nat) (L : Lay) : At (nL7 a L) a T7 := by
  intro p hp
  simp only [T7, List.mem_cons, List.not_mem_nil, or_false] at hp
  rcases hp with rfl | rfl | rfl | rfl | rfl | rfl | rfl | rfl | rfl | rfl | rfl <;> simp [nL7, nL8]
theorem nL7_last (a : Nat) (L : Lay) : ∃ p ∈ nL7 a L, p.1 = a + 10 := ⟨(a + 10, (0, 64)), aL7 a L (10, (0, 64)) (by simp [T7]), rfl⟩
def iC7 (fu a : Nat) (M : Mm) : Option Mm :=
  bm (iC8 fu (a + 2) M) fun M1 =>
  lt (pt a (fun k => if k = 3 then (-1) else 0) M1) fun M2 =>
  some M2
theorem iC7_Z {fu a : Nat} {M M' : Mm} (h : iC7 fu a M = some M') (hZ : Zr (a + 1) M) : Zr (a + 1 + 10) M' := by
  unfold iC7 at h
  obtain ⟨M1, hcM1, h⟩ := bm_el h
  have zM1 := iC8_Z hcM1 (hZ.mono (by omega))
  obtain ⟨M2, eM2, h⟩ := lt_el h
  have zM2 : Zr (a + 1 + 10) M2 := by rw [eM2]; exact pt_Zr ((zM1).mono (by omega)) (by omega)
  cases h
  exact zM2
set_option maxRecDepth 100000 in
set_option maxHeartbeats 4000000 in
theorem kC7 {l : Launch} {E : Ge} (fu d : Nat) {a : Nat} {L : Lay} {M M' : Mm} (hZ0 : Zr a M) (h : iC7 fu a M = some M') : Cn l E 7 dfl7 yX7_init cX7_init 1 (d + 3) 10 (951) a [] L M (nL7 a L) M' := by
  refine Cn.of (by decide) hZ0 ?_
  intro p e s m below meth c hr hlk hnm Y hs0 hN
  have Y : By p s m _ c cX7_init 1 RX7 E := Y
  have hx := Y.1
  have hb := Y.2.1
  have hin : meth.name = "<init>" := hnm
  have hl := lv_entry ([.ref a]) (n := 1) (Nat.le_of_ble_eq_true rfl)
  rw [lg_entry_eq]
  generalize (lg_sl ([.ref a]) ++ List.replicate (1 - (lg_sl ([.ref a])).length) Slot.unset).toArray = ls at hl ⊢
  have hl : lv_has ls 1 [(0, .ref a)] := hl
  unfold iC7 at h
  have hN : Nx s E [(a, .inr (7, [.null, .int 0, .int 0, .int 0, .null, .int 0, .int 0, .int 0, .int 0, .int 0, .int 0, .int 0, .int 0, .int 0]))] L M (a + 1) 0 s.heap [] := hN
  refine lv_aload_n hx hb dX7_init_0 rfl (lv_at hl 0 rfl) ?_
  refine n_obj Y ob_X7 hl.1 dX7_init_1 (by show 1 ≤ d + 3; omega) (by show 0 + 12 ≤ 42 * (d + 3); omega) ?_
  refine lv_aload_n hx hb dX7_init_4 rfl (lv_at hl 0 rfl) ?_
  refine lv_sipush (v := 800) hx hb dX7_init_5 (by decide) ?_
  refine n_arrI (N := 800) Y hN (by decide) (by decide +kernel) (Nat.le_of_ble_eq_true rfl) (Nat.le_of_ble_eq_true rfl) (Nat.le_of_ble_eq_true rfl) dX7_init_8 (fun H hN => ?_)
  have hN : Nx s E [(a, .inr (7, [.null, .int 0, .int 0, .int 0, .null, .int 0, .int 0, .int 0, .int 0, .int 0, .int 0, .int 0, .int 0, .int 0]))] (L ++ [(a + 1, (0, 800))]) M (a + 2) 1 H [] := hN
  refine n_putF (er := []) (ci := 7) (C := RX7) (T := TX7) (N := 14) (k := 0) (ty0 := tyX7) (fs := [.null, .int 0, .int 0, .int 0, .null, .int 0, .int 0, .int 0, .int 0, .int 0, .int 0, .int 0, .int 0, .int 0]) (fs' := [.ref (a + 1), .int 0, .int 0, .int 0, .null, .int 0, .int 0, .int 0, .int 0, .int 0, .int 0, .int 0, .int 0, .int 0]) Y hN rfl in7 tyX7_ok nmX7 (by decide) lk_X7_9 rfl hin rfl rfl rfl (Nat.le_of_ble_eq_true rfl) rfl dX7_init_10 (fun H locs hN => ?_)
  have hN : Nx s E [(a, .inr (7, [.ref (a + 1), .int 0, .int 0, .int 0, .null, .int 0, .int 0, .int 0, .int 0, .int 0, .int 0, .int 0, .int 0, .int 0]))] (L ++ [(a + 1, (0, 800))]) M (a + 2) 1 H locs := hN
  refine lv_aload_n hx hb dX7_init_13 rfl (lv_at hl 0 rfl) ?_
  refine lv_iconst (v := (-1)) hx hb dX7_init_14 (by decide) ?_
  refine n_putI (er := []) (ci := 7) (C := RX7) (T := TX7) (N := 14) (k := 3) (ty0 := tyX7) (fs := [.ref (a + 1), .int 0, .int 0, .int 0, .null, .int 0, .int 0, .int 0, .int 0, .int 0, .int 0, .int 0, .int 0, .int 0]) (fs' := [.ref (a + 1), .int 0, .int 0, .int (-1), .null, .int 0, .int 0, .int 0, .int 0, .int 0, .int 0, .int 0, .int 0, .int 0]) Y hN rfl in7 tyX7_ok nmX7 (by decide) lk_X7_15 rfl rfl rfl (Nat.le_of_ble_eq_true rfl) rfl dX7_init_15 (fun H locs hN => ?_)
  have hN : Nx s E [(a, .inr (7, [.ref (a + 1), .int 0, .int 0, .int (-1), .null, .int 0, .int 0, .int 0, .int 0, .int 0, .int 0, .int 0, .int 0, .int 0]))] (L ++ [(a + 1, (0, 800))]) M (a + 2) 1 H locs := hN
  refine lv_aload_n hx hb dX7_init_18 rfl (lv_at hl 0 rfl) ?_
  refine n_new (ci := 8) (C := RX8) (T := TX8) (N := 13) (ty0 := tyX8) (df := dfl8) Y hN rfl in8 tyX8_ok cl_X7_19 win_8 ini_8 dfv8 (Nat.le_of_ble_eq_true rfl) (Nat.le_of_ble_eq_true rfl) dX7_init_19 (fun H hP hD hS hsz hcs hZ => ?_)
  refine lv_dup hx hb dX7_init_22 rfl ?_
  obtain ⟨M1, hc1, h⟩ := bm_el h
  refine n_callI (L' := nL8 (a + 2) (L ++ [(a + 1, (0, 800))])) (M' := M1) (ex := [(a, .inr (7, [.ref (a + 1), .int 0, .int 0, .int (-1), .null, .int 0, .int 0, .int 0, .int 0, .int 0, .int 0, .int 0, .int 0, .int 0]))]) (ci := 8) (df := dfl8) (mc := 8) (ms := 138) (As := []) (n := 0) Y hP hD hS hsz hcs (by decide) (by intro z hz; rw [List.mem_singleton] at hz; subst hz; show a < a + 2; omega) (iC8_Z hc1 (hZ.mono (by omega))) (nL8_last _ _) wci_8 (Or.inl mi_X7_21) wii_8 ini_8 rfl (by decide +kernel) (by decide) rfl hl.1 (kC8 fu d hZ hc1) ⟨by show _ ≤ d + 3; omega, by show _ ≤ 42 * (d + 3); omega, Nat.le_of_ble_eq_true rfl, Nat.le_of_ble_eq_true rfl⟩ (Nat.le_of_ble_eq_true rfl) dX7_init_23 (fun H locs hN => ?_)
  have hN : Nx s E [(a, .inr (7, [.ref (a + 1), .int 0, .int 0, .int (-1), .null, .int 0, .int 0, .int 0, .int 0, .int 0, .int 0, .int 0, .int 0, .int 0]))] (nL8 (a + 2) (L ++ [(a + 1, (0, 800))])) M1 (a + 11) 10 H locs := hN
  refine n_putF (er := []) (ci := 7) (C := RX7) (T := TX7) (N := 14) (k := 4) (ty0 := tyX7) (fs := [.ref (a + 1), .int 0, .int 0, .int (-1), .null, .int 0, .int 0, .int 0, .int 0, .int 0, .int 0, .int 0, .int 0, .int 0]) (fs' := [.ref (a + 1), .int 0, .int 0, .int (-1), .ref (a + 2), .int 0, .int 0, .int 0, .int 0, .int 0, .int 0, .int 0, .int 0, .int 0]) Y hN rfl in7 tyX7_ok nmX7 (by decide) lk_X7_22 rfl hin rfl rfl rfl (Nat.le_of_ble_eq_true rfl) rfl dX7_init_26 (fun H locs hN => ?_)
  have hN : Nx s E [(a, .inr (7, [.ref (a + 1), .int 0, .int 0, .int (-1), .ref (a + 2), .int 0, .int 0, .int 0, .int 0, .int 0, .int 0, .int 0, .int 0, .int 0]))] (nL8 (a + 2) (L ++ [(a + 1, (0, 800))])) M1 (a + 11) 10 H locs := hN
  obtain ⟨M2, eM2, h⟩ := lt_el h
  have hN := hN.done (a := a) (k := 12) (n := 0) (M1 := M2) (by subst eM2; simp [cellOf, flds, pt, va_rf]) (by subst eM2; intro b hb; simp [pt, hb]) (by omega)
  have hN : Nx s E [] ((a, (12, 0)) :: (nL8 (a + 2) (L ++ [(a + 1, (0, 800))]))) M2 (a + 11) 10 H locs := hN
  cases h
  exact n_ret Y hN hs0 (by show _ ≤ 951; omega) hr hlk dX7_init_29
def dfl1 : List Value := [.int 0, .int 0, .int 0, .int 0, .null, .null, .null, .null, .null, .null, .int 0, .int 0, .int 0]
theorem dfv1 : ∀ j, j < 13 → defaultValue (tyX1 j) = vp_V dfl1 j := by decide +kernel
theorem wci_1 : Cond.code yX1_init cX1_init 1 none ∈ ws0 := tb_2 163 (by decide +kernel) rfl
theorem wii_1 : Cond.instanceMethod yX1_init ∈ ws0 := tb_2 162 (by decide +kernel) rfl
theorem win_1 : Cond.instantiable RX1 13 ∈ ws0 := tb_2 160 (by decide +kernel) rfl
theorem dX1_init_0 : decode cX1_init 0 = .ok (.aload_n 0, 1) := by decide +kernel
theorem dX1_init_1 : decode cX1_init 1 = .ok (.invokespecial 3, 3) := by decide +kernel
theorem dX1_init_4 : decode cX1_init 4 = .ok (.aload_n 0, 1) := by decide +kernel
theorem dX1_init_5 : decode cX1_init 5 = .ok (.bipush 12, 2) := by decide +kernel
theorem dX1_init_7 : decode cX1_init 7 = .ok (.newarray .int, 2) := by decide +kernel
theorem dX1_init_9 : decode cX1_init 9 = .ok (.putfield 9, 3) := by decide +kernel
theorem dX1_init_12 : decode cX1_init 12 = .ok (.aload_n 0, 1) := by decide +kernel
theorem dX1_init_13 : decode cX1_init 13 = .ok (.new 15, 3) := by decide +kernel
theorem dX1_init_16 : decode cX1_init 16 = .ok (.dup, 1) := by decide +kernel
theorem dX1_init_17 : decode cX1_init 17 = .ok (.bipush 44, 2) := by decide +kernel
theorem dX1_init_19 : decode cX1_init 19 = .ok (.invokespecial 17, 3) := by decide +kernel
theorem dX1_init_22 : decode cX1_init 22 = .ok (.putfield 20, 3) := by decide +kernel
theorem dX1_init_25 : decode cX1_init 25 = .ok (.aload_n 0, 1) := by decide +kernel
theorem dX1_init_26 : decode cX1_init 26 = .ok (.sipush 220, 3) := by decide +kernel
theorem dX1_init_29 : decode cX1_init 29 = .ok (.newarray .int, 2) := by decide +kernel
theorem dX1_init_31 : decode cX1_init 31 = .ok (.putfield 24, 3) := by decide +kernel
theorem dX1_init_34 : decode cX1_init 34 = .ok (.aload_n 0, 1) := by decide +kernel
theorem dX1_init_35 : decode cX1_init 35 = .ok (.bipush 44, 2) := by decide +kernel
theorem dX1_init_37 : decode cX1_init 37 = .ok (.newarray .int, 2) := by decide +kernel
theorem dX1_init_39 : decode cX1_init 39 = .ok (.putfield 27, 3) := by decide +kernel
theorem dX1_init_42 : decode cX1_init 42 = .ok (.aload_n 0, 1) := by decide +kernel
theorem dX1_init_43 : decode cX1_init 43 = .ok (.bipush 44, 2) := by decide +kernel
theorem dX1_init_45 : decode cX1_init 45 = .ok (.newarray .int, 2) := by decide +kernel
theorem dX1_init_47 : decode cX1_init 47 = .ok (.putfield 30, 3) := by decide +kernel
theorem dX1_init_50 : decode cX1_init 50 = .ok (.aload_n 0, 1) := by decide +kernel
theorem dX1_init_51 : decode cX1_init 51 = .ok (.bipush 64, 2) := by decide +kernel
theorem dX1_init_53 : decode cX1_init 53 = .ok (.newarray .long, 2) := by decide +kernel
theorem dX1_init_55 : decode cX1_init 55 = .ok (.putfield 33, 3) := by decide +kernel
theorem dX1_init_58 : decode cX1_init 58 = .ok (.return_, 1) := by decide +kernel
theorem ob_X1 : Cond.methodLink RX1 3 objectInit ∈ ws0 := tb_2 164 (by decide +kernel) rfl
theorem cl_X1_15 : Cond.classLink RX1 15 RX2 ∈ ws0 := tb_2 165 (by decide +kernel) rfl
theorem mi_X1_17 : Cond.methodLink RX1 17 yX2_init ∈ ws0 := tb_2 166 (by decide +kernel) rfl
def nL1 (a : Nat) (L : Lay) : Lay := (a, (6, 0)) :: (nL2 (a + 2) 44 (L ++ [(a + 1, (0, 12))]) ++ [(a + 4, (0, 220))] ++ [(a + 5, (0, 44))] ++ [(a + 6, (0, 44))] ++ [(a + 7, (3, 64))])
theorem aL1 (a : Nat) (L : Lay) : At (nL1 a L) a T1 := by
  intro p hp
  simp only [T1, List.mem_cons, List.not_mem_nil, or_false] at hp
  rcases hp with rfl | rfl | rfl | rfl | rfl | rfl | rfl | rfl <;> simp [nL1, nL2]
theorem nL1_last (a : Nat) (L : Lay) : ∃ p ∈ nL1 a L, p.1 = a + 7 := ⟨(a + 7, (3, 64)), aL1 a L (7, (3, 64)) (by simp [T1]), rfl⟩
def iC1 (fu a : Nat) (M : Mm) : Option Mm :=
  bm (iC2 fu (a + 2) M) fun M1 =>
  lt (pt a (fun _ => 0) M1) fun M2 =>
  some M2
theorem iC1_Z {fu a : Nat} {M M' : Mm} (h : iC1 fu a M = some M') (hZ : Zr (a + 1) M) : Zr (a + 1 + 7) M' := by
  unfold iC1 at h
  obtain ⟨M1, hcM1, h⟩ := bm_el h
  have zM1 := iC2_Z hcM1 (hZ.mono (by omega))
  obtain ⟨M2, eM2, h⟩ := lt_el h
  have zM2 : Zr (a + 1 + 7) M2 := by rw [eM2]; exact pt_Zr ((zM1).mono (by omega)) (by omega)
  cases h
  exact zM2
set_option maxRecDepth 100000 in
set_option maxHeartbeats 4000000 in
theorem kC1 {l : Launch} {E : Ge} (fu d : Nat) {a : Nat} {L : Lay} {M M' : Mm} (hZ0 : Zr a M) (h : iC1 fu a M = some M') : Cn l E 1 dfl1 yX1_init cX1_init 1 (d + 2) 7 (430) a [] L M (nL1 a L) M' := by
  refine Cn.of (by decide) hZ0 ?_
  intro p e s m below meth c hr hlk hnm Y hs0 hN
  have Y : By p s m _ c cX1_init 1 RX1 E := Y
  have hx := Y.1
  have hb := Y.2.1
  have hin : meth.name = "<init>" := hnm
  have hl := lv_entry ([.ref a]) (n := 1) (Nat.le_of_ble_eq_true rfl)
  rw [lg_entry_eq]
  generalize (lg_sl ([.ref a]) ++ List.replicate (1 - (lg_sl ([.ref a])).length) Slot.unset).toArray = ls at hl ⊢
  have hl : lv_has ls 1 [(0, .ref a)] := hl
  unfold iC1 at h
  have hN : Nx s E [(a, .inr (1, [.int 0, .int 0, .int 0, .int 0, .null, .null, .null, .null, .null, .null, .int 0, .int 0, .int 0]))] L M (a + 1) 0 s.heap [] := hN
  refine lv_aload_n hx hb dX1_init_0 rfl (lv_at hl 0 rfl) ?_
  refine n_obj Y ob_X1 hl.1 dX1_init_1 (by show 1 ≤ d + 2; omega) (by show 0 + 12 ≤ 42 * (d + 2); omega) ?_
  refine lv_aload_n hx hb dX1_init_4 rfl (lv_at hl 0 rfl) ?_
  refine lv_bipush (v := 12) hx hb dX1_init_5 (by decide) ?_
  refine n_arrI (N := 12) Y hN (by decide) (by decide +kernel) (Nat.le_of_ble_eq_true rfl) (Nat.le_of_ble_eq_true rfl) (Nat.le_of_ble_eq_true rfl) dX1_init_7 (fun H hN => ?_)
  have hN : Nx s E [(a, .inr (1, [.int 0, .int 0, .int 0, .int 0, .null, .null, .null, .null, .null, .null, .int 0, .int 0, .int 0]))] (L ++ [(a + 1, (0, 12))]) M (a + 2) 1 H [] := hN
  refine n_putF (er := []) (ci := 1) (C := RX1) (T := TX1) (N := 13) (k := 4) (ty0 := tyX1) (fs := [.int 0, .int 0, .int 0, .int 0, .null, .null, .null, .null, .null, .null, .int 0, .int 0, .int 0]) (fs' := [.int 0, .int 0, .int 0, .int 0, .ref (a + 1), .null, .null, .null, .null, .null, .int 0, .int 0, .int 0]) Y hN rfl in1 tyX1_ok nmX1 (by decide) lk_X1_9 rfl hin rfl rfl rfl (Nat.le_of_ble_eq_true rfl) rfl dX1_init_9 (fun H locs hN => ?_)
  have hN : Nx s E [(a, .inr (1, [.int 0, .int 0, .int 0, .int 0, .ref (a + 1), .null, .null, .null, .null, .null, .int 0, .int 0, .int 0]))] (L ++ [(a + 1, (0, 12))]) M (a + 2) 1 H locs := hN
  refine lv_aload_n hx hb dX1_init_12 rfl (lv_at hl 0 rfl) ?_
  refine n_new (ci := 2) (C := RX2) (T := TX2) (N := 2) (ty0 := tyX2) (df := dfl2) Y hN rfl in2 tyX2_ok cl_X1_15 win_2 ini_2 dfv2 (Nat.le_of_ble_eq_true rfl) (Nat.le_of_ble_eq_true rfl) dX1_init_13 (fun H hP hD hS hsz hcs hZ => ?_)
  refine lv_dup hx hb dX1_init_16 rfl ?_
  refine lv_bipush (v := 44) hx hb dX1_init_17 (by decide) ?_
  obtain ⟨M1, hc1, h⟩ := bm_el h
  refine n_callI (L' := nL2 (a + 2) 44 (L ++ [(a + 1, (0, 12))])) (M' := M1) (ex := [(a, .inr (1, [.int 0, .int 0, .int 0, .int 0, .ref (a + 1), .null, .null, .null, .null, .null, .int 0, .int 0, .int 0]))]) (ci := 2) (df := dfl2) (mc := 1) (ms := 44) (As := [.int 44]) (n := 1) Y hP hD hS hsz hcs (by decide) (by intro z hz; rw [List.mem_singleton] at hz; subst hz; show a < a + 2; omega) (iC2_Z hc1 (hZ.mono (by omega))) (nL2_last _ _ _) wci_2 (Or.inl mi_X1_17) wii_2 ini_2 rfl (by decide +kernel) (by decide) rfl hl.1 (kC2 fu d (N := 44) (by decide) (by decide +kernel) (by decide) hZ hc1) ⟨by show _ ≤ d + 2; omega, by show _ ≤ 42 * (d + 2); omega, Nat.le_of_ble_eq_true rfl, Nat.le_of_ble_eq_true rfl⟩ (Nat.le_of_ble_eq_true rfl) dX1_init_19 (fun H locs hN => ?_)
  have hN : Nx s E [(a, .inr (1, [.int 0, .int 0, .int 0, .int 0, .ref (a + 1), .null, .null, .null, .null, .null, .int 0, .int 0, .int 0]))] (nL2 (a + 2) 44 (L ++ [(a + 1, (0, 12))])) M1 (a + 4) 3 H locs := hN
  refine n_putF (er := []) (ci := 1) (C := RX1) (T := TX1) (N := 13) (k := 5) (ty0 := tyX1) (fs := [.int 0, .int 0, .int 0, .int 0, .ref (a + 1), .null, .null, .null, .null, .null, .int 0, .int 0, .int 0]) (fs' := [.int 0, .int 0, .int 0, .int 0, .ref (a + 1), .ref (a + 2), .null, .null, .null, .null, .int 0, .int 0, .int 0]) Y hN rfl in1 tyX1_ok nmX1 (by decide) lk_X1_20 rfl hin rfl rfl rfl (Nat.le_of_ble_eq_true rfl) rfl dX1_init_22 (fun H locs hN => ?_)
  have hN : Nx s E [(a, .inr (1, [.int 0, .int 0, .int 0, .int 0, .ref (a + 1), .ref (a + 2), .null, .null, .null, .null, .int 0, .int 0, .int 0]))] (nL2 (a + 2) 44 (L ++ [(a + 1, (0, 12))])) M1 (a + 4) 3 H locs := hN
  refine lv_aload_n hx hb dX1_init_25 rfl (lv_at hl 0 rfl) ?_
  refine lv_sipush (v := 220) hx hb dX1_init_26 (by decide) ?_
  refine n_arrI (N := 220) Y hN (by decide) (by decide +kernel) (Nat.le_of_ble_eq_true rfl) (Nat.le_of_ble_eq_true rfl) (Nat.le_of_ble_eq_true rfl) dX1_init_29 (fun H hN => ?_)
  have hN : Nx s E [(a, .inr (1, [.int 0, .int 0, .int 0, .int 0, .ref (a + 1), .ref (a + 2), .null, .null, .null, .null, .int 0, .int 0, .int 0]))] (nL2 (a + 2) 44 (L ++ [(a + 1, (0, 12))]) ++ [(a + 4, (0, 220))]) M1 (a + 5) 4 H locs := hN
  refine n_putF (er := []) (ci := 1) (C := RX1) (T := TX1) (N := 13) (k := 6) (ty0 := tyX1) (fs := [.int 0, .int 0, .int 0, .int 0, .ref (a + 1), .ref (a + 2), .null, .null, .null, .null, .int 0, .int 0, .int 0]) (fs' := [.int 0, .int 0, .int 0, .int 0, .ref (a + 1), .ref (a + 2), .ref (a + 4), .null, .null, .null, .int 0, .int 0, .int 0]) Y hN rfl in1 tyX1_ok nmX1 (by decide) lk_X1_24 rfl hin rfl rfl rfl (Nat.le_of_ble_eq_true rfl) rfl dX1_init_31 (fun H locs hN => ?_)
  have hN : Nx s E [(a, .inr (1, [.int 0, .int 0, .int 0, .int 0, .ref (a + 1), .ref (a + 2), .ref (a + 4), .null, .null, .null, .int 0, .int 0, .int 0]))] (nL2 (a + 2) 44 (L ++ [(a + 1, (0, 12))]) ++ [(a + 4, (0, 220))]) M1 (a + 5) 4 H locs := hN
  refine lv_aload_n hx hb dX1_init_34 rfl (lv_at hl 0 rfl) ?_
  refine lv_bipush (v := 44) hx hb dX1_init_35 (by decide) ?_
  refine n_arrI (N := 44) Y hN (by decide) (by decide +kernel) (Nat.le_of_ble_eq_true rfl) (Nat.le_of_ble_eq_true rfl) (Nat.le_of_ble_eq_true rfl) dX1_init_37 (fun H hN => ?_)
  have hN : Nx s E [(a, .inr (1, [.int 0, .int 0, .int 0, .int 0, .ref (a + 1), .ref (a + 2), .ref (a + 4), .null, .null, .null, .int 0, .int 0, .int 0]))] (nL2 (a + 2) 44 (L ++ [(a + 1, (0, 12))]) ++ [(a + 4, (0, 220))] ++ [(a + 5, (0, 44))]) M1 (a + 6) 5 H locs := hN
  refine n_putF (er := []) (ci := 1) (C := RX1) (T := TX1) (N := 13) (k := 7) (ty0 := tyX1) (fs := [.int 0, .int 0, .int 0, .int 0, .ref (a + 1), .ref (a + 2), .ref (a + 4), .null, .null, .null, .int 0, .int 0, .int 0]) (fs' := [.int 0, .int 0, .int 0, .int 0, .ref (a + 1), .ref (a + 2), .ref (a + 4), .ref (a + 5), .null, .null, .int 0, .int 0, .int 0]) Y hN rfl in1 tyX1_ok nmX1 (by decide) lk_X1_27 rfl hin rfl rfl rfl (Nat.le_of_ble_eq_true rfl) rfl dX1_init_39 (fun H locs hN => ?_)
  have hN : Nx s E [(a, .inr (1, [.int 0, .int 0, .int 0, .int 0, .ref (a + 1), .ref (a + 2), .ref (a + 4), .ref (a + 5), .null, .null, .int 0, .int 0, .int 0]))] (nL2 (a + 2) 44 (L ++ [(a + 1, (0, 12))]) ++ [(a + 4, (0, 220))] ++ [(a + 5, (0, 44))]) M1 (a + 6) 5 H locs := hN
  refine lv_aload_n hx hb dX1_init_42 rfl (lv_at hl 0 rfl) ?_
  refine lv_bipush (v := 44) hx hb dX1_init_43 (by decide) ?_
  refine n_arrI (N := 44) Y hN (by decide) (by decide +kernel) (Nat.le_of_ble_eq_true rfl) (Nat.le_of_ble_eq_true rfl) (Nat.le_of_ble_eq_true rfl) dX1_init_45 (fun H hN => ?_)
  have hN : Nx s E [(a, .inr (1, [.int 0, .int 0, .int 0, .int 0, .ref (a + 1), .ref (a + 2), .ref (a + 4), .ref (a + 5), .null, .null, .int 0, .int 0, .int 0]))] (nL2 (a + 2) 44 (L ++ [(a + 1, (0, 12))]) ++ [(a + 4, (0, 220))] ++ [(a + 5, (0, 44))] ++ [(a + 6, (0, 44))]) M1 (a + 7) 6 H locs := hN
  refine n_putF (er := []) (ci := 1) (C := RX1) (T := TX1) (N := 13) (k := 8) (ty0 := tyX1) (fs := [.int 0, .int 0, .int 0, .int 0, .ref (a + 1), .ref (a + 2), .ref (a + 4), .ref (a + 5), .null, .null, .int 0, .int 0, .int 0]) (fs' := [.int 0, .int 0, .int 0, .int 0, .ref (a + 1), .ref (a + 2), .ref (a + 4), .ref (a + 5), .ref (a + 6), .null, .int 0, .int 0, .int 0]) Y hN rfl in1 tyX1_ok nmX1 (by decide) lk_X1_30 rfl hin rfl rfl rfl (Nat.le_of_ble_eq_true rfl) rfl dX1_init_47 (fun H locs hN => ?_)
  have hN : Nx s E [(a, .inr (1, [.int 0, .int 0, .int 0, .int 0, .ref (a + 1), .ref (a + 2), .ref (a + 4), .ref (a + 5), .ref (a + 6), .null, .int 0, .int 0, .int 0]))] (nL2 (a + 2) 44 (L ++ [(a + 1, (0, 12))]) ++ [(a + 4, (0, 220))] ++ [(a + 5, (0, 44))] ++ [(a + 6, (0, 44))]) M1 (a + 7) 6 H locs := hN
  refine lv_aload_n hx hb dX1_init_50 rfl (lv_at hl 0 rfl) ?_
  refine lv_bipush (v := 64) hx hb dX1_init_51 (by decide) ?_
  refine n_arrJ (N := 64) Y hN (by decide) (by decide +kernel) (Nat.le_of_ble_eq_true rfl) (Nat.le_of_ble_eq_true rfl) (Nat.le_of_ble_eq_true rfl) dX1_init_53 (fun H hN => ?_)
  have hN : Nx s E [(a, .inr (1, [.int 0, .int 0, .int 0, .int 0, .ref (a + 1), .ref (a + 2), .ref (a + 4), .ref (a + 5), .ref (a + 6), .null, .int 0, .int 0, .int 0]))] (nL2 (a + 2) 44 (L ++ [(a + 1, (0, 12))]) ++ [(a + 4, (0, 220))] ++ [(a + 5, (0, 44))] ++ [(a + 6, (0, 44))] ++ [(a + 7, (3, 64))]) M1 (a + 8) 7 H locs := hN
  refine n_putF (er := []) (ci := 1) (C := RX1) (T := TX1) (N := 13) (k := 9) (ty0 := tyX1) (fs := [.int 0, .int 0, .int 0, .int 0, .ref (a + 1), .ref (a + 2), .ref (a + 4), .ref (a + 5), .ref (a + 6), .null, .int 0, .int 0, .int 0]) (fs' := [.int 0, .int 0, .int 0, .int 0, .ref (a + 1), .ref (a + 2), .ref (a + 4), .ref (a + 5), .ref (a + 6), .ref (a + 7), .int 0, .int 0, .int 0]) Y hN rfl in1 tyX1_ok nmX1 (by decide) lk_X1_33 rfl hin rfl rfl rfl (Nat.le_of_ble_eq_true rfl) rfl dX1_init_55 (fun H locs hN => ?_)
  have hN : Nx s E [(a, .inr (1, [.int 0, .int 0, .int 0, .int 0, .ref (a + 1), .ref (a + 2), .ref (a + 4), .ref (a + 5), .ref (a + 6), .ref (a + 7), .int 0, .int 0, .int 0]))] (nL2 (a + 2) 44 (L ++ [(a + 1, (0, 12))]) ++ [(a + 4, (0, 220))] ++ [(a + 5, (0, 44))] ++ [(a + 6, (0, 44))] ++ [(a + 7, (3, 64))]) M1 (a + 8) 7 H locs := hN
  obtain ⟨M2, eM2, h⟩ := lt_el h
  have hN := hN.done (a := a) (k := 6) (n := 0) (M1 := M2) (by subst eM2; simp [cellOf, flds, pt, va_rf]) (by subst eM2; intro b hb; simp [pt, hb]) (by omega)
  have hN : Nx s E [] ((a, (6, 0)) :: (nL2 (a + 2) 44 (L ++ [(a + 1, (0, 12))]) ++ [(a + 4, (0, 220))] ++ [(a + 5, (0, 44))] ++ [(a + 6, (0, 44))] ++ [(a + 7, (3, 64))])) M2 (a + 8) 7 H locs := hN
  cases h
  exact n_ret Y hN hs0 (by show _ ≤ 430; omega) hr hlk dX1_init_58
