theorem sL0 (a : Nat) (N : Nat) (L : Lay) : ∀ p ∈ L, p ∈ nL0 a N L := fun p hp => List.mem_cons_of_mem _ (List.mem_append_left _ (List.mem_append_left _ (List.mem_append_left _ (hp))))
theorem sL2 (a : Nat) (N : Nat) (L : Lay) : ∀ p ∈ L, p ∈ nL2 a N L := fun p hp => List.mem_cons_of_mem _ (List.mem_append_left _ (hp))
theorem sL8 (a : Nat) (L : Lay) : ∀ p ∈ L, p ∈ nL8 a L := fun p hp => List.mem_cons_of_mem _ (List.mem_append_left _ (List.mem_append_left _ (List.mem_append_left _ (List.mem_append_left _ (List.mem_append_left _ (List.mem_append_left _ (List.mem_append_left _ (List.mem_append_left _ (hp)))))))))
theorem sL5 (a : Nat) (L : Lay) : ∀ p ∈ L, p ∈ nL5 a L := fun p hp => List.mem_cons_of_mem _ (List.mem_append_left _ (List.mem_append_left _ (List.mem_append_left _ (List.mem_append_left _ (List.mem_append_left _ (sL2 _ _ _ _ (hp)))))))
theorem sL9 (a : Nat) (L : Lay) : ∀ p ∈ L, p ∈ nL9 a L := fun p hp => List.mem_cons_of_mem _ (List.mem_append_left _ (List.mem_append_left _ (sL2 _ _ _ _ (List.mem_append_left _ (List.mem_append_left _ (List.mem_append_left _ (List.mem_append_left _ (List.mem_append_left _ (hp)))))))))
theorem sL6 (a : Nat) (L : Lay) : ∀ p ∈ L, p ∈ nL6 a L := fun p hp => List.mem_cons_of_mem _ (List.mem_append_left _ (List.mem_append_left _ (List.mem_append_left _ (sL9 _ _ _ (hp)))))
theorem sL3 (a : Nat) (L : Lay) : ∀ p ∈ L, p ∈ nL3 a L := fun p hp => List.mem_cons_of_mem _ (List.mem_append_left _ (sL9 _ _ _ (hp)))
theorem sL7 (a : Nat) (L : Lay) : ∀ p ∈ L, p ∈ nL7 a L := fun p hp => List.mem_cons_of_mem _ (sL8 _ _ _ (List.mem_append_left _ (hp)))
theorem sL1 (a : Nat) (L : Lay) : ∀ p ∈ L, p ∈ nL1 a L := fun p hp => List.mem_cons_of_mem _ (List.mem_append_left _ (List.mem_append_left _ (List.mem_append_left _ (List.mem_append_left _ (sL2 _ _ _ _ (List.mem_append_left _ (hp)))))))
theorem ao_8 : Cond.arrayOver (.object RX8) ∈ nestW := tn_1 188 (by decide +kernel) rfl
def dfl4 : List Value := [.null, .int 0, .int 0, .int 0]
theorem dfv4 : ∀ j, j < 4 → defaultValue (tyX4 j) = vp_V dfl4 j := by decide +kernel
theorem wci_4 : Cond.code yX4_init cX4_init 2 none ∈ ws0 := tb_1 185 (by decide +kernel) rfl
theorem wii_4 : Cond.instanceMethod yX4_init ∈ ws0 := tb_1 184 (by decide +kernel) rfl
theorem win_4 : Cond.instantiable RX4 4 ∈ ws0 := tb_1 182 (by decide +kernel) rfl
theorem dX4_init_0 : decode cX4_init 0 = .ok (.aload_n 0, 1) := by decide +kernel
theorem dX4_init_1 : decode cX4_init 1 = .ok (.invokespecial 3, 3) := by decide +kernel
theorem dX4_init_4 : decode cX4_init 4 = .ok (.aload_n 0, 1) := by decide +kernel
theorem dX4_init_5 : decode cX4_init 5 = .ok (.bipush 17, 2) := by decide +kernel
theorem dX4_init_7 : decode cX4_init 7 = .ok (.anewarray 9, 3) := by decide +kernel
theorem dX4_init_10 : decode cX4_init 10 = .ok (.putfield 11, 3) := by decide +kernel
theorem dX4_init_13 : decode cX4_init 13 = .ok (.iconst 0, 1) := by decide +kernel
theorem dX4_init_14 : decode cX4_init 14 = .ok (.istore_n 1, 1) := by decide +kernel
theorem dX4_init_15 : decode cX4_init 15 = .ok (.iload_n 1, 1) := by decide +kernel
theorem dX4_init_16 : decode cX4_init 16 = .ok (.bipush 16, 2) := by decide +kernel
theorem dX4_init_18 : decode cX4_init 18 = .ok (.if_icmp .gt 22, 3) := by decide +kernel
theorem dX4_init_21 : decode cX4_init 21 = .ok (.aload_n 0, 1) := by decide +kernel
theorem dX4_init_22 : decode cX4_init 22 = .ok (.getfield 11, 3) := by decide +kernel
theorem dX4_init_25 : decode cX4_init 25 = .ok (.iload_n 1, 1) := by decide +kernel
theorem dX4_init_26 : decode cX4_init 26 = .ok (.new 9, 3) := by decide +kernel
theorem dX4_init_29 : decode cX4_init 29 = .ok (.dup, 1) := by decide +kernel
theorem dX4_init_30 : decode cX4_init 30 = .ok (.invokespecial 17, 3) := by decide +kernel
theorem dX4_init_33 : decode cX4_init 33 = .ok (.aastore, 1) := by decide +kernel
theorem dX4_init_34 : decode cX4_init 34 = .ok (.iinc 1 1, 3) := by decide +kernel
theorem dX4_init_37 : decode cX4_init 37 = .ok (.goto (-22), 3) := by decide +kernel
theorem dX4_init_40 : decode cX4_init 40 = .ok (.return_, 1) := by decide +kernel
theorem ob_X4 : Cond.methodLink RX4 3 objectInit ∈ ws0 := tb_1 186 (by decide +kernel) rfl
theorem cl_X4_9 : Cond.classLink RX4 9 RX8 ∈ ws0 := tb_1 187 (by decide +kernel) rfl
theorem mi_X4_17 : Cond.methodLink RX4 17 yX8_init ∈ ws0 := tb_1 189 (by decide +kernel) rfl
def nL4 (a : Nat) (L : Lay) : Lay := (a + 1, (4, 17)) :: (a, (9, 0)) :: (nL8 (a + 146) (nL8 (a + 137) (nL8 (a + 128) (nL8 (a + 119) (nL8 (a + 110) (nL8 (a + 101) (nL8 (a + 92) (nL8 (a + 83) (nL8 (a + 74) (nL8 (a + 65) (nL8 (a + 56) (nL8 (a + 47) (nL8 (a + 38) (nL8 (a + 29) (nL8 (a + 20) (nL8 (a + 11) (nL8 (a + 2) (L))))))))))))))))))
theorem sL4 (a : Nat) (L : Lay) : ∀ p ∈ L, p ∈ nL4 a L := fun p hp => List.mem_cons_of_mem _ (List.mem_cons_of_mem _ (sL8 _ _ _ (sL8 _ _ _ (sL8 _ _ _ (sL8 _ _ _ (sL8 _ _ _ (sL8 _ _ _ (sL8 _ _ _ (sL8 _ _ _ (sL8 _ _ _ (sL8 _ _ _ (sL8 _ _ _ (sL8 _ _ _ (sL8 _ _ _ (sL8 _ _ _ (sL8 _ _ _ (sL8 _ _ _ (sL8 _ _ _ (hp)))))))))))))))))))
def U4 : Lay := [(0, (9, 0))] ++ ([(1, (4, 17))] ++ ((shT 2 T8) ++ ((shT 11 T8) ++ ((shT 20 T8) ++ ((shT 29 T8) ++ ((shT 38 T8) ++ ((shT 47 T8) ++ ((shT 56 T8) ++ ((shT 65 T8) ++ ((shT 74 T8) ++ ((shT 83 T8) ++ ((shT 92 T8) ++ ((shT 101 T8) ++ ((shT 110 T8) ++ ((shT 119 T8) ++ ((shT 128 T8) ++ ((shT 137 T8) ++ ((shT 146 T8)))))))))))))))))))
theorem U4_all : T4.all (fun p => U4.contains p) = true := by decide +kernel
theorem aU4 (a : Nat) (L : Lay) : At (nL4 a L) a U4 := At.app (At.one (k := 0) ((List.mem_cons_of_mem _ List.mem_cons_self))) (At.app (At.one (k := 1) List.mem_cons_self) (At.app (At.shift (k := 2) ((((((((((((((((((aL8 _ _).mono (sL8 _ _)).mono (sL8 _ _)).mono (sL8 _ _)).mono (sL8 _ _)).mono (sL8 _ _)).mono (sL8 _ _)).mono (sL8 _ _)).mono (sL8 _ _)).mono (sL8 _ _)).mono (sL8 _ _)).mono (sL8 _ _)).mono (sL8 _ _)).mono (sL8 _ _)).mono (sL8 _ _)).mono (sL8 _ _)).mono (sL8 _ _)).mono (fun _ h => List.mem_cons_of_mem _ (List.mem_cons_of_mem _ (h))))) (At.app (At.shift (k := 11) (((((((((((((((((aL8 _ _).mono (sL8 _ _)).mono (sL8 _ _)).mono (sL8 _ _)).mono (sL8 _ _)).mono (sL8 _ _)).mono (sL8 _ _)).mono (sL8 _ _)).mono (sL8 _ _)).mono (sL8 _ _)).mono (sL8 _ _)).mono (sL8 _ _)).mono (sL8 _ _)).mono (sL8 _ _)).mono (sL8 _ _)).mono (sL8 _ _)).mono (fun _ h => List.mem_cons_of_mem _ (List.mem_cons_of_mem _ (h))))) (At.app (At.shift (k := 20) ((((((((((((((((aL8 _ _).mono (sL8 _ _)).mono (sL8 _ _)).mono (sL8 _ _)).mono (sL8 _ _)).mono (sL8 _ _)).mono (sL8 _ _)).mono (sL8 _ _)).mono (sL8 _ _)).mono (sL8 _ _)).mono (sL8 _ _)).mono (sL8 _ _)).mono (sL8 _ _)).mono (sL8 _ _)).mono (sL8 _ _)).mono (fun _ h => List.mem_cons_of_mem _ (List.mem_cons_of_mem _ (h))))) (At.app (At.shift (k := 29) (((((((((((((((aL8 _ _).mono (sL8 _ _)).mono (sL8 _ _)).mono (sL8 _ _)).mono (sL8 _ _)).mono (sL8 _ _)).mono (sL8 _ _)).mono (sL8 _ _)).mono (sL8 _ _)).mono (sL8 _ _)).mono (sL8 _ _)).mono (sL8 _ _)).mono (sL8 _ _)).mono (sL8 _ _)).mono (fun _ h => List.mem_cons_of_mem _ (List.mem_cons_of_mem _ (h))))) (At.app (At.shift (k := 38) ((((((((((((((aL8 _ _).mono (sL8 _ _)).mono (sL8 _ _)).mono (sL8 _ _)).mono (sL8 _ _)).mono (sL8 _ _)).mono (sL8 _ _)).mono (sL8 _ _)).mono (sL8 _ _)).mono (sL8 _ _)).mono (sL8 _ _)).mono (sL8 _ _)).mono (sL8 _ _)).mono (fun _ h => List.mem_cons_of_mem _ (List.mem_cons_of_mem _ (h))))) (At.app (At.shift (k := 47) (((((((((((((aL8 _ _).mono (sL8 _ _)).mono (sL8 _ _)).mono (sL8 _ _)).mono (sL8 _ _)).mono (sL8 _ _)).mono (sL8 _ _)).mono (sL8 _ _)).mono (sL8 _ _)).mono (sL8 _ _)).mono (sL8 _ _)).mono (sL8 _ _)).mono (fun _ h => List.mem_cons_of_mem _ (List.mem_cons_of_mem _ (h))))) (At.app (At.shift (k := 56) ((((((((((((aL8 _ _).mono (sL8 _ _)).mono (sL8 _ _)).mono (sL8 _ _)).mono (sL8 _ _)).mono (sL8 _ _)).mono (sL8 _ _)).mono (sL8 _ _)).mono (sL8 _ _)).mono (sL8 _ _)).mono (sL8 _ _)).mono (fun _ h => List.mem_cons_of_mem _ (List.mem_cons_of_mem _ (h))))) (At.app (At.shift (k := 65) (((((((((((aL8 _ _).mono (sL8 _ _)).mono (sL8 _ _)).mono (sL8 _ _)).mono (sL8 _ _)).mono (sL8 _ _)).mono (sL8 _ _)).mono (sL8 _ _)).mono (sL8 _ _)).mono (sL8 _ _)).mono (fun _ h => List.mem_cons_of_mem _ (List.mem_cons_of_mem _ (h))))) (At.app (At.shift (k := 74) ((((((((((aL8 _ _).mono (sL8 _ _)).mono (sL8 _ _)).mono (sL8 _ _)).mono (sL8 _ _)).mono (sL8 _ _)).mono (sL8 _ _)).mono (sL8 _ _)).mono (sL8 _ _)).mono (fun _ h => List.mem_cons_of_mem _ (List.mem_cons_of_mem _ (h))))) (At.app (At.shift (k := 83) (((((((((aL8 _ _).mono (sL8 _ _)).mono (sL8 _ _)).mono (sL8 _ _)).mono (sL8 _ _)).mono (sL8 _ _)).mono (sL8 _ _)).mono (sL8 _ _)).mono (fun _ h => List.mem_cons_of_mem _ (List.mem_cons_of_mem _ (h))))) (At.app (At.shift (k := 92) ((((((((aL8 _ _).mono (sL8 _ _)).mono (sL8 _ _)).mono (sL8 _ _)).mono (sL8 _ _)).mono (sL8 _ _)).mono (sL8 _ _)).mono (fun _ h => List.mem_cons_of_mem _ (List.mem_cons_of_mem _ (h))))) (At.app (At.shift (k := 101) (((((((aL8 _ _).mono (sL8 _ _)).mono (sL8 _ _)).mono (sL8 _ _)).mono (sL8 _ _)).mono (sL8 _ _)).mono (fun _ h => List.mem_cons_of_mem _ (List.mem_cons_of_mem _ (h))))) (At.app (At.shift (k := 110) ((((((aL8 _ _).mono (sL8 _ _)).mono (sL8 _ _)).mono (sL8 _ _)).mono (sL8 _ _)).mono (fun _ h => List.mem_cons_of_mem _ (List.mem_cons_of_mem _ (h))))) (At.app (At.shift (k := 119) (((((aL8 _ _).mono (sL8 _ _)).mono (sL8 _ _)).mono (sL8 _ _)).mono (fun _ h => List.mem_cons_of_mem _ (List.mem_cons_of_mem _ (h))))) (At.app (At.shift (k := 128) ((((aL8 _ _).mono (sL8 _ _)).mono (sL8 _ _)).mono (fun _ h => List.mem_cons_of_mem _ (List.mem_cons_of_mem _ (h))))) (At.app (At.shift (k := 137) (((aL8 _ _).mono (sL8 _ _)).mono (fun _ h => List.mem_cons_of_mem _ (List.mem_cons_of_mem _ (h))))) (At.shift (k := 146) ((aL8 _ _).mono (fun _ h => List.mem_cons_of_mem _ (List.mem_cons_of_mem _ (h))))))))))))))))))))))
theorem aL4 (a : Nat) (L : Lay) : At (nL4 a L) a T4 := fun p hp => aU4 a L p (List.contains_iff_mem.mp (List.all_eq_true.mp U4_all p hp))
theorem nL4_last (a : Nat) (L : Lay) : ∃ p ∈ nL4 a L, p.1 = a + 154 := ⟨(a + 154, (0, 64)), aL4 a L (154, (0, 64)) (List.contains_iff_mem.mp (show T4.contains _ = true by decide +kernel)), rfl⟩
def iC4 (fu a : Nat) (M : Mm) : Option Mm :=
  bm (iC8 fu (a + 2) M) fun M1 =>
  bm (iC8 fu (a + 11) M1) fun M2 =>
  bm (iC8 fu (a + 20) M2) fun M3 =>
  bm (iC8 fu (a + 29) M3) fun M4 =>
  bm (iC8 fu (a + 38) M4) fun M5 =>
  bm (iC8 fu (a + 47) M5) fun M6 =>
  bm (iC8 fu (a + 56) M6) fun M7 =>
  bm (iC8 fu (a + 65) M7) fun M8 =>
  bm (iC8 fu (a + 74) M8) fun M9 =>
  bm (iC8 fu (a + 83) M9) fun M10 =>
  bm (iC8 fu (a + 92) M10) fun M11 =>
  bm (iC8 fu (a + 101) M11) fun M12 =>
  bm (iC8 fu (a + 110) M12) fun M13 =>
  bm (iC8 fu (a + 119) M13) fun M14 =>
  bm (iC8 fu (a + 128) M14) fun M15 =>
  bm (iC8 fu (a + 137) M15) fun M16 =>
  bm (iC8 fu (a + 146) M16) fun M17 =>
  lt (pt a (fun _ => 0) M17) fun M18 =>
  some M18
theorem iC4_Z {fu a : Nat} {M M' : Mm} (h : iC4 fu a M = some M') (hZ : Zr (a + 1) M) : Zr (a + 1 + 154) M' := by
  unfold iC4 at h
  obtain ⟨M1, hcM1, h⟩ := bm_el h
  have zM1 := iC8_Z hcM1 (hZ.mono (by omega))
  obtain ⟨M2, hcM2, h⟩ := bm_el h
  have zM2 := iC8_Z hcM2 ((zM1).mono (by omega))
  obtain ⟨M3, hcM3, h⟩ := bm_el h
  have zM3 := iC8_Z hcM3 ((zM2).mono (by omega))
  obtain ⟨M4, hcM4, h⟩ := bm_el h
  have zM4 := iC8_Z hcM4 ((zM3).mono (by omega))
  obtain ⟨M5, hcM5, h⟩ := bm_el h
  have zM5 := iC8_Z hcM5 ((zM4).mono (by omega))
  obtain ⟨M6, hcM6, h⟩ := bm_el h
  have zM6 := iC8_Z hcM6 ((zM5).mono (by omega))
  obtain ⟨M7, hcM7, h⟩ := bm_el h
  have zM7 := iC8_Z hcM7 ((zM6).mono (by omega))
  obtain ⟨M8, hcM8, h⟩ := bm_el h
  have zM8 := iC8_Z hcM8 ((zM7).mono (by omega))
  obtain ⟨M9, hcM9, h⟩ := bm_el h
  have zM9 := iC8_Z hcM9 ((zM8).mono (by omega))
  obtain ⟨M10, hcM10, h⟩ := bm_el h
  have zM10 := iC8_Z hcM10 ((zM9).mono (by omega))
  obtain ⟨M11, hcM11, h⟩ := bm_el h
  have zM11 := iC8_Z hcM11 ((zM10).mono (by omega))
  obtain ⟨M12, hcM12, h⟩ := bm_el h
  have zM12 := iC8_Z hcM12 ((zM11).mono (by omega))
  obtain ⟨M13, hcM13, h⟩ := bm_el h
  have zM13 := iC8_Z hcM13 ((zM12).mono (by omega))
  obtain ⟨M14, hcM14, h⟩ := bm_el h
  have zM14 := iC8_Z hcM14 ((zM13).mono (by omega))
  obtain ⟨M15, hcM15, h⟩ := bm_el h
  have zM15 := iC8_Z hcM15 ((zM14).mono (by omega))
  obtain ⟨M16, hcM16, h⟩ := bm_el h
  have zM16 := iC8_Z hcM16 ((zM15).mono (by omega))
  obtain ⟨M17, hcM17, h⟩ := bm_el h
  have zM17 := iC8_Z hcM17 ((zM16).mono (by omega))
  obtain ⟨M18, eM18, h⟩ := lt_el h
  have zM18 : Zr (a + 1 + 154) M18 := by rw [eM18]; exact pt_Zr ((zM17).mono (by omega)) (by omega)
  cases h
  exact zM18
set_option maxRecDepth 100000 in
set_option maxHeartbeats 4000000 in
theorem kC4 {l : Launch} {E : Ge} (fu d : Nat) {a : Nat} {L : Lay} {M M' : Mm} (hZ0 : Zr a M) (h : iC4 fu a M = some M') : Cn l E 4 dfl4 yX4_init cX4_init 2 (d + 3) 154 (2584) a [] L M (nL4 a L) M' := by
  refine Cn.of (by decide) hZ0 ?_
  intro p e s m below meth c hr hlk hnm Y hs0 hN
  have Y : By p s m _ c cX4_init 2 RX4 E := Y
  have hx := Y.1
  have hb := Y.2.1
  have hin : meth.name = "<init>" := hnm
  have hl := lv_entry ([.ref a]) (n := 2) (Nat.le_of_ble_eq_true rfl)
  rw [lg_entry_eq]
  generalize (lg_sl ([.ref a]) ++ List.replicate (2 - (lg_sl ([.ref a])).length) Slot.unset).toArray = ls at hl ⊢
  have hl : lv_has ls 2 [(0, .ref a)] := hl
  unfold iC4 at h
  have hN : Nx s E [(a, .inr (4, [.null, .int 0, .int 0, .int 0]))] L M (a + 1) 0 s.heap [] := hN
  refine lv_aload_n hx hb dX4_init_0 rfl (lv_at hl 0 rfl) ?_
  refine n_obj Y ob_X4 hl.1 dX4_init_1 (by show 1 ≤ d + 3; omega) (by show 0 + 12 ≤ 42 * (d + 3); omega) ?_
  refine lv_aload_n hx hb dX4_init_4 rfl (lv_at hl 0 rfl) ?_
  refine lv_bipush (v := 17) hx hb dX4_init_5 (by decide) ?_
  refine n_anew (N := 17) Y hN cl_X4_9 ao_8 (by decide) (by decide +kernel) (Nat.le_of_ble_eq_true rfl) (Nat.le_of_ble_eq_true rfl) (Nat.le_of_ble_eq_true rfl) dX4_init_7 (fun H hN => ?_)
  have hN : Nx s E [(a, .inr (4, [.null, .int 0, .int 0, .int 0])), (a + 1, rQ E 17 (fun _ => none))] (L) M (a + 2) 1 H [] := hN
  refine n_putF (er := [(a + 1, rQ E 17 (fun _ => none))]) (ci := 4) (C := RX4) (T := TX4) (N := 4) (k := 0) (ty0 := tyX4) (fs := [.null, .int 0, .int 0, .int 0]) (fs' := [.ref (a + 1), .int 0, .int 0, .int 0]) Y hN rfl in4 tyX4_ok nmX4 (by decide) lk_X4_11 rfl hin rfl rfl rfl (Nat.le_of_ble_eq_true rfl) rfl dX4_init_10 (fun H locs hN => ?_)
  have hN : Nx s E [(a, .inr (4, [.ref (a + 1), .int 0, .int 0, .int 0])), (a + 1, rQ E 17 (fun _ => none))] (L) M (a + 2) 1 H locs := hN
  refine lv_iconst (v := 0) hx hb dX4_init_13 (by decide) ?_
  refine lv_istore_n (lv' := [(1, .int 0), (0, .ref a)]) hx hb dX4_init_14 rfl hl (by decide) rfl (fun ls hl => ?_)
  refine lv_iload_n hx hb dX4_init_15 rfl (lv_at hl 0 rfl) ?_
  refine lv_bipush (v := 16) hx hb dX4_init_16 (by decide) ?_
  refine lv_icmp_gt (tgt := 40) hx hb dX4_init_18 (by decide) (fun c0 => absurd c0 (by decide)) (fun _ => ?_)
  refine lv_aload_n hx hb dX4_init_21 rfl (lv_at hl 1 rfl) ?_
  refine n_get (ci := 4) (C := RX4) (T := TX4) (N := 4) (k := 0) Y hN rfl in4 (by decide) lk_X4_11 rfl dX4_init_22 ?_
  refine lv_iload_n hx hb dX4_init_25 rfl (lv_at hl 0 rfl) ?_
  refine n_new (ci := 8) (C := RX8) (T := TX8) (N := 13) (ty0 := tyX8) (df := dfl8) Y hN rfl in8 tyX8_ok cl_X4_9 win_8 ini_8 dfv8 (Nat.le_of_ble_eq_true rfl) (Nat.le_of_ble_eq_true rfl) dX4_init_26 (fun H hP hD hS hsz hcs hZ => ?_)
  refine lv_dup hx hb dX4_init_29 rfl ?_
  obtain ⟨M1, hc1, h⟩ := bm_el h
  have hex1 : ∀ z ∈ ([(a, .inr (4, [.ref (a + 1), .int 0, .int 0, .int 0])), (a + 1, rQ E 17 (fun _ => none))] : va_W), z.1 < a + 2 := by
    intro z hz
    rcases List.mem_cons.mp hz with rfl | hz
    · show a < a + 2; omega
    · rw [List.mem_singleton] at hz; subst hz; show a + 1 < a + 2; omega
  refine n_callI (L' := nL8 (a + 2) (L)) (M' := M1) (ex := [(a, .inr (4, [.ref (a + 1), .int 0, .int 0, .int 0])), (a + 1, rQ E 17 (fun _ => none))]) (ci := 8) (df := dfl8) (mc := 8) (ms := 138) (As := []) (n := 0) Y hP hD hS hsz hcs (by decide) hex1 (iC8_Z hc1 (hZ.mono (by omega))) (nL8_last _ _) wci_8 (Or.inl mi_X4_17) wii_8 ini_8 rfl (by decide +kernel) (by decide) rfl hl.1 (kC8 fu d hZ hc1) ⟨by show _ ≤ d + 3; omega, by show _ ≤ 42 * (d + 3); omega, Nat.le_of_ble_eq_true rfl, Nat.le_of_ble_eq_true rfl⟩ (Nat.le_of_ble_eq_true rfl) dX4_init_30 (fun H locs hN => ?_)
  have hN : Nx s E [(a, .inr (4, [.ref (a + 1), .int 0, .int 0, .int 0])), (a + 1, rQ E 17 (fun _ => none))] (nL8 (a + 2) (L)) M1 (a + 11) 10 H locs := hN
  refine n_aast (i := 0) Y hN ((aL8 _ _).at0 rfl) (by decide +kernel) dX4_init_33 (fun H locs hN => ?_)
  have hN : Nx s E [(a, .inr (4, [.ref (a + 1), .int 0, .int 0, .int 0])), (a + 1, rQ E 17 (va_up (fun _ => none) 0 (some (a + 1 + 1 + 9 * 0))))] (nL8 (a + 2) (L)) M1 (a + 11) 10 H locs := hN
  refine lv_iinc (v := 1) (lv' := [(1, .int 1), (0, .ref a)]) hx hb dX4_init_34 hl (k := 0) rfl (by decide) (by decide) rfl (fun ls hl => ?_)
  refine lv_goto (tgt := 15) hx hb dX4_init_37 (by decide) ?_
  refine lv_iload_n hx hb dX4_init_15 rfl (lv_at hl 0 rfl) ?_
  refine lv_bipush (v := 16) hx hb dX4_init_16 (by decide) ?_
  refine lv_icmp_gt (tgt := 40) hx hb dX4_init_18 (by decide) (fun c0 => absurd c0 (by decide)) (fun _ => ?_)
  refine lv_aload_n hx hb dX4_init_21 rfl (lv_at hl 1 rfl) ?_
  refine n_get (ci := 4) (C := RX4) (T := TX4) (N := 4) (k := 0) Y hN rfl in4 (by decide) lk_X4_11 rfl dX4_init_22 ?_
  refine lv_iload_n hx hb dX4_init_25 rfl (lv_at hl 0 rfl) ?_
  refine n_new (ci := 8) (C := RX8) (T := TX8) (N := 13) (ty0 := tyX8) (df := dfl8) Y hN rfl in8 tyX8_ok cl_X4_9 win_8 ini_8 dfv8 (Nat.le_of_ble_eq_true rfl) (Nat.le_of_ble_eq_true rfl) dX4_init_26 (fun H hP hD hS hsz hcs hZ => ?_)
  refine lv_dup hx hb dX4_init_29 rfl ?_
  obtain ⟨M2, hc2, h⟩ := bm_el h
  have hex2 : ∀ z ∈ ([(a, .inr (4, [.ref (a + 1), .int 0, .int 0, .int 0])), (a + 1, rQ E 17 (va_up (fun _ => none) 0 (some (a + 1 + 1 + 9 * 0))))] : va_W), z.1 < a + 11 := by
    intro z hz
    rcases List.mem_cons.mp hz with rfl | hz
    · show a < a + 11; omega
    · rw [List.mem_singleton] at hz; subst hz; show a + 1 < a + 11; omega
  refine n_callI (L' := nL8 (a + 11) (nL8 (a + 2) (L))) (M' := M2) (ex := [(a, .inr (4, [.ref (a + 1), .int 0, .int 0, .int 0])), (a + 1, rQ E 17 (va_up (fun _ => none) 0 (some (a + 1 + 1 + 9 * 0))))]) (ci := 8) (df := dfl8) (mc := 8) (ms := 138) (As := []) (n := 0) Y hP hD hS hsz hcs (by decide) hex2 (iC8_Z hc2 (hZ.mono (by omega))) (nL8_last _ _) wci_8 (Or.inl mi_X4_17) wii_8 ini_8 rfl (by decide +kernel) (by decide) rfl hl.1 (kC8 fu d hZ hc2) ⟨by show _ ≤ d + 3; omega, by show _ ≤ 42 * (d + 3); omega, Nat.le_of_ble_eq_true rfl, Nat.le_of_ble_eq_true rfl⟩ (Nat.le_of_ble_eq_true rfl) dX4_init_30 (fun H locs hN => ?_)
  have hN : Nx s E [(a, .inr (4, [.ref (a + 1), .int 0, .int 0, .int 0])), (a + 1, rQ E 17 (va_up (fun _ => none) 0 (some (a + 1 + 1 + 9 * 0))))] (nL8 (a + 11) (nL8 (a + 2) (L))) M2 (a + 20) 19 H locs := hN
  refine n_aast (i := 1) Y hN ((aL8 _ _).at0 rfl) (by decide +kernel) dX4_init_33 (fun H locs hN => ?_)
  have hN : Nx s E [(a, .inr (4, [.ref (a + 1), .int 0, .int 0, .int 0])), (a + 1, rQ E 17 (va_up (va_up (fun _ => none) 0 (some (a + 1 + 1 + 9 * 0))) 1 (some (a + 1 + 1 + 9 * 1))))] (nL8 (a + 11) (nL8 (a + 2) (L))) M2 (a + 20) 19 H locs := hN
  refine lv_iinc (v := 2) (lv' := [(1, .int 2), (0, .ref a)]) hx hb dX4_init_34 hl (k := 0) rfl (by decide) (by decide) rfl (fun ls hl => ?_)
  refine lv_goto (tgt := 15) hx hb dX4_init_37 (by decide) ?_
  refine lv_iload_n hx hb dX4_init_15 rfl (lv_at hl 0 rfl) ?_
  refine lv_bipush (v := 16) hx hb dX4_init_16 (by decide) ?_
  refine lv_icmp_gt (tgt := 40) hx hb dX4_init_18 (by decide) (fun c0 => absurd c0 (by decide)) (fun _ => ?_)
  refine lv_aload_n hx hb dX4_init_21 rfl (lv_at hl 1 rfl) ?_
  refine n_get (ci := 4) (C := RX4) (T := TX4) (N := 4) (k := 0) Y hN rfl in4 (by decide) lk_X4_11 rfl dX4_init_22 ?_
  refine lv_iload_n hx hb dX4_init_25 rfl (lv_at hl 0 rfl) ?_
  refine n_new (ci := 8) (C := RX8) (T := TX8) (N := 13) (ty0 := tyX8) (df := dfl8) Y hN rfl in8 tyX8_ok cl_X4_9 win_8 ini_8 dfv8 (Nat.le_of_ble_eq_true rfl) (Nat.le_of_ble_eq_true rfl) dX4_init_26 (fun H hP hD hS hsz hcs hZ => ?_)
  refine lv_dup hx hb dX4_init_29 rfl ?_
  obtain ⟨M3, hc3, h⟩ := bm_el h
  have hex3 : ∀ z ∈ ([(a, .inr (4, [.ref (a + 1), .int 0, .int 0, .int 0])), (a + 1, rQ E 17 (va_up (va_up (fun _ => none) 0 (some (a + 1 + 1 + 9 * 0))) 1 (some (a + 1 + 1 + 9 * 1))))] : va_W), z.1 < a + 20 := by
    intro z hz
    rcases List.mem_cons.mp hz with rfl | hz
    · show a < a + 20; omega
    · rw [List.mem_singleton] at hz; subst hz; show a + 1 < a + 20; omega
  refine n_callI (L' := nL8 (a + 20) (nL8 (a + 11) (nL8 (a + 2) (L)))) (M' := M3) (ex := [(a, .inr (4, [.ref (a + 1), .int 0, .int 0, .int 0])), (a + 1, rQ E 17 (va_up (va_up (fun _ => none) 0 (some (a + 1 + 1 + 9 * 0))) 1 (some (a + 1 + 1 + 9 * 1))))]) (ci := 8) (df := dfl8) (mc := 8) (ms := 138) (As := []) (n := 0) Y hP hD hS hsz hcs (by decide) hex3 (iC8_Z hc3 (hZ.mono (by omega))) (nL8_last _ _) wci_8 (Or.inl mi_X4_17) wii_8 ini_8 rfl (by decide +kernel) (by decide) rfl hl.1 (kC8 fu d hZ hc3) ⟨by show _ ≤ d + 3; omega, by show _ ≤ 42 * (d + 3); omega, Nat.le_of_ble_eq_true rfl, Nat.le_of_ble_eq_true rfl⟩ (Nat.le_of_ble_eq_true rfl) dX4_init_30 (fun H locs hN => ?_)
  have hN : Nx s E [(a, .inr (4, [.ref (a + 1), .int 0, .int 0, .int 0])), (a + 1, rQ E 17 (va_up (va_up (fun _ => none) 0 (some (a + 1 + 1 + 9 * 0))) 1 (some (a + 1 + 1 + 9 * 1))))] (nL8 (a + 20) (nL8 (a + 11) (nL8 (a + 2) (L)))) M3 (a + 29) 28 H locs := hN
  refine n_aast (i := 2) Y hN ((aL8 _ _).at0 rfl) (by decide +kernel) dX4_init_33 (fun H locs hN => ?_)
  have hN : Nx s E [(a, .inr (4, [.ref (a + 1), .int 0, .int 0, .int 0])), (a + 1, rQ E 17 (va_up (va_up (va_up (fun _ => none) 0 (some (a + 1 + 1 + 9 * 0))) 1 (some (a + 1 + 1 + 9 * 1))) 2 (some (a + 1 + 1 + 9 * 2))))] (nL8 (a + 20) (nL8 (a + 11) (nL8 (a + 2) (L)))) M3 (a + 29) 28 H locs := hN
  refine lv_iinc (v := 3) (lv' := [(1, .int 3), (0, .ref a)]) hx hb dX4_init_34 hl (k := 0) rfl (by decide) (by decide) rfl (fun ls hl => ?_)
  refine lv_goto (tgt := 15) hx hb dX4_init_37 (by decide) ?_
  refine lv_iload_n hx hb dX4_init_15 rfl (lv_at hl 0 rfl) ?_
  refine lv_bipush (v := 16) hx hb dX4_init_16 (by decide) ?_
  refine lv_icmp_gt (tgt := 40) hx hb dX4_init_18 (by decide) (fun c0 => absurd c0 (by decide)) (fun _ => ?_)
  refine lv_aload_n hx hb dX4_init_21 rfl (lv_at hl 1 rfl) ?_
  refine n_get (ci := 4) (C := RX4) (T := TX4) (N := 4) (k := 0) Y hN rfl in4 (by decide) lk_X4_11 rfl dX4_init_22 ?_
  refine lv_iload_n hx hb dX4_init_25 rfl (lv_at hl 0 rfl) ?_
  refine n_new (ci := 8) (C := RX8) (T := TX8) (N := 13) (ty0 := tyX8) (df := dfl8) Y hN rfl in8 tyX8_ok cl_X4_9 win_8 ini_8 dfv8 (Nat.le_of_ble_eq_true rfl) (Nat.le_of_ble_eq_true rfl) dX4_init_26 (fun H hP hD hS hsz hcs hZ => ?_)
  refine lv_dup hx hb dX4_init_29 rfl ?_
  obtain ⟨M4, hc4, h⟩ := bm_el h
  have hex4 : ∀ z ∈ ([(a, .inr (4, [.ref (a + 1), .int 0, .int 0, .int 0])), (a + 1, rQ E 17 (va_up (va_up (va_up (fun _ => none) 0 (some (a + 1 + 1 + 9 * 0))) 1 (some (a + 1 + 1 + 9 * 1))) 2 (some (a + 1 + 1 + 9 * 2))))] : va_W), z.1 < a + 29 := by
    intro z hz
    rcases List.mem_cons.mp hz with rfl | hz
    · show a < a + 29; omega
    · rw [List.mem_singleton] at hz; subst hz; show a + 1 < a + 29; omega
  refine n_callI (L' := nL8 (a + 29) (nL8 (a + 20) (nL8 (a + 11) (nL8 (a + 2) (L))))) (M' := M4) (ex := [(a, .inr (4, [.ref (a + 1), .int 0, .int 0, .int 0])), (a + 1, rQ E 17 (va_up (va_up (va_up (fun _ => none) 0 (some (a + 1 + 1 + 9 * 0))) 1 (some (a + 1 + 1 + 9 * 1))) 2 (some (a + 1 + 1 + 9 * 2))))]) (ci := 8) (df := dfl8) (mc := 8) (ms := 138) (As := []) (n := 0) Y hP hD hS hsz hcs (by decide) hex4 (iC8_Z hc4 (hZ.mono (by omega))) (nL8_last _ _) wci_8 (Or.inl mi_X4_17) wii_8 ini_8 rfl (by decide +kernel) (by decide) rfl hl.1 (kC8 fu d hZ hc4) ⟨by show _ ≤ d + 3; omega, by show _ ≤ 42 * (d + 3); omega, Nat.le_of_ble_eq_true rfl, Nat.le_of_ble_eq_true rfl⟩ (Nat.le_of_ble_eq_true rfl) dX4_init_30 (fun H locs hN => ?_)
  have hN : Nx s E [(a, .inr (4, [.ref (a + 1), .int 0, .int 0, .int 0])), (a + 1, rQ E 17 (va_up (va_up (va_up (fun _ => none) 0 (some (a + 1 + 1 + 9 * 0))) 1 (some (a + 1 + 1 + 9 * 1))) 2 (some (a + 1 + 1 + 9 * 2))))] (nL8 (a + 29) (nL8 (a + 20) (nL8 (a + 11) (nL8 (a + 2) (L))))) M4 (a + 38) 37 H locs := hN
  refine n_aast (i := 3) Y hN ((aL8 _ _).at0 rfl) (by decide +kernel) dX4_init_33 (fun H locs hN => ?_)
  have hN : Nx s E [(a, .inr (4, [.ref (a + 1), .int 0, .int 0, .int 0])), (a + 1, rQ E 17 (va_up (va_up (va_up (va_up (fun _ => none) 0 (some (a + 1 + 1 + 9 * 0))) 1 (some (a + 1 + 1 + 9 * 1))) 2 (some (a + 1 + 1 + 9 * 2))) 3 (some (a + 1 + 1 + 9 * 3))))] (nL8 (a + 29) (nL8 (a + 20) (nL8 (a + 11) (nL8 (a + 2) (L))))) M4 (a + 38) 37 H locs := hN
  refine lv_iinc (v := 4) (lv' := [(1, .int 4), (0, .ref a)]) hx hb dX4_init_34 hl (k := 0) rfl (by decide) (by decide) rfl (fun ls hl => ?_)
  refine lv_goto (tgt := 15) hx hb dX4_init_37 (by decide) ?_
  refine lv_iload_n hx hb dX4_init_15 rfl (lv_at hl 0 rfl) ?_
  refine lv_bipush (v := 16) hx hb dX4_init_16 (by decide) ?_
  refine lv_icmp_gt (tgt := 40) hx hb dX4_init_18 (by decide) (fun c0 => absurd c0 (by decide)) (fun _ => ?_)
  refine lv_aload_n hx hb dX4_init_21 rfl (lv_at hl 1 rfl) ?_
  refine n_get (ci := 4) (C := RX4) (T := TX4) (N := 4) (k := 0) Y hN rfl in4 (by decide) lk_X4_11 rfl dX4_init_22 ?_
  refine lv_iload_n hx hb dX4_init_25 rfl (lv_at hl 0 rfl) ?_
  refine n_new (ci := 8) (C := RX8) (T := TX8) (N := 13) (ty0 := tyX8) (df := dfl8) Y hN rfl in8 tyX8_ok cl_X4_9 win_8 ini_8 dfv8 (Nat.le_of_ble_eq_true rfl) (Nat.le_of_ble_eq_true rfl) dX4_init_26 (fun H hP hD hS hsz hcs hZ => ?_)
  refine lv_dup hx hb dX4_init_29 rfl ?_
  obtain ⟨M5, hc5, h⟩ := bm_el h
  have hex5 : ∀ z ∈ ([(a, .inr (4, [.ref (a + 1), .int 0, .int 0, .int 0])), (a + 1, rQ E 17 (va_up (va_up (va_up (va_up (fun _ => none) 0 (some (a + 1 + 1 + 9 * 0))) 1 (some (a + 1 + 1 + 9 * 1))) 2 (some (a + 1 + 1 + 9 * 2))) 3 (some (a + 1 + 1 + 9 * 3))))] : va_W), z.1 < a + 38 := by
    intro z hz
    rcases List.mem_cons.mp hz with rfl | hz
    · show a < a + 38; omega
    · rw [List.mem_singleton] at hz; subst hz; show a + 1 < a + 38; omega
  refine n_callI (L' := nL8 (a + 38) (nL8 (a + 29) (nL8 (a + 20) (nL8 (a + 11) (nL8 (a + 2) (L)))))) (M' := M5) (ex := [(a, .inr (4, [.ref (a + 1), .int 0, .int 0, .int 0])), (a + 1, rQ E 17 (va_up (va_up (va_up (va_up (fun _ => none) 0 (some (a + 1 + 1 + 9 * 0))) 1 (some (a + 1 + 1 + 9 * 1))) 2 (some (a + 1 + 1 + 9 * 2))) 3 (some (a + 1 + 1 + 9 * 3))))]) (ci := 8) (df := dfl8) (mc := 8) (ms := 138) (As := []) (n := 0) Y hP hD hS hsz hcs (by decide) hex5 (iC8_Z hc5 (hZ.mono (by omega))) (nL8_last _ _) wci_8 (Or.inl mi_X4_17) wii_8 ini_8 rfl (by decide +kernel) (by decide) rfl hl.1 (kC8 fu d hZ hc5) ⟨by show _ ≤ d + 3; omega, by show _ ≤ 42 * (d + 3); omega, Nat.le_of_ble_eq_true rfl, Nat.le_of_ble_eq_true rfl⟩ (Nat.le_of_ble_eq_true rfl) dX4_init_30 (fun H locs hN => ?_)
  have hN : Nx s E [(a, .inr (4, [.ref (a + 1), .int 0, .int 0, .int 0])), (a + 1, rQ E 17 (va_up (va_up (va_up (va_up (fun _ => none) 0 (some (a + 1 + 1 + 9 * 0))) 1 (some (a + 1 + 1 + 9 * 1))) 2 (some (a + 1 + 1 + 9 * 2))) 3 (some (a + 1 + 1 + 9 * 3))))] (nL8 (a + 38) (nL8 (a + 29) (nL8 (a + 20) (nL8 (a + 11) (nL8 (a + 2) (L)))))) M5 (a + 47) 46 H locs := hN
  refine n_aast (i := 4) Y hN ((aL8 _ _).at0 rfl) (by decide +kernel) dX4_init_33 (fun H locs hN => ?_)
  have hN : Nx s E [(a, .inr (4, [.ref (a + 1), .int 0, .int 0, .int 0])), (a + 1, rQ E 17 (va_up (va_up (va_up (va_up (va_up (fun _ => none) 0 (some (a + 1 + 1 + 9 * 0))) 1 (some (a + 1 + 1 + 9 * 1))) 2 (some (a + 1 + 1 + 9 * 2))) 3 (some (a + 1 + 1 + 9 * 3))) 4 (some (a + 1 + 1 + 9 * 4))))] (nL8 (a + 38) (nL8 (a + 29) (nL8 (a + 20) (nL8 (a + 11) (nL8 (a + 2) (L)))))) M5 (a + 47) 46 H locs := hN
  refine lv_iinc (v := 5) (lv' := [(1, .int 5), (0, .ref a)]) hx hb dX4_init_34 hl (k := 0) rfl (by decide) (by decide) rfl (fun ls hl => ?_)
  refine lv_goto (tgt := 15) hx hb dX4_init_37 (by decide) ?_
  refine lv_iload_n hx hb dX4_init_15 rfl (lv_at hl 0 rfl) ?_
  refine lv_bipush (v := 16) hx hb dX4_init_16 (by decide) ?_
  refine lv_icmp_gt (tgt := 40) hx hb dX4_init_18 (by decide) (fun c0 => absurd c0 (by decide)) (fun _ => ?_)
  refine lv_aload_n hx hb dX4_init_21 rfl (lv_at hl 1 rfl) ?_
  refine n_get (ci := 4) (C := RX4) (T := TX4) (N := 4) (k := 0) Y hN rfl in4 (by decide) lk_X4_11 rfl dX4_init_22 ?_
  refine lv_iload_n hx hb dX4_init_25 rfl (lv_at hl 0 rfl) ?_
  refine n_new (ci := 8) (C := RX8) (T := TX8) (N := 13) (ty0 := tyX8) (df := dfl8) Y hN rfl in8 tyX8_ok cl_X4_9 win_8 ini_8 dfv8 (Nat.le_of_ble_eq_true rfl) (Nat.le_of_ble_eq_true rfl) dX4_init_26 (fun H hP hD hS hsz hcs hZ => ?_)
  refine lv_dup hx hb dX4_init_29 rfl ?_
  obtain ⟨M6, hc6, h⟩ := bm_el h
  have hex6 : ∀ z ∈ ([(a, .inr (4, [.ref (a + 1), .int 0, .int 0, .int 0])), (a + 1, rQ E 17 (va_up (va_up (va_up (va_up (va_up (fun _ => none) 0 (some (a + 1 + 1 + 9 * 0))) 1 (some (a + 1 + 1 + 9 * 1))) 2 (some (a + 1 + 1 + 9 * 2))) 3 (some (a + 1 + 1 + 9 * 3))) 4 (some (a + 1 + 1 + 9 * 4))))] : va_W), z.1 < a + 47 := by
    intro z hz
    rcases List.mem_cons.mp hz with rfl | hz
    · show a < a + 47; omega
    · rw [List.mem_singleton] at hz; subst hz; show a + 1 < a + 47; omega
  refine n_callI (L' := nL8 (a + 47) (nL8 (a + 38) (nL8 (a + 29) (nL8 (a + 20) (nL8 (a + 11) (nL8 (a + 2) (L))))))) (M' := M6) (ex := [(a, .inr (4, [.ref (a + 1), .int 0, .int 0, .int 0])), (a + 1, rQ E 17 (va_up (va_up (va_up (va_up (va_up (fun _ => none) 0 (some (a + 1 + 1 + 9 * 0))) 1 (some (a + 1 + 1 + 9 * 1))) 2 (some (a + 1 + 1 + 9 * 2))) 3 (some (a + 1 + 1 + 9 * 3))) 4 (some (a + 1 + 1 + 9 * 4))))]) (ci := 8) (df := dfl8) (mc := 8) (ms := 138) (As := []) (n := 0) Y hP hD hS hsz hcs (by decide) hex6 (iC8_Z hc6 (hZ.mono (by omega))) (nL8_last _ _) wci_8 (Or.inl mi_X4_17) wii_8 ini_8 rfl (by decide +kernel) (by decide) rfl hl.1 (kC8 fu d hZ hc6) ⟨by show _ ≤ d + 3; omega, by show _ ≤ 42 * (d + 3); omega, Nat.le_of_ble_eq_true rfl, Nat.le_of_ble_eq_true rfl⟩ (Nat.le_of_ble_eq_true rfl) dX4_init_30 (fun H locs hN => ?_)
  have hN : Nx s E [(a, .inr (4, [.ref (a + 1), .int 0, .int 0, .int 0])), (a + 1, rQ E 17 (va_up (va_up (va_up (va_up (va_up (fun _ => none) 0 (some (a + 1 + 1 + 9 * 0))) 1 (some (a + 1 + 1 + 9 * 1))) 2 (some (a + 1 + 1 + 9 * 2))) 3 (some (a + 1 + 1 + 9 * 3))) 4 (some (a + 1 + 1 + 9 * 4))))] (nL8 (a + 47) (nL8 (a + 38) (nL8 (a + 29) (nL8 (a + 20) (nL8 (a + 11) (nL8 (a + 2) (L))))))) M6 (a + 56) 55 H locs := hN
  refine n_aast (i := 5) Y hN ((aL8 _ _).at0 rfl) (by decide +kernel) dX4_init_33 (fun H locs hN => ?_)
  have hN : Nx s E [(a, .inr (4, [.ref (a + 1), .int 0, .int 0, .int 0])), (a + 1, rQ E 17 (va_up (va_up (va_up (va_up (va_up (va_up (fun _ => none) 0 (some (a + 1 + 1 + 9 * 0))) 1 (some (a + 1 + 1 + 9 * 1))) 2 (some (a + 1 + 1 + 9 * 2))) 3 (some (a + 1 + 1 + 9 * 3))) 4 (some (a + 1 + 1 + 9 * 4))) 5 (some (a + 1 + 1 + 9 * 5))))] (nL8 (a + 47) (nL8 (a + 38) (nL8 (a + 29) (nL8 (a + 20) (nL8 (a + 11) (nL8 (a + 2) (L))))))) M6 (a + 56) 55 H locs := hN
  refine lv_iinc (v := 6) (lv' := [(1, .int 6), (0, .ref a)]) hx hb dX4_init_34 hl (k := 0) rfl (by decide) (by decide) rfl (fun ls hl => ?_)
  refine lv_goto (tgt := 15) hx hb dX4_init_37 (by decide) ?_
  refine lv_iload_n hx hb dX4_init_15 rfl (lv_at hl 0 rfl) ?_
  refine lv_bipush (v := 16) hx hb dX4_init_16 (by decide) ?_
  refine lv_icmp_gt (tgt := 40) hx hb dX4_init_18 (by decide) (fun c0 => absurd c0 (by decide)) (fun _ => ?_)
  refine lv_aload_n hx hb dX4_init_21 rfl (lv_at hl 1 rfl) ?_
  refine n_get (ci := 4) (C := RX4) (T := TX4) (N := 4) (k := 0) Y hN rfl in4 (by decide) lk_X4_11 rfl dX4_init_22 ?_
  refine lv_iload_n hx hb dX4_init_25 rfl (lv_at hl 0 rfl) ?_
  refine n_new (ci := 8) (C := RX8) (T := TX8) (N := 13) (ty0 := tyX8) (df := dfl8) Y hN rfl in8 tyX8_ok cl_X4_9 win_8 ini_8 dfv8 (Nat.le_of_ble_eq_true rfl) (Nat.le_of_ble_eq_true rfl) dX4_init_26 (fun H hP hD hS hsz hcs hZ => ?_)
  refine lv_dup hx hb dX4_init_29 rfl ?_
  obtain ⟨M7, hc7, h⟩ := bm_el h
  have hex7 : ∀ z ∈ ([(a, .inr (4, [.ref (a + 1), .int 0, .int 0, .int 0])), (a + 1, rQ E 17 (va_up (va_up (va_up (va_up (va_up (va_up (fun _ => none) 0 (some (a + 1 + 1 + 9 * 0))) 1 (some (a + 1 + 1 + 9 * 1))) 2 (some (a + 1 + 1 + 9 * 2))) 3 (some (a + 1 + 1 + 9 * 3))) 4 (some (a + 1 + 1 + 9 * 4))) 5 (some (a + 1 + 1 + 9 * 5))))] : va_W), z.1 < a + 56 := by
    intro z hz
    rcases List.mem_cons.mp hz with rfl | hz
    · show a < a + 56; omega
    · rw [List.mem_singleton] at hz; subst hz; show a + 1 < a + 56; omega
  refine n_callI (L' := nL8 (a + 56) (nL8 (a + 47) (nL8 (a + 38) (nL8 (a + 29) (nL8 (a + 20) (nL8 (a + 11) (nL8 (a + 2) (L)))))))) (M' := M7) (ex := [(a, .inr (4, [.ref (a + 1), .int 0, .int 0, .int 0])), (a + 1, rQ E 17 (va_up (va_up (va_up (va_up (va_up (va_up (fun _ => none) 0 (some (a + 1 + 1 + 9 * 0))) 1 (some (a + 1 + 1 + 9 * 1))) 2 (some (a + 1 + 1 + 9 * 2))) 3 (some (a + 1 + 1 + 9 * 3))) 4 (some (a + 1 + 1 + 9 * 4))) 5 (some (a + 1 + 1 + 9 * 5))))]) (ci := 8) (df := dfl8) (mc := 8) (ms := 138) (As := []) (n := 0) Y hP hD hS hsz hcs (by decide) hex7 (iC8_Z hc7 (hZ.mono (by omega))) (nL8_last _ _) wci_8 (Or.inl mi_X4_17) wii_8 ini_8 rfl (by decide +kernel) (by decide) rfl hl.1 (kC8 fu d hZ hc7) ⟨by show _ ≤ d + 3; omega, by show _ ≤ 42 * (d + 3); omega, Nat.le_of_ble_eq_true rfl, Nat.le_of_ble_eq_true rfl⟩ (Nat.le_of_ble_eq_true rfl) dX4_init_30 (fun H locs hN => ?_)
  have hN : Nx s E [(a, .inr (4, [.ref (a + 1), .int 0, .int 0, .int 0])), (a + 1, rQ E 17 (va_up (va_up (va_up (va_up (va_up (va_up (fun _ => none) 0 (some (a + 1 + 1 + 9 * 0))) 1 (some (a + 1 + 1 + 9 * 1))) 2 (some (a + 1 + 1 + 9 * 2))) 3 (some (a + 1 + 1 + 9 * 3))) 4 (some (a + 1 + 1 + 9 * 4))) 5 (some (a + 1 + 1 + 9 * 5))))] (nL8 (a + 56) (nL8 (a + 47) (nL8 (a + 38) (nL8 (a + 29) (nL8 (a + 20) (nL8 (a + 11) (nL8 (a + 2) (L)))))))) M7 (a + 65) 64 H locs := hN
  refine n_aast (i := 6) Y hN ((aL8 _ _).at0 rfl) (by decide +kernel) dX4_init_33 (fun H locs hN => ?_)
  have hN : Nx s E [(a, .inr (4, [.ref (a + 1), .int 0, .int 0, .int 0])), (a + 1, rQ E 17 (va_up (va_up (va_up (va_up (va_up (va_up (va_up (fun _ => none) 0 (some (a + 1 + 1 + 9 * 0))) 1 (some (a + 1 + 1 + 9 * 1))) 2 (some (a + 1 + 1 + 9 * 2))) 3 (some (a + 1 + 1 + 9 * 3))) 4 (some (a + 1 + 1 + 9 * 4))) 5 (some (a + 1 + 1 + 9 * 5))) 6 (some (a + 1 + 1 + 9 * 6))))] (nL8 (a + 56) (nL8 (a + 47) (nL8 (a + 38) (nL8 (a + 29) (nL8 (a + 20) (nL8 (a + 11) (nL8 (a + 2) (L)))))))) M7 (a + 65) 64 H locs := hN
  refine lv_iinc (v := 7) (lv' := [(1, .int 7), (0, .ref a)]) hx hb dX4_init_34 hl (k := 0) rfl (by decide) (by decide) rfl (fun ls hl => ?_)
  refine lv_goto (tgt := 15) hx hb dX4_init_37 (by decide) ?_
  refine lv_iload_n hx hb dX4_init_15 rfl (lv_at hl 0 rfl) ?_
  refine lv_bipush (v := 16) hx hb dX4_init_16 (by decide) ?_
  refine lv_icmp_gt (tgt := 40) hx hb dX4_init_18 (by decide) (fun c0 => absurd c0 (by decide)) (fun _ => ?_)
  refine lv_aload_n hx hb dX4_init_21 rfl (lv_at hl 1 rfl) ?_
  refine n_get (ci := 4) (C := RX4) (T := TX4) (N := 4) (k := 0) Y hN rfl in4 (by decide) lk_X4_11 rfl dX4_init_22 ?_
  refine lv_iload_n hx hb dX4_init_25 rfl (lv_at hl 0 rfl) ?_
  refine n_new (ci := 8) (C := RX8) (T := TX8) (N := 13) (ty0 := tyX8) (df := dfl8) Y hN rfl in8 tyX8_ok cl_X4_9 win_8 ini_8 dfv8 (Nat.le_of_ble_eq_true rfl) (Nat.le_of_ble_eq_true rfl) dX4_init_26 (fun H hP hD hS hsz hcs hZ => ?_)
  refine lv_dup hx hb dX4_init_29 rfl ?_
  obtain ⟨M8, hc8, h⟩ := bm_el h
  have hex8 : ∀ z ∈ ([(a, .inr (4, [.ref (a + 1), .int 0, .int 0, .int 0])), (a + 1, rQ E 17 (va_up (va_up (va_up (va_up (va_up (va_up (va_up (fun _ => none) 0 (some (a + 1 + 1 + 9 * 0))) 1 (some (a + 1 + 1 + 9 * 1))) 2 (some (a + 1 + 1 + 9 * 2))) 3 (some (a + 1 + 1 + 9 * 3))) 4 (some (a + 1 + 1 + 9 * 4))) 5 (some (a + 1 + 1 + 9 * 5))) 6 (some (a + 1 + 1 + 9 * 6))))] : va_W), z.1 < a + 65 := by
    intro z hz
    rcases List.mem_cons.mp hz with rfl | hz
    · show a < a + 65; omega
    · rw [List.mem_singleton] at hz; subst hz; show a + 1 < a + 65; omega
  refine n_callI (L' := nL8 (a + 65) (nL8 (a + 56) (nL8 (a + 47) (nL8 (a + 38) (nL8 (a + 29) (nL8 (a + 20) (nL8 (a + 11) (nL8 (a + 2) (L))))))))) (M' := M8) (ex := [(a, .inr (4, [.ref (a + 1), .int 0, .int 0, .int 0])), (a + 1, rQ E 17 (va_up (va_up (va_up (va_up (va_up (va_up (va_up (fun _ => none) 0 (some (a + 1 + 1 + 9 * 0))) 1 (some (a + 1 + 1 + 9 * 1))) 2 (some (a + 1 + 1 + 9 * 2))) 3 (some (a + 1 + 1 + 9 * 3))) 4 (some (a + 1 + 1 + 9 * 4))) 5 (some (a + 1 + 1 + 9 * 5))) 6 (some (a + 1 + 1 + 9 * 6))))]) (ci := 8) (df := dfl8) (mc := 8) (ms := 138) (As := []) (n := 0) Y hP hD hS hsz hcs (by decide) hex8 (iC8_Z hc8 (hZ.mono (by omega))) (nL8_last _ _) wci_8 (Or.inl mi_X4_17) wii_8 ini_8 rfl (by decide +kernel) (by decide) rfl hl.1 (kC8 fu d hZ hc8) ⟨by show _ ≤ d + 3; omega, by show _ ≤ 42 * (d + 3); omega, Nat.le_of_ble_eq_true rfl, Nat.le_of_ble_eq_true rfl⟩ (Nat.le_of_ble_eq_true rfl) dX4_init_30 (fun H locs hN => ?_)
  have hN : Nx s E [(a, .inr (4, [.ref (a + 1), .int 0, .int 0, .int 0])), (a + 1, rQ E 17 (va_up (va_up (va_up (va_up (va_up (va_up (va_up (fun _ => none) 0 (some (a + 1 + 1 + 9 * 0))) 1 (some (a + 1 + 1 + 9 * 1))) 2 (some (a + 1 + 1 + 9 * 2))) 3 (some (a + 1 + 1 + 9 * 3))) 4 (some (a + 1 + 1 + 9 * 4))) 5 (some (a + 1 + 1 + 9 * 5))) 6 (some (a + 1 + 1 + 9 * 6))))] (nL8 (a + 65) (nL8 (a + 56) (nL8 (a + 47) (nL8 (a + 38) (nL8 (a + 29) (nL8 (a + 20) (nL8 (a + 11) (nL8 (a + 2) (L))))))))) M8 (a + 74) 73 H locs := hN
  refine n_aast (i := 7) Y hN ((aL8 _ _).at0 rfl) (by decide +kernel) dX4_init_33 (fun H locs hN => ?_)
  have hN : Nx s E [(a, .inr (4, [.ref (a + 1), .int 0, .int 0, .int 0])), (a + 1, rQ E 17 (va_up (va_up (va_up (va_up (va_up (va_up (va_up (va_up (fun _ => none) 0 (some (a + 1 + 1 + 9 * 0))) 1 (some (a + 1 + 1 + 9 * 1))) 2 (some (a + 1 + 1 + 9 * 2))) 3 (some (a + 1 + 1 + 9 * 3))) 4 (some (a + 1 + 1 + 9 * 4))) 5 (some (a + 1 + 1 + 9 * 5))) 6 (some (a + 1 + 1 + 9 * 6))) 7 (some (a + 1 + 1 + 9 * 7))))] (nL8 (a + 65) (nL8 (a + 56) (nL8 (a + 47) (nL8 (a + 38) (nL8 (a + 29) (nL8 (a + 20) (nL8 (a + 11) (nL8 (a + 2) (L))))))))) M8 (a + 74) 73 H locs := hN
  refine lv_iinc (v := 8) (lv' := [(1, .int 8), (0, .ref a)]) hx hb dX4_init_34 hl (k := 0) rfl (by decide) (by decide) rfl (fun ls hl => ?_)
  refine lv_goto (tgt := 15) hx hb dX4_init_37 (by decide) ?_
  refine lv_iload_n hx hb dX4_init_15 rfl (lv_at hl 0 rfl) ?_
  refine lv_bipush (v := 16) hx hb dX4_init_16 (by decide) ?_
  refine lv_icmp_gt (tgt := 40) hx hb dX4_init_18 (by decide) (fun c0 => absurd c0 (by decide)) (fun _ => ?_)
  refine lv_aload_n hx hb dX4_init_21 rfl (lv_at hl 1 rfl) ?_
  refine n_get (ci := 4) (C := RX4) (T := TX4) (N := 4) (k := 0) Y hN rfl in4 (by decide) lk_X4_11 rfl dX4_init_22 ?_
  refine lv_iload_n hx hb dX4_init_25 rfl (lv_at hl 0 rfl) ?_
  refine n_new (ci := 8) (C := RX8) (T := TX8) (N := 13) (ty0 := tyX8) (df := dfl8) Y hN rfl in8 tyX8_ok cl_X4_9 win_8 ini_8 dfv8 (Nat.le_of_ble_eq_true rfl) (Nat.le_of_ble_eq_true rfl) dX4_init_26 (fun H hP hD hS hsz hcs hZ => ?_)
  refine lv_dup hx hb dX4_init_29 rfl ?_
  obtain ⟨M9, hc9, h⟩ := bm_el h
  have hex9 : ∀ z ∈ ([(a, .inr (4, [.ref (a + 1), .int 0, .int 0, .int 0])), (a + 1, rQ E 17 (va_up (va_up (va_up (va_up (va_up (va_up (va_up (va_up (fun _ => none) 0 (some (a + 1 + 1 + 9 * 0))) 1 (some (a + 1 + 1 + 9 * 1))) 2 (some (a + 1 + 1 + 9 * 2))) 3 (some (a + 1 + 1 + 9 * 3))) 4 (some (a + 1 + 1 + 9 * 4))) 5 (some (a + 1 + 1 + 9 * 5))) 6 (some (a + 1 + 1 + 9 * 6))) 7 (some (a + 1 + 1 + 9 * 7))))] : va_W), z.1 < a + 74 := by
    intro z hz
    rcases List.mem_cons.mp hz with rfl | hz
    · show a < a + 74; omega
    · rw [List.mem_singleton] at hz; subst hz; show a + 1 < a + 74; omega
  refine n_callI (L' := nL8 (a + 74) (nL8 (a + 65) (nL8 (a + 56) (nL8 (a + 47) (nL8 (a + 38) (nL8 (a + 29) (nL8 (a + 20) (nL8 (a + 11) (nL8 (a + 2) (L)))))))))) (M' := M9) (ex := [(a, .inr (4, [.ref (a + 1), .int 0, .int 0, .int 0])), (a + 1, rQ E 17 (va_up (va_up (va_up (va_up (va_up (va_up (va_up (va_up (fun _ => none) 0 (some (a + 1 + 1 + 9 * 0))) 1 (some (a + 1 + 1 + 9 * 1))) 2 (some (a + 1 + 1 + 9 * 2))) 3 (some (a + 1 + 1 + 9 * 3))) 4 (some (a + 1 + 1 + 9 * 4))) 5 (some (a + 1 + 1 + 9 * 5))) 6 (some (a + 1 + 1 + 9 * 6))) 7 (some (a + 1 + 1 + 9 * 7))))]) (ci := 8) (df := dfl8) (mc := 8) (ms := 138) (As := []) (n := 0) Y hP hD hS hsz hcs (by decide) hex9 (iC8_Z hc9 (hZ.mono (by omega))) (nL8_last _ _) wci_8 (Or.inl mi_X4_17) wii_8 ini_8 rfl (by decide +kernel) (by decide) rfl hl.1 (kC8 fu d hZ hc9) ⟨by show _ ≤ d + 3; omega, by show _ ≤ 42 * (d + 3); omega, Nat.le_of_ble_eq_true rfl, Nat.le_of_ble_eq_true rfl⟩ (Nat.le_of_ble_eq_true rfl) dX4_init_30 (fun H locs hN => ?_)
  have hN : Nx s E [(a, .inr (4, [.ref (a + 1), .int 0, .int 0, .int 0])), (a + 1, rQ E 17 (va_up (va_up (va_up (va_up (va_up (va_up (va_up (va_up (fun _ => none) 0 (some (a + 1 + 1 + 9 * 0))) 1 (some (a + 1 + 1 + 9 * 1))) 2 (some (a + 1 + 1 + 9 * 2))) 3 (some (a + 1 + 1 + 9 * 3))) 4 (some (a + 1 + 1 + 9 * 4))) 5 (some (a + 1 + 1 + 9 * 5))) 6 (some (a + 1 + 1 + 9 * 6))) 7 (some (a + 1 + 1 + 9 * 7))))] (nL8 (a + 74) (nL8 (a + 65) (nL8 (a + 56) (nL8 (a + 47) (nL8 (a + 38) (nL8 (a + 29) (nL8 (a + 20) (nL8 (a + 11) (nL8 (a + 2) (L)))))))))) M9 (a + 83) 82 H locs := hN
  refine n_aast (i := 8) Y hN ((aL8 _ _).at0 rfl) (by decide +kernel) dX4_init_33 (fun H locs hN => ?_)
  have hN : Nx s E [(a, .inr (4, [.ref (a + 1), .int 0, .int 0, .int 0])), (a + 1, rQ E 17 (va_up (va_up (va_up (va_up (va_up (va_up (va_up (va_up (va_up (fun _ => none) 0 (some (a + 1 + 1 + 9 * 0))) 1 (some (a + 1 + 1 + 9 * 1))) 2 (some (a + 1 + 1 + 9 * 2))) 3 (some (a + 1 + 1 + 9 * 3))) 4 (some (a + 1 + 1 + 9 * 4))) 5 (some (a + 1 + 1 + 9 * 5))) 6 (some (a + 1 + 1 + 9 * 6))) 7 (some (a + 1 + 1 + 9 * 7))) 8 (some (a + 1 + 1 + 9 * 8))))] (nL8 (a + 74) (nL8 (a + 65) (nL8 (a + 56) (nL8 (a + 47) (nL8 (a + 38) (nL8 (a + 29) (nL8 (a + 20) (nL8 (a + 11) (nL8 (a + 2) (L)))))))))) M9 (a + 83) 82 H locs := hN
  refine lv_iinc (v := 9) (lv' := [(1, .int 9), (0, .ref a)]) hx hb dX4_init_34 hl (k := 0) rfl (by decide) (by decide) rfl (fun ls hl => ?_)
  refine lv_goto (tgt := 15) hx hb dX4_init_37 (by decide) ?_
  refine lv_iload_n hx hb dX4_init_15 rfl (lv_at hl 0 rfl) ?_
  refine lv_bipush (v := 16) hx hb dX4_init_16 (by decide) ?_
  refine lv_icmp_gt (tgt := 40) hx hb dX4_init_18 (by decide) (fun c0 => absurd c0 (by decide)) (fun _ => ?_)
  refine lv_aload_n hx hb dX4_init_21 rfl (lv_at hl 1 rfl) ?_
  refine n_get (ci := 4) (C := RX4) (T := TX4) (N := 4) (k := 0) Y hN rfl in4 (by decide) lk_X4_11 rfl dX4_init_22 ?_
  refine lv_iload_n hx hb dX4_init_25 rfl (lv_at hl 0 rfl) ?_
  refine n_new (ci := 8) (C := RX8) (T := TX8) (N := 13) (ty0 := tyX8) (df := dfl8) Y hN rfl in8 tyX8_ok cl_X4_9 win_8 ini_8 dfv8 (Nat.le_of_ble_eq_true rfl) (Nat.le_of_ble_eq_true rfl) dX4_init_26 (fun H hP hD hS hsz hcs hZ => ?_)
  refine lv_dup hx hb dX4_init_29 rfl ?_
  obtain ⟨M10, hc10, h⟩ := bm_el h
  have hex10 : ∀ z ∈ ([(a, .inr (4, [.ref (a + 1), .int 0, .int 0, .int 0])), (a + 1, rQ E 17 (va_up (va_up (va_up (va_up (va_up (va_up (va_up (va_up (va_up (fun _ => none) 0 (some (a + 1 + 1 + 9 * 0))) 1 (some (a + 1 + 1 + 9 * 1))) 2 (some (a + 1 + 1 + 9 * 2))) 3 (some (a + 1 + 1 + 9 * 3))) 4 (some (a + 1 + 1 + 9 * 4))) 5 (some (a + 1 + 1 + 9 * 5))) 6 (some (a + 1 + 1 + 9 * 6))) 7 (some (a + 1 + 1 + 9 * 7))) 8 (some (a + 1 + 1 + 9 * 8))))] : va_W), z.1 < a + 83 := by
    intro z hz
    rcases List.mem_cons.mp hz with rfl | hz
    · show a < a + 83; omega
    · rw [List.mem_singleton] at hz; subst hz; show a + 1 < a + 83; omega
  refine n_callI (L' := nL8 (a + 83) (nL8 (a + 74) (nL8 (a + 65) (nL8 (a + 56) (nL8 (a + 47) (nL8 (a + 38) (nL8 (a + 29) (nL8 (a + 20) (nL8 (a + 11) (nL8 (a + 2) (L))))))))))) (M' := M10) (ex := [(a, .inr (4, [.ref (a + 1), .int 0, .int 0, .int 0])), (a + 1, rQ E 17 (va_up (va_up (va_up (va_up (va_up (va_up (va_up (va_up (va_up (fun _ => none) 0 (some (a + 1 + 1 + 9 * 0))) 1 (some (a + 1 + 1 + 9 * 1))) 2 (some (a + 1 + 1 + 9 * 2))) 3 (some (a + 1 + 1 + 9 * 3))) 4 (some (a + 1 + 1 + 9 * 4))) 5 (some (a + 1 + 1 + 9 * 5))) 6 (some (a + 1 + 1 + 9 * 6))) 7 (some (a + 1 + 1 + 9 * 7))) 8 (some (a + 1 + 1 + 9 * 8))))]) (ci := 8) (df := dfl8) (mc := 8) (ms := 138) (As := []) (n := 0) Y hP hD hS hsz hcs (by decide) hex10 (iC8_Z hc10 (hZ.mono (by omega))) (nL8_last _ _) wci_8 (Or.inl mi_X4_17) wii_8 ini_8 rfl (by decide +kernel) (by decide) rfl hl.1 (kC8 fu d hZ hc10) ⟨by show _ ≤ d + 3; omega, by show _ ≤ 42 * (d + 3); omega, Nat.le_of_ble_eq_true rfl, Nat.le_of_ble_eq_true rfl⟩ (Nat.le_of_ble_eq_true rfl) dX4_init_30 (fun H locs hN => ?_)
  have hN : Nx s E [(a, .inr (4, [.ref (a + 1), .int 0, .int 0, .int 0])), (a + 1, rQ E 17 (va_up (va_up (va_up (va_up (va_up (va_up (va_up (va_up (va_up (fun _ => none) 0 (some (a + 1 + 1 + 9 * 0))) 1 (some (a + 1 + 1 + 9 * 1))) 2 (some (a + 1 + 1 + 9 * 2))) 3 (some (a + 1 + 1 + 9 * 3))) 4 (some (a + 1 + 1 + 9 * 4))) 5 (some (a + 1 + 1 + 9 * 5))) 6 (some (a + 1 + 1 + 9 * 6))) 7 (some (a + 1 + 1 + 9 * 7))) 8 (some (a + 1 + 1 + 9 * 8))))] (nL8 (a + 83) (nL8 (a + 74) (nL8 (a + 65) (nL8 (a + 56) (nL8 (a + 47) (nL8 (a + 38) (nL8 (a + 29) (nL8 (a + 20) (nL8 (a + 11) (nL8 (a + 2) (L))))))))))) M10 (a + 92) 91 H locs := hN
  refine n_aast (i := 9) Y hN ((aL8 _ _).at0 rfl) (by decide +kernel) dX4_init_33 (fun H locs hN => ?_)
  have hN : Nx s E [(a, .inr (4, [.ref (a + 1), .int 0, .int 0, .int 0])), (a + 1, rQ E 17 (va_up (va_up (va_up (va_up (va_up (va_up (va_up (va_up (va_up (va_up (fun _ => none) 0 (some (a + 1 + 1 + 9 * 0))) 1 (some (a + 1 + 1 + 9 * 1))) 2 (some (a + 1 + 1 + 9 * 2))) 3 (some (a + 1 + 1 + 9 * 3))) 4 (some (a + 1 + 1 + 9 * 4))) 5 (some (a + 1 + 1 + 9 * 5))) 6 (some (a + 1 + 1 + 9 * 6))) 7 (some (a + 1 + 1 + 9 * 7))) 8 (some (a + 1 + 1 + 9 * 8))) 9 (some (a + 1 + 1 + 9 * 9))))] (nL8 (a + 83) (nL8 (a + 74) (nL8 (a + 65) (nL8 (a + 56) (nL8 (a + 47) (nL8 (a + 38) (nL8 (a + 29) (nL8 (a + 20) (nL8 (a + 11) (nL8 (a + 2) (L))))))))))) M10 (a + 92) 91 H locs := hN
  refine lv_iinc (v := 10) (lv' := [(1, .int 10), (0, .ref a)]) hx hb dX4_init_34 hl (k := 0) rfl (by decide) (by decide) rfl (fun ls hl => ?_)
  refine lv_goto (tgt := 15) hx hb dX4_init_37 (by decide) ?_
  refine lv_iload_n hx hb dX4_init_15 rfl (lv_at hl 0 rfl) ?_
  refine lv_bipush (v := 16) hx hb dX4_init_16 (by decide) ?_
  refine lv_icmp_gt (tgt := 40) hx hb dX4_init_18 (by decide) (fun c0 => absurd c0 (by decide)) (fun _ => ?_)
  refine lv_aload_n hx hb dX4_init_21 rfl (lv_at hl 1 rfl) ?_
  refine n_get (ci := 4) (C := RX4) (T := TX4) (N := 4) (k := 0) Y hN rfl in4 (by decide) lk_X4_11 rfl dX4_init_22 ?_
  refine lv_iload_n hx hb dX4_init_25 rfl (lv_at hl 0 rfl) ?_
  refine n_new (ci := 8) (C := RX8) (T := TX8) (N := 13) (ty0 := tyX8) (df := dfl8) Y hN rfl in8 tyX8_ok cl_X4_9 win_8 ini_8 dfv8 (Nat.le_of_ble_eq_true rfl) (Nat.le_of_ble_eq_true rfl) dX4_init_26 (fun H hP hD hS hsz hcs hZ => ?_)
  refine lv_dup hx hb dX4_init_29 rfl ?_
  obtain ⟨M11, hc11, h⟩ := bm_el h
  have hex11 : ∀ z ∈ ([(a, .inr (4, [.ref (a + 1), .int 0, .int 0, .int 0])), (a + 1, rQ E 17 (va_up (va_up (va_up (va_up (va_up (va_up (va_up (va_up (va_up (va_up (fun _ => none) 0 (some (a + 1 + 1 + 9 * 0))) 1 (some (a + 1 + 1 + 9 * 1))) 2 (some (a + 1 + 1 + 9 * 2))) 3 (some (a + 1 + 1 + 9 * 3))) 4 (some (a + 1 + 1 + 9 * 4))) 5 (some (a + 1 + 1 + 9 * 5))) 6 (some (a + 1 + 1 + 9 * 6))) 7 (some (a + 1 + 1 + 9 * 7))) 8 (some (a + 1 + 1 + 9 * 8))) 9 (some (a + 1 + 1 + 9 * 9))))] : va_W), z.1 < a + 92 := by
    intro z hz
    rcases List.mem_cons.mp hz with rfl | hz
    · show a < a + 92; omega
    · rw [List.mem_singleton] at hz; subst hz; show a + 1 < a + 92; omega
  refine n_callI (L' := nL8 (a + 92) (nL8 (a + 83) (nL8 (a + 74) (nL8 (a + 65) (nL8 (a + 56) (nL8 (a + 47) (nL8 (a + 38) (nL8 (a + 29) (nL8 (a + 20) (nL8 (a + 11) (nL8 (a + 2) (L)))))))))))) (M' := M11) (ex := [(a, .inr (4, [.ref (a + 1), .int 0, .int 0, .int 0])), (a + 1, rQ E 17 (va_up (va_up (va_up (va_up (va_up (va_up (va_up (va_up (va_up (va_up (fun _ => none) 0 (some (a + 1 + 1 + 9 * 0))) 1 (some (a + 1 + 1 + 9 * 1))) 2 (some (a + 1 + 1 + 9 * 2))) 3 (some (a + 1 + 1 + 9 * 3))) 4 (some (a + 1 + 1 + 9 * 4))) 5 (some (a + 1 + 1 + 9 * 5))) 6 (some (a + 1 + 1 + 9 * 6))) 7 (some (a + 1 + 1 + 9 * 7))) 8 (some (a + 1 + 1 + 9 * 8))) 9 (some (a + 1 + 1 + 9 * 9))))]) (ci := 8) (df := dfl8) (mc := 8) (ms := 138) (As := []) (n := 0) Y hP hD hS hsz hcs (by decide) hex11 (iC8_Z hc11 (hZ.mono (by omega))) (nL8_last _ _) wci_8 (Or.inl mi_X4_17) wii_8 ini_8 rfl (by decide +kernel) (by decide) rfl hl.1 (kC8 fu d hZ hc11) ⟨by show _ ≤ d + 3; omega, by show _ ≤ 42 * (d + 3); omega, Nat.le_of_ble_eq_true rfl, Nat.le_of_ble_eq_true rfl⟩ (Nat.le_of_ble_eq_true rfl) dX4_init_30 (fun H locs hN => ?_)
  have hN : Nx s E [(a, .inr (4, [.ref (a + 1), .int 0, .int 0, .int 0])), (a + 1, rQ E 17 (va_up (va_up (va_up (va_up (va_up (va_up (va_up (va_up (va_up (va_up (fun _ => none) 0 (some (a + 1 + 1 + 9 * 0))) 1 (some (a + 1 + 1 + 9 * 1))) 2 (some (a + 1 + 1 + 9 * 2))) 3 (some (a + 1 + 1 + 9 * 3))) 4 (some (a + 1 + 1 + 9 * 4))) 5 (some (a + 1 + 1 + 9 * 5))) 6 (some (a + 1 + 1 + 9 * 6))) 7 (some (a + 1 + 1 + 9 * 7))) 8 (some (a + 1 + 1 + 9 * 8))) 9 (some (a + 1 + 1 + 9 * 9))))] (nL8 (a + 92) (nL8 (a + 83) (nL8 (a + 74) (nL8 (a + 65) (nL8 (a + 56) (nL8 (a + 47) (nL8 (a + 38) (nL8 (a + 29) (nL8 (a + 20) (nL8 (a + 11) (nL8 (a + 2) (L)))))))))))) M11 (a + 101) 100 H locs := hN
  refine n_aast (i := 10) Y hN ((aL8 _ _).at0 rfl) (by decide +kernel) dX4_init_33 (fun H locs hN => ?_)
  have hN : Nx s E [(a, .inr (4, [.ref (a + 1), .int 0, .int 0, .int 0])), (a + 1, rQ E 17 (va_up (va_up (va_up (va_up (va_up (va_up (va_up (va_up (va_up (va_up (va_up (fun _ => none) 0 (some (a + 1 + 1 + 9 * 0))) 1 (some (a + 1 + 1 + 9 * 1))) 2 (some (a + 1 + 1 + 9 * 2))) 3 (some (a + 1 + 1 + 9 * 3))) 4 (some (a + 1 + 1 + 9 * 4))) 5 (some (a + 1 + 1 + 9 * 5))) 6 (some (a + 1 + 1 + 9 * 6))) 7 (some (a + 1 + 1 + 9 * 7))) 8 (some (a + 1 + 1 + 9 * 8))) 9 (some (a + 1 + 1 + 9 * 9))) 10 (some (a + 1 + 1 + 9 * 10))))] (nL8 (a + 92) (nL8 (a + 83) (nL8 (a + 74) (nL8 (a + 65) (nL8 (a + 56) (nL8 (a + 47) (nL8 (a + 38) (nL8 (a + 29) (nL8 (a + 20) (nL8 (a + 11) (nL8 (a + 2) (L)))))))))))) M11 (a + 101) 100 H locs := hN
  refine lv_iinc (v := 11) (lv' := [(1, .int 11), (0, .ref a)]) hx hb dX4_init_34 hl (k := 0) rfl (by decide) (by decide) rfl (fun ls hl => ?_)
  refine lv_goto (tgt := 15) hx hb dX4_init_37 (by decide) ?_
  refine lv_iload_n hx hb dX4_init_15 rfl (lv_at hl 0 rfl) ?_
  refine lv_bipush (v := 16) hx hb dX4_init_16 (by decide) ?_
  refine lv_icmp_gt (tgt := 40) hx hb dX4_init_18 (by decide) (fun c0 => absurd c0 (by decide)) (fun _ => ?_)
  refine lv_aload_n hx hb dX4_init_21 rfl (lv_at hl 1 rfl) ?_
  refine n_get (ci := 4) (C := RX4) (T := TX4) (N := 4) (k := 0) Y hN rfl in4 (by decide) lk_X4_11 rfl dX4_init_22 ?_
  refine lv_iload_n hx hb dX4_init_25 rfl (lv_at hl 0 rfl) ?_
  refine n_new (ci := 8) (C := RX8) (T := TX8) (N := 13) (ty0 := tyX8) (df := dfl8) Y hN rfl in8 tyX8_ok cl_X4_9 win_8 ini_8 dfv8 (Nat.le_of_ble_eq_true rfl) (Nat.le_of_ble_eq_true rfl) dX4_init_26 (fun H hP hD hS hsz hcs hZ => ?_)
  refine lv_dup hx hb dX4_init_29 rfl ?_
  obtain ⟨M12, hc12, h⟩ := bm_el h
  have hex12 : ∀ z ∈ ([(a, .inr (4, [.ref (a + 1), .int 0, .int 0, .int 0])), (a + 1, rQ E 17 (va_up (va_up (va_up (va_up (va_up (va_up (va_up (va_up (va_up (va_up (va_up (fun _ => none) 0 (some (a + 1 + 1 + 9 * 0))) 1 (some (a + 1 + 1 + 9 * 1))) 2 (some (a + 1 + 1 + 9 * 2))) 3 (some (a + 1 + 1 + 9 * 3))) 4 (some (a + 1 + 1 + 9 * 4))) 5 (some (a + 1 + 1 + 9 * 5))) 6 (some (a + 1 + 1 + 9 * 6))) 7 (some (a + 1 + 1 + 9 * 7))) 8 (some (a + 1 + 1 + 9 * 8))) 9 (some (a + 1 + 1 + 9 * 9))) 10 (some (a + 1 + 1 + 9 * 10))))] : va_W), z.1 < a + 101 := by
    intro z hz
    rcases List.mem_cons.mp hz with rfl | hz
    · show a < a + 101; omega
    · rw [List.mem_singleton] at hz; subst hz; show a + 1 < a + 101; omega
  refine n_callI (L' := nL8 (a + 101) (nL8 (a + 92) (nL8 (a + 83) (nL8 (a + 74) (nL8 (a + 65) (nL8 (a + 56) (nL8 (a + 47) (nL8 (a + 38) (nL8 (a + 29) (nL8 (a + 20) (nL8 (a + 11) (nL8 (a + 2) (L))))))))))))) (M' := M12) (ex := [(a, .inr (4, [.ref (a + 1), .int 0, .int 0, .int 0])), (a + 1, rQ E 17 (va_up (va_up (va_up (va_up (va_up (va_up (va_up (va_up (va_up (va_up (va_up (fun _ => none) 0 (some (a + 1 + 1 + 9 * 0))) 1 (some (a + 1 + 1 + 9 * 1))) 2 (some (a + 1 + 1 + 9 * 2))) 3 (some (a + 1 + 1 + 9 * 3))) 4 (some (a + 1 + 1 + 9 * 4))) 5 (some (a + 1 + 1 + 9 * 5))) 6 (some (a + 1 + 1 + 9 * 6))) 7 (some (a + 1 + 1 + 9 * 7))) 8 (some (a + 1 + 1 + 9 * 8))) 9 (some (a + 1 + 1 + 9 * 9))) 10 (some (a + 1 + 1 + 9 * 10))))]) (ci := 8) (df := dfl8) (mc := 8) (ms := 138) (As := []) (n := 0) Y hP hD hS hsz hcs (by decide) hex12 (iC8_Z hc12 (hZ.mono (by omega))) (nL8_last _ _) wci_8 (Or.inl mi_X4_17) wii_8 ini_8 rfl (by decide +kernel) (by decide) rfl hl.1 (kC8 fu d hZ hc12) ⟨by show _ ≤ d + 3; omega, by show _ ≤ 42 * (d + 3); omega, Nat.le_of_ble_eq_true rfl, Nat.le_of_ble_eq_true rfl⟩ (Nat.le_of_ble_eq_true rfl) dX4_init_30 (fun H locs hN => ?_)
  have hN : Nx s E [(a, .inr (4, [.ref (a + 1), .int 0, .int 0, .int 0])), (a + 1, rQ E 17 (va_up (va_up (va_up (va_up (va_up (va_up (va_up (va_up (va_up (va_up (va_up (fun _ => none) 0 (some (a + 1 + 1 + 9 * 0))) 1 (some (a + 1 + 1 + 9 * 1))) 2 (some (a + 1 + 1 + 9 * 2))) 3 (some (a + 1 + 1 + 9 * 3))) 4 (some (a + 1 + 1 + 9 * 4))) 5 (some (a + 1 + 1 + 9 * 5))) 6 (some (a + 1 + 1 + 9 * 6))) 7 (some (a + 1 + 1 + 9 * 7))) 8 (some (a + 1 + 1 + 9 * 8))) 9 (some (a + 1 + 1 + 9 * 9))) 10 (some (a + 1 + 1 + 9 * 10))))] (nL8 (a + 101) (nL8 (a + 92) (nL8 (a + 83) (nL8 (a + 74) (nL8 (a + 65) (nL8 (a + 56) (nL8 (a + 47) (nL8 (a + 38) (nL8 (a + 29) (nL8 (a + 20) (nL8 (a + 11) (nL8 (a + 2) (L))))))))))))) M12 (a + 110) 109 H locs := hN
  refine n_aast (i := 11) Y hN ((aL8 _ _).at0 rfl) (by decide +kernel) dX4_init_33 (fun H locs hN => ?_)
  have hN : Nx s E [(a, .inr (4, [.ref (a + 1), .int 0, .int 0, .int 0])), (a + 1, rQ E 17 (va_up (va_up (va_up (va_up (va_up (va_up (va_up (va_up (va_up (va_up (va_up (va_up (fun _ => none) 0 (some (a + 1 + 1 + 9 * 0))) 1 (some (a + 1 + 1 + 9 * 1))) 2 (some (a + 1 + 1 + 9 * 2))) 3 (some (a + 1 + 1 + 9 * 3))) 4 (some (a + 1 + 1 + 9 * 4))) 5 (some (a + 1 + 1 + 9 * 5))) 6 (some (a + 1 + 1 + 9 * 6))) 7 (some (a + 1 + 1 + 9 * 7))) 8 (some (a + 1 + 1 + 9 * 8))) 9 (some (a + 1 + 1 + 9 * 9))) 10 (some (a + 1 + 1 + 9 * 10))) 11 (some (a + 1 + 1 + 9 * 11))))] (nL8 (a + 101) (nL8 (a + 92) (nL8 (a + 83) (nL8 (a + 74) (nL8 (a + 65) (nL8 (a + 56) (nL8 (a + 47) (nL8 (a + 38) (nL8 (a + 29) (nL8 (a + 20) (nL8 (a + 11) (nL8 (a + 2) (L))))))))))))) M12 (a + 110) 109 H locs := hN
  refine lv_iinc (v := 12) (lv' := [(1, .int 12), (0, .ref a)]) hx hb dX4_init_34 hl (k := 0) rfl (by decide) (by decide) rfl (fun ls hl => ?_)
  refine lv_goto (tgt := 15) hx hb dX4_init_37 (by decide) ?_
  refine lv_iload_n hx hb dX4_init_15 rfl (lv_at hl 0 rfl) ?_
  refine lv_bipush (v := 16) hx hb dX4_init_16 (by decide) ?_
  refine lv_icmp_gt (tgt := 40) hx hb dX4_init_18 (by decide) (fun c0 => absurd c0 (by decide)) (fun _ => ?_)
  refine lv_aload_n hx hb dX4_init_21 rfl (lv_at hl 1 rfl) ?_
  refine n_get (ci := 4) (C := RX4) (T := TX4) (N := 4) (k := 0) Y hN rfl in4 (by decide) lk_X4_11 rfl dX4_init_22 ?_
  refine lv_iload_n hx hb dX4_init_25 rfl (lv_at hl 0 rfl) ?_
  refine n_new (ci := 8) (C := RX8) (T := TX8) (N := 13) (ty0 := tyX8) (df := dfl8) Y hN rfl in8 tyX8_ok cl_X4_9 win_8 ini_8 dfv8 (Nat.le_of_ble_eq_true rfl) (Nat.le_of_ble_eq_true rfl) dX4_init_26 (fun H hP hD hS hsz hcs hZ => ?_)
  refine lv_dup hx hb dX4_init_29 rfl ?_
  obtain ⟨M13, hc13, h⟩ := bm_el h
  have hex13 : ∀ z ∈ ([(a, .inr (4, [.ref (a + 1), .int 0, .int 0, .int 0])), (a + 1, rQ E 17 (va_up (va_up (va_up (va_up (va_up (va_up (va_up (va_up (va_up (va_up (va_up (va_up (fun _ => none) 0 (some (a + 1 + 1 + 9 * 0))) 1 (some (a + 1 + 1 + 9 * 1))) 2 (some (a + 1 + 1 + 9 * 2))) 3 (some (a + 1 + 1 + 9 * 3))) 4 (some (a + 1 + 1 + 9 * 4))) 5 (some (a + 1 + 1 + 9 * 5))) 6 (some (a + 1 + 1 + 9 * 6))) 7 (some (a + 1 + 1 + 9 * 7))) 8 (some (a + 1 + 1 + 9 * 8))) 9 (some (a + 1 + 1 + 9 * 9))) 10 (some (a + 1 + 1 + 9 * 10))) 11 (some (a + 1 + 1 + 9 * 11))))] : va_W), z.1 < a + 110 := by
    intro z hz
    rcases List.mem_cons.mp hz with rfl | hz
    · show a < a + 110; omega
    · rw [List.mem_singleton] at hz; subst hz; show a + 1 < a + 110; omega
  refine n_callI (L' := nL8 (a + 110) (nL8 (a + 101) (nL8 (a + 92) (nL8 (a + 83) (nL8 (a + 74) (nL8 (a + 65) (nL8 (a + 56) (nL8 (a + 47) (nL8 (a + 38) (nL8 (a + 29) (nL8 (a + 20) (nL8 (a + 11) (nL8 (a + 2) (L)))))))))))))) (M' := M13) (ex := [(a, .inr (4, [.ref (a + 1), .int 0, .int 0, .int 0])), (a + 1, rQ E 17 (va_up (va_up (va_up (va_up (va_up (va_up (va_up (va_up (va_up (va_up (va_up (va_up (fun _ => none) 0 (some (a + 1 + 1 + 9 * 0))) 1 (some (a + 1 + 1 + 9 * 1))) 2 (some (a + 1 + 1 + 9 * 2))) 3 (some (a + 1 + 1 + 9 * 3))) 4 (some (a + 1 + 1 + 9 * 4))) 5 (some (a + 1 + 1 + 9 * 5))) 6 (some (a + 1 + 1 + 9 * 6))) 7 (some (a + 1 + 1 + 9 * 7))) 8 (some (a + 1 + 1 + 9 * 8))) 9 (some (a + 1 + 1 + 9 * 9))) 10 (some (a + 1 + 1 + 9 * 10))) 11 (some (a + 1 + 1 + 9 * 11))))]) (ci := 8) (df := dfl8) (mc := 8) (ms := 138) (As := []) (n := 0) Y hP hD hS hsz hcs (by decide) hex13 (iC8_Z hc13 (hZ.mono (by omega))) (nL8_last _ _) wci_8 (Or.inl mi_X4_17) wii_8 ini_8 rfl (by decide +kernel) (by decide) rfl hl.1 (kC8 fu d hZ hc13) ⟨by show _ ≤ d + 3; omega, by show _ ≤ 42 * (d + 3); omega, Nat.le_of_ble_eq_true rfl, Nat.le_of_ble_eq_true rfl⟩ (Nat.le_of_ble_eq_true rfl) dX4_init_30 (fun H locs hN => ?_)
  have hN : Nx s E [(a, .inr (4, [.ref (a + 1), .int 0, .int 0, .int 0])), (a + 1, rQ E 17 (va_up (va_up (va_up (va_up (va_up (va_up (va_up (va_up (va_up (va_up (va_up (va_up (fun _ => none) 0 (some (a + 1 + 1 + 9 * 0))) 1 (some (a + 1 + 1 + 9 * 1))) 2 (some (a + 1 + 1 + 9 * 2))) 3 (some (a + 1 + 1 + 9 * 3))) 4 (some (a + 1 + 1 + 9 * 4))) 5 (some (a + 1 + 1 + 9 * 5))) 6 (some (a + 1 + 1 + 9 * 6))) 7 (some (a + 1 + 1 + 9 * 7))) 8 (some (a + 1 + 1 + 9 * 8))) 9 (some (a + 1 + 1 + 9 * 9))) 10 (some (a + 1 + 1 + 9 * 10))) 11 (some (a + 1 + 1 + 9 * 11))))] (nL8 (a + 110) (nL8 (a + 101) (nL8 (a + 92) (nL8 (a + 83) (nL8 (a + 74) (nL8 (a + 65) (nL8 (a + 56) (nL8 (a + 47) (nL8 (a + 38) (nL8 (a + 29) (nL8 (a + 20) (nL8 (a + 11) (nL8 (a + 2) (L)))))))))))))) M13 (a + 119) 118 H locs := hN
  refine n_aast (i := 12) Y hN ((aL8 _ _).at0 rfl) (by decide +kernel) dX4_init_33 (fun H locs hN => ?_)
  have hN : Nx s E [(a, .inr (4, [.ref (a + 1), .int 0, .int 0, .int 0])), (a + 1, rQ E 17 (va_up (va_up (va_up (va_up (va_up (va_up (va_up (va_up (va_up (va_up (va_up (va_up (va_up (fun _ => none) 0 (some (a + 1 + 1 + 9 * 0))) 1 (some (a + 1 + 1 + 9 * 1))) 2 (some (a + 1 + 1 + 9 * 2))) 3 (some (a + 1 + 1 + 9 * 3))) 4 (some (a + 1 + 1 + 9 * 4))) 5 (some (a + 1 + 1 + 9 * 5))) 6 (some (a + 1 + 1 + 9 * 6))) 7 (some (a + 1 + 1 + 9 * 7))) 8 (some (a + 1 + 1 + 9 * 8))) 9 (some (a + 1 + 1 + 9 * 9))) 10 (some (a + 1 + 1 + 9 * 10))) 11 (some (a + 1 + 1 + 9 * 11))) 12 (some (a + 1 + 1 + 9 * 12))))] (nL8 (a + 110) (nL8 (a + 101) (nL8 (a + 92) (nL8 (a + 83) (nL8 (a + 74) (nL8 (a + 65) (nL8 (a + 56) (nL8 (a + 47) (nL8 (a + 38) (nL8 (a + 29) (nL8 (a + 20) (nL8 (a + 11) (nL8 (a + 2) (L)))))))))))))) M13 (a + 119) 118 H locs := hN
  refine lv_iinc (v := 13) (lv' := [(1, .int 13), (0, .ref a)]) hx hb dX4_init_34 hl (k := 0) rfl (by decide) (by decide) rfl (fun ls hl => ?_)
  refine lv_goto (tgt := 15) hx hb dX4_init_37 (by decide) ?_
  refine lv_iload_n hx hb dX4_init_15 rfl (lv_at hl 0 rfl) ?_
  refine lv_bipush (v := 16) hx hb dX4_init_16 (by decide) ?_
  refine lv_icmp_gt (tgt := 40) hx hb dX4_init_18 (by decide) (fun c0 => absurd c0 (by decide)) (fun _ => ?_)
  refine lv_aload_n hx hb dX4_init_21 rfl (lv_at hl 1 rfl) ?_
  refine n_get (ci := 4) (C := RX4) (T := TX4) (N := 4) (k := 0) Y hN rfl in4 (by decide) lk_X4_11 rfl dX4_init_22 ?_
  refine lv_iload_n hx hb dX4_init_25 rfl (lv_at hl 0 rfl) ?_
  refine n_new (ci := 8) (C := RX8) (T := TX8) (N := 13) (ty0 := tyX8) (df := dfl8) Y hN rfl in8 tyX8_ok cl_X4_9 win_8 ini_8 dfv8 (Nat.le_of_ble_eq_true rfl) (Nat.le_of_ble_eq_true rfl) dX4_init_26 (fun H hP hD hS hsz hcs hZ => ?_)
  refine lv_dup hx hb dX4_init_29 rfl ?_
  obtain ⟨M14, hc14, h⟩ := bm_el h
  have hex14 : ∀ z ∈ ([(a, .inr (4, [.ref (a + 1), .int 0, .int 0, .int 0])), (a + 1, rQ E 17 (va_up (va_up (va_up (va_up (va_up (va_up (va_up (va_up (va_up (va_up (va_up (va_up (va_up (fun _ => none) 0 (some (a + 1 + 1 + 9 * 0))) 1 (some (a + 1 + 1 + 9 * 1))) 2 (some (a + 1 + 1 + 9 * 2))) 3 (some (a + 1 + 1 + 9 * 3))) 4 (some (a + 1 + 1 + 9 * 4))) 5 (some (a + 1 + 1 + 9 * 5))) 6 (some (a + 1 + 1 + 9 * 6))) 7 (some (a + 1 + 1 + 9 * 7))) 8 (some (a + 1 + 1 + 9 * 8))) 9 (some (a + 1 + 1 + 9 * 9))) 10 (some (a + 1 + 1 + 9 * 10))) 11 (some (a + 1 + 1 + 9 * 11))) 12 (some (a + 1 + 1 + 9 * 12))))] : va_W), z.1 < a + 119 := by
    intro z hz
    rcases List.mem_cons.mp hz with rfl | hz
    · show a < a + 119; omega
    · rw [List.mem_singleton] at hz; subst hz; show a + 1 < a + 119; omega
  refine n_callI (L' := nL8 (a + 119) (nL8 (a + 110) (nL8 (a + 101) (nL8 (a + 92) (nL8 (a + 83) (nL8 (a + 74) (nL8 (a + 65) (nL8 (a + 56) (nL8 (a + 47) (nL8 (a + 38) (nL8 (a + 29) (nL8 (a + 20) (nL8 (a + 11) (nL8 (a + 2) (L))))))))))))))) (M' := M14) (ex := [(a, .inr (4, [.ref (a + 1), .int 0, .int 0, .int 0])), (a + 1, rQ E 17 (va_up (va_up (va_up (va_up (va_up (va_up (va_up (va_up (va_up (va_up (va_up (va_up (va_up (fun _ => none) 0 (some (a + 1 + 1 + 9 * 0))) 1 (some (a + 1 + 1 + 9 * 1))) 2 (some (a + 1 + 1 + 9 * 2))) 3 (some (a + 1 + 1 + 9 * 3))) 4 (some (a + 1 + 1 + 9 * 4))) 5 (some (a + 1 + 1 + 9 * 5))) 6 (some (a + 1 + 1 + 9 * 6))) 7 (some (a + 1 + 1 + 9 * 7))) 8 (some (a + 1 + 1 + 9 * 8))) 9 (some (a + 1 + 1 + 9 * 9))) 10 (some (a + 1 + 1 + 9 * 10))) 11 (some (a + 1 + 1 + 9 * 11))) 12 (some (a + 1 + 1 + 9 * 12))))]) (ci := 8) (df := dfl8) (mc := 8) (ms := 138) (As := []) (n := 0) Y hP hD hS hsz hcs (by decide) hex14 (iC8_Z hc14 (hZ.mono (by omega))) (nL8_last _ _) wci_8 (Or.inl mi_X4_17) wii_8 ini_8 rfl (by decide +kernel) (by decide) rfl hl.1 (kC8 fu d hZ hc14) ⟨by show _ ≤ d + 3; omega, by show _ ≤ 42 * (d + 3); omega, Nat.le_of_ble_eq_true rfl, Nat.le_of_ble_eq_true rfl⟩ (Nat.le_of_ble_eq_true rfl) dX4_init_30 (fun H locs hN => ?_)
  have hN : Nx s E [(a, .inr (4, [.ref (a + 1), .int 0, .int 0, .int 0])), (a + 1, rQ E 17 (va_up (va_up (va_up (va_up (va_up (va_up (va_up (va_up (va_up (va_up (va_up (va_up (va_up (fun _ => none) 0 (some (a + 1 + 1 + 9 * 0))) 1 (some (a + 1 + 1 + 9 * 1))) 2 (some (a + 1 + 1 + 9 * 2))) 3 (some (a + 1 + 1 + 9 * 3))) 4 (some (a + 1 + 1 + 9 * 4))) 5 (some (a + 1 + 1 + 9 * 5))) 6 (some (a + 1 + 1 + 9 * 6))) 7 (some (a + 1 + 1 + 9 * 7))) 8 (some (a + 1 + 1 + 9 * 8))) 9 (some (a + 1 + 1 + 9 * 9))) 10 (some (a + 1 + 1 + 9 * 10))) 11 (some (a + 1 + 1 + 9 * 11))) 12 (some (a + 1 + 1 + 9 * 12))))] (nL8 (a + 119) (nL8 (a + 110) (nL8 (a + 101) (nL8 (a + 92) (nL8 (a + 83) (nL8 (a + 74) (nL8 (a + 65) (nL8 (a + 56) (nL8 (a + 47) (nL8 (a + 38) (nL8 (a + 29) (nL8 (a + 20) (nL8 (a + 11) (nL8 (a + 2) (L))))))))))))))) M14 (a + 128) 127 H locs := hN
  refine n_aast (i := 13) Y hN ((aL8 _ _).at0 rfl) (by decide +kernel) dX4_init_33 (fun H locs hN => ?_)
  have hN : Nx s E [(a, .inr (4, [.ref (a + 1), .int 0, .int 0, .int 0])), (a + 1, rQ E 17 (va_up (va_up (va_up (va_up (va_up (va_up (va_up (va_up (va_up (va_up (va_up (va_up (va_up (va_up (fun _ => none) 0 (some (a + 1 + 1 + 9 * 0))) 1 (some (a + 1 + 1 + 9 * 1))) 2 (some (a + 1 + 1 + 9 * 2))) 3 (some (a + 1 + 1 + 9 * 3))) 4 (some (a + 1 + 1 + 9 * 4))) 5 (some (a + 1 + 1 + 9 * 5))) 6 (some (a + 1 + 1 + 9 * 6))) 7 (some (a + 1 + 1 + 9 * 7))) 8 (some (a + 1 + 1 + 9 * 8))) 9 (some (a + 1 + 1 + 9 * 9))) 10 (some (a + 1 + 1 + 9 * 10))) 11 (some (a + 1 + 1 + 9 * 11))) 12 (some (a + 1 + 1 + 9 * 12))) 13 (some (a + 1 + 1 + 9 * 13))))] (nL8 (a + 119) (nL8 (a + 110) (nL8 (a + 101) (nL8 (a + 92) (nL8 (a + 83) (nL8 (a + 74) (nL8 (a + 65) (nL8 (a + 56) (nL8 (a + 47) (nL8 (a + 38) (nL8 (a + 29) (nL8 (a + 20) (nL8 (a + 11) (nL8 (a + 2) (L))))))))))))))) M14 (a + 128) 127 H locs := hN
  refine lv_iinc (v := 14) (lv' := [(1, .int 14), (0, .ref a)]) hx hb dX4_init_34 hl (k := 0) rfl (by decide) (by decide) rfl (fun ls hl => ?_)
  refine lv_goto (tgt := 15) hx hb dX4_init_37 (by decide) ?_
  refine lv_iload_n hx hb dX4_init_15 rfl (lv_at hl 0 rfl) ?_
  refine lv_bipush (v := 16) hx hb dX4_init_16 (by decide) ?_
  refine lv_icmp_gt (tgt := 40) hx hb dX4_init_18 (by decide) (fun c0 => absurd c0 (by decide)) (fun _ => ?_)
  refine lv_aload_n hx hb dX4_init_21 rfl (lv_at hl 1 rfl) ?_
  refine n_get (ci := 4) (C := RX4) (T := TX4) (N := 4) (k := 0) Y hN rfl in4 (by decide) lk_X4_11 rfl dX4_init_22 ?_
  refine lv_iload_n hx hb dX4_init_25 rfl (lv_at hl 0 rfl) ?_
  refine n_new (ci := 8) (C := RX8) (T := TX8) (N := 13) (ty0 := tyX8) (df := dfl8) Y hN rfl in8 tyX8_ok cl_X4_9 win_8 ini_8 dfv8 (Nat.le_of_ble_eq_true rfl) (Nat.le_of_ble_eq_true rfl) dX4_init_26 (fun H hP hD hS hsz hcs hZ => ?_)
  refine lv_dup hx hb dX4_init_29 rfl ?_
  obtain ⟨M15, hc15, h⟩ := bm_el h
  have hex15 : ∀ z ∈ ([(a, .inr (4, [.ref (a + 1), .int 0, .int 0, .int 0])), (a + 1, rQ E 17 (va_up (va_up (va_up (va_up (va_up (va_up (va_up (va_up (va_up (va_up (va_up (va_up (va_up (va_up (fun _ => none) 0 (some (a + 1 + 1 + 9 * 0))) 1 (some (a + 1 + 1 + 9 * 1))) 2 (some (a + 1 + 1 + 9 * 2))) 3 (some (a + 1 + 1 + 9 * 3))) 4 (some (a + 1 + 1 + 9 * 4))) 5 (some (a + 1 + 1 + 9 * 5))) 6 (some (a + 1 + 1 + 9 * 6))) 7 (some (a + 1 + 1 + 9 * 7))) 8 (some (a + 1 + 1 + 9 * 8))) 9 (some (a + 1 + 1 + 9 * 9))) 10 (some (a + 1 + 1 + 9 * 10))) 11 (some (a + 1 + 1 + 9 * 11))) 12 (some (a + 1 + 1 + 9 * 12))) 13 (some (a + 1 + 1 + 9 * 13))))] : va_W), z.1 < a + 128 := by
    intro z hz
    rcases List.mem_cons.mp hz with rfl | hz
    · show a < a + 128; omega
    · rw [List.mem_singleton] at hz; subst hz; show a + 1 < a + 128; omega
  refine n_callI (L' := nL8 (a + 128) (nL8 (a + 119) (nL8 (a + 110) (nL8 (a + 101) (nL8 (a + 92) (nL8 (a + 83) (nL8 (a + 74) (nL8 (a + 65) (nL8 (a + 56) (nL8 (a + 47) (nL8 (a + 38) (nL8 (a + 29) (nL8 (a + 20) (nL8 (a + 11) (nL8 (a + 2) (L)))))))))))))))) (M' := M15) (ex := [(a, .inr (4, [.ref (a + 1), .int 0, .int 0, .int 0])), (a + 1, rQ E 17 (va_up (va_up (va_up (va_up (va_up (va_up (va_up (va_up (va_up (va_up (va_up (va_up (va_up (va_up (fun _ => none) 0 (some (a + 1 + 1 + 9 * 0))) 1 (some (a + 1 + 1 + 9 * 1))) 2 (some (a + 1 + 1 + 9 * 2))) 3 (some (a + 1 + 1 + 9 * 3))) 4 (some (a + 1 + 1 + 9 * 4))) 5 (some (a + 1 + 1 + 9 * 5))) 6 (some (a + 1 + 1 + 9 * 6))) 7 (some (a + 1 + 1 + 9 * 7))) 8 (some (a + 1 + 1 + 9 * 8))) 9 (some (a + 1 + 1 + 9 * 9))) 10 (some (a + 1 + 1 + 9 * 10))) 11 (some (a + 1 + 1 + 9 * 11))) 12 (some (a + 1 + 1 + 9 * 12))) 13 (some (a + 1 + 1 + 9 * 13))))]) (ci := 8) (df := dfl8) (mc := 8) (ms := 138) (As := []) (n := 0) Y hP hD hS hsz hcs (by decide) hex15 (iC8_Z hc15 (hZ.mono (by omega))) (nL8_last _ _) wci_8 (Or.inl mi_X4_17) wii_8 ini_8 rfl (by decide +kernel) (by decide) rfl hl.1 (kC8 fu d hZ hc15) ⟨by show _ ≤ d + 3; omega, by show _ ≤ 42 * (d + 3); omega, Nat.le_of_ble_eq_true rfl, Nat.le_of_ble_eq_true rfl⟩ (Nat.le_of_ble_eq_true rfl) dX4_init_30 (fun H locs hN => ?_)
  have hN : Nx s E [(a, .inr (4, [.ref (a + 1), .int 0, .int 0, .int 0])), (a + 1, rQ E 17 (va_up (va_up (va_up (va_up (va_up (va_up (va_up (va_up (va_up (va_up (va_up (va_up (va_up (va_up (fun _ => none) 0 (some (a + 1 + 1 + 9 * 0))) 1 (some (a + 1 + 1 + 9 * 1))) 2 (some (a + 1 + 1 + 9 * 2))) 3 (some (a + 1 + 1 + 9 * 3))) 4 (some (a + 1 + 1 + 9 * 4))) 5 (some (a + 1 + 1 + 9 * 5))) 6 (some (a + 1 + 1 + 9 * 6))) 7 (some (a + 1 + 1 + 9 * 7))) 8 (some (a + 1 + 1 + 9 * 8))) 9 (some (a + 1 + 1 + 9 * 9))) 10 (some (a + 1 + 1 + 9 * 10))) 11 (some (a + 1 + 1 + 9 * 11))) 12 (some (a + 1 + 1 + 9 * 12))) 13 (some (a + 1 + 1 + 9 * 13))))] (nL8 (a + 128) (nL8 (a + 119) (nL8 (a + 110) (nL8 (a + 101) (nL8 (a + 92) (nL8 (a + 83) (nL8 (a + 74) (nL8 (a + 65) (nL8 (a + 56) (nL8 (a + 47) (nL8 (a + 38) (nL8 (a + 29) (nL8 (a + 20) (nL8 (a + 11) (nL8 (a + 2) (L)))))))))))))))) M15 (a + 137) 136 H locs := hN
  refine n_aast (i := 14) Y hN ((aL8 _ _).at0 rfl) (by decide +kernel) dX4_init_33 (fun H locs hN => ?_)
  have hN : Nx s E [(a, .inr (4, [.ref (a + 1), .int 0, .int 0, .int 0])), (a + 1, rQ E 17 (va_up (va_up (va_up (va_up (va_up (va_up (va_up (va_up (va_up (va_up (va_up (va_up (va_up (va_up (va_up (fun _ => none) 0 (some (a + 1 + 1 + 9 * 0))) 1 (some (a + 1 + 1 + 9 * 1))) 2 (some (a + 1 + 1 + 9 * 2))) 3 (some (a + 1 + 1 + 9 * 3))) 4 (some (a + 1 + 1 + 9 * 4))) 5 (some (a + 1 + 1 + 9 * 5))) 6 (some (a + 1 + 1 + 9 * 6))) 7 (some (a + 1 + 1 + 9 * 7))) 8 (some (a + 1 + 1 + 9 * 8))) 9 (some (a + 1 + 1 + 9 * 9))) 10 (some (a + 1 + 1 + 9 * 10))) 11 (some (a + 1 + 1 + 9 * 11))) 12 (some (a + 1 + 1 + 9 * 12))) 13 (some (a + 1 + 1 + 9 * 13))) 14 (some (a + 1 + 1 + 9 * 14))))] (nL8 (a + 128) (nL8 (a + 119) (nL8 (a + 110) (nL8 (a + 101) (nL8 (a + 92) (nL8 (a + 83) (nL8 (a + 74) (nL8 (a + 65) (nL8 (a + 56) (nL8 (a + 47) (nL8 (a + 38) (nL8 (a + 29) (nL8 (a + 20) (nL8 (a + 11) (nL8 (a + 2) (L)))))))))))))))) M15 (a + 137) 136 H locs := hN
  refine lv_iinc (v := 15) (lv' := [(1, .int 15), (0, .ref a)]) hx hb dX4_init_34 hl (k := 0) rfl (by decide) (by decide) rfl (fun ls hl => ?_)
  refine lv_goto (tgt := 15) hx hb dX4_init_37 (by decide) ?_
  refine lv_iload_n hx hb dX4_init_15 rfl (lv_at hl 0 rfl) ?_
  refine lv_bipush (v := 16) hx hb dX4_init_16 (by decide) ?_
  refine lv_icmp_gt (tgt := 40) hx hb dX4_init_18 (by decide) (fun c0 => absurd c0 (by decide)) (fun _ => ?_)
  refine lv_aload_n hx hb dX4_init_21 rfl (lv_at hl 1 rfl) ?_
  refine n_get (ci := 4) (C := RX4) (T := TX4) (N := 4) (k := 0) Y hN rfl in4 (by decide) lk_X4_11 rfl dX4_init_22 ?_
  refine lv_iload_n hx hb dX4_init_25 rfl (lv_at hl 0 rfl) ?_
  refine n_new (ci := 8) (C := RX8) (T := TX8) (N := 13) (ty0 := tyX8) (df := dfl8) Y hN rfl in8 tyX8_ok cl_X4_9 win_8 ini_8 dfv8 (Nat.le_of_ble_eq_true rfl) (Nat.le_of_ble_eq_true rfl) dX4_init_26 (fun H hP hD hS hsz hcs hZ => ?_)
  refine lv_dup hx hb dX4_init_29 rfl ?_
  obtain ⟨M16, hc16, h⟩ := bm_el h
  have hex16 : ∀ z ∈ ([(a, .inr (4, [.ref (a + 1), .int 0, .int 0, .int 0])), (a + 1, rQ E 17 (va_up (va_up (va_up (va_up (va_up (va_up (va_up (va_up (va_up (va_up (va_up (va_up (va_up (va_up (va_up (fun _ => none) 0 (some (a + 1 + 1 + 9 * 0))) 1 (some (a + 1 + 1 + 9 * 1))) 2 (some (a + 1 + 1 + 9 * 2))) 3 (some (a + 1 + 1 + 9 * 3))) 4 (some (a + 1 + 1 + 9 * 4))) 5 (some (a + 1 + 1 + 9 * 5))) 6 (some (a + 1 + 1 + 9 * 6))) 7 (some (a + 1 + 1 + 9 * 7))) 8 (some (a + 1 + 1 + 9 * 8))) 9 (some (a + 1 + 1 + 9 * 9))) 10 (some (a + 1 + 1 + 9 * 10))) 11 (some (a + 1 + 1 + 9 * 11))) 12 (some (a + 1 + 1 + 9 * 12))) 13 (some (a + 1 + 1 + 9 * 13))) 14 (some (a + 1 + 1 + 9 * 14))))] : va_W), z.1 < a + 137 := by
    intro z hz
    rcases List.mem_cons.mp hz with rfl | hz
    · show a < a + 137; omega
    · rw [List.mem_singleton] at hz; subst hz; show a + 1 < a + 137; omega
  refine n_callI (L' := nL8 (a + 137) (nL8 (a + 128) (nL8 (a + 119) (nL8 (a + 110) (nL8 (a + 101) (nL8 (a + 92) (nL8 (a + 83) (nL8 (a + 74) (nL8 (a + 65) (nL8 (a + 56) (nL8 (a + 47) (nL8 (a + 38) (nL8 (a + 29) (nL8 (a + 20) (nL8 (a + 11) (nL8 (a + 2) (L))))))))))))))))) (M' := M16) (ex := [(a, .inr (4, [.ref (a + 1), .int 0, .int 0, .int 0])), (a + 1, rQ E 17 (va_up (va_up (va_up (va_up (va_up (va_up (va_up (va_up (va_up (va_up (va_up (va_up (va_up (va_up (va_up (fun _ => none) 0 (some (a + 1 + 1 + 9 * 0))) 1 (some (a + 1 + 1 + 9 * 1))) 2 (some (a + 1 + 1 + 9 * 2))) 3 (some (a + 1 + 1 + 9 * 3))) 4 (some (a + 1 + 1 + 9 * 4))) 5 (some (a + 1 + 1 + 9 * 5))) 6 (some (a + 1 + 1 + 9 * 6))) 7 (some (a + 1 + 1 + 9 * 7))) 8 (some (a + 1 + 1 + 9 * 8))) 9 (some (a + 1 + 1 + 9 * 9))) 10 (some (a + 1 + 1 + 9 * 10))) 11 (some (a + 1 + 1 + 9 * 11))) 12 (some (a + 1 + 1 + 9 * 12))) 13 (some (a + 1 + 1 + 9 * 13))) 14 (some (a + 1 + 1 + 9 * 14))))]) (ci := 8) (df := dfl8) (mc := 8) (ms := 138) (As := []) (n := 0) Y hP hD hS hsz hcs (by decide) hex16 (iC8_Z hc16 (hZ.mono (by omega))) (nL8_last _ _) wci_8 (Or.inl mi_X4_17) wii_8 ini_8 rfl (by decide +kernel) (by decide) rfl hl.1 (kC8 fu d hZ hc16) ⟨by show _ ≤ d + 3; omega, by show _ ≤ 42 * (d + 3); omega, Nat.le_of_ble_eq_true rfl, Nat.le_of_ble_eq_true rfl⟩ (Nat.le_of_ble_eq_true rfl) dX4_init_30 (fun H locs hN => ?_)
  have hN : Nx s E [(a, .inr (4, [.ref (a + 1), .int 0, .int 0, .int 0])), (a + 1, rQ E 17 (va_up (va_up (va_up (va_up (va_up (va_up (va_up (va_up (va_up (va_up (va_up (va_up (va_up (va_up (va_up (fun _ => none) 0 (some (a + 1 + 1 + 9 * 0))) 1 (some (a + 1 + 1 + 9 * 1))) 2 (some (a + 1 + 1 + 9 * 2))) 3 (some (a + 1 + 1 + 9 * 3))) 4 (some (a + 1 + 1 + 9 * 4))) 5 (some (a + 1 + 1 + 9 * 5))) 6 (some (a + 1 + 1 + 9 * 6))) 7 (some (a + 1 + 1 + 9 * 7))) 8 (some (a + 1 + 1 + 9 * 8))) 9 (some (a + 1 + 1 + 9 * 9))) 10 (some (a + 1 + 1 + 9 * 10))) 11 (some (a + 1 + 1 + 9 * 11))) 12 (some (a + 1 + 1 + 9 * 12))) 13 (some (a + 1 + 1 + 9 * 13))) 14 (some (a + 1 + 1 + 9 * 14))))] (nL8 (a + 137) (nL8 (a + 128) (nL8 (a + 119) (nL8 (a + 110) (nL8 (a + 101) (nL8 (a + 92) (nL8 (a + 83) (nL8 (a + 74) (nL8 (a + 65) (nL8 (a + 56) (nL8 (a + 47) (nL8 (a + 38) (nL8 (a + 29) (nL8 (a + 20) (nL8 (a + 11) (nL8 (a + 2) (L))))))))))))))))) M16 (a + 146) 145 H locs := hN
  refine n_aast (i := 15) Y hN ((aL8 _ _).at0 rfl) (by decide +kernel) dX4_init_33 (fun H locs hN => ?_)
  have hN : Nx s E [(a, .inr (4, [.ref (a + 1), .int 0, .int 0, .int 0])), (a + 1, rQ E 17 (va_up (va_up (va_up (va_up (va_up (va_up (va_up (va_up (va_up (va_up (va_up (va_up (va_up (va_up (va_up (va_up (fun _ => none) 0 (some (a + 1 + 1 + 9 * 0))) 1 (some (a + 1 + 1 + 9 * 1))) 2 (some (a + 1 + 1 + 9 * 2))) 3 (some (a + 1 + 1 + 9 * 3))) 4 (some (a + 1 + 1 + 9 * 4))) 5 (some (a + 1 + 1 + 9 * 5))) 6 (some (a + 1 + 1 + 9 * 6))) 7 (some (a + 1 + 1 + 9 * 7))) 8 (some (a + 1 + 1 + 9 * 8))) 9 (some (a + 1 + 1 + 9 * 9))) 10 (some (a + 1 + 1 + 9 * 10))) 11 (some (a + 1 + 1 + 9 * 11))) 12 (some (a + 1 + 1 + 9 * 12))) 13 (some (a + 1 + 1 + 9 * 13))) 14 (some (a + 1 + 1 + 9 * 14))) 15 (some (a + 1 + 1 + 9 * 15))))] (nL8 (a + 137) (nL8 (a + 128) (nL8 (a + 119) (nL8 (a + 110) (nL8 (a + 101) (nL8 (a + 92) (nL8 (a + 83) (nL8 (a + 74) (nL8 (a + 65) (nL8 (a + 56) (nL8 (a + 47) (nL8 (a + 38) (nL8 (a + 29) (nL8 (a + 20) (nL8 (a + 11) (nL8 (a + 2) (L))))))))))))))))) M16 (a + 146) 145 H locs := hN
  refine lv_iinc (v := 16) (lv' := [(1, .int 16), (0, .ref a)]) hx hb dX4_init_34 hl (k := 0) rfl (by decide) (by decide) rfl (fun ls hl => ?_)
  refine lv_goto (tgt := 15) hx hb dX4_init_37 (by decide) ?_
  refine lv_iload_n hx hb dX4_init_15 rfl (lv_at hl 0 rfl) ?_
  refine lv_bipush (v := 16) hx hb dX4_init_16 (by decide) ?_
  refine lv_icmp_gt (tgt := 40) hx hb dX4_init_18 (by decide) (fun c0 => absurd c0 (by decide)) (fun _ => ?_)
  refine lv_aload_n hx hb dX4_init_21 rfl (lv_at hl 1 rfl) ?_
  refine n_get (ci := 4) (C := RX4) (T := TX4) (N := 4) (k := 0) Y hN rfl in4 (by decide) lk_X4_11 rfl dX4_init_22 ?_
  refine lv_iload_n hx hb dX4_init_25 rfl (lv_at hl 0 rfl) ?_
  refine n_new (ci := 8) (C := RX8) (T := TX8) (N := 13) (ty0 := tyX8) (df := dfl8) Y hN rfl in8 tyX8_ok cl_X4_9 win_8 ini_8 dfv8 (Nat.le_of_ble_eq_true rfl) (Nat.le_of_ble_eq_true rfl) dX4_init_26 (fun H hP hD hS hsz hcs hZ => ?_)
  refine lv_dup hx hb dX4_init_29 rfl ?_
  obtain ⟨M17, hc17, h⟩ := bm_el h
  have hex17 : ∀ z ∈ ([(a, .inr (4, [.ref (a + 1), .int 0, .int 0, .int 0])), (a + 1, rQ E 17 (va_up (va_up (va_up (va_up (va_up (va_up (va_up (va_up (va_up (va_up (va_up (va_up (va_up (va_up (va_up (va_up (fun _ => none) 0 (some (a + 1 + 1 + 9 * 0))) 1 (some (a + 1 + 1 + 9 * 1))) 2 (some (a + 1 + 1 + 9 * 2))) 3 (some (a + 1 + 1 + 9 * 3))) 4 (some (a + 1 + 1 + 9 * 4))) 5 (some (a + 1 + 1 + 9 * 5))) 6 (some (a + 1 + 1 + 9 * 6))) 7 (some (a + 1 + 1 + 9 * 7))) 8 (some (a + 1 + 1 + 9 * 8))) 9 (some (a + 1 + 1 + 9 * 9))) 10 (some (a + 1 + 1 + 9 * 10))) 11 (some (a + 1 + 1 + 9 * 11))) 12 (some (a + 1 + 1 + 9 * 12))) 13 (some (a + 1 + 1 + 9 * 13))) 14 (some (a + 1 + 1 + 9 * 14))) 15 (some (a + 1 + 1 + 9 * 15))))] : va_W), z.1 < a + 146 := by
    intro z hz
    rcases List.mem_cons.mp hz with rfl | hz
    · show a < a + 146; omega
    · rw [List.mem_singleton] at hz; subst hz; show a + 1 < a + 146; omega
  refine n_callI (L' := nL8 (a + 146) (nL8 (a + 137) (nL8 (a + 128) (nL8 (a + 119) (nL8 (a + 110) (nL8 (a + 101) (nL8 (a + 92) (nL8 (a + 83) (nL8 (a + 74) (nL8 (a + 65) (nL8 (a + 56) (nL8 (a + 47) (nL8 (a + 38) (nL8 (a + 29) (nL8 (a + 20) (nL8 (a + 11) (nL8 (a + 2) (L)))))))))))))))))) (M' := M17) (ex := [(a, .inr (4, [.ref (a + 1), .int 0, .int 0, .int 0])), (a + 1, rQ E 17 (va_up (va_up (va_up (va_up (va_up (va_up (va_up (va_up (va_up (va_up (va_up (va_up (va_up (va_up (va_up (va_up (fun _ => none) 0 (some (a + 1 + 1 + 9 * 0))) 1 (some (a + 1 + 1 + 9 * 1))) 2 (some (a + 1 + 1 + 9 * 2))) 3 (some (a + 1 + 1 + 9 * 3))) 4 (some (a + 1 + 1 + 9 * 4))) 5 (some (a + 1 + 1 + 9 * 5))) 6 (some (a + 1 + 1 + 9 * 6))) 7 (some (a + 1 + 1 + 9 * 7))) 8 (some (a + 1 + 1 + 9 * 8))) 9 (some (a + 1 + 1 + 9 * 9))) 10 (some (a + 1 + 1 + 9 * 10))) 11 (some (a + 1 + 1 + 9 * 11))) 12 (some (a + 1 + 1 + 9 * 12))) 13 (some (a + 1 + 1 + 9 * 13))) 14 (some (a + 1 + 1 + 9 * 14))) 15 (some (a + 1 + 1 + 9 * 15))))]) (ci := 8) (df := dfl8) (mc := 8) (ms := 138) (As := []) (n := 0) Y hP hD hS hsz hcs (by decide) hex17 (iC8_Z hc17 (hZ.mono (by omega))) (nL8_last _ _) wci_8 (Or.inl mi_X4_17) wii_8 ini_8 rfl (by decide +kernel) (by decide) rfl hl.1 (kC8 fu d hZ hc17) ⟨by show _ ≤ d + 3; omega, by show _ ≤ 42 * (d + 3); omega, Nat.le_of_ble_eq_true rfl, Nat.le_of_ble_eq_true rfl⟩ (Nat.le_of_ble_eq_true rfl) dX4_init_30 (fun H locs hN => ?_)
  have hN : Nx s E [(a, .inr (4, [.ref (a + 1), .int 0, .int 0, .int 0])), (a + 1, rQ E 17 (va_up (va_up (va_up (va_up (va_up (va_up (va_up (va_up (va_up (va_up (va_up (va_up (va_up (va_up (va_up (va_up (fun _ => none) 0 (some (a + 1 + 1 + 9 * 0))) 1 (some (a + 1 + 1 + 9 * 1))) 2 (some (a + 1 + 1 + 9 * 2))) 3 (some (a + 1 + 1 + 9 * 3))) 4 (some (a + 1 + 1 + 9 * 4))) 5 (some (a + 1 + 1 + 9 * 5))) 6 (some (a + 1 + 1 + 9 * 6))) 7 (some (a + 1 + 1 + 9 * 7))) 8 (some (a + 1 + 1 + 9 * 8))) 9 (some (a + 1 + 1 + 9 * 9))) 10 (some (a + 1 + 1 + 9 * 10))) 11 (some (a + 1 + 1 + 9 * 11))) 12 (some (a + 1 + 1 + 9 * 12))) 13 (some (a + 1 + 1 + 9 * 13))) 14 (some (a + 1 + 1 + 9 * 14))) 15 (some (a + 1 + 1 + 9 * 15))))] (nL8 (a + 146) (nL8 (a + 137) (nL8 (a + 128) (nL8 (a + 119) (nL8 (a + 110) (nL8 (a + 101) (nL8 (a + 92) (nL8 (a + 83) (nL8 (a + 74) (nL8 (a + 65) (nL8 (a + 56) (nL8 (a + 47) (nL8 (a + 38) (nL8 (a + 29) (nL8 (a + 20) (nL8 (a + 11) (nL8 (a + 2) (L)))))))))))))))))) M17 (a + 155) 154 H locs := hN
  refine n_aast (i := 16) Y hN ((aL8 _ _).at0 rfl) (by decide +kernel) dX4_init_33 (fun H locs hN => ?_)
  have hN : Nx s E [(a, .inr (4, [.ref (a + 1), .int 0, .int 0, .int 0])), (a + 1, rQ E 17 (va_up (va_up (va_up (va_up (va_up (va_up (va_up (va_up (va_up (va_up (va_up (va_up (va_up (va_up (va_up (va_up (va_up (fun _ => none) 0 (some (a + 1 + 1 + 9 * 0))) 1 (some (a + 1 + 1 + 9 * 1))) 2 (some (a + 1 + 1 + 9 * 2))) 3 (some (a + 1 + 1 + 9 * 3))) 4 (some (a + 1 + 1 + 9 * 4))) 5 (some (a + 1 + 1 + 9 * 5))) 6 (some (a + 1 + 1 + 9 * 6))) 7 (some (a + 1 + 1 + 9 * 7))) 8 (some (a + 1 + 1 + 9 * 8))) 9 (some (a + 1 + 1 + 9 * 9))) 10 (some (a + 1 + 1 + 9 * 10))) 11 (some (a + 1 + 1 + 9 * 11))) 12 (some (a + 1 + 1 + 9 * 12))) 13 (some (a + 1 + 1 + 9 * 13))) 14 (some (a + 1 + 1 + 9 * 14))) 15 (some (a + 1 + 1 + 9 * 15))) 16 (some (a + 1 + 1 + 9 * 16))))] (nL8 (a + 146) (nL8 (a + 137) (nL8 (a + 128) (nL8 (a + 119) (nL8 (a + 110) (nL8 (a + 101) (nL8 (a + 92) (nL8 (a + 83) (nL8 (a + 74) (nL8 (a + 65) (nL8 (a + 56) (nL8 (a + 47) (nL8 (a + 38) (nL8 (a + 29) (nL8 (a + 20) (nL8 (a + 11) (nL8 (a + 2) (L)))))))))))))))))) M17 (a + 155) 154 H locs := hN
  refine lv_iinc (v := 17) (lv' := [(1, .int 17), (0, .ref a)]) hx hb dX4_init_34 hl (k := 0) rfl (by decide) (by decide) rfl (fun ls hl => ?_)
  refine lv_goto (tgt := 15) hx hb dX4_init_37 (by decide) ?_
  refine lv_iload_n hx hb dX4_init_15 rfl (lv_at hl 0 rfl) ?_
  refine lv_bipush (v := 16) hx hb dX4_init_16 (by decide) ?_
  refine lv_icmp_gt (tgt := 40) hx hb dX4_init_18 (by decide) (fun _ => ?_) (fun c0 => absurd (by decide) c0)
  obtain ⟨M18, eM18, h⟩ := lt_el h
  have hN := hN.done (a := a) (k := 9) (n := 0) (M1 := M18) (by subst eM18; simp [cellOf, flds, pt, va_rf]) (by subst eM18; intro b hb; simp [pt, hb]) (by omega)
  have hN : Nx s E [(a + 1, rQ E 17 (va_up (va_up (va_up (va_up (va_up (va_up (va_up (va_up (va_up (va_up (va_up (va_up (va_up (va_up (va_up (va_up (va_up (fun _ => none) 0 (some (a + 1 + 1 + 9 * 0))) 1 (some (a + 1 + 1 + 9 * 1))) 2 (some (a + 1 + 1 + 9 * 2))) 3 (some (a + 1 + 1 + 9 * 3))) 4 (some (a + 1 + 1 + 9 * 4))) 5 (some (a + 1 + 1 + 9 * 5))) 6 (some (a + 1 + 1 + 9 * 6))) 7 (some (a + 1 + 1 + 9 * 7))) 8 (some (a + 1 + 1 + 9 * 8))) 9 (some (a + 1 + 1 + 9 * 9))) 10 (some (a + 1 + 1 + 9 * 10))) 11 (some (a + 1 + 1 + 9 * 11))) 12 (some (a + 1 + 1 + 9 * 12))) 13 (some (a + 1 + 1 + 9 * 13))) 14 (some (a + 1 + 1 + 9 * 14))) 15 (some (a + 1 + 1 + 9 * 15))) 16 (some (a + 1 + 1 + 9 * 16))))] ((a, (9, 0)) :: (nL8 (a + 146) (nL8 (a + 137) (nL8 (a + 128) (nL8 (a + 119) (nL8 (a + 110) (nL8 (a + 101) (nL8 (a + 92) (nL8 (a + 83) (nL8 (a + 74) (nL8 (a + 65) (nL8 (a + 56) (nL8 (a + 47) (nL8 (a + 38) (nL8 (a + 29) (nL8 (a + 20) (nL8 (a + 11) (nL8 (a + 2) (L))))))))))))))))))) M18 (a + 155) 154 H locs := hN
  have hN := hN.exq (f' := fun i => some (a + 1 + 1 + 9 * i)) (by intro j hj; rcases (show j = 0 ∨ j = 1 ∨ j = 2 ∨ j = 3 ∨ j = 4 ∨ j = 5 ∨ j = 6 ∨ j = 7 ∨ j = 8 ∨ j = 9 ∨ j = 10 ∨ j = 11 ∨ j = 12 ∨ j = 13 ∨ j = 14 ∨ j = 15 ∨ j = 16 by omega) with rfl | rfl | rfl | rfl | rfl | rfl | rfl | rfl | rfl | rfl | rfl | rfl | rfl | rfl | rfl | rfl | rfl <;> rfl)
  have hN := hN.done (a := a + 1) (k := 4) (n := 17) (M1 := M18) rfl (fun _ _ => ⟨rfl, rfl, rfl⟩) (by omega)
  have hN : Nx s E [] ((a + 1, (4, 17)) :: (a, (9, 0)) :: (nL8 (a + 146) (nL8 (a + 137) (nL8 (a + 128) (nL8 (a + 119) (nL8 (a + 110) (nL8 (a + 101) (nL8 (a + 92) (nL8 (a + 83) (nL8 (a + 74) (nL8 (a + 65) (nL8 (a + 56) (nL8 (a + 47) (nL8 (a + 38) (nL8 (a + 29) (nL8 (a + 20) (nL8 (a + 11) (nL8 (a + 2) (L))))))))))))))))))) M18 (a + 155) 154 H locs := hN
  cases h
  exact n_ret Y hN hs0 (by show _ ≤ 2584; omega) hr hlk dX4_init_40
