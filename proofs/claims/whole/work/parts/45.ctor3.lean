def dfl10 : List Value := [.null, .null, .null, .null, .null, .null, .null, .null, .null, .null, .null, .null, .null, .null, .int 0, .int 0, .int 0, .int 0, .int 0]
theorem dfv10 : ∀ j, j < 19 → defaultValue (tyX10 j) = vp_V dfl10 j := by decide +kernel
theorem wci_10 : Cond.code yX10_init cX10_init 2 none ∈ ws0 := tb_1 24 (by decide +kernel) rfl
theorem wii_10 : Cond.instanceMethod yX10_init ∈ ws0 := tb_1 23 (by decide +kernel) rfl
theorem win_10 : Cond.instantiable RX10 19 ∈ ws0 := tb_1 21 (by decide +kernel) rfl
theorem dX10_init_0 : decode cX10_init 0 = .ok (.aload_n 0, 1) := by decide +kernel
theorem dX10_init_1 : decode cX10_init 1 = .ok (.invokespecial 1, 3) := by decide +kernel
theorem dX10_init_4 : decode cX10_init 4 = .ok (.aload_n 0, 1) := by decide +kernel
theorem dX10_init_5 : decode cX10_init 5 = .ok (.new 7, 3) := by decide +kernel
theorem dX10_init_8 : decode cX10_init 8 = .ok (.dup, 1) := by decide +kernel
theorem dX10_init_9 : decode cX10_init 9 = .ok (.invokespecial 9, 3) := by decide +kernel
theorem dX10_init_12 : decode cX10_init 12 = .ok (.putfield 10, 3) := by decide +kernel
theorem dX10_init_15 : decode cX10_init 15 = .ok (.aload_n 0, 1) := by decide +kernel
theorem dX10_init_16 : decode cX10_init 16 = .ok (.new 16, 3) := by decide +kernel
theorem dX10_init_19 : decode cX10_init 19 = .ok (.dup, 1) := by decide +kernel
theorem dX10_init_20 : decode cX10_init 20 = .ok (.invokespecial 18, 3) := by decide +kernel
theorem dX10_init_23 : decode cX10_init 23 = .ok (.putfield 19, 3) := by decide +kernel
theorem dX10_init_26 : decode cX10_init 26 = .ok (.aload_n 0, 1) := by decide +kernel
theorem dX10_init_27 : decode cX10_init 27 = .ok (.new 23, 3) := by decide +kernel
theorem dX10_init_30 : decode cX10_init 30 = .ok (.dup, 1) := by decide +kernel
theorem dX10_init_31 : decode cX10_init 31 = .ok (.invokespecial 25, 3) := by decide +kernel
theorem dX10_init_34 : decode cX10_init 34 = .ok (.putfield 26, 3) := by decide +kernel
theorem dX10_init_37 : decode cX10_init 37 = .ok (.aload_n 0, 1) := by decide +kernel
theorem dX10_init_38 : decode cX10_init 38 = .ok (.getfield 26, 3) := by decide +kernel
theorem dX10_init_41 : decode cX10_init 41 = .ok (.aload_n 0, 1) := by decide +kernel
theorem dX10_init_42 : decode cX10_init 42 = .ok (.getfield 19, 3) := by decide +kernel
theorem dX10_init_45 : decode cX10_init 45 = .ok (.invokevirtual 30, 3) := by decide +kernel
theorem dX10_init_48 : decode cX10_init 48 = .ok (.aload_n 0, 1) := by decide +kernel
theorem dX10_init_49 : decode cX10_init 49 = .ok (.iconst 2, 1) := by decide +kernel
theorem dX10_init_50 : decode cX10_init 50 = .ok (.anewarray 16, 3) := by decide +kernel
theorem dX10_init_53 : decode cX10_init 53 = .ok (.putfield 34, 3) := by decide +kernel
theorem dX10_init_56 : decode cX10_init 56 = .ok (.iconst 0, 1) := by decide +kernel
theorem dX10_init_57 : decode cX10_init 57 = .ok (.istore_n 1, 1) := by decide +kernel
theorem dX10_init_58 : decode cX10_init 58 = .ok (.iload_n 1, 1) := by decide +kernel
theorem dX10_init_59 : decode cX10_init 59 = .ok (.iconst 2, 1) := by decide +kernel
theorem dX10_init_60 : decode cX10_init 60 = .ok (.if_icmp .ge 22, 3) := by decide +kernel
theorem dX10_init_63 : decode cX10_init 63 = .ok (.aload_n 0, 1) := by decide +kernel
theorem dX10_init_64 : decode cX10_init 64 = .ok (.getfield 34, 3) := by decide +kernel
theorem dX10_init_67 : decode cX10_init 67 = .ok (.iload_n 1, 1) := by decide +kernel
theorem dX10_init_68 : decode cX10_init 68 = .ok (.new 16, 3) := by decide +kernel
theorem dX10_init_71 : decode cX10_init 71 = .ok (.dup, 1) := by decide +kernel
theorem dX10_init_72 : decode cX10_init 72 = .ok (.invokespecial 18, 3) := by decide +kernel
theorem dX10_init_75 : decode cX10_init 75 = .ok (.aastore, 1) := by decide +kernel
theorem dX10_init_76 : decode cX10_init 76 = .ok (.iinc 1 1, 3) := by decide +kernel
theorem dX10_init_79 : decode cX10_init 79 = .ok (.goto (-21), 3) := by decide +kernel
theorem dX10_init_82 : decode cX10_init 82 = .ok (.aload_n 0, 1) := by decide +kernel
theorem dX10_init_83 : decode cX10_init 83 = .ok (.iconst 2, 1) := by decide +kernel
theorem dX10_init_84 : decode cX10_init 84 = .ok (.newarray .boolean, 2) := by decide +kernel
theorem dX10_init_86 : decode cX10_init 86 = .ok (.putfield 38, 3) := by decide +kernel
theorem dX10_init_89 : decode cX10_init 89 = .ok (.aload_n 0, 1) := by decide +kernel
theorem dX10_init_90 : decode cX10_init 90 = .ok (.new 42, 3) := by decide +kernel
theorem dX10_init_93 : decode cX10_init 93 = .ok (.dup, 1) := by decide +kernel
theorem dX10_init_94 : decode cX10_init 94 = .ok (.sipush 128, 3) := by decide +kernel
theorem dX10_init_97 : decode cX10_init 97 = .ok (.invokespecial 44, 3) := by decide +kernel
theorem dX10_init_100 : decode cX10_init 100 = .ok (.putfield 47, 3) := by decide +kernel
theorem dX10_init_103 : decode cX10_init 103 = .ok (.aload_n 0, 1) := by decide +kernel
theorem dX10_init_104 : decode cX10_init 104 = .ok (.new 51, 3) := by decide +kernel
theorem dX10_init_107 : decode cX10_init 107 = .ok (.dup, 1) := by decide +kernel
theorem dX10_init_108 : decode cX10_init 108 = .ok (.invokespecial 53, 3) := by decide +kernel
theorem dX10_init_111 : decode cX10_init 111 = .ok (.putfield 54, 3) := by decide +kernel
theorem dX10_init_114 : decode cX10_init 114 = .ok (.aload_n 0, 1) := by decide +kernel
theorem dX10_init_115 : decode cX10_init 115 = .ok (.new 58, 3) := by decide +kernel
theorem dX10_init_118 : decode cX10_init 118 = .ok (.dup, 1) := by decide +kernel
theorem dX10_init_119 : decode cX10_init 119 = .ok (.invokespecial 60, 3) := by decide +kernel
theorem dX10_init_122 : decode cX10_init 122 = .ok (.putfield 61, 3) := by decide +kernel
theorem dX10_init_125 : decode cX10_init 125 = .ok (.aload_n 0, 1) := by decide +kernel
theorem dX10_init_126 : decode cX10_init 126 = .ok (.new 65, 3) := by decide +kernel
theorem dX10_init_129 : decode cX10_init 129 = .ok (.dup, 1) := by decide +kernel
theorem dX10_init_130 : decode cX10_init 130 = .ok (.sipush 160, 3) := by decide +kernel
theorem dX10_init_133 : decode cX10_init 133 = .ok (.invokespecial 67, 3) := by decide +kernel
theorem dX10_init_136 : decode cX10_init 136 = .ok (.putfield 68, 3) := by decide +kernel
theorem dX10_init_139 : decode cX10_init 139 = .ok (.aload_n 0, 1) := by decide +kernel
theorem dX10_init_140 : decode cX10_init 140 = .ok (.new 65, 3) := by decide +kernel
theorem dX10_init_143 : decode cX10_init 143 = .ok (.dup, 1) := by decide +kernel
theorem dX10_init_144 : decode cX10_init 144 = .ok (.sipush 160, 3) := by decide +kernel
theorem dX10_init_147 : decode cX10_init 147 = .ok (.invokespecial 67, 3) := by decide +kernel
theorem dX10_init_150 : decode cX10_init 150 = .ok (.putfield 72, 3) := by decide +kernel
theorem dX10_init_153 : decode cX10_init 153 = .ok (.aload_n 0, 1) := by decide +kernel
theorem dX10_init_154 : decode cX10_init 154 = .ok (.bipush 64, 2) := by decide +kernel
theorem dX10_init_156 : decode cX10_init 156 = .ok (.newarray .int, 2) := by decide +kernel
theorem dX10_init_158 : decode cX10_init 158 = .ok (.putfield 75, 3) := by decide +kernel
theorem dX10_init_161 : decode cX10_init 161 = .ok (.aload_n 0, 1) := by decide +kernel
theorem dX10_init_162 : decode cX10_init 162 = .ok (.new 65, 3) := by decide +kernel
theorem dX10_init_165 : decode cX10_init 165 = .ok (.dup, 1) := by decide +kernel
theorem dX10_init_166 : decode cX10_init 166 = .ok (.bipush 10, 2) := by decide +kernel
theorem dX10_init_168 : decode cX10_init 168 = .ok (.invokespecial 67, 3) := by decide +kernel
theorem dX10_init_171 : decode cX10_init 171 = .ok (.putfield 79, 3) := by decide +kernel
theorem dX10_init_174 : decode cX10_init 174 = .ok (.aload_n 0, 1) := by decide +kernel
theorem dX10_init_175 : decode cX10_init 175 = .ok (.new 82, 3) := by decide +kernel
theorem dX10_init_178 : decode cX10_init 178 = .ok (.dup, 1) := by decide +kernel
theorem dX10_init_179 : decode cX10_init 179 = .ok (.invokespecial 84, 3) := by decide +kernel
theorem dX10_init_182 : decode cX10_init 182 = .ok (.putfield 85, 3) := by decide +kernel
theorem dX10_init_185 : decode cX10_init 185 = .ok (.return_, 1) := by decide +kernel
theorem ob_X10 : Cond.methodLink RX10 1 objectInit ∈ ws0 := tb_1 25 (by decide +kernel) rfl
theorem cl_X10_7 : Cond.classLink RX10 7 RX7 ∈ ws0 := tb_1 28 (by decide +kernel) rfl
theorem mi_X10_9 : Cond.methodLinkNest RX10 9 yX7_init "SpanKinds" ∈ nestW := tn_1 30 (by decide +kernel) rfl
theorem cl_X10_16 : Cond.classLink RX10 16 RX8 ∈ ws0 := tb_1 179 (by decide +kernel) rfl
theorem mi_X10_18 : Cond.methodLink RX10 18 yX8_init ∈ ws0 := tb_1 180 (by decide +kernel) rfl
theorem cl_X10_23 : Cond.classLink RX10 23 RX4 ∈ ws0 := tb_1 181 (by decide +kernel) rfl
theorem mi_X10_25 : Cond.methodLink RX10 25 yX4_init ∈ ws0 := tb_1 183 (by decide +kernel) rfl
theorem cl_X10_42 : Cond.classLink RX10 42 RX2 ∈ ws0 := tb_1 220 (by decide +kernel) rfl
theorem mi_X10_44 : Cond.methodLink RX10 44 yX2_init ∈ ws0 := tb_1 222 (by decide +kernel) rfl
theorem cl_X10_51 : Cond.classLink RX10 51 RX5 ∈ ws0 := tb_2 2 (by decide +kernel) rfl
theorem mi_X10_53 : Cond.methodLinkNest RX10 53 yX5_init "SpanKinds" ∈ nestW := tn_2 4 (by decide +kernel) rfl
theorem cl_X10_58 : Cond.classLink RX10 58 RX6 ∈ ws0 := tb_2 44 (by decide +kernel) rfl
theorem mi_X10_60 : Cond.methodLinkNest RX10 60 yX6_init "SpanKinds" ∈ nestW := tn_2 46 (by decide +kernel) rfl
theorem cl_X10_65 : Cond.classLink RX10 65 RX0 ∈ ws0 := tb_2 129 (by decide +kernel) rfl
theorem mi_X10_67 : Cond.methodLink RX10 67 yX0_init ∈ ws0 := tb_2 131 (by decide +kernel) rfl
theorem lk_X10_79 : Cond.fieldLink RX10 79 (TX10 11).1 (TX10 11).2.1 (TX10 11).2.2.1 ∈ ws0 := tb_2 224 (by decide +kernel) rfl
theorem cl_X10_82 : Cond.classLink RX10 82 RX1 ∈ ws0 := tb_2 159 (by decide +kernel) rfl
theorem mi_X10_84 : Cond.methodLinkNest RX10 84 yX1_init "SpanKinds" ∈ nestW := tn_2 161 (by decide +kernel) rfl
def nL10 (a : Nat) (L : Lay) : Lay := (a + 176, (4, 2)) :: (a, (15, 0)) :: (nL1 (a + 233) (nL0 (a + 229) 10 (nL0 (a + 224) 160 (nL0 (a + 220) 160 (nL6 (a + 206) (nL5 (a + 198) (nL2 (a + 196) 128 (nL8 (a + 186) (nL8 (a + 177) (nL4 (a + 21) (nL8 (a + 12) (nL7 (a + 1) (L))))) ++ [(a + 195, (1, 2))]))))) ++ [(a + 228, (0, 64))])))
theorem sL10 (a : Nat) (L : Lay) : ∀ p ∈ L, p ∈ nL10 a L := fun p hp => List.mem_cons_of_mem _ (List.mem_cons_of_mem _ (sL1 _ _ _ (sL0 _ _ _ _ (List.mem_append_left _ (sL0 _ _ _ _ (sL0 _ _ _ _ (sL6 _ _ _ (sL5 _ _ _ (sL2 _ _ _ _ (List.mem_append_left _ (sL8 _ _ _ (sL8 _ _ _ (sL4 _ _ _ (sL8 _ _ _ (sL7 _ _ _ (hp))))))))))))))))
def U10 : Lay := [(0, (15, 0))] ++ ([(176, (4, 2))] ++ ((shT 1 T7) ++ ((shT 12 T8) ++ ((shT 21 T4) ++ ((shT 177 T8) ++ ((shT 186 T8) ++ ([(195, (1, 2))] ++ ((shT 196 (T2 128)) ++ ((shT 198 T5) ++ ((shT 206 T6) ++ ((shT 220 (T0 160)) ++ ((shT 224 (T0 160)) ++ ([(228, (0, 64))] ++ ((shT 229 (T0 10)) ++ ((shT 233 T1))))))))))))))))
theorem U10_all : T10.all (fun p => U10.contains p) = true := by decide +kernel
theorem aU10 (a : Nat) (L : Lay) : At (nL10 a L) a U10 := At.app (At.one (k := 0) ((List.mem_cons_of_mem _ List.mem_cons_self))) (At.app (At.one (k := 176) List.mem_cons_self) (At.app (At.shift (k := 1) (((((((((((((((aL7 _ _).mono (sL8 _ _)).mono (sL4 _ _)).mono (sL8 _ _)).mono (sL8 _ _)).mono (fun _ h => List.mem_append_left _ h)).mono (sL2 _ _ _)).mono (sL5 _ _)).mono (sL6 _ _)).mono (sL0 _ _ _)).mono (sL0 _ _ _)).mono (fun _ h => List.mem_append_left _ h)).mono (sL0 _ _ _)).mono (sL1 _ _)).mono (fun _ h => List.mem_cons_of_mem _ (List.mem_cons_of_mem _ (h))))) (At.app (At.shift (k := 12) ((((((((((((((aL8 _ _).mono (sL4 _ _)).mono (sL8 _ _)).mono (sL8 _ _)).mono (fun _ h => List.mem_append_left _ h)).mono (sL2 _ _ _)).mono (sL5 _ _)).mono (sL6 _ _)).mono (sL0 _ _ _)).mono (sL0 _ _ _)).mono (fun _ h => List.mem_append_left _ h)).mono (sL0 _ _ _)).mono (sL1 _ _)).mono (fun _ h => List.mem_cons_of_mem _ (List.mem_cons_of_mem _ (h))))) (At.app (At.shift (k := 21) (((((((((((((aL4 _ _).mono (sL8 _ _)).mono (sL8 _ _)).mono (fun _ h => List.mem_append_left _ h)).mono (sL2 _ _ _)).mono (sL5 _ _)).mono (sL6 _ _)).mono (sL0 _ _ _)).mono (sL0 _ _ _)).mono (fun _ h => List.mem_append_left _ h)).mono (sL0 _ _ _)).mono (sL1 _ _)).mono (fun _ h => List.mem_cons_of_mem _ (List.mem_cons_of_mem _ (h))))) (At.app (At.shift (k := 177) ((((((((((((aL8 _ _).mono (sL8 _ _)).mono (fun _ h => List.mem_append_left _ h)).mono (sL2 _ _ _)).mono (sL5 _ _)).mono (sL6 _ _)).mono (sL0 _ _ _)).mono (sL0 _ _ _)).mono (fun _ h => List.mem_append_left _ h)).mono (sL0 _ _ _)).mono (sL1 _ _)).mono (fun _ h => List.mem_cons_of_mem _ (List.mem_cons_of_mem _ (h))))) (At.app (At.shift (k := 186) (((((((((((aL8 _ _).mono (fun _ h => List.mem_append_left _ h)).mono (sL2 _ _ _)).mono (sL5 _ _)).mono (sL6 _ _)).mono (sL0 _ _ _)).mono (sL0 _ _ _)).mono (fun _ h => List.mem_append_left _ h)).mono (sL0 _ _ _)).mono (sL1 _ _)).mono (fun _ h => List.mem_cons_of_mem _ (List.mem_cons_of_mem _ (h))))) (At.app (At.one (k := 195) (List.mem_cons_of_mem _ (List.mem_cons_of_mem _ (sL1 _ _ _ (sL0 _ _ _ _ (List.mem_append_left _ (sL0 _ _ _ _ (sL0 _ _ _ _ (sL6 _ _ _ (sL5 _ _ _ (sL2 _ _ _ _ (List.mem_append_right _ (List.mem_singleton.mpr rfl))))))))))))) (At.app (At.shift (k := 196) (((((((((aL2 _ _ _).mono (sL5 _ _)).mono (sL6 _ _)).mono (sL0 _ _ _)).mono (sL0 _ _ _)).mono (fun _ h => List.mem_append_left _ h)).mono (sL0 _ _ _)).mono (sL1 _ _)).mono (fun _ h => List.mem_cons_of_mem _ (List.mem_cons_of_mem _ (h))))) (At.app (At.shift (k := 198) ((((((((aL5 _ _).mono (sL6 _ _)).mono (sL0 _ _ _)).mono (sL0 _ _ _)).mono (fun _ h => List.mem_append_left _ h)).mono (sL0 _ _ _)).mono (sL1 _ _)).mono (fun _ h => List.mem_cons_of_mem _ (List.mem_cons_of_mem _ (h))))) (At.app (At.shift (k := 206) (((((((aL6 _ _).mono (sL0 _ _ _)).mono (sL0 _ _ _)).mono (fun _ h => List.mem_append_left _ h)).mono (sL0 _ _ _)).mono (sL1 _ _)).mono (fun _ h => List.mem_cons_of_mem _ (List.mem_cons_of_mem _ (h))))) (At.app (At.shift (k := 220) ((((((aL0 _ _ _).mono (sL0 _ _ _)).mono (fun _ h => List.mem_append_left _ h)).mono (sL0 _ _ _)).mono (sL1 _ _)).mono (fun _ h => List.mem_cons_of_mem _ (List.mem_cons_of_mem _ (h))))) (At.app (At.shift (k := 224) (((((aL0 _ _ _).mono (fun _ h => List.mem_append_left _ h)).mono (sL0 _ _ _)).mono (sL1 _ _)).mono (fun _ h => List.mem_cons_of_mem _ (List.mem_cons_of_mem _ (h))))) (At.app (At.one (k := 228) (List.mem_cons_of_mem _ (List.mem_cons_of_mem _ (sL1 _ _ _ (sL0 _ _ _ _ (List.mem_append_right _ (List.mem_singleton.mpr rfl))))))) (At.app (At.shift (k := 229) (((aL0 _ _ _).mono (sL1 _ _)).mono (fun _ h => List.mem_cons_of_mem _ (List.mem_cons_of_mem _ (h))))) (At.shift (k := 233) ((aL1 _ _).mono (fun _ h => List.mem_cons_of_mem _ (List.mem_cons_of_mem _ (h)))))))))))))))))))
theorem aL10 (a : Nat) (L : Lay) : At (nL10 a L) a T10 := fun p hp => aU10 a L p (List.contains_iff_mem.mp (List.all_eq_true.mp U10_all p hp))
theorem nL10_last (a : Nat) (L : Lay) : ∃ p ∈ nL10 a L, p.1 = a + 240 := ⟨(a + 240, (3, 64)), aL10 a L (240, (3, 64)) (List.contains_iff_mem.mp (show T10.contains _ = true by decide +kernel)), rfl⟩
def iC10 (fu a : Nat) (M : Mm) : Option Mm :=
  bm (iC7 fu (a + 1) M) fun M1 =>
  bm (iC8 fu (a + 12) M1) fun M2 =>
  bm (iC4 fu (a + 21) M2) fun M3 =>
  bm (fX4_begin fu (a + 21) (a + 12) M3) fun M4a =>
  lt (trunc (a + 176) M4a) fun M4 =>
  bm (iC8 fu (a + 177) M4) fun M5 =>
  bm (iC8 fu (a + 186) M5) fun M6 =>
  bm (iC2 fu (a + 196) M6) fun M7 =>
  bm (iC5 fu (a + 198) M7) fun M8 =>
  bm (iC6 fu (a + 206) M8) fun M9 =>
  bm (iC0 fu (a + 220) M9) fun M10 =>
  bm (iC0 fu (a + 224) M10) fun M11 =>
  bm (iC0 fu (a + 229) M11) fun M12 =>
  bm (iC1 fu (a + 233) M12) fun M13 =>
  lt (pt a (fun _ => 0) M13) fun M14 =>
  some M14
theorem iC10_Z {fu a : Nat} {M M' : Mm} (h : iC10 fu a M = some M') (hZ : Zr (a + 1) M) : Zr (a + 1 + 240) M' := by
  unfold iC10 at h
  obtain ⟨M1, hcM1, h⟩ := bm_el h
  have zM1 := iC7_Z hcM1 (hZ.mono (by omega))
  obtain ⟨M2, hcM2, h⟩ := bm_el h
  have zM2 := iC8_Z hcM2 ((zM1).mono (by omega))
  obtain ⟨M3, hcM3, h⟩ := bm_el h
  have zM3 := iC4_Z hcM3 ((zM2).mono (by omega))
  obtain ⟨M4a, hcM4a, h⟩ := bm_el h
  obtain ⟨M4, eM4, h⟩ := lt_el h
  have zM4 : Zr (a + 176) M4 := by rw [eM4]; exact trunc_Zr _ _
  obtain ⟨M5, hcM5, h⟩ := bm_el h
  have zM5 := iC8_Z hcM5 ((zM4).mono (by omega))
  obtain ⟨M6, hcM6, h⟩ := bm_el h
  have zM6 := iC8_Z hcM6 ((zM5).mono (by omega))
  obtain ⟨M7, hcM7, h⟩ := bm_el h
  have zM7 := iC2_Z hcM7 ((zM6).mono (by omega))
  obtain ⟨M8, hcM8, h⟩ := bm_el h
  have zM8 := iC5_Z hcM8 ((zM7).mono (by omega))
  obtain ⟨M9, hcM9, h⟩ := bm_el h
  have zM9 := iC6_Z hcM9 ((zM8).mono (by omega))
  obtain ⟨M10, hcM10, h⟩ := bm_el h
  have zM10 := iC0_Z hcM10 ((zM9).mono (by omega))
  obtain ⟨M11, hcM11, h⟩ := bm_el h
  have zM11 := iC0_Z hcM11 ((zM10).mono (by omega))
  obtain ⟨M12, hcM12, h⟩ := bm_el h
  have zM12 := iC0_Z hcM12 ((zM11).mono (by omega))
  obtain ⟨M13, hcM13, h⟩ := bm_el h
  have zM13 := iC1_Z hcM13 ((zM12).mono (by omega))
  obtain ⟨M14, eM14, h⟩ := lt_el h
  have zM14 : Zr (a + 1 + 240) M14 := by rw [eM14]; exact pt_Zr ((zM13).mono (by omega)) (by omega)
  cases h
  exact zM14
set_option maxRecDepth 100000 in
set_option maxHeartbeats 4000000 in
theorem kC10 {l : Launch} {E : Ge} (fu d : Nat) {a : Nat} {L : Lay} {M M' : Mm} (hZ0 : Zr a M) (h : iC10 fu a M = some M') : Cn l E 10 dfl10 yX10_init cX10_init 2 (d + 4) 240 (11776) a [] L M (nL10 a L) M' := by
  refine Cn.of (by decide) hZ0 ?_
  intro p e s m below meth c hr hlk hnm Y hs0 hN
  have Y : By p s m _ c cX10_init 2 RX10 E := Y
  have hx := Y.1
  have hb := Y.2.1
  have hin : meth.name = "<init>" := hnm
  have hl := lv_entry ([.ref a]) (n := 2) (Nat.le_of_ble_eq_true rfl)
  rw [lg_entry_eq]
  generalize (lg_sl ([.ref a]) ++ List.replicate (2 - (lg_sl ([.ref a])).length) Slot.unset).toArray = ls at hl ⊢
  have hl : lv_has ls 2 [(0, .ref a)] := hl
  unfold iC10 at h
  have hN : Nx s E [(a, .inr (10, [.null, .null, .null, .null, .null, .null, .null, .null, .null, .null, .null, .null, .null, .null, .int 0, .int 0, .int 0, .int 0, .int 0]))] L M (a + 1) 0 s.heap [] := hN
  refine lv_aload_n hx hb dX10_init_0 rfl (lv_at hl 0 rfl) ?_
  refine n_obj Y ob_X10 hl.1 dX10_init_1 (by show 1 ≤ d + 4; omega) (by show 0 + 12 ≤ 42 * (d + 4); omega) ?_
  refine lv_aload_n hx hb dX10_init_4 rfl (lv_at hl 0 rfl) ?_
  refine n_new (ci := 7) (C := RX7) (T := TX7) (N := 14) (ty0 := tyX7) (df := dfl7) Y hN rfl in7 tyX7_ok cl_X10_7 win_7 ini_7 dfv7 (Nat.le_of_ble_eq_true rfl) (Nat.le_of_ble_eq_true rfl) dX10_init_5 (fun H hP hD hS hsz hcs hZ => ?_)
  refine lv_dup hx hb dX10_init_8 rfl ?_
  obtain ⟨M1, hc1, h⟩ := bm_el h
  have hex1 : ∀ z ∈ ([(a, .inr (10, [.null, .null, .null, .null, .null, .null, .null, .null, .null, .null, .null, .null, .null, .null, .int 0, .int 0, .int 0, .int 0, .int 0]))] : va_W), z.1 < a + 1 := by
    intro z hz
    rw [List.mem_singleton] at hz; subst hz; show a < a + 1; omega
  refine n_callI (L' := nL7 (a + 1) (L)) (M' := M1) (ex := [(a, .inr (10, [.null, .null, .null, .null, .null, .null, .null, .null, .null, .null, .null, .null, .null, .null, .int 0, .int 0, .int 0, .int 0, .int 0]))]) (ci := 7) (df := dfl7) (mc := 10) (ms := 951) (As := []) (n := 0) Y hP hD hS hsz hcs (by decide) hex1 (iC7_Z hc1 (hZ.mono (by omega))) (nL7_last _ _) wci_7 (Or.inr mi_X10_9) wii_7 ini_7 rfl (by decide +kernel) (by decide) rfl hl.1 (kC7 fu d hZ hc1) ⟨by show _ ≤ d + 4; omega, by show _ ≤ 42 * (d + 4); omega, Nat.le_of_ble_eq_true rfl, Nat.le_of_ble_eq_true rfl⟩ (Nat.le_of_ble_eq_true rfl) dX10_init_9 (fun H locs hN => ?_)
  have hN : Nx s E [(a, .inr (10, [.null, .null, .null, .null, .null, .null, .null, .null, .null, .null, .null, .null, .null, .null, .int 0, .int 0, .int 0, .int 0, .int 0]))] (nL7 (a + 1) (L)) M1 (a + 12) 11 H locs := hN
  refine n_putF (er := []) (ci := 10) (C := RX10) (T := TX10) (N := 19) (k := 0) (ty0 := tyX10) (fs := [.null, .null, .null, .null, .null, .null, .null, .null, .null, .null, .null, .null, .null, .null, .int 0, .int 0, .int 0, .int 0, .int 0]) (fs' := [.ref (a + 1), .null, .null, .null, .null, .null, .null, .null, .null, .null, .null, .null, .null, .null, .int 0, .int 0, .int 0, .int 0, .int 0]) Y hN rfl in10 tyX10_ok nmX10 (by decide) lk_X10_10 rfl hin rfl rfl rfl (Nat.le_of_ble_eq_true rfl) rfl dX10_init_12 (fun H locs hN => ?_)
  have hN : Nx s E [(a, .inr (10, [.ref (a + 1), .null, .null, .null, .null, .null, .null, .null, .null, .null, .null, .null, .null, .null, .int 0, .int 0, .int 0, .int 0, .int 0]))] (nL7 (a + 1) (L)) M1 (a + 12) 11 H locs := hN
  refine lv_aload_n hx hb dX10_init_15 rfl (lv_at hl 0 rfl) ?_
  refine n_new (ci := 8) (C := RX8) (T := TX8) (N := 13) (ty0 := tyX8) (df := dfl8) Y hN rfl in8 tyX8_ok cl_X10_16 win_8 ini_8 dfv8 (Nat.le_of_ble_eq_true rfl) (Nat.le_of_ble_eq_true rfl) dX10_init_16 (fun H hP hD hS hsz hcs hZ => ?_)
  refine lv_dup hx hb dX10_init_19 rfl ?_
  obtain ⟨M2, hc2, h⟩ := bm_el h
  have hex2 : ∀ z ∈ ([(a, .inr (10, [.ref (a + 1), .null, .null, .null, .null, .null, .null, .null, .null, .null, .null, .null, .null, .null, .int 0, .int 0, .int 0, .int 0, .int 0]))] : va_W), z.1 < a + 12 := by
    intro z hz
    rw [List.mem_singleton] at hz; subst hz; show a < a + 12; omega
  refine n_callI (L' := nL8 (a + 12) (nL7 (a + 1) (L))) (M' := M2) (ex := [(a, .inr (10, [.ref (a + 1), .null, .null, .null, .null, .null, .null, .null, .null, .null, .null, .null, .null, .null, .int 0, .int 0, .int 0, .int 0, .int 0]))]) (ci := 8) (df := dfl8) (mc := 8) (ms := 138) (As := []) (n := 0) Y hP hD hS hsz hcs (by decide) hex2 (iC8_Z hc2 (hZ.mono (by omega))) (nL8_last _ _) wci_8 (Or.inl mi_X10_18) wii_8 ini_8 rfl (by decide +kernel) (by decide) rfl hl.1 (kC8 fu d hZ hc2) ⟨by show _ ≤ d + 4; omega, by show _ ≤ 42 * (d + 4); omega, Nat.le_of_ble_eq_true rfl, Nat.le_of_ble_eq_true rfl⟩ (Nat.le_of_ble_eq_true rfl) dX10_init_20 (fun H locs hN => ?_)
  have hN : Nx s E [(a, .inr (10, [.ref (a + 1), .null, .null, .null, .null, .null, .null, .null, .null, .null, .null, .null, .null, .null, .int 0, .int 0, .int 0, .int 0, .int 0]))] (nL8 (a + 12) (nL7 (a + 1) (L))) M2 (a + 21) 20 H locs := hN
  refine n_putF (er := []) (ci := 10) (C := RX10) (T := TX10) (N := 19) (k := 1) (ty0 := tyX10) (fs := [.ref (a + 1), .null, .null, .null, .null, .null, .null, .null, .null, .null, .null, .null, .null, .null, .int 0, .int 0, .int 0, .int 0, .int 0]) (fs' := [.ref (a + 1), .ref (a + 12), .null, .null, .null, .null, .null, .null, .null, .null, .null, .null, .null, .null, .int 0, .int 0, .int 0, .int 0, .int 0]) Y hN rfl in10 tyX10_ok nmX10 (by decide) lk_X10_19 rfl hin rfl rfl rfl (Nat.le_of_ble_eq_true rfl) rfl dX10_init_23 (fun H locs hN => ?_)
  have hN : Nx s E [(a, .inr (10, [.ref (a + 1), .ref (a + 12), .null, .null, .null, .null, .null, .null, .null, .null, .null, .null, .null, .null, .int 0, .int 0, .int 0, .int 0, .int 0]))] (nL8 (a + 12) (nL7 (a + 1) (L))) M2 (a + 21) 20 H locs := hN
  refine lv_aload_n hx hb dX10_init_26 rfl (lv_at hl 0 rfl) ?_
  refine n_new (ci := 4) (C := RX4) (T := TX4) (N := 4) (ty0 := tyX4) (df := dfl4) Y hN rfl in4 tyX4_ok cl_X10_23 win_4 ini_4 dfv4 (Nat.le_of_ble_eq_true rfl) (Nat.le_of_ble_eq_true rfl) dX10_init_27 (fun H hP hD hS hsz hcs hZ => ?_)
  refine lv_dup hx hb dX10_init_30 rfl ?_
  obtain ⟨M3, hc3, h⟩ := bm_el h
  have hex3 : ∀ z ∈ ([(a, .inr (10, [.ref (a + 1), .ref (a + 12), .null, .null, .null, .null, .null, .null, .null, .null, .null, .null, .null, .null, .int 0, .int 0, .int 0, .int 0, .int 0]))] : va_W), z.1 < a + 21 := by
    intro z hz
    rw [List.mem_singleton] at hz; subst hz; show a < a + 21; omega
  refine n_callI (L' := nL4 (a + 21) (nL8 (a + 12) (nL7 (a + 1) (L)))) (M' := M3) (ex := [(a, .inr (10, [.ref (a + 1), .ref (a + 12), .null, .null, .null, .null, .null, .null, .null, .null, .null, .null, .null, .null, .int 0, .int 0, .int 0, .int 0, .int 0]))]) (ci := 4) (df := dfl4) (mc := 154) (ms := 2584) (As := []) (n := 0) Y hP hD hS hsz hcs (by decide) hex3 (iC4_Z hc3 (hZ.mono (by omega))) (nL4_last _ _) wci_4 (Or.inl mi_X10_25) wii_4 ini_4 rfl (by decide +kernel) (by decide) rfl hl.1 (kC4 fu d hZ hc3) ⟨by show _ ≤ d + 4; omega, by show _ ≤ 42 * (d + 4); omega, Nat.le_of_ble_eq_true rfl, Nat.le_of_ble_eq_true rfl⟩ (Nat.le_of_ble_eq_true rfl) dX10_init_31 (fun H locs hN => ?_)
  have hN : Nx s E [(a, .inr (10, [.ref (a + 1), .ref (a + 12), .null, .null, .null, .null, .null, .null, .null, .null, .null, .null, .null, .null, .int 0, .int 0, .int 0, .int 0, .int 0]))] (nL4 (a + 21) (nL8 (a + 12) (nL7 (a + 1) (L)))) M3 (a + 176) 175 H locs := hN
  refine n_putF (er := []) (ci := 10) (C := RX10) (T := TX10) (N := 19) (k := 2) (ty0 := tyX10) (fs := [.ref (a + 1), .ref (a + 12), .null, .null, .null, .null, .null, .null, .null, .null, .null, .null, .null, .null, .int 0, .int 0, .int 0, .int 0, .int 0]) (fs' := [.ref (a + 1), .ref (a + 12), .ref (a + 21), .null, .null, .null, .null, .null, .null, .null, .null, .null, .null, .null, .int 0, .int 0, .int 0, .int 0, .int 0]) Y hN rfl in10 tyX10_ok nmX10 (by decide) lk_X10_26 rfl hin rfl rfl rfl (Nat.le_of_ble_eq_true rfl) rfl dX10_init_34 (fun H locs hN => ?_)
  have hN : Nx s E [(a, .inr (10, [.ref (a + 1), .ref (a + 12), .ref (a + 21), .null, .null, .null, .null, .null, .null, .null, .null, .null, .null, .null, .int 0, .int 0, .int 0, .int 0, .int 0]))] (nL4 (a + 21) (nL8 (a + 12) (nL7 (a + 1) (L)))) M3 (a + 176) 175 H locs := hN
  refine lv_aload_n hx hb dX10_init_37 rfl (lv_at hl 0 rfl) ?_
  refine n_get (ci := 10) (C := RX10) (T := TX10) (N := 19) (k := 2) Y hN rfl in10 (by decide) lk_X10_26 rfl dX10_init_38 ?_
  refine lv_aload_n hx hb dX10_init_41 rfl (lv_at hl 0 rfl) ?_
  refine n_get (ci := 10) (C := RX10) (T := TX10) (N := 19) (k := 1) Y hN rfl in10 (by decide) lk_X10_19 rfl dX10_init_42 ?_
  obtain ⟨M4a, hcM4a, h⟩ := bm_el h
  obtain ⟨M4, eM4, h⟩ := lt_el h
  refine n_call (ck := 4) (C := RX4) (T := TX4) (N := 4) (As := [.ref (a + 12)]) (n := 1) (r := none) Y hN rfl wc_X4_begin ml_X10_30 wi_X4_begin we_X4_begin ini_4 (by decide +kernel) (by decide) ((aL4 _ _).at0 rfl) rfl hl.1 (mX4_begin fu d (aL4 _ _) ((aL8 _ _).mono (sL4 _ _)) hcM4a) ⟨by show _ ≤ d + 4; omega, by show _ ≤ 42 * (d + 4); omega, Nat.le_of_ble_eq_true rfl, Nat.le_of_ble_eq_true rfl⟩ (Nat.le_of_ble_eq_true rfl) dX10_init_45 (fun H locs hN => ?_)
  rw [← eM4] at hN
  have hN : Nx s E [(a, .inr (10, [.ref (a + 1), .ref (a + 12), .ref (a + 21), .null, .null, .null, .null, .null, .null, .null, .null, .null, .null, .null, .int 0, .int 0, .int 0, .int 0, .int 0]))] (nL4 (a + 21) (nL8 (a + 12) (nL7 (a + 1) (L)))) M4 (a + 176) 175 H locs := hN
  refine lv_aload_n hx hb dX10_init_48 rfl (lv_at hl 0 rfl) ?_
  refine lv_iconst (v := 2) hx hb dX10_init_49 (by decide) ?_
  refine n_anew (N := 2) Y hN cl_X10_16 ao_8 (by decide) (by decide +kernel) (Nat.le_of_ble_eq_true rfl) (Nat.le_of_ble_eq_true rfl) (Nat.le_of_ble_eq_true rfl) dX10_init_50 (fun H hN => ?_)
  have hN : Nx s E [(a, .inr (10, [.ref (a + 1), .ref (a + 12), .ref (a + 21), .null, .null, .null, .null, .null, .null, .null, .null, .null, .null, .null, .int 0, .int 0, .int 0, .int 0, .int 0])), (a + 176, rQ E 2 (fun _ => none))] (nL4 (a + 21) (nL8 (a + 12) (nL7 (a + 1) (L)))) M4 (a + 177) 176 H locs := hN
  refine n_putF (er := [(a + 176, rQ E 2 (fun _ => none))]) (ci := 10) (C := RX10) (T := TX10) (N := 19) (k := 3) (ty0 := tyX10) (fs := [.ref (a + 1), .ref (a + 12), .ref (a + 21), .null, .null, .null, .null, .null, .null, .null, .null, .null, .null, .null, .int 0, .int 0, .int 0, .int 0, .int 0]) (fs' := [.ref (a + 1), .ref (a + 12), .ref (a + 21), .ref (a + 176), .null, .null, .null, .null, .null, .null, .null, .null, .null, .null, .int 0, .int 0, .int 0, .int 0, .int 0]) Y hN rfl in10 tyX10_ok nmX10 (by decide) lk_X10_34 rfl hin rfl rfl rfl (Nat.le_of_ble_eq_true rfl) rfl dX10_init_53 (fun H locs hN => ?_)
  have hN : Nx s E [(a, .inr (10, [.ref (a + 1), .ref (a + 12), .ref (a + 21), .ref (a + 176), .null, .null, .null, .null, .null, .null, .null, .null, .null, .null, .int 0, .int 0, .int 0, .int 0, .int 0])), (a + 176, rQ E 2 (fun _ => none))] (nL4 (a + 21) (nL8 (a + 12) (nL7 (a + 1) (L)))) M4 (a + 177) 176 H locs := hN
  refine lv_iconst (v := 0) hx hb dX10_init_56 (by decide) ?_
  refine lv_istore_n (lv' := [(1, .int 0), (0, .ref a)]) hx hb dX10_init_57 rfl hl (by decide) rfl (fun ls hl => ?_)
  refine lv_iload_n hx hb dX10_init_58 rfl (lv_at hl 0 rfl) ?_
  refine lv_iconst (v := 2) hx hb dX10_init_59 (by decide) ?_
  refine lv_icmp_ge (tgt := 82) hx hb dX10_init_60 (by decide) (fun c0 => absurd c0 (by decide)) (fun _ => ?_)
  refine lv_aload_n hx hb dX10_init_63 rfl (lv_at hl 1 rfl) ?_
  refine n_get (ci := 10) (C := RX10) (T := TX10) (N := 19) (k := 3) Y hN rfl in10 (by decide) lk_X10_34 rfl dX10_init_64 ?_
  refine lv_iload_n hx hb dX10_init_67 rfl (lv_at hl 0 rfl) ?_
  refine n_new (ci := 8) (C := RX8) (T := TX8) (N := 13) (ty0 := tyX8) (df := dfl8) Y hN rfl in8 tyX8_ok cl_X10_16 win_8 ini_8 dfv8 (Nat.le_of_ble_eq_true rfl) (Nat.le_of_ble_eq_true rfl) dX10_init_68 (fun H hP hD hS hsz hcs hZ => ?_)
  refine lv_dup hx hb dX10_init_71 rfl ?_
  obtain ⟨M5, hc5, h⟩ := bm_el h
  have hex5 : ∀ z ∈ ([(a, .inr (10, [.ref (a + 1), .ref (a + 12), .ref (a + 21), .ref (a + 176), .null, .null, .null, .null, .null, .null, .null, .null, .null, .null, .int 0, .int 0, .int 0, .int 0, .int 0])), (a + 176, rQ E 2 (fun _ => none))] : va_W), z.1 < a + 177 := by
    intro z hz
    rcases List.mem_cons.mp hz with rfl | hz
    · show a < a + 177; omega
    · rw [List.mem_singleton] at hz; subst hz; show a + 176 < a + 177; omega
  refine n_callI (L' := nL8 (a + 177) (nL4 (a + 21) (nL8 (a + 12) (nL7 (a + 1) (L))))) (M' := M5) (ex := [(a, .inr (10, [.ref (a + 1), .ref (a + 12), .ref (a + 21), .ref (a + 176), .null, .null, .null, .null, .null, .null, .null, .null, .null, .null, .int 0, .int 0, .int 0, .int 0, .int 0])), (a + 176, rQ E 2 (fun _ => none))]) (ci := 8) (df := dfl8) (mc := 8) (ms := 138) (As := []) (n := 0) Y hP hD hS hsz hcs (by decide) hex5 (iC8_Z hc5 (hZ.mono (by omega))) (nL8_last _ _) wci_8 (Or.inl mi_X10_18) wii_8 ini_8 rfl (by decide +kernel) (by decide) rfl hl.1 (kC8 fu d hZ hc5) ⟨by show _ ≤ d + 4; omega, by show _ ≤ 42 * (d + 4); omega, Nat.le_of_ble_eq_true rfl, Nat.le_of_ble_eq_true rfl⟩ (Nat.le_of_ble_eq_true rfl) dX10_init_72 (fun H locs hN => ?_)
  have hN : Nx s E [(a, .inr (10, [.ref (a + 1), .ref (a + 12), .ref (a + 21), .ref (a + 176), .null, .null, .null, .null, .null, .null, .null, .null, .null, .null, .int 0, .int 0, .int 0, .int 0, .int 0])), (a + 176, rQ E 2 (fun _ => none))] (nL8 (a + 177) (nL4 (a + 21) (nL8 (a + 12) (nL7 (a + 1) (L))))) M5 (a + 186) 185 H locs := hN
  refine n_aast (i := 0) Y hN ((aL8 _ _).at0 rfl) (by decide +kernel) dX10_init_75 (fun H locs hN => ?_)
  have hN : Nx s E [(a, .inr (10, [.ref (a + 1), .ref (a + 12), .ref (a + 21), .ref (a + 176), .null, .null, .null, .null, .null, .null, .null, .null, .null, .null, .int 0, .int 0, .int 0, .int 0, .int 0])), (a + 176, rQ E 2 (va_up (fun _ => none) 0 (some (a + 176 + 1 + 9 * 0))))] (nL8 (a + 177) (nL4 (a + 21) (nL8 (a + 12) (nL7 (a + 1) (L))))) M5 (a + 186) 185 H locs := hN
  refine lv_iinc (v := 1) (lv' := [(1, .int 1), (0, .ref a)]) hx hb dX10_init_76 hl (k := 0) rfl (by decide) (by decide) rfl (fun ls hl => ?_)
  refine lv_goto (tgt := 58) hx hb dX10_init_79 (by decide) ?_
  refine lv_iload_n hx hb dX10_init_58 rfl (lv_at hl 0 rfl) ?_
  refine lv_iconst (v := 2) hx hb dX10_init_59 (by decide) ?_
  refine lv_icmp_ge (tgt := 82) hx hb dX10_init_60 (by decide) (fun c0 => absurd c0 (by decide)) (fun _ => ?_)
  refine lv_aload_n hx hb dX10_init_63 rfl (lv_at hl 1 rfl) ?_
  refine n_get (ci := 10) (C := RX10) (T := TX10) (N := 19) (k := 3) Y hN rfl in10 (by decide) lk_X10_34 rfl dX10_init_64 ?_
  refine lv_iload_n hx hb dX10_init_67 rfl (lv_at hl 0 rfl) ?_
  refine n_new (ci := 8) (C := RX8) (T := TX8) (N := 13) (ty0 := tyX8) (df := dfl8) Y hN rfl in8 tyX8_ok cl_X10_16 win_8 ini_8 dfv8 (Nat.le_of_ble_eq_true rfl) (Nat.le_of_ble_eq_true rfl) dX10_init_68 (fun H hP hD hS hsz hcs hZ => ?_)
  refine lv_dup hx hb dX10_init_71 rfl ?_
  obtain ⟨M6, hc6, h⟩ := bm_el h
  have hex6 : ∀ z ∈ ([(a, .inr (10, [.ref (a + 1), .ref (a + 12), .ref (a + 21), .ref (a + 176), .null, .null, .null, .null, .null, .null, .null, .null, .null, .null, .int 0, .int 0, .int 0, .int 0, .int 0])), (a + 176, rQ E 2 (va_up (fun _ => none) 0 (some (a + 176 + 1 + 9 * 0))))] : va_W), z.1 < a + 186 := by
    intro z hz
    rcases List.mem_cons.mp hz with rfl | hz
    · show a < a + 186; omega
    · rw [List.mem_singleton] at hz; subst hz; show a + 176 < a + 186; omega
  refine n_callI (L' := nL8 (a + 186) (nL8 (a + 177) (nL4 (a + 21) (nL8 (a + 12) (nL7 (a + 1) (L)))))) (M' := M6) (ex := [(a, .inr (10, [.ref (a + 1), .ref (a + 12), .ref (a + 21), .ref (a + 176), .null, .null, .null, .null, .null, .null, .null, .null, .null, .null, .int 0, .int 0, .int 0, .int 0, .int 0])), (a + 176, rQ E 2 (va_up (fun _ => none) 0 (some (a + 176 + 1 + 9 * 0))))]) (ci := 8) (df := dfl8) (mc := 8) (ms := 138) (As := []) (n := 0) Y hP hD hS hsz hcs (by decide) hex6 (iC8_Z hc6 (hZ.mono (by omega))) (nL8_last _ _) wci_8 (Or.inl mi_X10_18) wii_8 ini_8 rfl (by decide +kernel) (by decide) rfl hl.1 (kC8 fu d hZ hc6) ⟨by show _ ≤ d + 4; omega, by show _ ≤ 42 * (d + 4); omega, Nat.le_of_ble_eq_true rfl, Nat.le_of_ble_eq_true rfl⟩ (Nat.le_of_ble_eq_true rfl) dX10_init_72 (fun H locs hN => ?_)
  have hN : Nx s E [(a, .inr (10, [.ref (a + 1), .ref (a + 12), .ref (a + 21), .ref (a + 176), .null, .null, .null, .null, .null, .null, .null, .null, .null, .null, .int 0, .int 0, .int 0, .int 0, .int 0])), (a + 176, rQ E 2 (va_up (fun _ => none) 0 (some (a + 176 + 1 + 9 * 0))))] (nL8 (a + 186) (nL8 (a + 177) (nL4 (a + 21) (nL8 (a + 12) (nL7 (a + 1) (L)))))) M6 (a + 195) 194 H locs := hN
  refine n_aast (i := 1) Y hN ((aL8 _ _).at0 rfl) (by decide +kernel) dX10_init_75 (fun H locs hN => ?_)
  have hN : Nx s E [(a, .inr (10, [.ref (a + 1), .ref (a + 12), .ref (a + 21), .ref (a + 176), .null, .null, .null, .null, .null, .null, .null, .null, .null, .null, .int 0, .int 0, .int 0, .int 0, .int 0])), (a + 176, rQ E 2 (va_up (va_up (fun _ => none) 0 (some (a + 176 + 1 + 9 * 0))) 1 (some (a + 176 + 1 + 9 * 1))))] (nL8 (a + 186) (nL8 (a + 177) (nL4 (a + 21) (nL8 (a + 12) (nL7 (a + 1) (L)))))) M6 (a + 195) 194 H locs := hN
  refine lv_iinc (v := 2) (lv' := [(1, .int 2), (0, .ref a)]) hx hb dX10_init_76 hl (k := 0) rfl (by decide) (by decide) rfl (fun ls hl => ?_)
  refine lv_goto (tgt := 58) hx hb dX10_init_79 (by decide) ?_
  refine lv_iload_n hx hb dX10_init_58 rfl (lv_at hl 0 rfl) ?_
  refine lv_iconst (v := 2) hx hb dX10_init_59 (by decide) ?_
  refine lv_icmp_ge (tgt := 82) hx hb dX10_init_60 (by decide) (fun _ => ?_) (fun c0 => absurd (by decide) c0)
  refine lv_aload_n hx hb dX10_init_82 rfl (lv_at hl 1 rfl) ?_
  refine lv_iconst (v := 2) hx hb dX10_init_83 (by decide) ?_
  refine n_arrZ (N := 2) Y hN (by decide) (by decide +kernel) (Nat.le_of_ble_eq_true rfl) (Nat.le_of_ble_eq_true rfl) (Nat.le_of_ble_eq_true rfl) dX10_init_84 (fun H hN => ?_)
  have hN : Nx s E [(a, .inr (10, [.ref (a + 1), .ref (a + 12), .ref (a + 21), .ref (a + 176), .null, .null, .null, .null, .null, .null, .null, .null, .null, .null, .int 0, .int 0, .int 0, .int 0, .int 0])), (a + 176, rQ E 2 (va_up (va_up (fun _ => none) 0 (some (a + 176 + 1 + 9 * 0))) 1 (some (a + 176 + 1 + 9 * 1))))] (nL8 (a + 186) (nL8 (a + 177) (nL4 (a + 21) (nL8 (a + 12) (nL7 (a + 1) (L))))) ++ [(a + 195, (1, 2))]) M6 (a + 196) 195 H locs := hN
  refine n_putF (er := [(a + 176, rQ E 2 (va_up (va_up (fun _ => none) 0 (some (a + 176 + 1 + 9 * 0))) 1 (some (a + 176 + 1 + 9 * 1))))]) (ci := 10) (C := RX10) (T := TX10) (N := 19) (k := 4) (ty0 := tyX10) (fs := [.ref (a + 1), .ref (a + 12), .ref (a + 21), .ref (a + 176), .null, .null, .null, .null, .null, .null, .null, .null, .null, .null, .int 0, .int 0, .int 0, .int 0, .int 0]) (fs' := [.ref (a + 1), .ref (a + 12), .ref (a + 21), .ref (a + 176), .ref (a + 195), .null, .null, .null, .null, .null, .null, .null, .null, .null, .int 0, .int 0, .int 0, .int 0, .int 0]) Y hN rfl in10 tyX10_ok nmX10 (by decide) lk_X10_38 rfl hin rfl rfl rfl (Nat.le_of_ble_eq_true rfl) rfl dX10_init_86 (fun H locs hN => ?_)
  have hN : Nx s E [(a, .inr (10, [.ref (a + 1), .ref (a + 12), .ref (a + 21), .ref (a + 176), .ref (a + 195), .null, .null, .null, .null, .null, .null, .null, .null, .null, .int 0, .int 0, .int 0, .int 0, .int 0])), (a + 176, rQ E 2 (va_up (va_up (fun _ => none) 0 (some (a + 176 + 1 + 9 * 0))) 1 (some (a + 176 + 1 + 9 * 1))))] (nL8 (a + 186) (nL8 (a + 177) (nL4 (a + 21) (nL8 (a + 12) (nL7 (a + 1) (L))))) ++ [(a + 195, (1, 2))]) M6 (a + 196) 195 H locs := hN
  refine lv_aload_n hx hb dX10_init_89 rfl (lv_at hl 1 rfl) ?_
  refine n_new (ci := 2) (C := RX2) (T := TX2) (N := 2) (ty0 := tyX2) (df := dfl2) Y hN rfl in2 tyX2_ok cl_X10_42 win_2 ini_2 dfv2 (Nat.le_of_ble_eq_true rfl) (Nat.le_of_ble_eq_true rfl) dX10_init_90 (fun H hP hD hS hsz hcs hZ => ?_)
  refine lv_dup hx hb dX10_init_93 rfl ?_
  refine lv_sipush (v := 128) hx hb dX10_init_94 (by decide) ?_
  obtain ⟨M7, hc7, h⟩ := bm_el h
  have hex7 : ∀ z ∈ ([(a, .inr (10, [.ref (a + 1), .ref (a + 12), .ref (a + 21), .ref (a + 176), .ref (a + 195), .null, .null, .null, .null, .null, .null, .null, .null, .null, .int 0, .int 0, .int 0, .int 0, .int 0])), (a + 176, rQ E 2 (va_up (va_up (fun _ => none) 0 (some (a + 176 + 1 + 9 * 0))) 1 (some (a + 176 + 1 + 9 * 1))))] : va_W), z.1 < a + 196 := by
    intro z hz
    rcases List.mem_cons.mp hz with rfl | hz
    · show a < a + 196; omega
    · rw [List.mem_singleton] at hz; subst hz; show a + 176 < a + 196; omega
  refine n_callI (L' := nL2 (a + 196) 128 (nL8 (a + 186) (nL8 (a + 177) (nL4 (a + 21) (nL8 (a + 12) (nL7 (a + 1) (L))))) ++ [(a + 195, (1, 2))])) (M' := M7) (ex := [(a, .inr (10, [.ref (a + 1), .ref (a + 12), .ref (a + 21), .ref (a + 176), .ref (a + 195), .null, .null, .null, .null, .null, .null, .null, .null, .null, .int 0, .int 0, .int 0, .int 0, .int 0])), (a + 176, rQ E 2 (va_up (va_up (fun _ => none) 0 (some (a + 176 + 1 + 9 * 0))) 1 (some (a + 176 + 1 + 9 * 1))))]) (ci := 2) (df := dfl2) (mc := 1) (ms := 128) (As := [.int 128]) (n := 1) Y hP hD hS hsz hcs (by decide) hex7 (iC2_Z hc7 (hZ.mono (by omega))) (nL2_last _ _ _) wci_2 (Or.inl mi_X10_44) wii_2 ini_2 rfl (by decide +kernel) (by decide) rfl hl.1 (kC2 fu d (N := 128) (by decide) (by decide +kernel) (by decide) hZ hc7) ⟨by show _ ≤ d + 4; omega, by show _ ≤ 42 * (d + 4); omega, Nat.le_of_ble_eq_true rfl, Nat.le_of_ble_eq_true rfl⟩ (Nat.le_of_ble_eq_true rfl) dX10_init_97 (fun H locs hN => ?_)
  have hN : Nx s E [(a, .inr (10, [.ref (a + 1), .ref (a + 12), .ref (a + 21), .ref (a + 176), .ref (a + 195), .null, .null, .null, .null, .null, .null, .null, .null, .null, .int 0, .int 0, .int 0, .int 0, .int 0])), (a + 176, rQ E 2 (va_up (va_up (fun _ => none) 0 (some (a + 176 + 1 + 9 * 0))) 1 (some (a + 176 + 1 + 9 * 1))))] (nL2 (a + 196) 128 (nL8 (a + 186) (nL8 (a + 177) (nL4 (a + 21) (nL8 (a + 12) (nL7 (a + 1) (L))))) ++ [(a + 195, (1, 2))])) M7 (a + 198) 197 H locs := hN
  refine n_putF (er := [(a + 176, rQ E 2 (va_up (va_up (fun _ => none) 0 (some (a + 176 + 1 + 9 * 0))) 1 (some (a + 176 + 1 + 9 * 1))))]) (ci := 10) (C := RX10) (T := TX10) (N := 19) (k := 5) (ty0 := tyX10) (fs := [.ref (a + 1), .ref (a + 12), .ref (a + 21), .ref (a + 176), .ref (a + 195), .null, .null, .null, .null, .null, .null, .null, .null, .null, .int 0, .int 0, .int 0, .int 0, .int 0]) (fs' := [.ref (a + 1), .ref (a + 12), .ref (a + 21), .ref (a + 176), .ref (a + 195), .ref (a + 196), .null, .null, .null, .null, .null, .null, .null, .null, .int 0, .int 0, .int 0, .int 0, .int 0]) Y hN rfl in10 tyX10_ok nmX10 (by decide) lk_X10_47 rfl hin rfl rfl rfl (Nat.le_of_ble_eq_true rfl) rfl dX10_init_100 (fun H locs hN => ?_)
  have hN : Nx s E [(a, .inr (10, [.ref (a + 1), .ref (a + 12), .ref (a + 21), .ref (a + 176), .ref (a + 195), .ref (a + 196), .null, .null, .null, .null, .null, .null, .null, .null, .int 0, .int 0, .int 0, .int 0, .int 0])), (a + 176, rQ E 2 (va_up (va_up (fun _ => none) 0 (some (a + 176 + 1 + 9 * 0))) 1 (some (a + 176 + 1 + 9 * 1))))] (nL2 (a + 196) 128 (nL8 (a + 186) (nL8 (a + 177) (nL4 (a + 21) (nL8 (a + 12) (nL7 (a + 1) (L))))) ++ [(a + 195, (1, 2))])) M7 (a + 198) 197 H locs := hN
  refine lv_aload_n hx hb dX10_init_103 rfl (lv_at hl 1 rfl) ?_
  refine n_new (ci := 5) (C := RX5) (T := TX5) (N := 9) (ty0 := tyX5) (df := dfl5) Y hN rfl in5 tyX5_ok cl_X10_51 win_5 ini_5 dfv5 (Nat.le_of_ble_eq_true rfl) (Nat.le_of_ble_eq_true rfl) dX10_init_104 (fun H hP hD hS hsz hcs hZ => ?_)
  refine lv_dup hx hb dX10_init_107 rfl ?_
  obtain ⟨M8, hc8, h⟩ := bm_el h
  have hex8 : ∀ z ∈ ([(a, .inr (10, [.ref (a + 1), .ref (a + 12), .ref (a + 21), .ref (a + 176), .ref (a + 195), .ref (a + 196), .null, .null, .null, .null, .null, .null, .null, .null, .int 0, .int 0, .int 0, .int 0, .int 0])), (a + 176, rQ E 2 (va_up (va_up (fun _ => none) 0 (some (a + 176 + 1 + 9 * 0))) 1 (some (a + 176 + 1 + 9 * 1))))] : va_W), z.1 < a + 198 := by
    intro z hz
    rcases List.mem_cons.mp hz with rfl | hz
    · show a < a + 198; omega
    · rw [List.mem_singleton] at hz; subst hz; show a + 176 < a + 198; omega
  refine n_callI (L' := nL5 (a + 198) (nL2 (a + 196) 128 (nL8 (a + 186) (nL8 (a + 177) (nL4 (a + 21) (nL8 (a + 12) (nL7 (a + 1) (L))))) ++ [(a + 195, (1, 2))]))) (M' := M8) (ex := [(a, .inr (10, [.ref (a + 1), .ref (a + 12), .ref (a + 21), .ref (a + 176), .ref (a + 195), .ref (a + 196), .null, .null, .null, .null, .null, .null, .null, .null, .int 0, .int 0, .int 0, .int 0, .int 0])), (a + 176, rQ E 2 (va_up (va_up (fun _ => none) 0 (some (a + 176 + 1 + 9 * 0))) 1 (some (a + 176 + 1 + 9 * 1))))]) (ci := 5) (df := dfl5) (mc := 7) (ms := 566) (As := []) (n := 0) Y hP hD hS hsz hcs (by decide) hex8 (iC5_Z hc8 (hZ.mono (by omega))) (nL5_last _ _) wci_5 (Or.inr mi_X10_53) wii_5 ini_5 rfl (by decide +kernel) (by decide) rfl hl.1 (kC5 fu d hZ hc8) ⟨by show _ ≤ d + 4; omega, by show _ ≤ 42 * (d + 4); omega, Nat.le_of_ble_eq_true rfl, Nat.le_of_ble_eq_true rfl⟩ (Nat.le_of_ble_eq_true rfl) dX10_init_108 (fun H locs hN => ?_)
  have hN : Nx s E [(a, .inr (10, [.ref (a + 1), .ref (a + 12), .ref (a + 21), .ref (a + 176), .ref (a + 195), .ref (a + 196), .null, .null, .null, .null, .null, .null, .null, .null, .int 0, .int 0, .int 0, .int 0, .int 0])), (a + 176, rQ E 2 (va_up (va_up (fun _ => none) 0 (some (a + 176 + 1 + 9 * 0))) 1 (some (a + 176 + 1 + 9 * 1))))] (nL5 (a + 198) (nL2 (a + 196) 128 (nL8 (a + 186) (nL8 (a + 177) (nL4 (a + 21) (nL8 (a + 12) (nL7 (a + 1) (L))))) ++ [(a + 195, (1, 2))]))) M8 (a + 206) 205 H locs := hN
  refine n_putF (er := [(a + 176, rQ E 2 (va_up (va_up (fun _ => none) 0 (some (a + 176 + 1 + 9 * 0))) 1 (some (a + 176 + 1 + 9 * 1))))]) (ci := 10) (C := RX10) (T := TX10) (N := 19) (k := 6) (ty0 := tyX10) (fs := [.ref (a + 1), .ref (a + 12), .ref (a + 21), .ref (a + 176), .ref (a + 195), .ref (a + 196), .null, .null, .null, .null, .null, .null, .null, .null, .int 0, .int 0, .int 0, .int 0, .int 0]) (fs' := [.ref (a + 1), .ref (a + 12), .ref (a + 21), .ref (a + 176), .ref (a + 195), .ref (a + 196), .ref (a + 198), .null, .null, .null, .null, .null, .null, .null, .int 0, .int 0, .int 0, .int 0, .int 0]) Y hN rfl in10 tyX10_ok nmX10 (by decide) lk_X10_54 rfl hin rfl rfl rfl (Nat.le_of_ble_eq_true rfl) rfl dX10_init_111 (fun H locs hN => ?_)
  have hN : Nx s E [(a, .inr (10, [.ref (a + 1), .ref (a + 12), .ref (a + 21), .ref (a + 176), .ref (a + 195), .ref (a + 196), .ref (a + 198), .null, .null, .null, .null, .null, .null, .null, .int 0, .int 0, .int 0, .int 0, .int 0])), (a + 176, rQ E 2 (va_up (va_up (fun _ => none) 0 (some (a + 176 + 1 + 9 * 0))) 1 (some (a + 176 + 1 + 9 * 1))))] (nL5 (a + 198) (nL2 (a + 196) 128 (nL8 (a + 186) (nL8 (a + 177) (nL4 (a + 21) (nL8 (a + 12) (nL7 (a + 1) (L))))) ++ [(a + 195, (1, 2))]))) M8 (a + 206) 205 H locs := hN
  refine lv_aload_n hx hb dX10_init_114 rfl (lv_at hl 1 rfl) ?_
  refine n_new (ci := 6) (C := RX6) (T := TX6) (N := 7) (ty0 := tyX6) (df := dfl6) Y hN rfl in6 tyX6_ok cl_X10_58 win_6 ini_6 dfv6 (Nat.le_of_ble_eq_true rfl) (Nat.le_of_ble_eq_true rfl) dX10_init_115 (fun H hP hD hS hsz hcs hZ => ?_)
  refine lv_dup hx hb dX10_init_118 rfl ?_
  obtain ⟨M9, hc9, h⟩ := bm_el h
  have hex9 : ∀ z ∈ ([(a, .inr (10, [.ref (a + 1), .ref (a + 12), .ref (a + 21), .ref (a + 176), .ref (a + 195), .ref (a + 196), .ref (a + 198), .null, .null, .null, .null, .null, .null, .null, .int 0, .int 0, .int 0, .int 0, .int 0])), (a + 176, rQ E 2 (va_up (va_up (fun _ => none) 0 (some (a + 176 + 1 + 9 * 0))) 1 (some (a + 176 + 1 + 9 * 1))))] : va_W), z.1 < a + 206 := by
    intro z hz
    rcases List.mem_cons.mp hz with rfl | hz
    · show a < a + 206; omega
    · rw [List.mem_singleton] at hz; subst hz; show a + 176 < a + 206; omega
  refine n_callI (L' := nL6 (a + 206) (nL5 (a + 198) (nL2 (a + 196) 128 (nL8 (a + 186) (nL8 (a + 177) (nL4 (a + 21) (nL8 (a + 12) (nL7 (a + 1) (L))))) ++ [(a + 195, (1, 2))])))) (M' := M9) (ex := [(a, .inr (10, [.ref (a + 1), .ref (a + 12), .ref (a + 21), .ref (a + 176), .ref (a + 195), .ref (a + 196), .ref (a + 198), .null, .null, .null, .null, .null, .null, .null, .int 0, .int 0, .int 0, .int 0, .int 0])), (a + 176, rQ E 2 (va_up (va_up (fun _ => none) 0 (some (a + 176 + 1 + 9 * 0))) 1 (some (a + 176 + 1 + 9 * 1))))]) (ci := 6) (df := dfl6) (mc := 13) (ms := 5545) (As := []) (n := 0) Y hP hD hS hsz hcs (by decide) hex9 (iC6_Z hc9 (hZ.mono (by omega))) (nL6_last _ _) wci_6 (Or.inr mi_X10_60) wii_6 ini_6 rfl (by decide +kernel) (by decide) rfl hl.1 (kC6 fu d hZ hc9) ⟨by show _ ≤ d + 4; omega, by show _ ≤ 42 * (d + 4); omega, Nat.le_of_ble_eq_true rfl, Nat.le_of_ble_eq_true rfl⟩ (Nat.le_of_ble_eq_true rfl) dX10_init_119 (fun H locs hN => ?_)
  have hN : Nx s E [(a, .inr (10, [.ref (a + 1), .ref (a + 12), .ref (a + 21), .ref (a + 176), .ref (a + 195), .ref (a + 196), .ref (a + 198), .null, .null, .null, .null, .null, .null, .null, .int 0, .int 0, .int 0, .int 0, .int 0])), (a + 176, rQ E 2 (va_up (va_up (fun _ => none) 0 (some (a + 176 + 1 + 9 * 0))) 1 (some (a + 176 + 1 + 9 * 1))))] (nL6 (a + 206) (nL5 (a + 198) (nL2 (a + 196) 128 (nL8 (a + 186) (nL8 (a + 177) (nL4 (a + 21) (nL8 (a + 12) (nL7 (a + 1) (L))))) ++ [(a + 195, (1, 2))])))) M9 (a + 220) 219 H locs := hN
  refine n_putF (er := [(a + 176, rQ E 2 (va_up (va_up (fun _ => none) 0 (some (a + 176 + 1 + 9 * 0))) 1 (some (a + 176 + 1 + 9 * 1))))]) (ci := 10) (C := RX10) (T := TX10) (N := 19) (k := 7) (ty0 := tyX10) (fs := [.ref (a + 1), .ref (a + 12), .ref (a + 21), .ref (a + 176), .ref (a + 195), .ref (a + 196), .ref (a + 198), .null, .null, .null, .null, .null, .null, .null, .int 0, .int 0, .int 0, .int 0, .int 0]) (fs' := [.ref (a + 1), .ref (a + 12), .ref (a + 21), .ref (a + 176), .ref (a + 195), .ref (a + 196), .ref (a + 198), .ref (a + 206), .null, .null, .null, .null, .null, .null, .int 0, .int 0, .int 0, .int 0, .int 0]) Y hN rfl in10 tyX10_ok nmX10 (by decide) lk_X10_61 rfl hin rfl rfl rfl (Nat.le_of_ble_eq_true rfl) rfl dX10_init_122 (fun H locs hN => ?_)
  have hN : Nx s E [(a, .inr (10, [.ref (a + 1), .ref (a + 12), .ref (a + 21), .ref (a + 176), .ref (a + 195), .ref (a + 196), .ref (a + 198), .ref (a + 206), .null, .null, .null, .null, .null, .null, .int 0, .int 0, .int 0, .int 0, .int 0])), (a + 176, rQ E 2 (va_up (va_up (fun _ => none) 0 (some (a + 176 + 1 + 9 * 0))) 1 (some (a + 176 + 1 + 9 * 1))))] (nL6 (a + 206) (nL5 (a + 198) (nL2 (a + 196) 128 (nL8 (a + 186) (nL8 (a + 177) (nL4 (a + 21) (nL8 (a + 12) (nL7 (a + 1) (L))))) ++ [(a + 195, (1, 2))])))) M9 (a + 220) 219 H locs := hN
  refine lv_aload_n hx hb dX10_init_125 rfl (lv_at hl 1 rfl) ?_
  refine n_new (ci := 0) (C := RX0) (T := TX0) (N := 4) (ty0 := tyX0) (df := dfl0) Y hN rfl in0 tyX0_ok cl_X10_65 win_0 ini_0 dfv0 (Nat.le_of_ble_eq_true rfl) (Nat.le_of_ble_eq_true rfl) dX10_init_126 (fun H hP hD hS hsz hcs hZ => ?_)
  refine lv_dup hx hb dX10_init_129 rfl ?_
  refine lv_sipush (v := 160) hx hb dX10_init_130 (by decide) ?_
  obtain ⟨M10, hc10, h⟩ := bm_el h
  have hex10 : ∀ z ∈ ([(a, .inr (10, [.ref (a + 1), .ref (a + 12), .ref (a + 21), .ref (a + 176), .ref (a + 195), .ref (a + 196), .ref (a + 198), .ref (a + 206), .null, .null, .null, .null, .null, .null, .int 0, .int 0, .int 0, .int 0, .int 0])), (a + 176, rQ E 2 (va_up (va_up (fun _ => none) 0 (some (a + 176 + 1 + 9 * 0))) 1 (some (a + 176 + 1 + 9 * 1))))] : va_W), z.1 < a + 220 := by
    intro z hz
    rcases List.mem_cons.mp hz with rfl | hz
    · show a < a + 220; omega
    · rw [List.mem_singleton] at hz; subst hz; show a + 176 < a + 220; omega
  refine n_callI (L' := nL0 (a + 220) 160 (nL6 (a + 206) (nL5 (a + 198) (nL2 (a + 196) 128 (nL8 (a + 186) (nL8 (a + 177) (nL4 (a + 21) (nL8 (a + 12) (nL7 (a + 1) (L))))) ++ [(a + 195, (1, 2))]))))) (M' := M10) (ex := [(a, .inr (10, [.ref (a + 1), .ref (a + 12), .ref (a + 21), .ref (a + 176), .ref (a + 195), .ref (a + 196), .ref (a + 198), .ref (a + 206), .null, .null, .null, .null, .null, .null, .int 0, .int 0, .int 0, .int 0, .int 0])), (a + 176, rQ E 2 (va_up (va_up (fun _ => none) 0 (some (a + 176 + 1 + 9 * 0))) 1 (some (a + 176 + 1 + 9 * 1))))]) (ci := 0) (df := dfl0) (mc := 3) (ms := 480) (As := [.int 160]) (n := 1) Y hP hD hS hsz hcs (by decide) hex10 (iC0_Z hc10 (hZ.mono (by omega))) (nL0_last _ _ _) wci_0 (Or.inl mi_X10_67) wii_0 ini_0 rfl (by decide +kernel) (by decide) rfl hl.1 (kC0 fu d (N := 160) (by decide) (by decide +kernel) (by decide) hZ hc10) ⟨by show _ ≤ d + 4; omega, by show _ ≤ 42 * (d + 4); omega, Nat.le_of_ble_eq_true rfl, Nat.le_of_ble_eq_true rfl⟩ (Nat.le_of_ble_eq_true rfl) dX10_init_133 (fun H locs hN => ?_)
  have hN : Nx s E [(a, .inr (10, [.ref (a + 1), .ref (a + 12), .ref (a + 21), .ref (a + 176), .ref (a + 195), .ref (a + 196), .ref (a + 198), .ref (a + 206), .null, .null, .null, .null, .null, .null, .int 0, .int 0, .int 0, .int 0, .int 0])), (a + 176, rQ E 2 (va_up (va_up (fun _ => none) 0 (some (a + 176 + 1 + 9 * 0))) 1 (some (a + 176 + 1 + 9 * 1))))] (nL0 (a + 220) 160 (nL6 (a + 206) (nL5 (a + 198) (nL2 (a + 196) 128 (nL8 (a + 186) (nL8 (a + 177) (nL4 (a + 21) (nL8 (a + 12) (nL7 (a + 1) (L))))) ++ [(a + 195, (1, 2))]))))) M10 (a + 224) 223 H locs := hN
  refine n_putF (er := [(a + 176, rQ E 2 (va_up (va_up (fun _ => none) 0 (some (a + 176 + 1 + 9 * 0))) 1 (some (a + 176 + 1 + 9 * 1))))]) (ci := 10) (C := RX10) (T := TX10) (N := 19) (k := 8) (ty0 := tyX10) (fs := [.ref (a + 1), .ref (a + 12), .ref (a + 21), .ref (a + 176), .ref (a + 195), .ref (a + 196), .ref (a + 198), .ref (a + 206), .null, .null, .null, .null, .null, .null, .int 0, .int 0, .int 0, .int 0, .int 0]) (fs' := [.ref (a + 1), .ref (a + 12), .ref (a + 21), .ref (a + 176), .ref (a + 195), .ref (a + 196), .ref (a + 198), .ref (a + 206), .ref (a + 220), .null, .null, .null, .null, .null, .int 0, .int 0, .int 0, .int 0, .int 0]) Y hN rfl in10 tyX10_ok nmX10 (by decide) lk_X10_68 rfl hin rfl rfl rfl (Nat.le_of_ble_eq_true rfl) rfl dX10_init_136 (fun H locs hN => ?_)
  have hN : Nx s E [(a, .inr (10, [.ref (a + 1), .ref (a + 12), .ref (a + 21), .ref (a + 176), .ref (a + 195), .ref (a + 196), .ref (a + 198), .ref (a + 206), .ref (a + 220), .null, .null, .null, .null, .null, .int 0, .int 0, .int 0, .int 0, .int 0])), (a + 176, rQ E 2 (va_up (va_up (fun _ => none) 0 (some (a + 176 + 1 + 9 * 0))) 1 (some (a + 176 + 1 + 9 * 1))))] (nL0 (a + 220) 160 (nL6 (a + 206) (nL5 (a + 198) (nL2 (a + 196) 128 (nL8 (a + 186) (nL8 (a + 177) (nL4 (a + 21) (nL8 (a + 12) (nL7 (a + 1) (L))))) ++ [(a + 195, (1, 2))]))))) M10 (a + 224) 223 H locs := hN
  refine lv_aload_n hx hb dX10_init_139 rfl (lv_at hl 1 rfl) ?_
  refine n_new (ci := 0) (C := RX0) (T := TX0) (N := 4) (ty0 := tyX0) (df := dfl0) Y hN rfl in0 tyX0_ok cl_X10_65 win_0 ini_0 dfv0 (Nat.le_of_ble_eq_true rfl) (Nat.le_of_ble_eq_true rfl) dX10_init_140 (fun H hP hD hS hsz hcs hZ => ?_)
  refine lv_dup hx hb dX10_init_143 rfl ?_
  refine lv_sipush (v := 160) hx hb dX10_init_144 (by decide) ?_
  obtain ⟨M11, hc11, h⟩ := bm_el h
  have hex11 : ∀ z ∈ ([(a, .inr (10, [.ref (a + 1), .ref (a + 12), .ref (a + 21), .ref (a + 176), .ref (a + 195), .ref (a + 196), .ref (a + 198), .ref (a + 206), .ref (a + 220), .null, .null, .null, .null, .null, .int 0, .int 0, .int 0, .int 0, .int 0])), (a + 176, rQ E 2 (va_up (va_up (fun _ => none) 0 (some (a + 176 + 1 + 9 * 0))) 1 (some (a + 176 + 1 + 9 * 1))))] : va_W), z.1 < a + 224 := by
    intro z hz
    rcases List.mem_cons.mp hz with rfl | hz
    · show a < a + 224; omega
    · rw [List.mem_singleton] at hz; subst hz; show a + 176 < a + 224; omega
  refine n_callI (L' := nL0 (a + 224) 160 (nL0 (a + 220) 160 (nL6 (a + 206) (nL5 (a + 198) (nL2 (a + 196) 128 (nL8 (a + 186) (nL8 (a + 177) (nL4 (a + 21) (nL8 (a + 12) (nL7 (a + 1) (L))))) ++ [(a + 195, (1, 2))])))))) (M' := M11) (ex := [(a, .inr (10, [.ref (a + 1), .ref (a + 12), .ref (a + 21), .ref (a + 176), .ref (a + 195), .ref (a + 196), .ref (a + 198), .ref (a + 206), .ref (a + 220), .null, .null, .null, .null, .null, .int 0, .int 0, .int 0, .int 0, .int 0])), (a + 176, rQ E 2 (va_up (va_up (fun _ => none) 0 (some (a + 176 + 1 + 9 * 0))) 1 (some (a + 176 + 1 + 9 * 1))))]) (ci := 0) (df := dfl0) (mc := 3) (ms := 480) (As := [.int 160]) (n := 1) Y hP hD hS hsz hcs (by decide) hex11 (iC0_Z hc11 (hZ.mono (by omega))) (nL0_last _ _ _) wci_0 (Or.inl mi_X10_67) wii_0 ini_0 rfl (by decide +kernel) (by decide) rfl hl.1 (kC0 fu d (N := 160) (by decide) (by decide +kernel) (by decide) hZ hc11) ⟨by show _ ≤ d + 4; omega, by show _ ≤ 42 * (d + 4); omega, Nat.le_of_ble_eq_true rfl, Nat.le_of_ble_eq_true rfl⟩ (Nat.le_of_ble_eq_true rfl) dX10_init_147 (fun H locs hN => ?_)
  have hN : Nx s E [(a, .inr (10, [.ref (a + 1), .ref (a + 12), .ref (a + 21), .ref (a + 176), .ref (a + 195), .ref (a + 196), .ref (a + 198), .ref (a + 206), .ref (a + 220), .null, .null, .null, .null, .null, .int 0, .int 0, .int 0, .int 0, .int 0])), (a + 176, rQ E 2 (va_up (va_up (fun _ => none) 0 (some (a + 176 + 1 + 9 * 0))) 1 (some (a + 176 + 1 + 9 * 1))))] (nL0 (a + 224) 160 (nL0 (a + 220) 160 (nL6 (a + 206) (nL5 (a + 198) (nL2 (a + 196) 128 (nL8 (a + 186) (nL8 (a + 177) (nL4 (a + 21) (nL8 (a + 12) (nL7 (a + 1) (L))))) ++ [(a + 195, (1, 2))])))))) M11 (a + 228) 227 H locs := hN
  refine n_putF (er := [(a + 176, rQ E 2 (va_up (va_up (fun _ => none) 0 (some (a + 176 + 1 + 9 * 0))) 1 (some (a + 176 + 1 + 9 * 1))))]) (ci := 10) (C := RX10) (T := TX10) (N := 19) (k := 9) (ty0 := tyX10) (fs := [.ref (a + 1), .ref (a + 12), .ref (a + 21), .ref (a + 176), .ref (a + 195), .ref (a + 196), .ref (a + 198), .ref (a + 206), .ref (a + 220), .null, .null, .null, .null, .null, .int 0, .int 0, .int 0, .int 0, .int 0]) (fs' := [.ref (a + 1), .ref (a + 12), .ref (a + 21), .ref (a + 176), .ref (a + 195), .ref (a + 196), .ref (a + 198), .ref (a + 206), .ref (a + 220), .ref (a + 224), .null, .null, .null, .null, .int 0, .int 0, .int 0, .int 0, .int 0]) Y hN rfl in10 tyX10_ok nmX10 (by decide) lk_X10_72 rfl hin rfl rfl rfl (Nat.le_of_ble_eq_true rfl) rfl dX10_init_150 (fun H locs hN => ?_)
  have hN : Nx s E [(a, .inr (10, [.ref (a + 1), .ref (a + 12), .ref (a + 21), .ref (a + 176), .ref (a + 195), .ref (a + 196), .ref (a + 198), .ref (a + 206), .ref (a + 220), .ref (a + 224), .null, .null, .null, .null, .int 0, .int 0, .int 0, .int 0, .int 0])), (a + 176, rQ E 2 (va_up (va_up (fun _ => none) 0 (some (a + 176 + 1 + 9 * 0))) 1 (some (a + 176 + 1 + 9 * 1))))] (nL0 (a + 224) 160 (nL0 (a + 220) 160 (nL6 (a + 206) (nL5 (a + 198) (nL2 (a + 196) 128 (nL8 (a + 186) (nL8 (a + 177) (nL4 (a + 21) (nL8 (a + 12) (nL7 (a + 1) (L))))) ++ [(a + 195, (1, 2))])))))) M11 (a + 228) 227 H locs := hN
  refine lv_aload_n hx hb dX10_init_153 rfl (lv_at hl 1 rfl) ?_
  refine lv_bipush (v := 64) hx hb dX10_init_154 (by decide) ?_
  refine n_arrI (N := 64) Y hN (by decide) (by decide +kernel) (Nat.le_of_ble_eq_true rfl) (Nat.le_of_ble_eq_true rfl) (Nat.le_of_ble_eq_true rfl) dX10_init_156 (fun H hN => ?_)
  have hN : Nx s E [(a, .inr (10, [.ref (a + 1), .ref (a + 12), .ref (a + 21), .ref (a + 176), .ref (a + 195), .ref (a + 196), .ref (a + 198), .ref (a + 206), .ref (a + 220), .ref (a + 224), .null, .null, .null, .null, .int 0, .int 0, .int 0, .int 0, .int 0])), (a + 176, rQ E 2 (va_up (va_up (fun _ => none) 0 (some (a + 176 + 1 + 9 * 0))) 1 (some (a + 176 + 1 + 9 * 1))))] (nL0 (a + 224) 160 (nL0 (a + 220) 160 (nL6 (a + 206) (nL5 (a + 198) (nL2 (a + 196) 128 (nL8 (a + 186) (nL8 (a + 177) (nL4 (a + 21) (nL8 (a + 12) (nL7 (a + 1) (L))))) ++ [(a + 195, (1, 2))]))))) ++ [(a + 228, (0, 64))]) M11 (a + 229) 228 H locs := hN
  refine n_putF (er := [(a + 176, rQ E 2 (va_up (va_up (fun _ => none) 0 (some (a + 176 + 1 + 9 * 0))) 1 (some (a + 176 + 1 + 9 * 1))))]) (ci := 10) (C := RX10) (T := TX10) (N := 19) (k := 10) (ty0 := tyX10) (fs := [.ref (a + 1), .ref (a + 12), .ref (a + 21), .ref (a + 176), .ref (a + 195), .ref (a + 196), .ref (a + 198), .ref (a + 206), .ref (a + 220), .ref (a + 224), .null, .null, .null, .null, .int 0, .int 0, .int 0, .int 0, .int 0]) (fs' := [.ref (a + 1), .ref (a + 12), .ref (a + 21), .ref (a + 176), .ref (a + 195), .ref (a + 196), .ref (a + 198), .ref (a + 206), .ref (a + 220), .ref (a + 224), .ref (a + 228), .null, .null, .null, .int 0, .int 0, .int 0, .int 0, .int 0]) Y hN rfl in10 tyX10_ok nmX10 (by decide) lk_X10_75 rfl hin rfl rfl rfl (Nat.le_of_ble_eq_true rfl) rfl dX10_init_158 (fun H locs hN => ?_)
  have hN : Nx s E [(a, .inr (10, [.ref (a + 1), .ref (a + 12), .ref (a + 21), .ref (a + 176), .ref (a + 195), .ref (a + 196), .ref (a + 198), .ref (a + 206), .ref (a + 220), .ref (a + 224), .ref (a + 228), .null, .null, .null, .int 0, .int 0, .int 0, .int 0, .int 0])), (a + 176, rQ E 2 (va_up (va_up (fun _ => none) 0 (some (a + 176 + 1 + 9 * 0))) 1 (some (a + 176 + 1 + 9 * 1))))] (nL0 (a + 224) 160 (nL0 (a + 220) 160 (nL6 (a + 206) (nL5 (a + 198) (nL2 (a + 196) 128 (nL8 (a + 186) (nL8 (a + 177) (nL4 (a + 21) (nL8 (a + 12) (nL7 (a + 1) (L))))) ++ [(a + 195, (1, 2))]))))) ++ [(a + 228, (0, 64))]) M11 (a + 229) 228 H locs := hN
  refine lv_aload_n hx hb dX10_init_161 rfl (lv_at hl 1 rfl) ?_
  refine n_new (ci := 0) (C := RX0) (T := TX0) (N := 4) (ty0 := tyX0) (df := dfl0) Y hN rfl in0 tyX0_ok cl_X10_65 win_0 ini_0 dfv0 (Nat.le_of_ble_eq_true rfl) (Nat.le_of_ble_eq_true rfl) dX10_init_162 (fun H hP hD hS hsz hcs hZ => ?_)
  refine lv_dup hx hb dX10_init_165 rfl ?_
  refine lv_bipush (v := 10) hx hb dX10_init_166 (by decide) ?_
  obtain ⟨M12, hc12, h⟩ := bm_el h
  have hex12 : ∀ z ∈ ([(a, .inr (10, [.ref (a + 1), .ref (a + 12), .ref (a + 21), .ref (a + 176), .ref (a + 195), .ref (a + 196), .ref (a + 198), .ref (a + 206), .ref (a + 220), .ref (a + 224), .ref (a + 228), .null, .null, .null, .int 0, .int 0, .int 0, .int 0, .int 0])), (a + 176, rQ E 2 (va_up (va_up (fun _ => none) 0 (some (a + 176 + 1 + 9 * 0))) 1 (some (a + 176 + 1 + 9 * 1))))] : va_W), z.1 < a + 229 := by
    intro z hz
    rcases List.mem_cons.mp hz with rfl | hz
    · show a < a + 229; omega
    · rw [List.mem_singleton] at hz; subst hz; show a + 176 < a + 229; omega
  refine n_callI (L' := nL0 (a + 229) 10 (nL0 (a + 224) 160 (nL0 (a + 220) 160 (nL6 (a + 206) (nL5 (a + 198) (nL2 (a + 196) 128 (nL8 (a + 186) (nL8 (a + 177) (nL4 (a + 21) (nL8 (a + 12) (nL7 (a + 1) (L))))) ++ [(a + 195, (1, 2))]))))) ++ [(a + 228, (0, 64))])) (M' := M12) (ex := [(a, .inr (10, [.ref (a + 1), .ref (a + 12), .ref (a + 21), .ref (a + 176), .ref (a + 195), .ref (a + 196), .ref (a + 198), .ref (a + 206), .ref (a + 220), .ref (a + 224), .ref (a + 228), .null, .null, .null, .int 0, .int 0, .int 0, .int 0, .int 0])), (a + 176, rQ E 2 (va_up (va_up (fun _ => none) 0 (some (a + 176 + 1 + 9 * 0))) 1 (some (a + 176 + 1 + 9 * 1))))]) (ci := 0) (df := dfl0) (mc := 3) (ms := 30) (As := [.int 10]) (n := 1) Y hP hD hS hsz hcs (by decide) hex12 (iC0_Z hc12 (hZ.mono (by omega))) (nL0_last _ _ _) wci_0 (Or.inl mi_X10_67) wii_0 ini_0 rfl (by decide +kernel) (by decide) rfl hl.1 (kC0 fu d (N := 10) (by decide) (by decide +kernel) (by decide) hZ hc12) ⟨by show _ ≤ d + 4; omega, by show _ ≤ 42 * (d + 4); omega, Nat.le_of_ble_eq_true rfl, Nat.le_of_ble_eq_true rfl⟩ (Nat.le_of_ble_eq_true rfl) dX10_init_168 (fun H locs hN => ?_)
  have hN : Nx s E [(a, .inr (10, [.ref (a + 1), .ref (a + 12), .ref (a + 21), .ref (a + 176), .ref (a + 195), .ref (a + 196), .ref (a + 198), .ref (a + 206), .ref (a + 220), .ref (a + 224), .ref (a + 228), .null, .null, .null, .int 0, .int 0, .int 0, .int 0, .int 0])), (a + 176, rQ E 2 (va_up (va_up (fun _ => none) 0 (some (a + 176 + 1 + 9 * 0))) 1 (some (a + 176 + 1 + 9 * 1))))] (nL0 (a + 229) 10 (nL0 (a + 224) 160 (nL0 (a + 220) 160 (nL6 (a + 206) (nL5 (a + 198) (nL2 (a + 196) 128 (nL8 (a + 186) (nL8 (a + 177) (nL4 (a + 21) (nL8 (a + 12) (nL7 (a + 1) (L))))) ++ [(a + 195, (1, 2))]))))) ++ [(a + 228, (0, 64))])) M12 (a + 233) 232 H locs := hN
  refine n_putF (er := [(a + 176, rQ E 2 (va_up (va_up (fun _ => none) 0 (some (a + 176 + 1 + 9 * 0))) 1 (some (a + 176 + 1 + 9 * 1))))]) (ci := 10) (C := RX10) (T := TX10) (N := 19) (k := 11) (ty0 := tyX10) (fs := [.ref (a + 1), .ref (a + 12), .ref (a + 21), .ref (a + 176), .ref (a + 195), .ref (a + 196), .ref (a + 198), .ref (a + 206), .ref (a + 220), .ref (a + 224), .ref (a + 228), .null, .null, .null, .int 0, .int 0, .int 0, .int 0, .int 0]) (fs' := [.ref (a + 1), .ref (a + 12), .ref (a + 21), .ref (a + 176), .ref (a + 195), .ref (a + 196), .ref (a + 198), .ref (a + 206), .ref (a + 220), .ref (a + 224), .ref (a + 228), .ref (a + 229), .null, .null, .int 0, .int 0, .int 0, .int 0, .int 0]) Y hN rfl in10 tyX10_ok nmX10 (by decide) lk_X10_79 rfl hin rfl rfl rfl (Nat.le_of_ble_eq_true rfl) rfl dX10_init_171 (fun H locs hN => ?_)
  have hN : Nx s E [(a, .inr (10, [.ref (a + 1), .ref (a + 12), .ref (a + 21), .ref (a + 176), .ref (a + 195), .ref (a + 196), .ref (a + 198), .ref (a + 206), .ref (a + 220), .ref (a + 224), .ref (a + 228), .ref (a + 229), .null, .null, .int 0, .int 0, .int 0, .int 0, .int 0])), (a + 176, rQ E 2 (va_up (va_up (fun _ => none) 0 (some (a + 176 + 1 + 9 * 0))) 1 (some (a + 176 + 1 + 9 * 1))))] (nL0 (a + 229) 10 (nL0 (a + 224) 160 (nL0 (a + 220) 160 (nL6 (a + 206) (nL5 (a + 198) (nL2 (a + 196) 128 (nL8 (a + 186) (nL8 (a + 177) (nL4 (a + 21) (nL8 (a + 12) (nL7 (a + 1) (L))))) ++ [(a + 195, (1, 2))]))))) ++ [(a + 228, (0, 64))])) M12 (a + 233) 232 H locs := hN
  refine lv_aload_n hx hb dX10_init_174 rfl (lv_at hl 1 rfl) ?_
  refine n_new (ci := 1) (C := RX1) (T := TX1) (N := 13) (ty0 := tyX1) (df := dfl1) Y hN rfl in1 tyX1_ok cl_X10_82 win_1 ini_1 dfv1 (Nat.le_of_ble_eq_true rfl) (Nat.le_of_ble_eq_true rfl) dX10_init_175 (fun H hP hD hS hsz hcs hZ => ?_)
  refine lv_dup hx hb dX10_init_178 rfl ?_
  obtain ⟨M13, hc13, h⟩ := bm_el h
  have hex13 : ∀ z ∈ ([(a, .inr (10, [.ref (a + 1), .ref (a + 12), .ref (a + 21), .ref (a + 176), .ref (a + 195), .ref (a + 196), .ref (a + 198), .ref (a + 206), .ref (a + 220), .ref (a + 224), .ref (a + 228), .ref (a + 229), .null, .null, .int 0, .int 0, .int 0, .int 0, .int 0])), (a + 176, rQ E 2 (va_up (va_up (fun _ => none) 0 (some (a + 176 + 1 + 9 * 0))) 1 (some (a + 176 + 1 + 9 * 1))))] : va_W), z.1 < a + 233 := by
    intro z hz
    rcases List.mem_cons.mp hz with rfl | hz
    · show a < a + 233; omega
    · rw [List.mem_singleton] at hz; subst hz; show a + 176 < a + 233; omega
  refine n_callI (L' := nL1 (a + 233) (nL0 (a + 229) 10 (nL0 (a + 224) 160 (nL0 (a + 220) 160 (nL6 (a + 206) (nL5 (a + 198) (nL2 (a + 196) 128 (nL8 (a + 186) (nL8 (a + 177) (nL4 (a + 21) (nL8 (a + 12) (nL7 (a + 1) (L))))) ++ [(a + 195, (1, 2))]))))) ++ [(a + 228, (0, 64))]))) (M' := M13) (ex := [(a, .inr (10, [.ref (a + 1), .ref (a + 12), .ref (a + 21), .ref (a + 176), .ref (a + 195), .ref (a + 196), .ref (a + 198), .ref (a + 206), .ref (a + 220), .ref (a + 224), .ref (a + 228), .ref (a + 229), .null, .null, .int 0, .int 0, .int 0, .int 0, .int 0])), (a + 176, rQ E 2 (va_up (va_up (fun _ => none) 0 (some (a + 176 + 1 + 9 * 0))) 1 (some (a + 176 + 1 + 9 * 1))))]) (ci := 1) (df := dfl1) (mc := 7) (ms := 430) (As := []) (n := 0) Y hP hD hS hsz hcs (by decide) hex13 (iC1_Z hc13 (hZ.mono (by omega))) (nL1_last _ _) wci_1 (Or.inr mi_X10_84) wii_1 ini_1 rfl (by decide +kernel) (by decide) rfl hl.1 (kC1 fu d hZ hc13) ⟨by show _ ≤ d + 4; omega, by show _ ≤ 42 * (d + 4); omega, Nat.le_of_ble_eq_true rfl, Nat.le_of_ble_eq_true rfl⟩ (Nat.le_of_ble_eq_true rfl) dX10_init_179 (fun H locs hN => ?_)
  have hN : Nx s E [(a, .inr (10, [.ref (a + 1), .ref (a + 12), .ref (a + 21), .ref (a + 176), .ref (a + 195), .ref (a + 196), .ref (a + 198), .ref (a + 206), .ref (a + 220), .ref (a + 224), .ref (a + 228), .ref (a + 229), .null, .null, .int 0, .int 0, .int 0, .int 0, .int 0])), (a + 176, rQ E 2 (va_up (va_up (fun _ => none) 0 (some (a + 176 + 1 + 9 * 0))) 1 (some (a + 176 + 1 + 9 * 1))))] (nL1 (a + 233) (nL0 (a + 229) 10 (nL0 (a + 224) 160 (nL0 (a + 220) 160 (nL6 (a + 206) (nL5 (a + 198) (nL2 (a + 196) 128 (nL8 (a + 186) (nL8 (a + 177) (nL4 (a + 21) (nL8 (a + 12) (nL7 (a + 1) (L))))) ++ [(a + 195, (1, 2))]))))) ++ [(a + 228, (0, 64))]))) M13 (a + 241) 240 H locs := hN
  refine n_putF (er := [(a + 176, rQ E 2 (va_up (va_up (fun _ => none) 0 (some (a + 176 + 1 + 9 * 0))) 1 (some (a + 176 + 1 + 9 * 1))))]) (ci := 10) (C := RX10) (T := TX10) (N := 19) (k := 12) (ty0 := tyX10) (fs := [.ref (a + 1), .ref (a + 12), .ref (a + 21), .ref (a + 176), .ref (a + 195), .ref (a + 196), .ref (a + 198), .ref (a + 206), .ref (a + 220), .ref (a + 224), .ref (a + 228), .ref (a + 229), .null, .null, .int 0, .int 0, .int 0, .int 0, .int 0]) (fs' := [.ref (a + 1), .ref (a + 12), .ref (a + 21), .ref (a + 176), .ref (a + 195), .ref (a + 196), .ref (a + 198), .ref (a + 206), .ref (a + 220), .ref (a + 224), .ref (a + 228), .ref (a + 229), .ref (a + 233), .null, .int 0, .int 0, .int 0, .int 0, .int 0]) Y hN rfl in10 tyX10_ok nmX10 (by decide) lk_X10_85 rfl hin rfl rfl rfl (Nat.le_of_ble_eq_true rfl) rfl dX10_init_182 (fun H locs hN => ?_)
  have hN : Nx s E [(a, .inr (10, [.ref (a + 1), .ref (a + 12), .ref (a + 21), .ref (a + 176), .ref (a + 195), .ref (a + 196), .ref (a + 198), .ref (a + 206), .ref (a + 220), .ref (a + 224), .ref (a + 228), .ref (a + 229), .ref (a + 233), .null, .int 0, .int 0, .int 0, .int 0, .int 0])), (a + 176, rQ E 2 (va_up (va_up (fun _ => none) 0 (some (a + 176 + 1 + 9 * 0))) 1 (some (a + 176 + 1 + 9 * 1))))] (nL1 (a + 233) (nL0 (a + 229) 10 (nL0 (a + 224) 160 (nL0 (a + 220) 160 (nL6 (a + 206) (nL5 (a + 198) (nL2 (a + 196) 128 (nL8 (a + 186) (nL8 (a + 177) (nL4 (a + 21) (nL8 (a + 12) (nL7 (a + 1) (L))))) ++ [(a + 195, (1, 2))]))))) ++ [(a + 228, (0, 64))]))) M13 (a + 241) 240 H locs := hN
  obtain ⟨M14, eM14, h⟩ := lt_el h
  have hN := hN.done (a := a) (k := 15) (n := 0) (M1 := M14) (by subst eM14; simp [cellOf, flds, pt, va_rf]) (by subst eM14; intro b hb; simp [pt, hb]) (by omega)
  have hN : Nx s E [(a + 176, rQ E 2 (va_up (va_up (fun _ => none) 0 (some (a + 176 + 1 + 9 * 0))) 1 (some (a + 176 + 1 + 9 * 1))))] ((a, (15, 0)) :: (nL1 (a + 233) (nL0 (a + 229) 10 (nL0 (a + 224) 160 (nL0 (a + 220) 160 (nL6 (a + 206) (nL5 (a + 198) (nL2 (a + 196) 128 (nL8 (a + 186) (nL8 (a + 177) (nL4 (a + 21) (nL8 (a + 12) (nL7 (a + 1) (L))))) ++ [(a + 195, (1, 2))]))))) ++ [(a + 228, (0, 64))])))) M14 (a + 241) 240 H locs := hN
  have hN := hN.exq (f' := fun i => some (a + 176 + 1 + 9 * i)) (by intro j hj; rcases (show j = 0 ∨ j = 1 by omega) with rfl | rfl <;> rfl)
  have hN := hN.done (a := a + 176) (k := 4) (n := 2) (M1 := M14) rfl (fun _ _ => ⟨rfl, rfl, rfl⟩) (by omega)
  have hN : Nx s E [] ((a + 176, (4, 2)) :: (a, (15, 0)) :: (nL1 (a + 233) (nL0 (a + 229) 10 (nL0 (a + 224) 160 (nL0 (a + 220) 160 (nL6 (a + 206) (nL5 (a + 198) (nL2 (a + 196) 128 (nL8 (a + 186) (nL8 (a + 177) (nL4 (a + 21) (nL8 (a + 12) (nL7 (a + 1) (L))))) ++ [(a + 195, (1, 2))]))))) ++ [(a + 228, (0, 64))])))) M14 (a + 241) 240 H locs := hN
  cases h
  exact n_ret Y hN hs0 (by show _ ≤ 11776; omega) hr hlk dX10_init_185
