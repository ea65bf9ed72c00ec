section LS
variable {p : Program} {l : Launch} {e : Env} {s : State} {m : MethodId} {args : Array Value} {below : List Frame} {meth : Method} {c : Code} {H : Heap} {locs : List Loc} {cells slots : Nat} {ls : Array Slot} {Q : State → Prop} {v : Int32}
set_option maxRecDepth 100000 in
set_option maxHeartbeats 4000000 in
/-- the switch: to each case, or behind them all -/
theorem lw_sw (hx : p.tables.exec = Jvm.exec) (hb : c.code = code) (k0 : v = 0 → W p l e room_1 s m args below meth c H locs cells slots Q (F0 m 244 ls [])) (k1 : v = 1 → W p l e room_1 s m args below meth c H locs cells slots Q (F0 m 307 ls [])) (k2 : v = 2 → W p l e room_1 s m args below meth c H locs cells slots Q (F0 m 330 ls [])) (k3 : v = 3 → W p l e room_1 s m args below meth c H locs cells slots Q (F0 m 343 ls [])) (k4 : v = 4 → W p l e room_1 s m args below meth c H locs cells slots Q (F0 m 366 ls [])) (k5 : v = 5 → W p l e room_1 s m args below meth c H locs cells slots Q (F0 m 409 ls [])) (k6 : v = 6 → W p l e room_1 s m args below meth c H locs cells slots Q (F0 m 432 ls [])) (k7 : v = 7 → W p l e room_1 s m args below meth c H locs cells slots Q (F0 m 455 ls [])) (k8 : v = 8 → W p l e room_1 s m args below meth c H locs cells slots Q (F0 m 488 ls [])) (k9 : v = 9 → W p l e room_1 s m args below meth c H locs cells slots Q (F0 m 541 ls [])) (k10 : v = 10 → W p l e room_1 s m args below meth c H locs cells slots Q (F0 m 564 ls [])) (k11 : v = 11 → W p l e room_1 s m args below meth c H locs cells slots Q (F0 m 577 ls [])) (k12 : v = 12 → W p l e room_1 s m args below meth c H locs cells slots Q (F0 m 610 ls [])) (k13 : v = 13 → W p l e room_1 s m args below meth c H locs cells slots Q (F0 m 623 ls [])) (k14 : v = 14 → W p l e room_1 s m args below meth c H locs cells slots Q (F0 m 636 ls [])) (k15 : v = 15 → W p l e room_1 s m args below meth c H locs cells slots Q (F0 m 649 ls [])) (k16 : v = 16 → W p l e room_1 s m args below meth c H locs cells slots Q (F0 m 662 ls [])) (k17 : v = 17 → W p l e room_1 s m args below meth c H locs cells slots Q (F0 m 675 ls [])) (k18 : v = 18 → W p l e room_1 s m args below meth c H locs cells slots Q (F0 m 708 ls [])) (k19 : v = 19 → W p l e room_1 s m args below meth c H locs cells slots Q (F0 m 741 ls [])) (k20 : v = 20 → W p l e room_1 s m args below meth c H locs cells slots Q (F0 m 764 ls [])) (k21 : v = 21 → W p l e room_1 s m args below meth c H locs cells slots Q (F0 m 787 ls [])) (k22 : v = 22 → W p l e room_1 s m args below meth c H locs cells slots Q (F0 m 810 ls [])) (k23 : v = 23 → W p l e room_1 s m args below meth c H locs cells slots Q (F0 m 843 ls [])) (k24 : v = 24 → W p l e room_1 s m args below meth c H locs cells slots Q (F0 m 866 ls [])) (k25 : v = 25 → W p l e room_1 s m args below meth c H locs cells slots Q (F0 m 889 ls [])) (k26 : v = 26 → W p l e room_1 s m args below meth c H locs cells slots Q (F0 m 912 ls [])) (k27 : v = 27 → W p l e room_1 s m args below meth c H locs cells slots Q (F0 m 935 ls [])) (k28 : v = 28 → W p l e room_1 s m args below meth c H locs cells slots Q (F0 m 958 ls [])) (k29 : v = 29 → W p l e room_1 s m args below meth c H locs cells slots Q (F0 m 991 ls [])) (k30 : v = 30 → W p l e room_1 s m args below meth c H locs cells slots Q (F0 m 1014 ls [])) (k31 : v = 31 → W p l e room_1 s m args below meth c H locs cells slots Q (F0 m 1037 ls [])) (k32 : v = 32 → W p l e room_1 s m args below meth c H locs cells slots Q (F0 m 1060 ls [])) (k33 : v = 33 → W p l e room_1 s m args below meth c H locs cells slots Q (F0 m 1093 ls [])) (k34 : v = 34 → W p l e room_1 s m args below meth c H locs cells slots Q (F0 m 1116 ls [])) (k35 : v = 35 → W p l e room_1 s m args below meth c H locs cells slots Q (F0 m 1129 ls [])) (k36 : v = 36 → W p l e room_1 s m args below meth c H locs cells slots Q (F0 m 1152 ls [])) (k37 : v = 37 → W p l e room_1 s m args below meth c H locs cells slots Q (F0 m 1195 ls [])) (k38 : v = 38 → W p l e room_1 s m args below meth c H locs cells slots Q (F0 m 1218 ls [])) (k39 : v = 39 → W p l e room_1 s m args below meth c H locs cells slots Q (F0 m 1241 ls [])) (k40 : v = 40 → W p l e room_1 s m args below meth c H locs cells slots Q (F0 m 1284 ls [])) (k41 : v = 41 → W p l e room_1 s m args below meth c H locs cells slots Q (F0 m 1307 ls [])) (k42 : v = 42 → W p l e room_1 s m args below meth c H locs cells slots Q (F0 m 1330 ls [])) (k43 : v = 43 → W p l e room_1 s m args below meth c H locs cells slots Q (F0 m 1353 ls [])) (k44 : v = 44 → W p l e room_1 s m args below meth c H locs cells slots Q (F0 m 1386 ls [])) (k45 : v = 45 → W p l e room_1 s m args below meth c H locs cells slots Q (F0 m 1409 ls [])) (k46 : v = 46 → W p l e room_1 s m args below meth c H locs cells slots Q (F0 m 1432 ls [])) (k47 : v = 47 → W p l e room_1 s m args below meth c H locs cells slots Q (F0 m 1465 ls [])) (k48 : v = 48 → W p l e room_1 s m args below meth c H locs cells slots Q (F0 m 1488 ls [])) (kd : W p l e room_1 s m args below meth c H locs cells slots Q (F0 m 1511 ls [])) : W p l e room_1 s m args below meth c H locs cells slots Q (F0 m 33 ls [.int v]) := by
  by_cases s0 : v = 0
  · exact lv_tableIn (tgt := 244) hx hb dLw_33 (by rw [s0]; decide) (by rw [s0]; decide) (by rw [s0]; rfl) (by decide) (k0 s0)
  by_cases s1 : v = 1
  · exact lv_tableIn (tgt := 307) hx hb dLw_33 (by rw [s1]; decide) (by rw [s1]; decide) (by rw [s1]; rfl) (by decide) (k1 s1)
  by_cases s2 : v = 2
  · exact lv_tableIn (tgt := 330) hx hb dLw_33 (by rw [s2]; decide) (by rw [s2]; decide) (by rw [s2]; rfl) (by decide) (k2 s2)
  by_cases s3 : v = 3
  · exact lv_tableIn (tgt := 343) hx hb dLw_33 (by rw [s3]; decide) (by rw [s3]; decide) (by rw [s3]; rfl) (by decide) (k3 s3)
  by_cases s4 : v = 4
  · exact lv_tableIn (tgt := 366) hx hb dLw_33 (by rw [s4]; decide) (by rw [s4]; decide) (by rw [s4]; rfl) (by decide) (k4 s4)
  by_cases s5 : v = 5
  · exact lv_tableIn (tgt := 409) hx hb dLw_33 (by rw [s5]; decide) (by rw [s5]; decide) (by rw [s5]; rfl) (by decide) (k5 s5)
  by_cases s6 : v = 6
  · exact lv_tableIn (tgt := 432) hx hb dLw_33 (by rw [s6]; decide) (by rw [s6]; decide) (by rw [s6]; rfl) (by decide) (k6 s6)
  by_cases s7 : v = 7
  · exact lv_tableIn (tgt := 455) hx hb dLw_33 (by rw [s7]; decide) (by rw [s7]; decide) (by rw [s7]; rfl) (by decide) (k7 s7)
  by_cases s8 : v = 8
  · exact lv_tableIn (tgt := 488) hx hb dLw_33 (by rw [s8]; decide) (by rw [s8]; decide) (by rw [s8]; rfl) (by decide) (k8 s8)
  by_cases s9 : v = 9
  · exact lv_tableIn (tgt := 541) hx hb dLw_33 (by rw [s9]; decide) (by rw [s9]; decide) (by rw [s9]; rfl) (by decide) (k9 s9)
  by_cases s10 : v = 10
  · exact lv_tableIn (tgt := 564) hx hb dLw_33 (by rw [s10]; decide) (by rw [s10]; decide) (by rw [s10]; rfl) (by decide) (k10 s10)
  by_cases s11 : v = 11
  · exact lv_tableIn (tgt := 577) hx hb dLw_33 (by rw [s11]; decide) (by rw [s11]; decide) (by rw [s11]; rfl) (by decide) (k11 s11)
  by_cases s12 : v = 12
  · exact lv_tableIn (tgt := 610) hx hb dLw_33 (by rw [s12]; decide) (by rw [s12]; decide) (by rw [s12]; rfl) (by decide) (k12 s12)
  by_cases s13 : v = 13
  · exact lv_tableIn (tgt := 623) hx hb dLw_33 (by rw [s13]; decide) (by rw [s13]; decide) (by rw [s13]; rfl) (by decide) (k13 s13)
  by_cases s14 : v = 14
  · exact lv_tableIn (tgt := 636) hx hb dLw_33 (by rw [s14]; decide) (by rw [s14]; decide) (by rw [s14]; rfl) (by decide) (k14 s14)
  by_cases s15 : v = 15
  · exact lv_tableIn (tgt := 649) hx hb dLw_33 (by rw [s15]; decide) (by rw [s15]; decide) (by rw [s15]; rfl) (by decide) (k15 s15)
  by_cases s16 : v = 16
  · exact lv_tableIn (tgt := 662) hx hb dLw_33 (by rw [s16]; decide) (by rw [s16]; decide) (by rw [s16]; rfl) (by decide) (k16 s16)
  by_cases s17 : v = 17
  · exact lv_tableIn (tgt := 675) hx hb dLw_33 (by rw [s17]; decide) (by rw [s17]; decide) (by rw [s17]; rfl) (by decide) (k17 s17)
  by_cases s18 : v = 18
  · exact lv_tableIn (tgt := 708) hx hb dLw_33 (by rw [s18]; decide) (by rw [s18]; decide) (by rw [s18]; rfl) (by decide) (k18 s18)
  by_cases s19 : v = 19
  · exact lv_tableIn (tgt := 741) hx hb dLw_33 (by rw [s19]; decide) (by rw [s19]; decide) (by rw [s19]; rfl) (by decide) (k19 s19)
  by_cases s20 : v = 20
  · exact lv_tableIn (tgt := 764) hx hb dLw_33 (by rw [s20]; decide) (by rw [s20]; decide) (by rw [s20]; rfl) (by decide) (k20 s20)
  by_cases s21 : v = 21
  · exact lv_tableIn (tgt := 787) hx hb dLw_33 (by rw [s21]; decide) (by rw [s21]; decide) (by rw [s21]; rfl) (by decide) (k21 s21)
  by_cases s22 : v = 22
  · exact lv_tableIn (tgt := 810) hx hb dLw_33 (by rw [s22]; decide) (by rw [s22]; decide) (by rw [s22]; rfl) (by decide) (k22 s22)
  by_cases s23 : v = 23
  · exact lv_tableIn (tgt := 843) hx hb dLw_33 (by rw [s23]; decide) (by rw [s23]; decide) (by rw [s23]; rfl) (by decide) (k23 s23)
  by_cases s24 : v = 24
  · exact lv_tableIn (tgt := 866) hx hb dLw_33 (by rw [s24]; decide) (by rw [s24]; decide) (by rw [s24]; rfl) (by decide) (k24 s24)
  by_cases s25 : v = 25
  · exact lv_tableIn (tgt := 889) hx hb dLw_33 (by rw [s25]; decide) (by rw [s25]; decide) (by rw [s25]; rfl) (by decide) (k25 s25)
  by_cases s26 : v = 26
  · exact lv_tableIn (tgt := 912) hx hb dLw_33 (by rw [s26]; decide) (by rw [s26]; decide) (by rw [s26]; rfl) (by decide) (k26 s26)
  by_cases s27 : v = 27
  · exact lv_tableIn (tgt := 935) hx hb dLw_33 (by rw [s27]; decide) (by rw [s27]; decide) (by rw [s27]; rfl) (by decide) (k27 s27)
  by_cases s28 : v = 28
  · exact lv_tableIn (tgt := 958) hx hb dLw_33 (by rw [s28]; decide) (by rw [s28]; decide) (by rw [s28]; rfl) (by decide) (k28 s28)
  by_cases s29 : v = 29
  · exact lv_tableIn (tgt := 991) hx hb dLw_33 (by rw [s29]; decide) (by rw [s29]; decide) (by rw [s29]; rfl) (by decide) (k29 s29)
  by_cases s30 : v = 30
  · exact lv_tableIn (tgt := 1014) hx hb dLw_33 (by rw [s30]; decide) (by rw [s30]; decide) (by rw [s30]; rfl) (by decide) (k30 s30)
  by_cases s31 : v = 31
  · exact lv_tableIn (tgt := 1037) hx hb dLw_33 (by rw [s31]; decide) (by rw [s31]; decide) (by rw [s31]; rfl) (by decide) (k31 s31)
  by_cases s32 : v = 32
  · exact lv_tableIn (tgt := 1060) hx hb dLw_33 (by rw [s32]; decide) (by rw [s32]; decide) (by rw [s32]; rfl) (by decide) (k32 s32)
  by_cases s33 : v = 33
  · exact lv_tableIn (tgt := 1093) hx hb dLw_33 (by rw [s33]; decide) (by rw [s33]; decide) (by rw [s33]; rfl) (by decide) (k33 s33)
  by_cases s34 : v = 34
  · exact lv_tableIn (tgt := 1116) hx hb dLw_33 (by rw [s34]; decide) (by rw [s34]; decide) (by rw [s34]; rfl) (by decide) (k34 s34)
  by_cases s35 : v = 35
  · exact lv_tableIn (tgt := 1129) hx hb dLw_33 (by rw [s35]; decide) (by rw [s35]; decide) (by rw [s35]; rfl) (by decide) (k35 s35)
  by_cases s36 : v = 36
  · exact lv_tableIn (tgt := 1152) hx hb dLw_33 (by rw [s36]; decide) (by rw [s36]; decide) (by rw [s36]; rfl) (by decide) (k36 s36)
  by_cases s37 : v = 37
  · exact lv_tableIn (tgt := 1195) hx hb dLw_33 (by rw [s37]; decide) (by rw [s37]; decide) (by rw [s37]; rfl) (by decide) (k37 s37)
  by_cases s38 : v = 38
  · exact lv_tableIn (tgt := 1218) hx hb dLw_33 (by rw [s38]; decide) (by rw [s38]; decide) (by rw [s38]; rfl) (by decide) (k38 s38)
  by_cases s39 : v = 39
  · exact lv_tableIn (tgt := 1241) hx hb dLw_33 (by rw [s39]; decide) (by rw [s39]; decide) (by rw [s39]; rfl) (by decide) (k39 s39)
  by_cases s40 : v = 40
  · exact lv_tableIn (tgt := 1284) hx hb dLw_33 (by rw [s40]; decide) (by rw [s40]; decide) (by rw [s40]; rfl) (by decide) (k40 s40)
  by_cases s41 : v = 41
  · exact lv_tableIn (tgt := 1307) hx hb dLw_33 (by rw [s41]; decide) (by rw [s41]; decide) (by rw [s41]; rfl) (by decide) (k41 s41)
  by_cases s42 : v = 42
  · exact lv_tableIn (tgt := 1330) hx hb dLw_33 (by rw [s42]; decide) (by rw [s42]; decide) (by rw [s42]; rfl) (by decide) (k42 s42)
  by_cases s43 : v = 43
  · exact lv_tableIn (tgt := 1353) hx hb dLw_33 (by rw [s43]; decide) (by rw [s43]; decide) (by rw [s43]; rfl) (by decide) (k43 s43)
  by_cases s44 : v = 44
  · exact lv_tableIn (tgt := 1386) hx hb dLw_33 (by rw [s44]; decide) (by rw [s44]; decide) (by rw [s44]; rfl) (by decide) (k44 s44)
  by_cases s45 : v = 45
  · exact lv_tableIn (tgt := 1409) hx hb dLw_33 (by rw [s45]; decide) (by rw [s45]; decide) (by rw [s45]; rfl) (by decide) (k45 s45)
  by_cases s46 : v = 46
  · exact lv_tableIn (tgt := 1432) hx hb dLw_33 (by rw [s46]; decide) (by rw [s46]; decide) (by rw [s46]; rfl) (by decide) (k46 s46)
  by_cases s47 : v = 47
  · exact lv_tableIn (tgt := 1465) hx hb dLw_33 (by rw [s47]; decide) (by rw [s47]; decide) (by rw [s47]; rfl) (by decide) (k47 s47)
  by_cases s48 : v = 48
  · exact lv_tableIn (tgt := 1488) hx hb dLw_33 (by rw [s48]; decide) (by rw [s48]; decide) (by rw [s48]; rfl) (by decide) (k48 s48)
  have n0 := ne_toInt s0 (a := 0) (by decide)
  have n1 := ne_toInt s1 (a := 1) (by decide)
  have n2 := ne_toInt s2 (a := 2) (by decide)
  have n3 := ne_toInt s3 (a := 3) (by decide)
  have n4 := ne_toInt s4 (a := 4) (by decide)
  have n5 := ne_toInt s5 (a := 5) (by decide)
  have n6 := ne_toInt s6 (a := 6) (by decide)
  have n7 := ne_toInt s7 (a := 7) (by decide)
  have n8 := ne_toInt s8 (a := 8) (by decide)
  have n9 := ne_toInt s9 (a := 9) (by decide)
  have n10 := ne_toInt s10 (a := 10) (by decide)
  have n11 := ne_toInt s11 (a := 11) (by decide)
  have n12 := ne_toInt s12 (a := 12) (by decide)
  have n13 := ne_toInt s13 (a := 13) (by decide)
  have n14 := ne_toInt s14 (a := 14) (by decide)
  have n15 := ne_toInt s15 (a := 15) (by decide)
  have n16 := ne_toInt s16 (a := 16) (by decide)
  have n17 := ne_toInt s17 (a := 17) (by decide)
  have n18 := ne_toInt s18 (a := 18) (by decide)
  have n19 := ne_toInt s19 (a := 19) (by decide)
  have n20 := ne_toInt s20 (a := 20) (by decide)
  have n21 := ne_toInt s21 (a := 21) (by decide)
  have n22 := ne_toInt s22 (a := 22) (by decide)
  have n23 := ne_toInt s23 (a := 23) (by decide)
  have n24 := ne_toInt s24 (a := 24) (by decide)
  have n25 := ne_toInt s25 (a := 25) (by decide)
  have n26 := ne_toInt s26 (a := 26) (by decide)
  have n27 := ne_toInt s27 (a := 27) (by decide)
  have n28 := ne_toInt s28 (a := 28) (by decide)
  have n29 := ne_toInt s29 (a := 29) (by decide)
  have n30 := ne_toInt s30 (a := 30) (by decide)
  have n31 := ne_toInt s31 (a := 31) (by decide)
  have n32 := ne_toInt s32 (a := 32) (by decide)
  have n33 := ne_toInt s33 (a := 33) (by decide)
  have n34 := ne_toInt s34 (a := 34) (by decide)
  have n35 := ne_toInt s35 (a := 35) (by decide)
  have n36 := ne_toInt s36 (a := 36) (by decide)
  have n37 := ne_toInt s37 (a := 37) (by decide)
  have n38 := ne_toInt s38 (a := 38) (by decide)
  have n39 := ne_toInt s39 (a := 39) (by decide)
  have n40 := ne_toInt s40 (a := 40) (by decide)
  have n41 := ne_toInt s41 (a := 41) (by decide)
  have n42 := ne_toInt s42 (a := 42) (by decide)
  have n43 := ne_toInt s43 (a := 43) (by decide)
  have n44 := ne_toInt s44 (a := 44) (by decide)
  have n45 := ne_toInt s45 (a := 45) (by decide)
  have n46 := ne_toInt s46 (a := 46) (by decide)
  have n47 := ne_toInt s47 (a := 47) (by decide)
  have n48 := ne_toInt s48 (a := 48) (by decide)
  exact lv_tableOut (tgt := 1511) hx hb dLw_33 (by omega) (by decide) kd
end LS
