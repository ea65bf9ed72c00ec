theorem ml_LW_161 : Cond.methodLink RLaw 161 yX10_most ∈ ws0 := tb_5 150 (by decide +kernel) rfl
theorem ml_LW_164 : Cond.methodLink RLaw 164 yX11_most ∈ ws0 := tb_9 5 (by decide +kernel) rfl
theorem ml_LW_165 : Cond.methodLink RLaw 165 yX10_bestSet ∈ ws0 := tb_5 214 (by decide +kernel) rfl
theorem ml_LW_168 : Cond.methodLink RLaw 168 yX11_bestSet ∈ ws0 := tb_9 24 (by decide +kernel) rfl
section LD
variable {p : Program} {l : Launch} {e : Env} {s : State} {m : MethodId} {args : Array Value} {below : List Frame} {meth : Method} {c : Code} {H : Heap} {locs : List Loc} {Q : State → Prop} {cells slots : Nat} {ls : Array Slot} {E : Ge} {L L' : Lay} {M M1 M2 : Mm} {b n qx qm sz d : Nat} {xs : Nat → Int32} {x3 r : Int32} {fu : Nat}
set_option maxRecDepth 100000 in
set_option maxHeartbeats 4000000 in
theorem lw_c35A (X : Lx p s m args c E L b n qx qm xs x3 cells slots ls) (hC : Ct l E L yX10_most cX10_most 2 (some .int) d [.ref qx, .int (xs (ix (x3 + 1)))] M (some (.int r)) M1) (hd : d ≤ 100) (h2 : fX11_most fu qm (xs (ix (x3 + 1))) M1 = some (r, M2)) (hR : Rx s E L M H locs) (kk : ∀ (H1 : Heap) (locs1 : List Loc), Rx s E L M2 H1 locs1 → W p l e room_1 s m args below meth c H1 locs1 cells slots Q (F0 m 1511 ls [])) : W p l e room_1 s m args below meth c H locs cells slots Q (F0 m 1129 ls []) := by
  obtain ⟨B, hXs, hbl, hbA, hq, hmm, hin, hce, hsl, hl⟩ := X
  have hx := B.1
  have hb := B.2.1
  refine lv_aload_n hx hb dLw_1129 rfl (lv_at hl 1 rfl) ?_
  refine lv_aload_n hx hb dLw_1130 rfl (lv_at hl 0 rfl) ?_
  refine lv_iload_n hx hb dLw_1131 rfl (lv_at hl 3 rfl) ?_
  refine lv_iconst (v := 1) hx hb dLw_1132 (by decide) ?_
  refine lv_iadd hx hb dLw_1133 ?_
  refine va_sld hx hb hXs hbl hbA hR.2 (hin 1 (by decide) (by decide)) dLw_1134 ?_
  refine r_callVG (As := [.int (xs (ix (x3 + 1)))]) (n := 1) (r := (some (.int r))) B hR (ci := 10) (C := RX10) (T := TX10) (N := 19) rfl wc_X10_most ml_LW_161 wi_X10_most we_X10_most ini_10 (by decide +kernel) (by decide) (hq.at0 rfl) rfl hl.1 hC ⟨by show _ ≤ 2048; omega, by show _ ≤ 84000; omega, hce, hsl⟩ (Nat.le_of_ble_eq_true rfl) dLw_1135 (fun H locs hR => ?_)
  refine lv_aload_n hx hb dLw_1138 rfl (lv_at hl 2 rfl) ?_
  refine lv_aload_n hx hb dLw_1139 rfl (lv_at hl 0 rfl) ?_
  refine lv_iload_n hx hb dLw_1140 rfl (lv_at hl 3 rfl) ?_
  refine lv_iconst (v := 1) hx hb dLw_1141 (by decide) ?_
  refine lv_iadd hx hb dLw_1142 ?_
  refine va_sld hx hb hXs hbl hbA hR.2 (hin 1 (by decide) (by decide)) dLw_1143 ?_
  refine r_callVG (As := [.int (xs (ix (x3 + 1)))]) (n := 1) (r := (some (.int r))) B hR (ci := 11) (C := RX11) (T := TX11) (N := 52) rfl wc_X11_most ml_LW_164 wi_X11_most we_X11_most ini_11 (by decide +kernel) (by decide) (hmm.at0 rfl) rfl hl.1 (mX11_most fu 0 hmm h2) ⟨Nat.le_of_ble_eq_true rfl, Nat.le_of_ble_eq_true rfl, hce, hsl⟩ (Nat.le_of_ble_eq_true rfl) dLw_1144 (fun H locs hR => ?_)
  exact lv_icmp_eq (x := r) (y := r) (tgt := 1511) hx hb dLw_1147 (by decide) (fun _ => kk H locs hR) (fun c0 => absurd rfl c0)
set_option maxRecDepth 100000 in
set_option maxHeartbeats 4000000 in
theorem lw_c35B (X : Lx p s m args c E L b n qx qm xs x3 cells slots ls) (Y : By p s m args c code 4 RLaw E) (hC : CtA l E L yX10_most cX10_most 2 (some .int) d 12 22822 [.ref qx, .int (xs (ix (x3 + 1)))] M sz (some (.int r)) (nL3 sz L) M1) (hd : d ≤ 100) (hcB : cells + 12 ≤ room_1.cells ∧ slots + 22822 ≤ room_1.slots) (h2 : fX11_most fu qm (xs (ix (x3 + 1))) M1 = some (r, M2)) (hN : Nx s E [] L M sz cells H locs) (kk : ∀ (H1 : Heap) (locs1 : List Loc), Bx p s m args c code 4 RLaw E (nL3 sz L) → Rx s E (nL3 sz L) M2 H1 locs1 → W p l e room_1 s m args below meth c H1 locs1 (cells + 12) (slots + 22822) Q (F0 m 1511 ls [])) : W p l e room_1 s m args below meth c H locs cells slots Q (F0 m 1129 ls []) := by
  obtain ⟨B, hXs, hbl, hbA, hq, hmm, hin, hce, hsl, hl⟩ := X
  have hx := B.1
  have hb := B.2.1
  have hR : Rx s E L M H locs := ⟨hN.1, hN.2.2.1⟩
  have hm2 : At (nL3 sz L) qm T11 := hmm.mono (sL3 _ _)
  refine lv_aload_n hx hb dLw_1129 rfl (lv_at hl 1 rfl) ?_
  refine lv_aload_n hx hb dLw_1130 rfl (lv_at hl 0 rfl) ?_
  refine lv_iload_n hx hb dLw_1131 rfl (lv_at hl 3 rfl) ?_
  refine lv_iconst (v := 1) hx hb dLw_1132 (by decide) ?_
  refine lv_iadd hx hb dLw_1133 ?_
  refine va_sld hx hb hXs hbl hbA hR.2 (hin 1 (by decide) (by decide)) dLw_1134 ?_
  refine a_call (As := [.int (xs (ix (x3 + 1)))]) (n := 1) (r := (some (.int r))) Y hN (ck := 10) (C := RX10) (T := TX10) (N := 19) rfl wc_X10_most ml_LW_161 wi_X10_most we_X10_most ini_10 (by decide +kernel) (by decide) (hq.at0 rfl) rfl hl.1 hC ⟨by show _ ≤ 2048; omega, by show _ ≤ 84000; omega, hcB.1, hcB.2⟩ (Nat.le_of_ble_eq_true rfl) dLw_1135 (fun H locs B hR => ?_)
  refine lv_aload_n hx hb dLw_1138 rfl (lv_at hl 2 rfl) ?_
  refine lv_aload_n hx hb dLw_1139 rfl (lv_at hl 0 rfl) ?_
  refine lv_iload_n hx hb dLw_1140 rfl (lv_at hl 3 rfl) ?_
  refine lv_iconst (v := 1) hx hb dLw_1141 (by decide) ?_
  refine lv_iadd hx hb dLw_1142 ?_
  refine va_sld hx hb hXs hbl hbA hR.2 (hin 1 (by decide) (by decide)) dLw_1143 ?_
  refine r_callVG (As := [.int (xs (ix (x3 + 1)))]) (n := 1) (r := (some (.int r))) B hR (ci := 11) (C := RX11) (T := TX11) (N := 52) rfl wc_X11_most ml_LW_164 wi_X11_most we_X11_most ini_11 (by decide +kernel) (by decide) (hm2.at0 rfl) rfl hl.1 (mX11_most fu 0 hm2 h2) ⟨Nat.le_of_ble_eq_true rfl, Nat.le_of_ble_eq_true rfl, hcB.1, hcB.2⟩ (Nat.le_of_ble_eq_true rfl) dLw_1144 (fun H locs hR => ?_)
  exact lv_icmp_eq (x := r) (y := r) (tgt := 1511) hx hb dLw_1147 (by decide) (fun _ => kk H locs B hR) (fun c0 => absurd rfl c0)
set_option maxRecDepth 100000 in
set_option maxHeartbeats 4000000 in
theorem lw_c36A (X : Lx p s m args c E L b n qx qm xs x3 cells slots ls) (hC : Ct l E L yX10_bestSet cX10_bestSet 4 (some .int) d [.ref qx, .int (xs (ix (x3 + 1))), .int (xs (ix (x3 + 2))), .int (xs (ix (x3 + 3)))] M (some (.int r)) M1) (hd : d ≤ 100) (h2 : fX11_bestSet fu qm (xs (ix (x3 + 1))) (xs (ix (x3 + 2))) (xs (ix (x3 + 3))) M1 = some (r, M2)) (hR : Rx s E L M H locs) (kk : ∀ (H1 : Heap) (locs1 : List Loc), Rx s E L M2 H1 locs1 → W p l e room_1 s m args below meth c H1 locs1 cells slots Q (F0 m 1511 ls [])) : W p l e room_1 s m args below meth c H locs cells slots Q (F0 m 1152 ls []) := by
  obtain ⟨B, hXs, hbl, hbA, hq, hmm, hin, hce, hsl, hl⟩ := X
  have hx := B.1
  have hb := B.2.1
  refine lv_aload_n hx hb dLw_1152 rfl (lv_at hl 1 rfl) ?_
  refine lv_aload_n hx hb dLw_1153 rfl (lv_at hl 0 rfl) ?_
  refine lv_iload_n hx hb dLw_1154 rfl (lv_at hl 3 rfl) ?_
  refine lv_iconst (v := 1) hx hb dLw_1155 (by decide) ?_
  refine lv_iadd hx hb dLw_1156 ?_
  refine va_sld hx hb hXs hbl hbA hR.2 (hin 1 (by decide) (by decide)) dLw_1157 ?_
  refine lv_aload_n hx hb dLw_1158 rfl (lv_at hl 0 rfl) ?_
  refine lv_iload_n hx hb dLw_1159 rfl (lv_at hl 3 rfl) ?_
  refine lv_iconst (v := 2) hx hb dLw_1160 (by decide) ?_
  refine lv_iadd hx hb dLw_1161 ?_
  refine va_sld hx hb hXs hbl hbA hR.2 (hin 2 (by decide) (by decide)) dLw_1162 ?_
  refine lv_aload_n hx hb dLw_1163 rfl (lv_at hl 0 rfl) ?_
  refine lv_iload_n hx hb dLw_1164 rfl (lv_at hl 3 rfl) ?_
  refine lv_iconst (v := 3) hx hb dLw_1165 (by decide) ?_
  refine lv_iadd hx hb dLw_1166 ?_
  refine va_sld hx hb hXs hbl hbA hR.2 (hin 3 (by decide) (by decide)) dLw_1167 ?_
  refine r_callVG (As := [.int (xs (ix (x3 + 1))), .int (xs (ix (x3 + 2))), .int (xs (ix (x3 + 3)))]) (n := 3) (r := (some (.int r))) B hR (ci := 10) (C := RX10) (T := TX10) (N := 19) rfl wc_X10_bestSet ml_LW_165 wi_X10_bestSet we_X10_bestSet ini_10 (by decide +kernel) (by decide) (hq.at0 rfl) rfl hl.1 hC ⟨by show _ ≤ 2048; omega, by show _ ≤ 84000; omega, hce, hsl⟩ (Nat.le_of_ble_eq_true rfl) dLw_1168 (fun H locs hR => ?_)
  refine lv_aload_n hx hb dLw_1171 rfl (lv_at hl 2 rfl) ?_
  refine lv_aload_n hx hb dLw_1172 rfl (lv_at hl 0 rfl) ?_
  refine lv_iload_n hx hb dLw_1173 rfl (lv_at hl 3 rfl) ?_
  refine lv_iconst (v := 1) hx hb dLw_1174 (by decide) ?_
  refine lv_iadd hx hb dLw_1175 ?_
  refine va_sld hx hb hXs hbl hbA hR.2 (hin 1 (by decide) (by decide)) dLw_1176 ?_
  refine lv_aload_n hx hb dLw_1177 rfl (lv_at hl 0 rfl) ?_
  refine lv_iload_n hx hb dLw_1178 rfl (lv_at hl 3 rfl) ?_
  refine lv_iconst (v := 2) hx hb dLw_1179 (by decide) ?_
  refine lv_iadd hx hb dLw_1180 ?_
  refine va_sld hx hb hXs hbl hbA hR.2 (hin 2 (by decide) (by decide)) dLw_1181 ?_
  refine lv_aload_n hx hb dLw_1182 rfl (lv_at hl 0 rfl) ?_
  refine lv_iload_n hx hb dLw_1183 rfl (lv_at hl 3 rfl) ?_
  refine lv_iconst (v := 3) hx hb dLw_1184 (by decide) ?_
  refine lv_iadd hx hb dLw_1185 ?_
  refine va_sld hx hb hXs hbl hbA hR.2 (hin 3 (by decide) (by decide)) dLw_1186 ?_
  refine r_callVG (As := [.int (xs (ix (x3 + 1))), .int (xs (ix (x3 + 2))), .int (xs (ix (x3 + 3)))]) (n := 3) (r := (some (.int r))) B hR (ci := 11) (C := RX11) (T := TX11) (N := 52) rfl wc_X11_bestSet ml_LW_168 wi_X11_bestSet we_X11_bestSet ini_11 (by decide +kernel) (by decide) (hmm.at0 rfl) rfl hl.1 (mX11_bestSet fu 0 hmm h2) ⟨Nat.le_of_ble_eq_true rfl, Nat.le_of_ble_eq_true rfl, hce, hsl⟩ (Nat.le_of_ble_eq_true rfl) dLw_1187 (fun H locs hR => ?_)
  exact lv_icmp_eq (x := r) (y := r) (tgt := 1511) hx hb dLw_1190 (by decide) (fun _ => kk H locs hR) (fun c0 => absurd rfl c0)
set_option maxRecDepth 100000 in
set_option maxHeartbeats 4000000 in
theorem lw_c36B (X : Lx p s m args c E L b n qx qm xs x3 cells slots ls) (Y : By p s m args c code 4 RLaw E) (hC : CtA l E L yX10_bestSet cX10_bestSet 4 (some .int) d 12 22822 [.ref qx, .int (xs (ix (x3 + 1))), .int (xs (ix (x3 + 2))), .int (xs (ix (x3 + 3)))] M sz (some (.int r)) (nL3 sz L) M1) (hd : d ≤ 100) (hcB : cells + 12 ≤ room_1.cells ∧ slots + 22822 ≤ room_1.slots) (h2 : fX11_bestSet fu qm (xs (ix (x3 + 1))) (xs (ix (x3 + 2))) (xs (ix (x3 + 3))) M1 = some (r, M2)) (hN : Nx s E [] L M sz cells H locs) (kk : ∀ (H1 : Heap) (locs1 : List Loc), Bx p s m args c code 4 RLaw E (nL3 sz L) → Rx s E (nL3 sz L) M2 H1 locs1 → W p l e room_1 s m args below meth c H1 locs1 (cells + 12) (slots + 22822) Q (F0 m 1511 ls [])) : W p l e room_1 s m args below meth c H locs cells slots Q (F0 m 1152 ls []) := by
  obtain ⟨B, hXs, hbl, hbA, hq, hmm, hin, hce, hsl, hl⟩ := X
  have hx := B.1
  have hb := B.2.1
  have hR : Rx s E L M H locs := ⟨hN.1, hN.2.2.1⟩
  have hm2 : At (nL3 sz L) qm T11 := hmm.mono (sL3 _ _)
  refine lv_aload_n hx hb dLw_1152 rfl (lv_at hl 1 rfl) ?_
  refine lv_aload_n hx hb dLw_1153 rfl (lv_at hl 0 rfl) ?_
  refine lv_iload_n hx hb dLw_1154 rfl (lv_at hl 3 rfl) ?_
  refine lv_iconst (v := 1) hx hb dLw_1155 (by decide) ?_
  refine lv_iadd hx hb dLw_1156 ?_
  refine va_sld hx hb hXs hbl hbA hR.2 (hin 1 (by decide) (by decide)) dLw_1157 ?_
  refine lv_aload_n hx hb dLw_1158 rfl (lv_at hl 0 rfl) ?_
  refine lv_iload_n hx hb dLw_1159 rfl (lv_at hl 3 rfl) ?_
  refine lv_iconst (v := 2) hx hb dLw_1160 (by decide) ?_
  refine lv_iadd hx hb dLw_1161 ?_
  refine va_sld hx hb hXs hbl hbA hR.2 (hin 2 (by decide) (by decide)) dLw_1162 ?_
  refine lv_aload_n hx hb dLw_1163 rfl (lv_at hl 0 rfl) ?_
  refine lv_iload_n hx hb dLw_1164 rfl (lv_at hl 3 rfl) ?_
  refine lv_iconst (v := 3) hx hb dLw_1165 (by decide) ?_
  refine lv_iadd hx hb dLw_1166 ?_
  refine va_sld hx hb hXs hbl hbA hR.2 (hin 3 (by decide) (by decide)) dLw_1167 ?_
  refine a_call (As := [.int (xs (ix (x3 + 1))), .int (xs (ix (x3 + 2))), .int (xs (ix (x3 + 3)))]) (n := 3) (r := (some (.int r))) Y hN (ck := 10) (C := RX10) (T := TX10) (N := 19) rfl wc_X10_bestSet ml_LW_165 wi_X10_bestSet we_X10_bestSet ini_10 (by decide +kernel) (by decide) (hq.at0 rfl) rfl hl.1 hC ⟨by show _ ≤ 2048; omega, by show _ ≤ 84000; omega, hcB.1, hcB.2⟩ (Nat.le_of_ble_eq_true rfl) dLw_1168 (fun H locs B hR => ?_)
  refine lv_aload_n hx hb dLw_1171 rfl (lv_at hl 2 rfl) ?_
  refine lv_aload_n hx hb dLw_1172 rfl (lv_at hl 0 rfl) ?_
  refine lv_iload_n hx hb dLw_1173 rfl (lv_at hl 3 rfl) ?_
  refine lv_iconst (v := 1) hx hb dLw_1174 (by decide) ?_
  refine lv_iadd hx hb dLw_1175 ?_
  refine va_sld hx hb hXs hbl hbA hR.2 (hin 1 (by decide) (by decide)) dLw_1176 ?_
  refine lv_aload_n hx hb dLw_1177 rfl (lv_at hl 0 rfl) ?_
  refine lv_iload_n hx hb dLw_1178 rfl (lv_at hl 3 rfl) ?_
  refine lv_iconst (v := 2) hx hb dLw_1179 (by decide) ?_
  refine lv_iadd hx hb dLw_1180 ?_
  refine va_sld hx hb hXs hbl hbA hR.2 (hin 2 (by decide) (by decide)) dLw_1181 ?_
  refine lv_aload_n hx hb dLw_1182 rfl (lv_at hl 0 rfl) ?_
  refine lv_iload_n hx hb dLw_1183 rfl (lv_at hl 3 rfl) ?_
  refine lv_iconst (v := 3) hx hb dLw_1184 (by decide) ?_
  refine lv_iadd hx hb dLw_1185 ?_
  refine va_sld hx hb hXs hbl hbA hR.2 (hin 3 (by decide) (by decide)) dLw_1186 ?_
  refine r_callVG (As := [.int (xs (ix (x3 + 1))), .int (xs (ix (x3 + 2))), .int (xs (ix (x3 + 3)))]) (n := 3) (r := (some (.int r))) B hR (ci := 11) (C := RX11) (T := TX11) (N := 52) rfl wc_X11_bestSet ml_LW_168 wi_X11_bestSet we_X11_bestSet ini_11 (by decide +kernel) (by decide) (hm2.at0 rfl) rfl hl.1 (mX11_bestSet fu 0 hm2 h2) ⟨Nat.le_of_ble_eq_true rfl, Nat.le_of_ble_eq_true rfl, hcB.1, hcB.2⟩ (Nat.le_of_ble_eq_true rfl) dLw_1187 (fun H locs hR => ?_)
  exact lv_icmp_eq (x := r) (y := r) (tgt := 1511) hx hb dLw_1190 (by decide) (fun _ => kk H locs B hR) (fun c0 => absurd rfl c0)
end LD
