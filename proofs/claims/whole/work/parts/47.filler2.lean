theorem dX10_fillerNow_0 : decode cX10_fillerNow 0 = .ok (.aload_n 0, 1) := by decide +kernel
theorem dX10_fillerNow_1 : decode cX10_fillerNow 1 = .ok (.getfield 406, 3) := by decide +kernel
theorem dX10_fillerNow_4 : decode cX10_fillerNow 4 = .ok (.ifnonnull 14, 3) := by decide +kernel
theorem dX10_fillerNow_7 : decode cX10_fillerNow 7 = .ok (.aload_n 0, 1) := by decide +kernel
theorem dX10_fillerNow_8 : decode cX10_fillerNow 8 = .ok (.new 298, 3) := by decide +kernel
theorem dX10_fillerNow_11 : decode cX10_fillerNow 11 = .ok (.dup, 1) := by decide +kernel
theorem dX10_fillerNow_12 : decode cX10_fillerNow 12 = .ok (.invokespecial 410, 3) := by decide +kernel
theorem dX10_fillerNow_15 : decode cX10_fillerNow 15 = .ok (.putfield 406, 3) := by decide +kernel
theorem dX10_fillerNow_18 : decode cX10_fillerNow 18 = .ok (.aload_n 0, 1) := by decide +kernel
theorem dX10_fillerNow_19 : decode cX10_fillerNow 19 = .ok (.getfield 386, 3) := by decide +kernel
theorem dX10_fillerNow_22 : decode cX10_fillerNow 22 = .ok (.ifCond .ne 19, 3) := by decide +kernel
theorem dX10_fillerNow_25 : decode cX10_fillerNow 25 = .ok (.aload_n 0, 1) := by decide +kernel
theorem dX10_fillerNow_26 : decode cX10_fillerNow 26 = .ok (.getfield 406, 3) := by decide +kernel
theorem dX10_fillerNow_29 : decode cX10_fillerNow 29 = .ok (.aload_n 0, 1) := by decide +kernel
theorem dX10_fillerNow_30 : decode cX10_fillerNow 30 = .ok (.getfield 19, 3) := by decide +kernel
theorem dX10_fillerNow_33 : decode cX10_fillerNow 33 = .ok (.invokevirtual 411, 3) := by decide +kernel
theorem dX10_fillerNow_36 : decode cX10_fillerNow 36 = .ok (.aload_n 0, 1) := by decide +kernel
theorem dX10_fillerNow_37 : decode cX10_fillerNow 37 = .ok (.iconst 1, 1) := by decide +kernel
theorem dX10_fillerNow_38 : decode cX10_fillerNow 38 = .ok (.putfield 386, 3) := by decide +kernel
theorem dX10_fillerNow_41 : decode cX10_fillerNow 41 = .ok (.aload_n 0, 1) := by decide +kernel
theorem dX10_fillerNow_42 : decode cX10_fillerNow 42 = .ok (.getfield 406, 3) := by decide +kernel
theorem dX10_fillerNow_45 : decode cX10_fillerNow 45 = .ok (.areturn, 1) := by decide +kernel
theorem dX10_most_0 : decode cX10_most 0 = .ok (.iload_n 1, 1) := by decide +kernel
theorem dX10_most_1 : decode cX10_most 1 = .ok (.ifCond .lt 9, 3) := by decide +kernel
theorem dX10_most_4 : decode cX10_most 4 = .ok (.iload_n 1, 1) := by decide +kernel
theorem dX10_most_5 : decode cX10_most 5 = .ok (.bipush 10, 2) := by decide +kernel
theorem dX10_most_7 : decode cX10_most 7 = .ok (.if_icmp .le 7, 3) := by decide +kernel
theorem dX10_most_10 : decode cX10_most 10 = .ok (.iconst (-1), 1) := by decide +kernel
theorem dX10_most_11 : decode cX10_most 11 = .ok (.goto 11, 3) := by decide +kernel
theorem dX10_most_14 : decode cX10_most 14 = .ok (.aload_n 0, 1) := by decide +kernel
theorem dX10_most_15 : decode cX10_most 15 = .ok (.invokevirtual 293, 3) := by decide +kernel
theorem dX10_most_18 : decode cX10_most 18 = .ok (.iload_n 1, 1) := by decide +kernel
theorem dX10_most_19 : decode cX10_most 19 = .ok (.invokevirtual 297, 3) := by decide +kernel
theorem dX10_most_22 : decode cX10_most 22 = .ok (.ireturn, 1) := by decide +kernel
theorem dX10_bestSet_0 : decode cX10_bestSet 0 = .ok (.iload_n 1, 1) := by decide +kernel
theorem dX10_bestSet_1 : decode cX10_bestSet 1 = .ok (.ifCond .lt 9, 3) := by decide +kernel
theorem dX10_bestSet_4 : decode cX10_bestSet 4 = .ok (.iload_n 1, 1) := by decide +kernel
theorem dX10_bestSet_5 : decode cX10_bestSet 5 = .ok (.bipush 10, 2) := by decide +kernel
theorem dX10_bestSet_7 : decode cX10_bestSet 7 = .ok (.if_icmp .le 5, 3) := by decide +kernel
theorem dX10_bestSet_10 : decode cX10_bestSet 10 = .ok (.iconst (-1), 1) := by decide +kernel
theorem dX10_bestSet_11 : decode cX10_bestSet 11 = .ok (.ireturn, 1) := by decide +kernel
theorem dX10_bestSet_12 : decode cX10_bestSet 12 = .ok (.aload_n 0, 1) := by decide +kernel
theorem dX10_bestSet_13 : decode cX10_bestSet 13 = .ok (.invokevirtual 293, 3) := by decide +kernel
theorem dX10_bestSet_16 : decode cX10_bestSet 16 = .ok (.iload_n 1, 1) := by decide +kernel
theorem dX10_bestSet_17 : decode cX10_bestSet 17 = .ok (.aload_n 0, 1) := by decide +kernel
theorem dX10_bestSet_18 : decode cX10_bestSet 18 = .ok (.getfield 79, 3) := by decide +kernel
theorem dX10_bestSet_21 : decode cX10_bestSet 21 = .ok (.invokevirtual 302, 3) := by decide +kernel
theorem dX10_bestSet_24 : decode cX10_bestSet 24 = .ok (.aload_n 0, 1) := by decide +kernel
theorem dX10_bestSet_25 : decode cX10_bestSet 25 = .ok (.getfield 79, 3) := by decide +kernel
theorem dX10_bestSet_28 : decode cX10_bestSet 28 = .ok (.iload_n 2, 1) := by decide +kernel
theorem dX10_bestSet_29 : decode cX10_bestSet 29 = .ok (.iload_n 3, 1) := by decide +kernel
theorem dX10_bestSet_30 : decode cX10_bestSet 30 = .ok (.invokevirtual 270, 3) := by decide +kernel
theorem dX10_bestSet_33 : decode cX10_bestSet 33 = .ok (.ireturn, 1) := by decide +kernel
theorem lk_X10_406 : Cond.fieldLink RX10 406 (TX10 13).1 (TX10 13).2.1 (TX10 13).2.2.1 ∈ ws0 := tb_2 226 (by decide +kernel) rfl
theorem ml_X10_411 : Cond.methodLink RX10 411 yX3_make ∈ ws0 := tb_5 176 (by decide +kernel) rfl
theorem wc_X3_make : Cond.code yX3_make cX3_make 4 none ∈ ws0 := tb_5 179 (by decide +kernel) rfl
theorem wi_X3_make : Cond.instanceMethod yX3_make ∈ ws0 := tb_5 177 (by decide +kernel) rfl
theorem we_X3_make : Cond.selects RX3 yX3_make yX3_make ∈ ws0 := tb_5 178 (by decide +kernel) rfl
theorem ml_X10_293 : Cond.methodLink RX10 293 yX10_fillerNow ∈ ws0 := tb_5 154 (by decide +kernel) rfl
theorem wc_X10_fillerNow : Cond.code yX10_fillerNow cX10_fillerNow 1 (some (.object "SpanKinds$Filler")) ∈ ws0 := tb_5 157 (by decide +kernel) rfl
theorem wi_X10_fillerNow : Cond.instanceMethod yX10_fillerNow ∈ ws0 := tb_5 156 (by decide +kernel) rfl
theorem we_X10_fillerNow : Cond.selects RX10 yX10_fillerNow yX10_fillerNow ∈ ws0 := tp_3 (q := (⟨"SpanKinds", "fillerNow", "()LSpanKinds$Filler;"⟩, 19)) 7 (by decide +kernel)
theorem ml_X10_297 : Cond.methodLink RX10 297 yX3_mostRight ∈ ws0 := tb_5 210 (by decide +kernel) rfl
theorem wc_X3_mostRight : Cond.code yX3_mostRight cX3_mostRight 2 (some .int) ∈ ws0 := tb_5 213 (by decide +kernel) rfl
theorem wi_X3_mostRight : Cond.instanceMethod yX3_mostRight ∈ ws0 := tb_5 211 (by decide +kernel) rfl
theorem we_X3_mostRight : Cond.selects RX3 yX3_mostRight yX3_mostRight ∈ ws0 := tb_5 212 (by decide +kernel) rfl
theorem ml_X10_302 : Cond.methodLink RX10 302 yX3_layBest ∈ ws0 := tb_5 218 (by decide +kernel) rfl
theorem wc_X3_layBest : Cond.code yX3_layBest cX3_layBest 3 none ∈ ws0 := tb_5 221 (by decide +kernel) rfl
theorem wi_X3_layBest : Cond.instanceMethod yX3_layBest ∈ ws0 := tb_5 219 (by decide +kernel) rfl
theorem we_X3_layBest : Cond.selects RX3 yX3_layBest yX3_layBest ∈ ws0 := tb_5 220 (by decide +kernel) rfl
/-- fillerNow, once there is a filler at q -/
def fnow (fu a q : Nat) (M : Mm) : Option Mm :=
  if M.1 a 17 = 0 then bm (fX3_make fu q (a + 12) M) fun M1 => gd (M1.2.2 a 13 = some q) (some (wI M1 a 17 1)) else some M
theorem fnow_q {fu a q : Nat} {M M' : Mm} (hq : M.2.2 a 13 = some q) (h : fnow fu a q M = some M') : M'.2.2 a 13 = some q := by
  unfold fnow at h
  split at h
  · obtain ⟨M1, -, h⟩ := bm_el h
    obtain ⟨h1, h⟩ := gd_el h
    cases h
    exact h1
  · cases h
    exact hq
section FL
variable {p : Program} {l : Launch} {e : Env} {R : Room} {s : State} {m : MethodId} {args : Array Value} {below : List Frame} {meth : Method} {c : Code} {H : Heap} {locs : List Loc} {cells slots : Nat} {Q : State → Prop} {ls : Array Slot} {E : Ge} {L : Lay} {M M' : Mm} {a q fu nL pc : Nat} {cc : ByteArray} {rest : List Value}
theorem gm_X10_406 (B : Bx p s m args c cc nL RX10 E L) (hR : Rx s E L M H locs) (hm : (a, (15, 0)) ∈ L) (hq : M.2.2 a 13 = some q) (hdg : decode cc pc = .ok (.getfield 406, 3)) (kk : W p l e R s m args below meth c H locs cells slots Q (F0 m (pc + 3) ls (.ref q :: rest))) : W p l e R s m args below meth c H locs cells slots Q (F0 m pc ls (.ref a :: rest)) := by
  refine r_get B hR (ci := 10) (k := 13) (N := 19) (C := RX10) (T := TX10) (v := va_rf (M.2.2 a 13)) rfl in10 (by decide) lk_X10_406 hm rfl hdg ?_
  rw [hq]
  exact kk
theorem fn_tail (B : Bx p s m args c cX10_fillerNow 1 RX10 E L) (hR : Rx s E L M H locs) (h0 : At L a T10) (hq : M.2.2 a 13 = some q) (hQ : At L q T3) (hl : lv_has ls 1 [(0, .ref a)]) (hf : 19 ≤ R.frames ∧ 42 * 18 + 42 ≤ R.locals ∧ cells ≤ R.cells ∧ slots ≤ R.slots) (h : fnow fu a q M = some M')
    (kk : ∀ (H1 : Heap) (locs1 : List Loc), Rx s E L M' H1 locs1 → W p l e R s m args below meth c H1 locs1 cells slots Q (F0 m 45 ls [.ref q])) : W p l e R s m args below meth c H locs cells slots Q (F0 m 18 ls []) := by
  have hx := B.1
  have hb := B.2.1
  have hqM := fnow_q hq h
  have fin : ∀ (H : Heap) (locs : List Loc), Rx s E L M' H locs → W p l e R s m args below meth c H locs cells slots Q (F0 m 41 ls []) := fun H locs hR => by
    refine lv_aload_n hx hb dX10_fillerNow_41 rfl (lv_at hl 0 rfl) ?_
    refine gm_X10_406 B hR (h0.at0 rfl) hqM dX10_fillerNow_42 ?_
    exact kk H locs hR
  unfold fnow at h
  refine lv_aload_n hx hb dX10_fillerNow_18 rfl (lv_at hl 0 rfl) ?_
  refine r_get B hR (ci := 10) (k := 17) (N := 19) (C := RX10) (T := TX10) (v := .int (M.1 a 17)) rfl in10 (by decide) lk_X10_386 (h0.at0 rfl) rfl dX10_fillerNow_19 ?_
  refine lv_if_ne (tgt := 41) hx hb dX10_fillerNow_22 (by decide) (fun c0 => ?_) (fun c0 => ?_)
  · rw [if_neg c0] at h
    cases h
    exact fin H locs hR
  · rw [if_pos c0] at h
    obtain ⟨M1, hc, h⟩ := bm_el h
    obtain ⟨-, h⟩ := gd_el h
    refine lv_aload_n hx hb dX10_fillerNow_25 rfl (lv_at hl 0 rfl) ?_
    refine gm_X10_406 B hR (h0.at0 rfl) hq dX10_fillerNow_26 ?_
    refine lv_aload_n hx hb dX10_fillerNow_29 rfl (lv_at hl 0 rfl) ?_
    refine r_get B hR (ci := 10) (k := 1) (N := 19) (C := RX10) (T := TX10) (v := .ref (a + 12)) rfl in10 (by decide) lk_X10_19 (h0.at0 rfl) rfl dX10_fillerNow_30 ?_
    refine r_callVG (As := [.ref (a + 12)]) (n := 1) (r := none) B hR (ci := 3) (C := RX3) (T := TX3) (N := 3) rfl wc_X3_make ml_X10_411 wi_X3_make we_X3_make ini_3 (by decide +kernel) (by decide) (hQ.at0 rfl) rfl hl.1 (mX3_make fu 0 hQ (sb_10_1 h0) hc) hf (Nat.le_of_ble_eq_true rfl) dX10_fillerNow_33 (fun H locs hR => ?_)
    refine lv_aload_n hx hb dX10_fillerNow_36 rfl (lv_at hl 0 rfl) ?_
    refine lv_iconst (v := 1) hx hb dX10_fillerNow_37 (by decide) ?_
    refine r_putI B hR (ci := 10) (k := 17) (N := 19) (C := RX10) (T := TX10) (ty0 := tyX10) rfl in10 tyX10_ok nmX10 (by decide) lk_X10_386 rfl (fun a M x => ⟨by simp [flds, wI, upd], by simp [flds]⟩) rfl rfl (h0.at0 rfl) dX10_fillerNow_38 (fun H locs hR => ?_)
    cases h
    exact fin H locs hR
end FL
set_option maxRecDepth 100000 in
set_option maxHeartbeats 4000000 in
/-- fillerNow with a filler -/
theorem mX10_fillerNow_A {l : Launch} {E : Ge} {L : Lay} (fu d : Nat) {a q : Nat} {M M' : Mm} (h0 : At L a T10) (hq : M.2.2 a 13 = some q) (hQ : At L q T3) (h : fnow fu a q M = some M') : Ct l E L yX10_fillerNow cX10_fillerNow 1 (some (.object "SpanKinds$Filler")) (d + 19) [.ref a] M (some (.ref q)) M' := by
  refine Ct.of (by decide) ?_
  intro p e s m below meth c hr hlk B hR
  have B : Bx p s m _ c cX10_fillerNow 1 RX10 E L := B
  have hx := B.1
  have hb := B.2.1
  have hl := lv_entry ([.ref a]) (n := 1) (Nat.le_of_ble_eq_true rfl)
  rw [lg_entry_eq]
  generalize (lg_sl ([.ref a]) ++ List.replicate (1 - (lg_sl ([.ref a])).length) Slot.unset).toArray = ls at hl ⊢
  have hl : lv_has ls 1 [(0, .ref a)] := hl
  refine lv_aload_n hx hb dX10_fillerNow_0 rfl (lv_at hl 0 rfl) ?_
  refine gm_X10_406 B hR (h0.at0 rfl) hq dX10_fillerNow_1 ?_
  refine lv_ifnonnull (tgt := 18) hx hb dX10_fillerNow_4 (by decide) ?_
  exact fn_tail B hR h0 hq hQ hl ⟨by show 19 ≤ d + 19; omega, by show 42 * 18 + 42 ≤ 42 * (d + 19); omega, Nat.zero_le _, Nat.zero_le _⟩ h (fun H locs hR => r_aretW B hR hr hlk rfl dX10_fillerNow_45)

