theorem dX10_store_0 : decode cX10_store 0 = .ok (.aload_n 0, 1) := by decide +kernel
theorem dX10_store_1 : decode cX10_store 1 = .ok (.getfield 10, 3) := by decide +kernel
theorem dX10_store_4 : decode cX10_store 4 = .ok (.invokevirtual 96, 3) := by decide +kernel
theorem dX10_store_7 : decode cX10_store 7 = .ok (.ifCond .ne 5, 3) := by decide +kernel
theorem dX10_store_10 : decode cX10_store 10 = .ok (.iconst (-1), 1) := by decide +kernel
theorem dX10_store_11 : decode cX10_store 11 = .ok (.ireturn, 1) := by decide +kernel
theorem dX10_store_12 : decode cX10_store 12 = .ok (.aload_n 0, 1) := by decide +kernel
theorem dX10_store_13 : decode cX10_store 13 = .ok (.getfield 19, 3) := by decide +kernel
theorem dX10_store_16 : decode cX10_store 16 = .ok (.aload_n 0, 1) := by decide +kernel
theorem dX10_store_17 : decode cX10_store 17 = .ok (.getfield 10, 3) := by decide +kernel
theorem dX10_store_20 : decode cX10_store 20 = .ok (.getfield 100, 3) := by decide +kernel
theorem dX10_store_23 : decode cX10_store 23 = .ok (.invokevirtual 103, 3) := by decide +kernel
theorem dX10_store_26 : decode cX10_store 26 = .ok (.iconst 0, 1) := by decide +kernel
theorem dX10_store_27 : decode cX10_store 27 = .ok (.istore_n 1, 1) := by decide +kernel
theorem dX10_store_28 : decode cX10_store 28 = .ok (.iload_n 1, 1) := by decide +kernel
theorem dX10_store_29 : decode cX10_store 29 = .ok (.iconst 2, 1) := by decide +kernel
theorem dX10_store_30 : decode cX10_store 30 = .ok (.if_icmp .ge 16, 3) := by decide +kernel
theorem dX10_store_33 : decode cX10_store 33 = .ok (.aload_n 0, 1) := by decide +kernel
theorem dX10_store_34 : decode cX10_store 34 = .ok (.getfield 38, 3) := by decide +kernel
theorem dX10_store_37 : decode cX10_store 37 = .ok (.iload_n 1, 1) := by decide +kernel
theorem dX10_store_38 : decode cX10_store 38 = .ok (.iconst 0, 1) := by decide +kernel
theorem dX10_store_39 : decode cX10_store 39 = .ok (.bastore, 1) := by decide +kernel
theorem dX10_store_40 : decode cX10_store 40 = .ok (.iinc 1 1, 3) := by decide +kernel
theorem dX10_store_43 : decode cX10_store 43 = .ok (.goto (-15), 3) := by decide +kernel
theorem dX10_store_46 : decode cX10_store 46 = .ok (.aload_n 0, 1) := by decide +kernel
theorem dX10_store_47 : decode cX10_store 47 = .ok (.invokevirtual 106, 3) := by decide +kernel
theorem dX10_store_50 : decode cX10_store 50 = .ok (.aload_n 0, 1) := by decide +kernel
theorem dX10_store_51 : decode cX10_store 51 = .ok (.getfield 19, 3) := by decide +kernel
theorem dX10_store_54 : decode cX10_store 54 = .ok (.getfield 109, 3) := by decide +kernel
theorem dX10_store_57 : decode cX10_store 57 = .ok (.ireturn, 1) := by decide +kernel
section G33_sk2_lean_txt
variable {p : Program} {l : Launch} {e : Env} {s : State} {m : MethodId} {args : Array Value} {below : List Frame} {meth : Method} {c : Code} {H : Heap} {locs : List Loc} {ls : Array Slot} {E : Ge} {L : Lay} {fu d : Nat}
def fX10_store_j46 (fu : Nat) (a0 : Nat) (M : Mm) : Option (Int32 × Mm) :=
  bm (fX10_startAnew fu a0 M) fun M_47 =>
  some ((M_47.1 (a0 + 12) 3), M_47)
set_option maxRecDepth 100000 in
set_option maxHeartbeats 4000000 in
theorem wX10_store_j46 {r : Int32} {M' : Mm}   {a0 : Nat} {M : Mm} (B : Bx p s m args c cX10_store 2 RX10 E L) (hr : meth.sig.returnType = (some .int)) (hlk : meth.locks = false)  (h0 : At L a0 T10) (h : fX10_store_j46 fu a0 M = some (r, M')) (hR : Rx s E L M H locs) (hl : lv_has ls 2 [(0, .ref a0)]) : W p l e (rmD (d + 9)) s m args below meth c H locs 0 0 (MQ below (QcM E L (some (.int r)) M') args s 0 0 E.2.2.2) (F0 m 46 ls []) := by
  have hx := B.1
  have hb := B.2.1
  unfold fX10_store_j46 at h
  refine lv_aload_n hx hb dX10_store_46 rfl (lv_at hl 0 rfl) ?_
  obtain ⟨M_47, hc_47, h⟩ := bm_el h
  refine iv_X10_106 B hR (h0.at0 rfl) hl.1 (mX10_startAnew fu _ h0 hc_47) (Nat.le_of_ble_eq_true rfl) dX10_store_47 (fun H locs hR => ?_)
  refine lv_aload_n hx hb dX10_store_50 rfl (lv_at hl 0 rfl) ?_
  refine gf_X10_19 B hR (h0.at0 rfl) dX10_store_51 ?_
  refine gf_X10_109 B hR ((sb_10_1 h0).at0 rfl) dX10_store_54 ?_
  exact r_iretW B hR hr hlk h dX10_store_57
def fX10_store_b28 (fu : Nat) (k28 : Int32 → Mm → Option (Int32 × Mm)) (a0 : Nat) (x1 : Int32) (M : Mm) : Option (Int32 × Mm) :=
  if 2 ≤ x1 then
    fX10_store_j46 fu a0 M
  else
    if x1 < 0 ∨ 2 ≤ ix x1 then none else
    lt (wI M (a0 + 195) (ix x1) (vp_nar .boolean 0)) fun M_39 =>
    lt (x1 + 1) fun x1_40 =>
    k28 x1_40 M_39
set_option maxRecDepth 100000 in
set_option maxHeartbeats 4000000 in
theorem wX10_store_b28 {r : Int32} {M' : Mm}   {k28 : Int32 → Mm → Option (Int32 × Mm)} {a0 : Nat} {x1 : Int32} {M : Mm} (B : Bx p s m args c cX10_store 2 RX10 E L) (hr : meth.sig.returnType = (some .int)) (hlk : meth.locks = false)  (ih28 : ∀ (x1 : Int32) (M : Mm), k28 x1 M = some (r, M') → ∀ (H : Heap) (locs : List Loc) (ls : Array Slot), Rx s E L M H locs → lv_has ls 2 [(0, .ref a0), (1, .int x1)] → W p l e (rmD (d + 9)) s m args below meth c H locs 0 0 (MQ below (QcM E L (some (.int r)) M') args s 0 0 E.2.2.2) (F0 m 28 ls [])) (h0 : At L a0 T10) (h : fX10_store_b28 fu k28 a0 x1 M = some (r, M')) (hR : Rx s E L M H locs) (hl : lv_has ls 2 [(0, .ref a0), (1, .int x1)]) : W p l e (rmD (d + 9)) s m args below meth c H locs 0 0 (MQ below (QcM E L (some (.int r)) M') args s 0 0 E.2.2.2) (F0 m 28 ls []) := by
  have hx := B.1
  have hb := B.2.1
  unfold fX10_store_b28 at h
  refine lv_iload_n hx hb dX10_store_28 rfl (lv_at hl 1 rfl) ?_
  refine lv_iconst (v := 2) hx hb dX10_store_29 (by decide) ?_
  refine lv_icmp_ge (tgt := 46) hx hb dX10_store_30 (by decide) (fun c_30 => ?_) (fun c_30 => ?_)
  · rw [if_pos c_30] at h
    exact wX10_store_j46 B hr hlk h0 h hR (lv_sub hl [0] rfl)
  · rw [if_neg c_30] at h
    refine lv_aload_n hx hb dX10_store_33 rfl (lv_at hl 0 rfl) ?_
    refine gf_X10_38 B hR (h0.at0 rfl) dX10_store_34 ?_
    refine lv_iload_n hx hb dX10_store_37 rfl (lv_at hl 1 rfl) ?_
    refine lv_iconst (v := 0) hx hb dX10_store_38 (by decide) ?_
    obtain ⟨hi_39, h⟩ := ifn_el h
    obtain ⟨M_39, eM_39, h⟩ := lt_el h
    refine r_zast B hR (h0.at 195 rfl) hi_39 dX10_store_39 (fun H locs hR => ?_)
    rw [← eM_39] at hR
    obtain ⟨x1_40, ex1_40, h⟩ := lt_el h
    refine lv_iinc (v := x1_40) (lv' := [(1, .int x1_40), (0, .ref a0)]) hx hb dX10_store_40 hl (k := 1) rfl (by rw [ex1_40]; rfl) (by decide) rfl (fun ls hl => ?_)
    refine lv_goto (tgt := 28) hx hb dX10_store_43 (by decide) ?_
    exact ih28 x1_40 M_39 h _ _ _ hR (lv_sub hl [1, 0] rfl)
def fX10_store_l28 (fu : Nat) (a0 : Nat) (x1 : Int32) (M : Mm) : Option (Int32 × Mm) := lp (fun (rec : (Int32 × Mm) → Option (Int32 × Mm)) (s : Int32 × Mm) => fX10_store_b28 fu  (fun x1 M => rec (x1, M)) a0 s.1 s.2) fu (x1, M)
set_option maxRecDepth 100000 in
set_option maxHeartbeats 4000000 in
theorem wX10_store_l28 {r : Int32} {M' : Mm}   {a0 : Nat} {x1 : Int32} {M : Mm} (B : Bx p s m args c cX10_store 2 RX10 E L) (hr : meth.sig.returnType = (some .int)) (hlk : meth.locks = false)  (h0 : At L a0 T10) (h : fX10_store_l28 fu a0 x1 M = some (r, M')) (hR : Rx s E L M H locs) (hl : lv_has ls 2 [(0, .ref a0), (1, .int x1)]) : W p l e (rmD (d + 9)) s m args below meth c H locs 0 0 (MQ below (QcM E L (some (.int r)) M') args s 0 0 E.2.2.2) (F0 m 28 ls []) := by
  refine lp_G (G := fun z : Int32 × Mm => ∀ (H : Heap) (locs : List Loc) (ls : Array Slot), Rx s E L z.2 H locs → lv_has ls 2 [(0, .ref a0), (1, .int z.1)] → W p l e (rmD (d + 9)) s m args below meth c H locs 0 0 (MQ below (QcM E L (some (.int r)) M') args s 0 0 E.2.2.2) (F0 m 28 ls [])) (fun rec ih z h H locs ls hR hl => ?_) fu _ h H locs ls hR hl
  exact wX10_store_b28 B hr hlk  (fun x1 M h => ih (x1, M) h) h0 h hR hl
def fX10_store (fu : Nat) (a0 : Nat) (M : Mm) : Option (Int32 × Mm) :=
  bw (fX7_readAll fu (a0 + 1) M) fun r_4 M_4 =>
  if r_4 = 0 then
    some ((-1), M_4)
  else
    bm (fX8_copyFrom fu (a0 + 12) ((a0 + 1) + 2) M_4) fun M_23 =>
    fX10_store_l28 fu a0 0 M_23
set_option maxRecDepth 100000 in
set_option maxHeartbeats 4000000 in
theorem mX10_store {l : Launch} {E : Ge} {L : Lay} (fu d : Nat) {a0 : Nat} {M : Mm} {r : Int32} {M' : Mm}  (h0 : At L a0 T10) (h : fX10_store fu a0 M = some (r, M')) : Ct l E L yX10_store cX10_store 2 (some .int) (d + 9) [.ref a0] M (some (.int r)) M' := by
  refine Ct.of (by decide) ?_
  intro p e s m below meth c hr hlk B hR
  have B : Bx p s m _ c cX10_store 2 RX10 E L := B
  have hx := B.1
  have hb := B.2.1
  have hl := lv_entry ([.ref a0]) (n := 2) (Nat.le_of_ble_eq_true rfl)
  rw [lg_entry_eq]
  generalize (lg_sl ([.ref a0]) ++ List.replicate (2 - (lg_sl ([.ref a0])).length) Slot.unset).toArray = ls at hl ⊢
  have hl : lv_has ls 2 [(0, .ref a0)] := hl
  unfold fX10_store at h
  refine lv_aload_n hx hb dX10_store_0 rfl (lv_at hl 0 rfl) ?_
  refine gf_X10_10 B hR (h0.at0 rfl) dX10_store_1 ?_
  obtain ⟨r_4, M_4, hc_4, h⟩ := bw_el h
  refine iv_X10_96 B hR ((sb_10_0 h0).at0 rfl) hl.1 (mX7_readAll fu _ (sb_10_0 h0) hc_4) (Nat.le_of_ble_eq_true rfl) dX10_store_4 (fun H locs hR => ?_)
  refine lv_if_ne (tgt := 12) hx hb dX10_store_7 (by decide) (fun c_7 => ?_) (fun c_7 => ?_)
  · rw [if_neg c_7] at h
    refine lv_aload_n hx hb dX10_store_12 rfl (lv_at hl 0 rfl) ?_
    refine gf_X10_19 B hR (h0.at0 rfl) dX10_store_13 ?_
    refine lv_aload_n hx hb dX10_store_16 rfl (lv_at hl 0 rfl) ?_
    refine gf_X10_10 B hR (h0.at0 rfl) dX10_store_17 ?_
    refine gf_X10_100 B hR ((sb_10_0 h0).at0 rfl) dX10_store_20 ?_
    obtain ⟨M_23, hc_23, h⟩ := bm_el h
    refine iv_X10_103 B hR ((sb_10_1 h0).at0 rfl) hl.1 (mX8_copyFrom fu _ (sb_10_1 h0) (sb_7_4 (sb_10_0 h0)) hc_23) (Nat.le_of_ble_eq_true rfl) dX10_store_23 (fun H locs hR => ?_)
    refine lv_iconst (v := 0) hx hb dX10_store_26 (by decide) ?_
    refine lv_istore_n (lv' := [(1, .int 0), (0, .ref a0)]) hx hb dX10_store_27 rfl hl (by decide) rfl (fun ls hl => ?_)
    exact wX10_store_l28 B hr hlk h0 h hR (lv_sub hl [1, 0] rfl)
  · rw [if_pos c_7] at h
    refine lv_iconst (v := (-1)) hx hb dX10_store_10 (by decide) ?_
    exact r_iretW B hR hr hlk h dX10_store_11
end G33_sk2_lean_txt
