theorem dX8_putAll_0 : decode cX8_putAll 0 = .ok (.iconst 0, 1) := by decide +kernel
theorem dX8_putAll_1 : decode cX8_putAll 1 = .ok (.istore_n 2, 1) := by decide +kernel
theorem dX8_putAll_2 : decode cX8_putAll 2 = .ok (.iload_n 2, 1) := by decide +kernel
theorem dX8_putAll_3 : decode cX8_putAll 3 = .ok (.aload_n 0, 1) := by decide +kernel
theorem dX8_putAll_4 : decode cX8_putAll 4 = .ok (.getfield 43, 3) := by decide +kernel
theorem dX8_putAll_7 : decode cX8_putAll 7 = .ok (.if_icmp .ge 51, 3) := by decide +kernel
theorem dX8_putAll_10 : decode cX8_putAll 10 = .ok (.iload_n 2, 1) := by decide +kernel
theorem dX8_putAll_11 : decode cX8_putAll 11 = .ok (.aload_n 1, 1) := by decide +kernel
theorem dX8_putAll_12 : decode cX8_putAll 12 = .ok (.getfield 76, 3) := by decide +kernel
theorem dX8_putAll_15 : decode cX8_putAll 15 = .ok (.if_icmp .ge 29, 3) := by decide +kernel
theorem dX8_putAll_18 : decode cX8_putAll 18 = .ok (.aload_n 0, 1) := by decide +kernel
theorem dX8_putAll_19 : decode cX8_putAll 19 = .ok (.iload_n 2, 1) := by decide +kernel
theorem dX8_putAll_20 : decode cX8_putAll 20 = .ok (.aload_n 1, 1) := by decide +kernel
theorem dX8_putAll_21 : decode cX8_putAll 21 = .ok (.getfield 81, 3) := by decide +kernel
theorem dX8_putAll_24 : decode cX8_putAll 24 = .ok (.iload_n 2, 1) := by decide +kernel
theorem dX8_putAll_25 : decode cX8_putAll 25 = .ok (.iaload, 1) := by decide +kernel
theorem dX8_putAll_26 : decode cX8_putAll 26 = .ok (.aload_n 1, 1) := by decide +kernel
theorem dX8_putAll_27 : decode cX8_putAll 27 = .ok (.getfield 82, 3) := by decide +kernel
theorem dX8_putAll_30 : decode cX8_putAll 30 = .ok (.iload_n 2, 1) := by decide +kernel
theorem dX8_putAll_31 : decode cX8_putAll 31 = .ok (.iaload, 1) := by decide +kernel
theorem dX8_putAll_32 : decode cX8_putAll 32 = .ok (.aload_n 1, 1) := by decide +kernel
theorem dX8_putAll_33 : decode cX8_putAll 33 = .ok (.getfield 83, 3) := by decide +kernel
theorem dX8_putAll_36 : decode cX8_putAll 36 = .ok (.iload_n 2, 1) := by decide +kernel
theorem dX8_putAll_37 : decode cX8_putAll 37 = .ok (.iaload, 1) := by decide +kernel
theorem dX8_putAll_38 : decode cX8_putAll 38 = .ok (.invokevirtual 55, 3) := by decide +kernel
theorem dX8_putAll_41 : decode cX8_putAll 41 = .ok (.goto 11, 3) := by decide +kernel
theorem dX8_putAll_44 : decode cX8_putAll 44 = .ok (.aload_n 0, 1) := by decide +kernel
theorem dX8_putAll_45 : decode cX8_putAll 45 = .ok (.iload_n 2, 1) := by decide +kernel
theorem dX8_putAll_46 : decode cX8_putAll 46 = .ok (.iconst 0, 1) := by decide +kernel
theorem dX8_putAll_47 : decode cX8_putAll 47 = .ok (.iconst 0, 1) := by decide +kernel
theorem dX8_putAll_48 : decode cX8_putAll 48 = .ok (.iconst 0, 1) := by decide +kernel
theorem dX8_putAll_49 : decode cX8_putAll 49 = .ok (.invokevirtual 55, 3) := by decide +kernel
theorem dX8_putAll_52 : decode cX8_putAll 52 = .ok (.iinc 2 1, 3) := by decide +kernel
theorem dX8_putAll_55 : decode cX8_putAll 55 = .ok (.goto (-53), 3) := by decide +kernel
theorem dX8_putAll_58 : decode cX8_putAll 58 = .ok (.return_, 1) := by decide +kernel
theorem dX8_kindAt_0 : decode cX8_kindAt 0 = .ok (.iload_n 1, 1) := by decide +kernel
theorem dX8_kindAt_1 : decode cX8_kindAt 1 = .ok (.aload_n 0, 1) := by decide +kernel
theorem dX8_kindAt_2 : decode cX8_kindAt 2 = .ok (.getfield 52, 3) := by decide +kernel
theorem dX8_kindAt_5 : decode cX8_kindAt 5 = .ok (.if_icmp .ge 18, 3) := by decide +kernel
theorem dX8_kindAt_8 : decode cX8_kindAt 8 = .ok (.aload_n 0, 1) := by decide +kernel
theorem dX8_kindAt_9 : decode cX8_kindAt 9 = .ok (.getfield 21, 3) := by decide +kernel
theorem dX8_kindAt_12 : decode cX8_kindAt 12 = .ok (.iload_n 1, 1) := by decide +kernel
theorem dX8_kindAt_13 : decode cX8_kindAt 13 = .ok (.bipush 8, 2) := by decide +kernel
theorem dX8_kindAt_15 : decode cX8_kindAt 15 = .ok (.imul, 1) := by decide +kernel
theorem dX8_kindAt_16 : decode cX8_kindAt 16 = .ok (.aload_n 0, 1) := by decide +kernel
theorem dX8_kindAt_17 : decode cX8_kindAt 17 = .ok (.getfield 52, 3) := by decide +kernel
theorem dX8_kindAt_20 : decode cX8_kindAt 20 = .ok (.idiv, 1) := by decide +kernel
theorem dX8_kindAt_21 : decode cX8_kindAt 21 = .ok (.iaload, 1) := by decide +kernel
theorem dX8_kindAt_22 : decode cX8_kindAt 22 = .ok (.ireturn, 1) := by decide +kernel
theorem dX8_kindAt_23 : decode cX8_kindAt 23 = .ok (.aload_n 0, 1) := by decide +kernel
theorem dX8_kindAt_24 : decode cX8_kindAt 24 = .ok (.iload_n 1, 1) := by decide +kernel
theorem dX8_kindAt_25 : decode cX8_kindAt 25 = .ok (.iload_n 2, 1) := by decide +kernel
theorem dX8_kindAt_26 : decode cX8_kindAt 26 = .ok (.invokevirtual 86, 3) := by decide +kernel
theorem dX8_kindAt_29 : decode cX8_kindAt 29 = .ok (.aload_n 0, 1) := by decide +kernel
theorem dX8_kindAt_30 : decode cX8_kindAt 30 = .ok (.getfield 46, 3) := by decide +kernel
theorem dX8_kindAt_33 : decode cX8_kindAt 33 = .ok (.invokestatic 90, 3) := by decide +kernel
theorem dX8_kindAt_36 : decode cX8_kindAt 36 = .ok (.ireturn, 1) := by decide +kernel
section G12_store2_lean_txt
variable {p : Program} {l : Launch} {e : Env} {s : State} {m : MethodId} {args : Array Value} {below : List Frame} {meth : Method} {c : Code} {H : Heap} {locs : List Loc} {ls : Array Slot} {E : Ge} {L : Lay} {fu d : Nat}
def fX8_putAll_j58 (fu : Nat) (M : Mm) : Option Mm :=
  some M
set_option maxRecDepth 100000 in
set_option maxHeartbeats 4000000 in
theorem wX8_putAll_j58 {M' : Mm}    {M : Mm} (B : Bx p s m args c cX8_putAll 3 RX8 E L) (hr : meth.sig.returnType = none) (hlk : meth.locks = false)   (h : fX8_putAll_j58 fu M = some M') (hR : Rx s E L M H locs) (hl : lv_has ls 3 []) : W p l e (rmD (d + 1)) s m args below meth c H locs 0 0 (MQ below (QcM E L none M') args s 0 0 E.2.2.2) (F0 m 58 ls []) := by
  have hx := B.1
  have hb := B.2.1
  unfold fX8_putAll_j58 at h
  exact r_vretW B hR hr hlk h dX8_putAll_58
def fX8_putAll_j52 (fu : Nat) (k2 : Int32 → Mm → Option Mm) (a0 : Nat) (n1 : Nat) (a1 : Nat) (x2 : Int32) (M : Mm) : Option Mm :=
  lt (x2 + 1) fun x2_52 =>
  k2 x2_52 M
set_option maxRecDepth 100000 in
set_option maxHeartbeats 4000000 in
theorem wX8_putAll_j52 {M' : Mm}  {k2 : Int32 → Mm → Option Mm} {a0 : Nat} {n1 : Nat} {a1 : Nat} {x2 : Int32} {M : Mm} (B : Bx p s m args c cX8_putAll 3 RX8 E L) (hr : meth.sig.returnType = none) (hlk : meth.locks = false) (ih2 : ∀ (x2 : Int32) (M : Mm), k2 x2 M = some M' → ∀ (H : Heap) (locs : List Loc) (ls : Array Slot), Rx s E L M H locs → lv_has ls 3 [(0, .ref a0), (1, .ref a1), (2, .int x2)] → W p l e (rmD (d + 1)) s m args below meth c H locs 0 0 (MQ below (QcM E L none M') args s 0 0 E.2.2.2) (F0 m 2 ls [])) (h0 : At L a0 T8) (h1 : At L a1 (T0 n1)) (h : fX8_putAll_j52 fu k2 a0 n1 a1 x2 M = some M') (hR : Rx s E L M H locs) (hl : lv_has ls 3 [(0, .ref a0), (1, .ref a1), (2, .int x2)]) : W p l e (rmD (d + 1)) s m args below meth c H locs 0 0 (MQ below (QcM E L none M') args s 0 0 E.2.2.2) (F0 m 52 ls []) := by
  have hx := B.1
  have hb := B.2.1
  unfold fX8_putAll_j52 at h
  obtain ⟨x2_52, ex2_52, h⟩ := lt_el h
  refine lv_iinc (v := x2_52) (lv' := [(2, .int x2_52), (0, .ref a0), (1, .ref a1)]) hx hb dX8_putAll_52 hl (k := 2) rfl (by rw [ex2_52]; rfl) (by decide) rfl (fun ls hl => ?_)
  refine lv_goto (tgt := 2) hx hb dX8_putAll_55 (by decide) ?_
  exact ih2 x2_52 M h _ _ _ hR (lv_sub hl [1, 2, 0] rfl)
def fX8_putAll_b2 (fu : Nat) (k2 : Int32 → Mm → Option Mm) (a0 : Nat) (n1 : Nat) (a1 : Nat) (x2 : Int32) (M : Mm) : Option Mm :=
  if (M.1 a0 1) ≤ x2 then
    fX8_putAll_j58 fu M
  else
    if (M.1 a1 3) ≤ x2 then
      bm (fX8_put fu a0 x2 0 0 0 M) fun M_49 =>
      fX8_putAll_j52 fu k2 a0 n1 a1 x2 M_49
    else
      if x2 < 0 ∨ n1 ≤ ix x2 then none else
      bm (fX8_put fu a0 x2 (M.1 (a1 + 1) (ix x2)) (M.1 (a1 + 2) (ix x2)) (M.1 (a1 + 3) (ix x2)) M) fun M_38 =>
      fX8_putAll_j52 fu k2 a0 n1 a1 x2 M_38
set_option maxRecDepth 100000 in
set_option maxHeartbeats 4000000 in
theorem wX8_putAll_b2 {M' : Mm}   {k2 : Int32 → Mm → Option Mm} {a0 : Nat} {n1 : Nat} {a1 : Nat} {x2 : Int32} {M : Mm} (B : Bx p s m args c cX8_putAll 3 RX8 E L) (hr : meth.sig.returnType = none) (hlk : meth.locks = false)  (ih2 : ∀ (x2 : Int32) (M : Mm), k2 x2 M = some M' → ∀ (H : Heap) (locs : List Loc) (ls : Array Slot), Rx s E L M H locs → lv_has ls 3 [(0, .ref a0), (1, .ref a1), (2, .int x2)] → W p l e (rmD (d + 1)) s m args below meth c H locs 0 0 (MQ below (QcM E L none M') args s 0 0 E.2.2.2) (F0 m 2 ls [])) (h0 : At L a0 T8) (h1 : At L a1 (T0 n1)) (h : fX8_putAll_b2 fu k2 a0 n1 a1 x2 M = some M') (hR : Rx s E L M H locs) (hl : lv_has ls 3 [(0, .ref a0), (1, .ref a1), (2, .int x2)]) : W p l e (rmD (d + 1)) s m args below meth c H locs 0 0 (MQ below (QcM E L none M') args s 0 0 E.2.2.2) (F0 m 2 ls []) := by
  have hx := B.1
  have hb := B.2.1
  unfold fX8_putAll_b2 at h
  refine lv_iload_n hx hb dX8_putAll_2 rfl (lv_at hl 2 rfl) ?_
  refine lv_aload_n hx hb dX8_putAll_3 rfl (lv_at hl 0 rfl) ?_
  refine gf_X8_43 B hR (h0.at0 rfl) dX8_putAll_4 ?_
  refine lv_icmp_ge (tgt := 58) hx hb dX8_putAll_7 (by decide) (fun c_7 => ?_) (fun c_7 => ?_)
  · rw [if_pos c_7] at h
    exact wX8_putAll_j58 B hr hlk  h hR (lv_sub hl [] rfl)
  · rw [if_neg c_7] at h
    refine lv_iload_n hx hb dX8_putAll_10 rfl (lv_at hl 2 rfl) ?_
    refine lv_aload_n hx hb dX8_putAll_11 rfl (lv_at hl 1 rfl) ?_
    refine gf_X8_76 B hR (h1.at0 rfl) dX8_putAll_12 ?_
    refine lv_icmp_ge (tgt := 44) hx hb dX8_putAll_15 (by decide) (fun c_15 => ?_) (fun c_15 => ?_)
    · rw [if_pos c_15] at h
      refine lv_aload_n hx hb dX8_putAll_44 rfl (lv_at hl 0 rfl) ?_
      refine lv_iload_n hx hb dX8_putAll_45 rfl (lv_at hl 2 rfl) ?_
      refine lv_iconst (v := 0) hx hb dX8_putAll_46 (by decide) ?_
      refine lv_iconst (v := 0) hx hb dX8_putAll_47 (by decide) ?_
      refine lv_iconst (v := 0) hx hb dX8_putAll_48 (by decide) ?_
      obtain ⟨M_49, hc_49, h⟩ := bm_el h
      refine iv_X8_55 B hR (h0.at0 rfl) hl.1 (mX8_put fu _ h0 hc_49) (Nat.le_of_ble_eq_true rfl) dX8_putAll_49 (fun H locs hR => ?_)
      exact wX8_putAll_j52 B hr hlk ih2 h0 h1 h hR hl
    · rw [if_neg c_15] at h
      refine lv_aload_n hx hb dX8_putAll_18 rfl (lv_at hl 0 rfl) ?_
      refine lv_iload_n hx hb dX8_putAll_19 rfl (lv_at hl 2 rfl) ?_
      refine lv_aload_n hx hb dX8_putAll_20 rfl (lv_at hl 1 rfl) ?_
      refine gf_X8_81 B hR (h1.at0 rfl) dX8_putAll_21 ?_
      refine lv_iload_n hx hb dX8_putAll_24 rfl (lv_at hl 2 rfl) ?_
      obtain ⟨hi_25, h⟩ := ifn_el h
      refine r_iald B hR (h1.at 1 rfl) hi_25 dX8_putAll_25 ?_
      refine lv_aload_n hx hb dX8_putAll_26 rfl (lv_at hl 1 rfl) ?_
      refine gf_X8_82 B hR (h1.at0 rfl) dX8_putAll_27 ?_
      refine lv_iload_n hx hb dX8_putAll_30 rfl (lv_at hl 2 rfl) ?_
      refine r_iald B hR (h1.at 2 rfl) hi_25 dX8_putAll_31 ?_
      refine lv_aload_n hx hb dX8_putAll_32 rfl (lv_at hl 1 rfl) ?_
      refine gf_X8_83 B hR (h1.at0 rfl) dX8_putAll_33 ?_
      refine lv_iload_n hx hb dX8_putAll_36 rfl (lv_at hl 2 rfl) ?_
      refine r_iald B hR (h1.at 3 rfl) hi_25 dX8_putAll_37 ?_
      obtain ⟨M_38, hc_38, h⟩ := bm_el h
      refine iv_X8_55 B hR (h0.at0 rfl) hl.1 (mX8_put fu _ h0 hc_38) (Nat.le_of_ble_eq_true rfl) dX8_putAll_38 (fun H locs hR => ?_)
      refine lv_goto (tgt := 52) hx hb dX8_putAll_41 (by decide) ?_
      exact wX8_putAll_j52 B hr hlk ih2 h0 h1 h hR hl
def fX8_putAll_l2 (fu : Nat) (a0 : Nat) (n1 : Nat) (a1 : Nat) (x2 : Int32) (M : Mm) : Option Mm := lp (fun (rec : (Int32 × Mm) → Option Mm) (s : Int32 × Mm) => fX8_putAll_b2 fu  (fun x2 M => rec (x2, M)) a0 n1 a1 s.1 s.2) fu (x2, M)
set_option maxRecDepth 100000 in
set_option maxHeartbeats 4000000 in
theorem wX8_putAll_l2 {M' : Mm}   {a0 : Nat} {n1 : Nat} {a1 : Nat} {x2 : Int32} {M : Mm} (B : Bx p s m args c cX8_putAll 3 RX8 E L) (hr : meth.sig.returnType = none) (hlk : meth.locks = false)  (h0 : At L a0 T8) (h1 : At L a1 (T0 n1)) (h : fX8_putAll_l2 fu a0 n1 a1 x2 M = some M') (hR : Rx s E L M H locs) (hl : lv_has ls 3 [(0, .ref a0), (1, .ref a1), (2, .int x2)]) : W p l e (rmD (d + 1)) s m args below meth c H locs 0 0 (MQ below (QcM E L none M') args s 0 0 E.2.2.2) (F0 m 2 ls []) := by
  refine lp_G (G := fun z : Int32 × Mm => ∀ (H : Heap) (locs : List Loc) (ls : Array Slot), Rx s E L z.2 H locs → lv_has ls 3 [(0, .ref a0), (1, .ref a1), (2, .int z.1)] → W p l e (rmD (d + 1)) s m args below meth c H locs 0 0 (MQ below (QcM E L none M') args s 0 0 E.2.2.2) (F0 m 2 ls [])) (fun rec ih z h H locs ls hR hl => ?_) fu _ h H locs ls hR hl
  exact wX8_putAll_b2 B hr hlk  (fun x2 M h => ih (x2, M) h) h0 h1 h hR hl
def fX8_putAll (fu : Nat) (a0 : Nat) (n1 : Nat) (a1 : Nat) (M : Mm) : Option Mm :=
  fX8_putAll_l2 fu a0 n1 a1 0 M
set_option maxRecDepth 100000 in
set_option maxHeartbeats 4000000 in
theorem mX8_putAll {l : Launch} {E : Ge} {L : Lay} (fu d : Nat) {a0 : Nat} {n1 : Nat} {a1 : Nat} {M : Mm} {M' : Mm}  (h0 : At L a0 T8) (h1 : At L a1 (T0 n1)) (h : fX8_putAll fu a0 n1 a1 M = some M') : Ct l E L yX8_putAll cX8_putAll 3 none (d + 1) [.ref a0, .ref a1] M none M' := by
  refine Ct.of (by decide) ?_
  intro p e s m below meth c hr hlk B hR
  have B : Bx p s m _ c cX8_putAll 3 RX8 E L := B
  have hx := B.1
  have hb := B.2.1
  have hl := lv_entry ([.ref a0, .ref a1]) (n := 3) (Nat.le_of_ble_eq_true rfl)
  rw [lg_entry_eq]
  generalize (lg_sl ([.ref a0, .ref a1]) ++ List.replicate (3 - (lg_sl ([.ref a0, .ref a1])).length) Slot.unset).toArray = ls at hl ⊢
  have hl : lv_has ls 3 [(0, .ref a0), (1, .ref a1)] := hl
  unfold fX8_putAll at h
  refine lv_iconst (v := 0) hx hb dX8_putAll_0 (by decide) ?_
  refine lv_istore_n (lv' := [(2, .int 0), (0, .ref a0), (1, .ref a1)]) hx hb dX8_putAll_1 rfl hl (by decide) rfl (fun ls hl => ?_)
  exact wX8_putAll_l2 B hr hlk h0 h1 h hR (lv_sub hl [1, 2, 0] rfl)
def fX8_kindAt (fu : Nat) (a0 : Nat) (x1 : Int32) (x2 : Int32) (M : Mm) : Option Int32 :=
  if (M.1 a0 4) ≤ x1 then
    bi (fX8_kindsOver fu a0 x1 x2 M) fun r_26 =>
    bi (fX10_together fu r_26 (M.1 a0 2)) fun r_33 =>
    some r_33
  else
    if (M.1 a0 4) = 0 then none else
    if ((x1 * 8) / (M.1 a0 4)) < 0 ∨ 8 ≤ ix ((x1 * 8) / (M.1 a0 4)) then none else
    some (M.1 (a0 + 4) (ix ((x1 * 8) / (M.1 a0 4))))
set_option maxRecDepth 100000 in
set_option maxHeartbeats 4000000 in
theorem mX8_kindAt {l : Launch} {E : Ge} {L : Lay} (fu d : Nat) {a0 : Nat} {x1 : Int32} {x2 : Int32} {M : Mm} {r : Int32}  (h0 : At L a0 T8) (h : fX8_kindAt fu a0 x1 x2 M = some r) : Ct l E L yX8_kindAt cX8_kindAt 3 (some .int) (d + 2) [.ref a0, .int x1, .int x2] M (some (.int r)) M := by
  refine Ct.of (by decide) ?_
  intro p e s m below meth c hr hlk B hR
  have B : Bx p s m _ c cX8_kindAt 3 RX8 E L := B
  have hx := B.1
  have hb := B.2.1
  have hl := lv_entry ([.ref a0, .int x1, .int x2]) (n := 3) (Nat.le_of_ble_eq_true rfl)
  rw [lg_entry_eq]
  generalize (lg_sl ([.ref a0, .int x1, .int x2]) ++ List.replicate (3 - (lg_sl ([.ref a0, .int x1, .int x2])).length) Slot.unset).toArray = ls at hl ⊢
  have hl : lv_has ls 3 [(0, .ref a0), (1, .int x1), (2, .int x2)] := hl
  unfold fX8_kindAt at h
  refine lv_iload_n hx hb dX8_kindAt_0 rfl (lv_at hl 1 rfl) ?_
  refine lv_aload_n hx hb dX8_kindAt_1 rfl (lv_at hl 0 rfl) ?_
  refine gf_X8_52 B hR (h0.at0 rfl) dX8_kindAt_2 ?_
  refine lv_icmp_ge (tgt := 23) hx hb dX8_kindAt_5 (by decide) (fun c_5 => ?_) (fun c_5 => ?_)
  · rw [if_pos c_5] at h
    refine lv_aload_n hx hb dX8_kindAt_23 rfl (lv_at hl 0 rfl) ?_
    refine lv_iload_n hx hb dX8_kindAt_24 rfl (lv_at hl 1 rfl) ?_
    refine lv_iload_n hx hb dX8_kindAt_25 rfl (lv_at hl 2 rfl) ?_
    obtain ⟨r_26, hc_26, h⟩ := bi_el h
    refine iv_X8_86 B hR (h0.at0 rfl) hl.1 (mX8_kindsOver fu _ h0 hc_26) (Nat.le_of_ble_eq_true rfl) dX8_kindAt_26 (fun H locs hR => ?_)
    refine lv_aload_n hx hb dX8_kindAt_29 rfl (lv_at hl 0 rfl) ?_
    refine gf_X8_46 B hR (h0.at0 rfl) dX8_kindAt_30 ?_
    obtain ⟨r_33, hc_33, h⟩ := bi_el h
    refine is_X8_90 B hR hl.1 (mX10_together fu _  hc_33) (Nat.le_of_ble_eq_true rfl) dX8_kindAt_33 (fun H locs hR => ?_)
    exact r_iretP B hR hr hlk h dX8_kindAt_36
  · rw [if_neg c_5] at h
    refine lv_aload_n hx hb dX8_kindAt_8 rfl (lv_at hl 0 rfl) ?_
    refine gf_X8_21 B hR (h0.at0 rfl) dX8_kindAt_9 ?_
    refine lv_iload_n hx hb dX8_kindAt_12 rfl (lv_at hl 1 rfl) ?_
    refine lv_bipush (v := 8) hx hb dX8_kindAt_13 (by decide) ?_
    refine lv_imul hx hb dX8_kindAt_15 ?_
    refine lv_aload_n hx hb dX8_kindAt_16 rfl (lv_at hl 0 rfl) ?_
    refine gf_X8_52 B hR (h0.at0 rfl) dX8_kindAt_17 ?_
    obtain ⟨hz_20, h⟩ := ifn_el h
    refine lv_idiv hx hb dX8_kindAt_20 hz_20 ?_
    obtain ⟨hi_21, h⟩ := ifn_el h
    refine r_iald B hR (h0.at 4 rfl) hi_21 dX8_kindAt_21 ?_
    exact r_iretP B hR hr hlk h dX8_kindAt_22
end G12_store2_lean_txt
