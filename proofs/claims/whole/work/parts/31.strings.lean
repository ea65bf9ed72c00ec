theorem dJ0_length_8abf5_0 : decode cJ0_length_8abf5 0 = .ok (.aload_n 0, 1) := by decide +kernel
theorem dJ0_length_8abf5_1 : decode cJ0_length_8abf5 1 = .ok (.getfield 9, 3) := by decide +kernel
theorem dJ0_length_8abf5_4 : decode cJ0_length_8abf5 4 = .ok (.arraylength, 1) := by decide +kernel
theorem dJ0_length_8abf5_5 : decode cJ0_length_8abf5 5 = .ok (.aload_n 0, 1) := by decide +kernel
theorem dJ0_length_8abf5_6 : decode cJ0_length_8abf5 6 = .ok (.invokevirtual 335, 3) := by decide +kernel
theorem dJ0_length_8abf5_9 : decode cJ0_length_8abf5 9 = .ok (.ishr, 1) := by decide +kernel
theorem dJ0_length_8abf5_10 : decode cJ0_length_8abf5 10 = .ok (.ireturn, 1) := by decide +kernel
theorem dJ0_charAt_5068e_0 : decode cJ0_charAt_5068e 0 = .ok (.aload_n 0, 1) := by decide +kernel
theorem dJ0_charAt_5068e_1 : decode cJ0_charAt_5068e 1 = .ok (.invokevirtual 492, 3) := by decide +kernel
theorem dJ0_charAt_5068e_4 : decode cJ0_charAt_5068e 4 = .ok (.ifCond .eq 12, 3) := by decide +kernel
theorem dJ0_charAt_5068e_7 : decode cJ0_charAt_5068e 7 = .ok (.aload_n 0, 1) := by decide +kernel
theorem dJ0_charAt_5068e_8 : decode cJ0_charAt_5068e 8 = .ok (.getfield 9, 3) := by decide +kernel
theorem dJ0_charAt_5068e_11 : decode cJ0_charAt_5068e 11 = .ok (.iload_n 1, 1) := by decide +kernel
theorem dJ0_charAt_5068e_12 : decode cJ0_charAt_5068e 12 = .ok (.invokestatic 495, 3) := by decide +kernel
theorem dJ0_charAt_5068e_15 : decode cJ0_charAt_5068e 15 = .ok (.ireturn, 1) := by decide +kernel
theorem dJ0_charAt_5068e_16 : decode cJ0_charAt_5068e 16 = .ok (.aload_n 0, 1) := by decide +kernel
theorem dJ0_charAt_5068e_17 : decode cJ0_charAt_5068e 17 = .ok (.getfield 9, 3) := by decide +kernel
theorem dJ0_charAt_5068e_20 : decode cJ0_charAt_5068e 20 = .ok (.iload_n 1, 1) := by decide +kernel
theorem dJ0_charAt_5068e_21 : decode cJ0_charAt_5068e 21 = .ok (.invokestatic 498, 3) := by decide +kernel
theorem dJ0_charAt_5068e_24 : decode cJ0_charAt_5068e 24 = .ok (.ireturn, 1) := by decide +kernel
theorem dJ0_coder_7d493_0 : decode cJ0_coder_7d493 0 = .ok (.getstatic 38, 3) := by decide +kernel
theorem dJ0_coder_7d493_3 : decode cJ0_coder_7d493 3 = .ok (.ifCond .eq 10, 3) := by decide +kernel
theorem dJ0_coder_7d493_6 : decode cJ0_coder_7d493 6 = .ok (.aload_n 0, 1) := by decide +kernel
theorem dJ0_coder_7d493_7 : decode cJ0_coder_7d493 7 = .ok (.getfield 15, 3) := by decide +kernel
theorem dJ0_coder_7d493_10 : decode cJ0_coder_7d493 10 = .ok (.goto 4, 3) := by decide +kernel
theorem dJ0_coder_7d493_13 : decode cJ0_coder_7d493 13 = .ok (.iconst 1, 1) := by decide +kernel
theorem dJ0_coder_7d493_14 : decode cJ0_coder_7d493 14 = .ok (.ireturn, 1) := by decide +kernel
theorem dJ0_isLatin1_aae02_0 : decode cJ0_isLatin1_aae02 0 = .ok (.getstatic 38, 3) := by decide +kernel
theorem dJ0_isLatin1_aae02_3 : decode cJ0_isLatin1_aae02 3 = .ok (.ifCond .eq 14, 3) := by decide +kernel
theorem dJ0_isLatin1_aae02_6 : decode cJ0_isLatin1_aae02 6 = .ok (.aload_n 0, 1) := by decide +kernel
theorem dJ0_isLatin1_aae02_7 : decode cJ0_isLatin1_aae02 7 = .ok (.getfield 15, 3) := by decide +kernel
theorem dJ0_isLatin1_aae02_10 : decode cJ0_isLatin1_aae02 10 = .ok (.ifCond .ne 7, 3) := by decide +kernel
theorem dJ0_isLatin1_aae02_13 : decode cJ0_isLatin1_aae02 13 = .ok (.iconst 1, 1) := by decide +kernel
theorem dJ0_isLatin1_aae02_14 : decode cJ0_isLatin1_aae02 14 = .ok (.goto 4, 3) := by decide +kernel
theorem dJ0_isLatin1_aae02_17 : decode cJ0_isLatin1_aae02 17 = .ok (.iconst 0, 1) := by decide +kernel
theorem dJ0_isLatin1_aae02_18 : decode cJ0_isLatin1_aae02 18 = .ok (.ireturn, 1) := by decide +kernel
theorem dJ0_checkIndex_df160_0 : decode cJ0_checkIndex_df160 0 = .ok (.iload_n 0, 1) := by decide +kernel
theorem dJ0_checkIndex_df160_1 : decode cJ0_checkIndex_df160 1 = .ok (.iload_n 1, 1) := by decide +kernel
theorem dJ0_checkIndex_df160_2 : decode cJ0_checkIndex_df160 2 = .ok (.getstatic 1053, 3) := by decide +kernel
theorem dJ0_checkIndex_df160_5 : decode cJ0_checkIndex_df160 5 = .ok (.invokestatic 1059, 3) := by decide +kernel
theorem dJ0_checkIndex_df160_8 : decode cJ0_checkIndex_df160 8 = .ok (.pop, 1) := by decide +kernel
theorem dJ0_checkIndex_df160_9 : decode cJ0_checkIndex_df160 9 = .ok (.return_, 1) := by decide +kernel
theorem dJ1_charAt_3b067_0 : decode cJ1_charAt_3b067 0 = .ok (.iload_n 1, 1) := by decide +kernel
theorem dJ1_charAt_3b067_1 : decode cJ1_charAt_3b067 1 = .ok (.aload_n 0, 1) := by decide +kernel
theorem dJ1_charAt_3b067_2 : decode cJ1_charAt_3b067 2 = .ok (.arraylength, 1) := by decide +kernel
theorem dJ1_charAt_3b067_3 : decode cJ1_charAt_3b067 3 = .ok (.invokestatic 9, 3) := by decide +kernel
theorem dJ1_charAt_3b067_6 : decode cJ1_charAt_3b067 6 = .ok (.aload_n 0, 1) := by decide +kernel
theorem dJ1_charAt_3b067_7 : decode cJ1_charAt_3b067 7 = .ok (.iload_n 1, 1) := by decide +kernel
theorem dJ1_charAt_3b067_8 : decode cJ1_charAt_3b067 8 = .ok (.baload, 1) := by decide +kernel
theorem dJ1_charAt_3b067_9 : decode cJ1_charAt_3b067 9 = .ok (.sipush 255, 3) := by decide +kernel
theorem dJ1_charAt_3b067_12 : decode cJ1_charAt_3b067 12 = .ok (.iand, 1) := by decide +kernel
theorem dJ1_charAt_3b067_13 : decode cJ1_charAt_3b067 13 = .ok (.i2c, 1) := by decide +kernel
theorem dJ1_charAt_3b067_14 : decode cJ1_charAt_3b067 14 = .ok (.ireturn, 1) := by decide +kernel
theorem dJ3_checkIndex_8e157_0 : decode cJ3_checkIndex_8e157 0 = .ok (.iload_n 0, 1) := by decide +kernel
theorem dJ3_checkIndex_8e157_1 : decode cJ3_checkIndex_8e157 1 = .ok (.ifCond .lt 8, 3) := by decide +kernel
theorem dJ3_checkIndex_8e157_4 : decode cJ3_checkIndex_8e157 4 = .ok (.iload_n 0, 1) := by decide +kernel
theorem dJ3_checkIndex_8e157_5 : decode cJ3_checkIndex_8e157 5 = .ok (.iload_n 1, 1) := by decide +kernel
theorem dJ3_checkIndex_8e157_6 : decode cJ3_checkIndex_8e157 6 = .ok (.if_icmp .lt 10, 3) := by decide +kernel
theorem dJ3_checkIndex_8e157_9 : decode cJ3_checkIndex_8e157 9 = .ok (.aload_n 2, 1) := by decide +kernel
theorem dJ3_checkIndex_8e157_10 : decode cJ3_checkIndex_8e157 10 = .ok (.iload_n 0, 1) := by decide +kernel
theorem dJ3_checkIndex_8e157_11 : decode cJ3_checkIndex_8e157 11 = .ok (.iload_n 1, 1) := by decide +kernel
theorem dJ3_checkIndex_8e157_12 : decode cJ3_checkIndex_8e157 12 = .ok (.invokestatic 95, 3) := by decide +kernel
theorem dJ3_checkIndex_8e157_15 : decode cJ3_checkIndex_8e157 15 = .ok (.athrow, 1) := by decide +kernel
theorem dJ3_checkIndex_8e157_16 : decode cJ3_checkIndex_8e157 16 = .ok (.iload_n 0, 1) := by decide +kernel
theorem dJ3_checkIndex_8e157_17 : decode cJ3_checkIndex_8e157 17 = .ok (.ireturn, 1) := by decide +kernel
section SR
variable {p : Program} {l : Launch} {e : Env} {R : Room} {s : State} {m : MethodId} {args : Array Value} {below : List Frame} {meth : Method} {c : Code} {H : Heap} {locs : List Loc} {Q : State → Prop}
variable {cc : ByteArray} {pc nL d cells slots : Nat} {ls : Array Slot} {rest : List Value} {own : String} {E : Ge} {L : Lay} {M M' : Mm} {a : Nat}
variable {y : MethodName} {cb : ByteArray} {nb : Nat} {ret : Option FieldType} {r : Option Value} {index n : Nat} {As : List Value}
theorem r_tret {v : Int32} {ty : FieldType} (B : Bx p s m args c cc nL own E L) (hR : Rx s E L M H locs) (hr : meth.sig.returnType = some ty) (hlocks : meth.locks = false) (hn : narrow ty (.int v) = .int v) (hdg : decode cc pc = .ok (.ireturn, 1)) : W p l e R s m args below meth c H locs 0 0 (MQ below (QcM E L (some (.int v)) M) args s 0 0 E.2.2.2) (F0 m pc ls [.int v]) :=
  W.zret B.1 B.2.1 hr hn (fun t ht _ => ⟨⟨rfl, by rw [ht]; exact hR.1⟩, hR.2.F ht⟩) hR.2.2.2 hdg
theorem r_talen {ty : FieldType} {t N : Nat} {f : Nat → Value} (B : Bx p s m args c cc nL own E L) (hR : Rx s E L M H locs) (hT : va_T ty t N f E.2.2.2 s s.heap) (hdg : decode cc pc = .ok (.arraylength, 1))
    (kk : W p l e R s m args below meth c H locs cells slots Q (F0 m (pc + 1) ls (.int (Int32.ofNat N) :: rest))) : W p l e R s m args below meth c H locs cells slots Q (F0 m pc ls (.ref t :: rest)) := by
  obtain ⟨cell, h1, h2, h3, h4, h5, h6, h7⟩ := hT
  exact W.alen B.1 B.2.1 (by rw [hR.2.2.1 t (Array.getElem?_eq_some_iff.mp h1).1 h7]; exact h1) h2 h5 rfl rfl hdg kk
theorem r_tbald {t N : Nat} {f : Nat → Int32} (B : Bx p s m args c cc nL own E L) (hR : Rx s E L M H locs) (hT : va_T .byte t N (fun j => .int (f j)) E.2.2.2 s s.heap) {i : Int32} (hin : ¬ (i < 0 ∨ N ≤ ix i)) (hdg : decode cc pc = .ok (.baload, 1))
    (kk : W p l e R s m args below meth c H locs cells slots Q (F0 m (pc + 1) ls (.int (f (ix i)) :: rest))) : W p l e R s m args below meth c H locs cells slots Q (F0 m pc ls (.int i :: .ref t :: rest)) := by
  obtain ⟨cell, h1, h2, h3, h4, h5, h6, h7⟩ := hT
  have hlt : ix i < N := Nat.not_le.mp fun q => hin (Or.inr q)
  exact W.bald (v := .int (f (ix i))) B.1 B.2.1 (by rw [hR.2.2.1 t (Array.getElem?_eq_some_iff.mp h1).1 h7]; exact h1) h2 h3 (fun q => by rcases q with q | q; exact hin (Or.inl q); exact absurd q (by show ¬ cell.slots.size ≤ ix i; omega)) (h6 _ hlt) rfl rfl hdg kk
theorem r_callVR (B : Bx p s m args c cc nL own E L) (hR : Rx s E L M H locs) {C : String} (hcode : Cond.code y cb nb ret ∈ ws0) (hlink : Cond.methodLink own index y ∈ ws0) (hinst : Cond.instanceMethod y ∈ ws0) (hsel : Cond.selects C y y ∈ ws0) (hini : Cond.initialized C ∈ ws0) (hd : y.cls = C ∧ y.cls ≠ "java/lang/invoke/MethodHandle" ∧ y.cls ≠ "java/lang/invoke/VarHandle" ∧ (parseMethodDescriptor y.desc).map (fun d => d.parameters.length) = some n) (hnb : nb ≤ 23)
    (hrec : ∃ cellB : Cell, H[a]? = some cellB ∧ cellB.vm.isStatics = false ∧ s.vm.findClass C = some cellB.cls) (hn : As.length = n) (hl : ls.size = nL) (hC : Ct l E L y cb nb ret d (.ref a :: As) M r M') (hst : (rest.map fun v => v.category).sum ≤ 8) (hdg : decode cc pc = .ok (.invokevirtual index, 3))
    (kk : ∀ (H1 : Heap) (locs1 : List Loc), Rx s E L M' H1 locs1 → W p l e (rmD (d + 1)) s m args below meth c H1 locs1 0 0 Q (F0 m (pc + 3) ls (r.toList ++ rest))) : W p l e (rmD (d + 1)) s m args below meth c H locs 0 0 Q (F0 m pc ls (As.reverse ++ .ref a :: rest)) := by
  have B0 := B
  obtain ⟨hx, hb, hml, hown, hts, hK, hD, hX⟩ := B
  have hG : GoodIn ws0 (wsV own index C y (Cond.code y cb nb ret :: ws0)) := fun w hw => by
    unfold wsV at hw
    rcases List.mem_append.mp hw with h | h
    · have h2 : w ∈ ws0 := by
        simp only [List.mem_cons, List.not_mem_nil, or_false] at h
        rcases h with rfl | rfl | rfl | rfl
        · exact hlink
        · exact hinst
        · exact hsel
        · exact hini
      exact ⟨h2, ws0_good h2⟩
    · exact ws0_in hcode w h
  refine c_on hR (va_runV (As := As) (rest := rest) ⟨hx, hb, hml, hown, hts⟩ hC (cwV n hts hG rfl rfl rfl hd (rm_ok (Nat.le_refl _) (by show 42 * d + 42 ≤ 42 * (d + 1); omega) hnb)) ⟨PcM.blind, hrec, c_pre B0 hR⟩ rfl hn hl rfl (lv_room hst) hdg ⟨Nat.zero_le _, Nat.zero_le _⟩) kk
end SR
abbrev sK (E : Ge) (w : Nat) : Nat := E.2.2.1.2.2.1 w
abbrev sV (E : Ge) (w : Nat) : Nat := E.2.2.1.2.2.2 w
set_option maxRecDepth 100000 in
set_option maxHeartbeats 4000000 in
theorem mJ0_coder {l : Launch} {E : Ge} {L : Lay} (d : Nat) {w : Nat} {M : Mm} (hw : w < 12) : Ct l E L yJ0_coder_7d493 cJ0_coder_7d493 1 (some .byte) d [.ref (sK E w)] M (some (.int 0)) M := by
  refine Ct.of (by decide) ?_
  intro p e s m below meth c hr hlk B hR
  have B : Bx p s m _ c cJ0_coder_7d493 1 RJ0 E L := B
  obtain ⟨hx, hb, hml, hown, hts, hK, hD, hX⟩ := id B
  have hl := lv_entry ([.ref (sK E w)]) (n := 1) (Nat.le_of_ble_eq_true rfl)
  rw [lg_entry_eq]
  generalize (lg_sl ([.ref (sK E w)]) ++ List.replicate (1 - (lg_sl ([.ref (sK E w)])).length) Slot.unset).toArray = ls at hl ⊢
  have hl : lv_has ls 1 [(0, .ref (sK E w))] := hl
  refine va_gets hx hb hX.2.2.1 hR.2 hown (hts _ (tb_3 87 (by decide +kernel) rfl)) (fun _ h => h) dJ0_coder_7d493_0 ?_
  refine lv_if_eq (tgt := 13) hx hb dJ0_coder_7d493_3 (by decide) (fun c0 => ?_) (fun c0 => ?_)
  · exact absurd c0 (by decide)
  · refine lv_aload_n hx hb dJ0_coder_7d493_6 rfl (lv_at hl 0 rfl) ?_
    refine vk_getf hx hb (hX.2.2.2.2.1.1 w hw).2.1 hR.2 hown (hts _ (tb_9 222 (by decide +kernel) rfl)) (fun _ h => h) dJ0_coder_7d493_7 ?_
    refine lv_goto (tgt := 14) hx hb dJ0_coder_7d493_10 (by decide) ?_
    exact r_tret B hR hr hlk rfl dJ0_coder_7d493_14
set_option maxRecDepth 100000 in
set_option maxHeartbeats 4000000 in
theorem mJ0_isLatin1 {l : Launch} {E : Ge} {L : Lay} (d : Nat) {w : Nat} {M : Mm} (hw : w < 12) : Ct l E L yJ0_isLatin1_aae02 cJ0_isLatin1_aae02 1 (some .boolean) d [.ref (sK E w)] M (some (.int 1)) M := by
  refine Ct.of (by decide) ?_
  intro p e s m below meth c hr hlk B hR
  have B : Bx p s m _ c cJ0_isLatin1_aae02 1 RJ0 E L := B
  obtain ⟨hx, hb, hml, hown, hts, hK, hD, hX⟩ := id B
  have hl := lv_entry ([.ref (sK E w)]) (n := 1) (Nat.le_of_ble_eq_true rfl)
  rw [lg_entry_eq]
  generalize (lg_sl ([.ref (sK E w)]) ++ List.replicate (1 - (lg_sl ([.ref (sK E w)])).length) Slot.unset).toArray = ls at hl ⊢
  have hl : lv_has ls 1 [(0, .ref (sK E w))] := hl
  refine va_gets hx hb hX.2.2.1 hR.2 hown (hts _ (tb_3 87 (by decide +kernel) rfl)) (fun _ h => h) dJ0_isLatin1_aae02_0 ?_
  refine lv_if_eq (tgt := 17) hx hb dJ0_isLatin1_aae02_3 (by decide) (fun c0 => ?_) (fun c0 => ?_)
  · exact absurd c0 (by decide)
  · refine lv_aload_n hx hb dJ0_isLatin1_aae02_6 rfl (lv_at hl 0 rfl) ?_
    refine vk_getf hx hb (hX.2.2.2.2.1.1 w hw).2.1 hR.2 hown (hts _ (tb_9 222 (by decide +kernel) rfl)) (fun _ h => h) dJ0_isLatin1_aae02_7 ?_
    refine lv_if_ne (tgt := 17) hx hb dJ0_isLatin1_aae02_10 (by decide) (fun c1 => ?_) (fun c1 => ?_)
    · exact absurd rfl c1
    · refine lv_iconst (v := 1) hx hb dJ0_isLatin1_aae02_13 (by decide) ?_
      refine lv_goto (tgt := 18) hx hb dJ0_isLatin1_aae02_14 (by decide) ?_
      exact r_tret B hR hr hlk rfl dJ0_isLatin1_aae02_18
set_option maxRecDepth 100000 in
set_option maxHeartbeats 4000000 in
theorem mJ0_length {l : Launch} {E : Ge} {L : Lay} (d : Nat) {w : Nat} {M : Mm} (hw : w < 12) : Ct l E L yJ0_length_8abf5 cJ0_length_8abf5 1 (some .int) (d + 1) [.ref (sK E w)] M (some (.int (Int32.ofNat (strL.getD w 0)))) M := by
  refine Ct.of (by decide) ?_
  intro p e s m below meth c hr hlk B hR
  have B : Bx p s m _ c cJ0_length_8abf5 1 RJ0 E L := B
  obtain ⟨hx, hb, hml, hown, hts, hK, hD, hX⟩ := id B
  have hl := lv_entry ([.ref (sK E w)]) (n := 1) (Nat.le_of_ble_eq_true rfl)
  rw [lg_entry_eq]
  generalize (lg_sl ([.ref (sK E w)]) ++ List.replicate (1 - (lg_sl ([.ref (sK E w)])).length) Slot.unset).toArray = ls at hl ⊢
  have hl : lv_has ls 1 [(0, .ref (sK E w))] := hl
  refine lv_aload_n hx hb dJ0_length_8abf5_0 rfl (lv_at hl 0 rfl) ?_
  refine vk_getf hx hb (hX.2.2.2.2.1.1 w hw).2.2.1 hR.2 hown (hts _ (tb_9 221 (by decide +kernel) rfl)) (fun _ h => h) dJ0_length_8abf5_1 ?_
  refine r_talen B hR (hX.2.2.2.2.1.1 w hw).2.2.2 dJ0_length_8abf5_4 ?_
  refine lv_aload_n hx hb dJ0_length_8abf5_5 rfl (lv_at hl 0 rfl) ?_
  refine r_callVR (As := []) (n := 0) (C := RJ0) (y := yJ0_coder_7d493) (cb := cJ0_coder_7d493) (nb := 1) (ret := some .byte) (r := some (.int 0)) (M' := M) B hR (tb_3 86 (by decide +kernel) rfl) (tb_3 83 (by decide +kernel) rfl) (tb_3 84 (by decide +kernel) rfl) (tb_3 85 (by decide +kernel) rfl) (tb_1 14 (by decide +kernel) rfl) (by decide +kernel) (by decide) (vk_recv hX.2.2.2.2.1 hw hR.2) rfl hl.1 (mJ0_coder _ hw) (Nat.le_of_ble_eq_true rfl) dJ0_length_8abf5_6 (fun H locs hR => ?_)
  refine lv_ishr hx hb dJ0_length_8abf5_9 ?_
  have e0 : Int32.ofNat (strL.getD w 0) >>> ((0 : Int32) &&& 31) = Int32.ofNat (strL.getD w 0) := by simp
  rw [e0]
  exact r_tret B hR hr hlk rfl dJ0_length_8abf5_10
set_option maxRecDepth 100000 in
set_option maxHeartbeats 4000000 in
theorem mJ3_checkIndex {l : Launch} {E : Ge} {L : Lay} (d : Nat) {i n : Int32} {fv : Value} {M : Mm} (hfv : fv = .null ∨ ∃ t, fv = .ref t) (h0 : ¬ i < 0) (h1 : i < n) : Ct l E L yJ3_checkIndex_8e157 cJ3_checkIndex_8e157 3 (some .int) d [.int i, .int n, fv] M (some (.int i)) M := by
  rcases hfv with rfl | ⟨t, rfl⟩
  · refine Ct.of (by decide) ?_
    intro p e s m below meth c hr hlk B hR
    have B : Bx p s m _ c cJ3_checkIndex_8e157 3 RJ3 E L := B
    obtain ⟨hx, hb, hml, hown, hts, hK, hD, hX⟩ := id B
    have hl := lv_entry ([.int i, .int n, .null]) (n := 3) (Nat.le_of_ble_eq_true rfl)
    rw [lg_entry_eq]
    generalize (lg_sl ([.int i, .int n, .null]) ++ List.replicate (3 - (lg_sl ([.int i, .int n, .null])).length) Slot.unset).toArray = ls at hl ⊢
    have hl : lv_has ls 3 [(0, .int i), (1, .int n), (2, .null)] := hl
    refine lv_iload_n hx hb dJ3_checkIndex_8e157_0 rfl (lv_at hl 0 rfl) ?_
    refine lv_if_lt (tgt := 9) hx hb dJ3_checkIndex_8e157_1 (by decide) (fun c0 => absurd c0 h0) (fun c0 => ?_)
    refine lv_iload_n hx hb dJ3_checkIndex_8e157_4 rfl (lv_at hl 0 rfl) ?_
    refine lv_iload_n hx hb dJ3_checkIndex_8e157_5 rfl (lv_at hl 1 rfl) ?_
    refine lv_icmp_lt (tgt := 16) hx hb dJ3_checkIndex_8e157_6 (by decide) (fun c1 => ?_) (fun c1 => absurd h1 c1)
    refine lv_iload_n hx hb dJ3_checkIndex_8e157_16 rfl (lv_at hl 0 rfl) ?_
    exact r_tret B hR hr hlk rfl dJ3_checkIndex_8e157_17
  · refine Ct.of (by decide) ?_
    intro p e s m below meth c hr hlk B hR
    have B : Bx p s m _ c cJ3_checkIndex_8e157 3 RJ3 E L := B
    obtain ⟨hx, hb, hml, hown, hts, hK, hD, hX⟩ := id B
    have hl := lv_entry ([.int i, .int n, .ref t]) (n := 3) (Nat.le_of_ble_eq_true rfl)
    rw [lg_entry_eq]
    generalize (lg_sl ([.int i, .int n, .ref t]) ++ List.replicate (3 - (lg_sl ([.int i, .int n, .ref t])).length) Slot.unset).toArray = ls at hl ⊢
    have hl : lv_has ls 3 [(0, .int i), (1, .int n), (2, .ref t)] := hl
    refine lv_iload_n hx hb dJ3_checkIndex_8e157_0 rfl (lv_at hl 0 rfl) ?_
    refine lv_if_lt (tgt := 9) hx hb dJ3_checkIndex_8e157_1 (by decide) (fun c0 => absurd c0 h0) (fun c0 => ?_)
    refine lv_iload_n hx hb dJ3_checkIndex_8e157_4 rfl (lv_at hl 0 rfl) ?_
    refine lv_iload_n hx hb dJ3_checkIndex_8e157_5 rfl (lv_at hl 1 rfl) ?_
    refine lv_icmp_lt (tgt := 16) hx hb dJ3_checkIndex_8e157_6 (by decide) (fun c1 => ?_) (fun c1 => absurd h1 c1)
    refine lv_iload_n hx hb dJ3_checkIndex_8e157_16 rfl (lv_at hl 0 rfl) ?_
    exact r_tret B hR hr hlk rfl dJ3_checkIndex_8e157_17
set_option maxRecDepth 100000 in
set_option maxHeartbeats 4000000 in
theorem mJ0_checkIndex {l : Launch} {E : Ge} {L : Lay} (d : Nat) {i n : Int32} {M : Mm} (h0 : ¬ i < 0) (h1 : i < n) : Ct l E L yJ0_checkIndex_df160 cJ0_checkIndex_df160 2 none (d + 1) [.int i, .int n] M none M := by
  refine Ct.of (by decide) ?_
  intro p e s m below meth c hr hlk B hR
  have B : Bx p s m _ c cJ0_checkIndex_df160 2 RJ0 E L := B
  obtain ⟨hx, hb, hml, hown, hts, hK, hD, hX⟩ := id B
  have hl := lv_entry ([.int i, .int n]) (n := 2) (Nat.le_of_ble_eq_true rfl)
  rw [lg_entry_eq]
  generalize (lg_sl ([.int i, .int n]) ++ List.replicate (2 - (lg_sl ([.int i, .int n])).length) Slot.unset).toArray = ls at hl ⊢
  have hl : lv_has ls 2 [(0, .int i), (1, .int n)] := hl
  refine lv_iload_n hx hb dJ0_checkIndex_df160_0 rfl (lv_at hl 0 rfl) ?_
  refine lv_iload_n hx hb dJ0_checkIndex_df160_1 rfl (lv_at hl 1 rfl) ?_
  rcases hX.2.2.2.1 with hZ | ⟨t, hZ⟩
  · refine va_gets hx hb hZ hR.2 hown (hts _ (tb_3 103 (by decide +kernel) rfl)) (fun _ h => h) dJ0_checkIndex_df160_2 ?_
    refine r_callS (As := [.int i, .int n, .null]) (n := 3) (y := yJ3_checkIndex_8e157) (cb := cJ3_checkIndex_8e157) (nb := 3) (ret := some .int) (r := some (.int i)) (M' := M) B hR (tb_3 107 (by decide +kernel) rfl) (tb_3 105 (by decide +kernel) rfl) (tb_3 106 (by decide +kernel) rfl) (tb_1 16 (by decide +kernel) rfl) (by decide +kernel) (by decide) rfl hl.1 (mJ3_checkIndex _ (Or.inl rfl) h0 h1) (Nat.le_of_ble_eq_true rfl) dJ0_checkIndex_df160_5 (fun H locs hR => ?_)
    refine lv_pop hx hb (va := .int i) dJ0_checkIndex_df160_8 rfl ?_
    exact r_vret B hR hr hlk dJ0_checkIndex_df160_9
  · refine va_gets hx hb hZ hR.2 hown (hts _ (tb_3 103 (by decide +kernel) rfl)) (fun _ h => h) dJ0_checkIndex_df160_2 ?_
    refine r_callS (As := [.int i, .int n, .ref t]) (n := 3) (y := yJ3_checkIndex_8e157) (cb := cJ3_checkIndex_8e157) (nb := 3) (ret := some .int) (r := some (.int i)) (M' := M) B hR (tb_3 107 (by decide +kernel) rfl) (tb_3 105 (by decide +kernel) rfl) (tb_3 106 (by decide +kernel) rfl) (tb_1 16 (by decide +kernel) rfl) (by decide +kernel) (by decide) rfl hl.1 (mJ3_checkIndex _ (Or.inr ⟨t, rfl⟩) h0 h1) (Nat.le_of_ble_eq_true rfl) dJ0_checkIndex_df160_5 (fun H locs hR => ?_)
    refine lv_pop hx hb (va := .int i) dJ0_checkIndex_df160_8 rfl ?_
    exact r_vret B hR hr hlk dJ0_checkIndex_df160_9
set_option maxRecDepth 100000 in
set_option maxHeartbeats 4000000 in
theorem mJ1_charAt {l : Launch} {E : Ge} {L : Lay} (d : Nat) {w : Nat} {i : Int32} {M : Mm} (hw : w < 12) (h0 : ¬ i < 0) (h1 : i < Int32.ofNat (strL.getD w 0)) (h2 : ¬ strL.getD w 0 ≤ ix i) {v : Int32} (hv : narrow .char (.int v) = .int v) (he : (((strB.getD w []).getD (ix i) 0 &&& 255).toUInt32 % 65536).toInt32 = v) : Ct l E L yJ1_charAt_3b067 cJ1_charAt_3b067 2 (some .char) (d + 2) [.ref (sV E w), .int i] M (some (.int v)) M := by
  refine Ct.of (by decide) ?_
  intro p e s m below meth c hr hlk B hR
  have B : Bx p s m _ c cJ1_charAt_3b067 2 RJ1 E L := B
  obtain ⟨hx, hb, hml, hown, hts, hK, hD, hX⟩ := id B
  have hl := lv_entry ([.ref (sV E w), .int i]) (n := 2) (Nat.le_of_ble_eq_true rfl)
  rw [lg_entry_eq]
  generalize (lg_sl ([.ref (sV E w), .int i]) ++ List.replicate (2 - (lg_sl ([.ref (sV E w), .int i])).length) Slot.unset).toArray = ls at hl ⊢
  have hl : lv_has ls 2 [(0, .ref (sV E w)), (1, .int i)] := hl
  refine lv_iload_n hx hb dJ1_charAt_3b067_0 rfl (lv_at hl 1 rfl) ?_
  refine lv_aload_n hx hb dJ1_charAt_3b067_1 rfl (lv_at hl 0 rfl) ?_
  refine r_talen B hR (hX.2.2.2.2.1.1 w hw).2.2.2 dJ1_charAt_3b067_2 ?_
  refine r_callS (As := [.int i, .int (Int32.ofNat (strL.getD w 0))]) (n := 2) (y := yJ0_checkIndex_df160) (cb := cJ0_checkIndex_df160) (nb := 2) (ret := none) (r := none) (M' := M) B hR (tb_3 102 (by decide +kernel) rfl) (tb_3 100 (by decide +kernel) rfl) (tb_3 101 (by decide +kernel) rfl) (tb_1 14 (by decide +kernel) rfl) (by decide +kernel) (by decide) rfl hl.1 (mJ0_checkIndex _ h0 h1) (Nat.le_of_ble_eq_true rfl) dJ1_charAt_3b067_3 (fun H locs hR => ?_)
  refine lv_aload_n hx hb dJ1_charAt_3b067_6 rfl (lv_at hl 0 rfl) ?_
  refine lv_iload_n hx hb dJ1_charAt_3b067_7 rfl (lv_at hl 1 rfl) ?_
  refine r_tbald (f := fun j => (strB.getD w []).getD j 0) B hR (hX.2.2.2.2.1.1 w hw).2.2.2 (fun q => q.elim h0 h2) dJ1_charAt_3b067_8 ?_
  refine lv_sipush (v := 255) hx hb dJ1_charAt_3b067_9 (by decide) ?_
  refine lv_iand hx hb dJ1_charAt_3b067_12 ?_
  refine lv_i2c (v := v) hx hb dJ1_charAt_3b067_13 he ?_
  exact r_tret B hR hr hlk hv dJ1_charAt_3b067_14
set_option maxRecDepth 100000 in
set_option maxHeartbeats 4000000 in
theorem mJ0_charAt {l : Launch} {E : Ge} {L : Lay} (d : Nat) {w : Nat} {i : Int32} {M : Mm} (hw : w < 12) (h0 : ¬ i < 0) (h1 : i < Int32.ofNat (strL.getD w 0)) (h2 : ¬ strL.getD w 0 ≤ ix i) {v : Int32} (hv : narrow .char (.int v) = .int v) (he : (((strB.getD w []).getD (ix i) 0 &&& 255).toUInt32 % 65536).toInt32 = v) : Ct l E L yJ0_charAt_5068e cJ0_charAt_5068e 2 (some .char) (d + 3) [.ref (sK E w), .int i] M (some (.int v)) M := by
  refine Ct.of (by decide) ?_
  intro p e s m below meth c hr hlk B hR
  have B : Bx p s m _ c cJ0_charAt_5068e 2 RJ0 E L := B
  obtain ⟨hx, hb, hml, hown, hts, hK, hD, hX⟩ := id B
  have hl := lv_entry ([.ref (sK E w), .int i]) (n := 2) (Nat.le_of_ble_eq_true rfl)
  rw [lg_entry_eq]
  generalize (lg_sl ([.ref (sK E w), .int i]) ++ List.replicate (2 - (lg_sl ([.ref (sK E w), .int i])).length) Slot.unset).toArray = ls at hl ⊢
  have hl : lv_has ls 2 [(0, .ref (sK E w)), (1, .int i)] := hl
  refine lv_aload_n hx hb dJ0_charAt_5068e_0 rfl (lv_at hl 0 rfl) ?_
  refine r_callVR (As := []) (n := 0) (C := RJ0) (y := yJ0_isLatin1_aae02) (cb := cJ0_isLatin1_aae02) (nb := 1) (ret := some .boolean) (r := some (.int 1)) (M' := M) B hR (tb_3 96 (by decide +kernel) rfl) (tb_3 93 (by decide +kernel) rfl) (tb_3 94 (by decide +kernel) rfl) (tb_3 95 (by decide +kernel) rfl) (tb_1 14 (by decide +kernel) rfl) (by decide +kernel) (by decide) (vk_recv hX.2.2.2.2.1 hw hR.2) rfl hl.1 (mJ0_isLatin1 _ hw) (Nat.le_of_ble_eq_true rfl) dJ0_charAt_5068e_1 (fun H locs hR => ?_)
  refine lv_if_eq (x := 1) (tgt := 16) hx hb dJ0_charAt_5068e_4 (by decide) (fun c0 => ?_) (fun c0 => ?_)
  · exact absurd c0 (by decide)
  · refine lv_aload_n hx hb dJ0_charAt_5068e_7 rfl (lv_at hl 0 rfl) ?_
    refine vk_getf hx hb (hX.2.2.2.2.1.1 w hw).2.2.1 hR.2 hown (hts _ (tb_9 221 (by decide +kernel) rfl)) (fun _ h => h) dJ0_charAt_5068e_8 ?_
    refine lv_iload_n hx hb dJ0_charAt_5068e_11 rfl (lv_at hl 1 rfl) ?_
    refine r_callS (As := [.ref (sV E w), .int i]) (n := 2) (y := yJ1_charAt_3b067) (cb := cJ1_charAt_3b067) (nb := 2) (ret := some .char) (r := some (.int v)) (M' := M) B hR (tb_3 99 (by decide +kernel) rfl) (tb_3 97 (by decide +kernel) rfl) (tb_3 98 (by decide +kernel) rfl) (tb_1 15 (by decide +kernel) rfl) (by decide +kernel) (by decide) rfl hl.1 (mJ1_charAt _ hw h0 h1 h2 hv he) (Nat.le_of_ble_eq_true rfl) dJ0_charAt_5068e_12 (fun H locs hR => ?_)
    exact r_tret B hR hr hlk hv dJ0_charAt_5068e_15
theorem str_fit : ∀ w, w < 12 → ∀ j, j < strL.getD w 0 → (((strB.getD w []).getD j 0 &&& 255).toUInt32 % 65536).toInt32 = (strB.getD w []).getD j 0 ∧ narrow .char (.int ((strB.getD w []).getD j 0)) = .int ((strB.getD w []).getD j 0) := by decide +kernel
theorem str_len : ∀ w, w < 12 → strL.getD w 0 < 10 := by decide +kernel
section SS
variable {p : Program} {l : Launch} {e : Env} {s : State} {m : MethodId} {args : Array Value} {below : List Frame} {meth : Method} {c : Code} {H : Heap} {locs : List Loc} {Q : State → Prop}
variable {cc : ByteArray} {pc nL d : Nat} {ls : Array Slot} {rest : List Value} {E : Ge} {L : Lay} {M : Mm}
theorem st_len {w : Nat} (B : Bx p s m args c cc nL RX7 E L) (hR : Rx s E L M H locs) (hw : w < 12) (hl : ls.size = nL) (hst : (rest.map fun v => v.category).sum ≤ 8) (hdg : decode cc pc = .ok (.invokevirtual 198, 3))
    (kk : ∀ (H1 : Heap) (locs1 : List Loc), Rx s E L M H1 locs1 → W p l e (rmD (d + 2)) s m args below meth c H1 locs1 0 0 Q (F0 m (pc + 3) ls (.int (Int32.ofNat (strL.getD w 0)) :: rest))) : W p l e (rmD (d + 2)) s m args below meth c H locs 0 0 Q (F0 m pc ls (.ref (sK E w) :: rest)) :=
  r_callVR (d := d + 1) (As := []) (n := 0) (C := RJ0) (y := yJ0_length_8abf5) (cb := cJ0_length_8abf5) (nb := 1) (ret := some .int) (r := some (.int (Int32.ofNat (strL.getD w 0)))) (M' := M) B hR (tb_3 82 (by decide +kernel) rfl) (tb_3 79 (by decide +kernel) rfl) (tb_3 80 (by decide +kernel) rfl) (tb_3 81 (by decide +kernel) rfl) (tb_1 14 (by decide +kernel) rfl) (by decide +kernel) (by decide) (vk_recv B.2.2.2.2.2.2.2.2.2.2.2.1 hw hR.2) rfl hl (mJ0_length _ hw) hst hdg kk
theorem st_chr {w : Nat} {i : Int32} (B : Bx p s m args c cc nL RX7 E L) (hR : Rx s E L M H locs) (hw : w < 12) (hl : ls.size = nL) (hi : ¬ (i < 0 ∨ strL.getD w 0 ≤ ix i)) (hst : (rest.map fun v => v.category).sum ≤ 8) (hdg : decode cc pc = .ok (.invokevirtual 202, 3))
    (kk : ∀ (H1 : Heap) (locs1 : List Loc), Rx s E L M H1 locs1 → W p l e (rmD (d + 4)) s m args below meth c H1 locs1 0 0 Q (F0 m (pc + 3) ls (.int ((strB.getD w []).getD (ix i) 0) :: rest))) : W p l e (rmD (d + 4)) s m args below meth c H locs 0 0 Q (F0 m pc ls (.int i :: .ref (sK E w) :: rest)) := by
  have h0 : ¬ i < 0 := fun q => hi (Or.inl q)
  have h2 : ¬ strL.getD w 0 ≤ ix i := fun q => hi (Or.inr q)
  have hf := str_fit w hw (ix i) (Nat.not_le.mp h2)
  have hlen := str_len w hw
  have h1 : i < Int32.ofNat (strL.getD w 0) := by
    rw [Int32.lt_iff_toInt_lt]
    have a1 : (Int32.ofNat (strL.getD w 0)).toInt = (strL.getD w 0 : Int) := Int32.toInt_ofNat_of_lt (by omega)
    have a2 : ix i = i.toInt.toNat := rfl
    have a3 : ¬ i.toInt < 0 := fun q => h0 (Int32.lt_iff_toInt_lt.mpr (by simpa using q))
    rw [a1]
    omega
  exact r_callVR (d := d + 3) (As := [.int i]) (n := 1) (C := RJ0) (y := yJ0_charAt_5068e) (cb := cJ0_charAt_5068e) (nb := 2) (ret := some .char) (r := some (.int ((strB.getD w []).getD (ix i) 0))) (M' := M) B hR (tb_3 92 (by decide +kernel) rfl) (tb_3 89 (by decide +kernel) rfl) (tb_3 90 (by decide +kernel) rfl) (tb_3 91 (by decide +kernel) rfl) (tb_1 14 (by decide +kernel) rfl) (by decide +kernel) (by decide) (vk_recv B.2.2.2.2.2.2.2.2.2.2.2.1 hw hR.2) rfl hl (mJ0_charAt _ hw h0 h1 h2 hf.2 hf.1) hst hdg kk
end SS
