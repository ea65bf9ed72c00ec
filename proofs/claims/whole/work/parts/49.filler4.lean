section FC
variable {p : Program} {l : Launch} {e : Env} {R : Room} {s : State} {m : MethodId} {args : Array Value} {below : List Frame} {meth : Method} {c : Code} {H : Heap} {locs : List Loc} {cells slots : Nat} {Q : State → Prop} {ls : Array Slot} {E : Ge} {L L' : Lay} {M M1 M2 M' : Mm} {a q fu nL pc sz mc ms d n index : Nat} {cc cb : ByteArray} {rest : List Value} {own : String} {y : MethodName} {nb : Nat} {ret : Option FieldType} {r : Option Value} {As : List Value} {x1 x2 x3 rv : Int32}
/-- a call of a method that makes cells -/
theorem a_call (Y : By p s m args c cc nL own E) (hN : Nx s E [] L M sz cells H locs) {ck N : Nat} {C : String} {T : u_T} (hc : vwCl[ck]? = some (C, T, N)) (hcode : Cond.code y cb nb ret ∈ ws0) (hlink : Cond.methodLink own index y ∈ ws0) (hinst : Cond.instanceMethod y ∈ ws0) (hsel : Cond.selects C y y ∈ ws0) (hini : Cond.initialized C ∈ ws0) (hd : y.cls = C ∧ y.cls ≠ "java/lang/invoke/MethodHandle" ∧ y.cls ≠ "java/lang/invoke/VarHandle" ∧ (parseMethodDescriptor y.desc).map (fun d => d.parameters.length) = some n) (hnb : nb ≤ 23)
    (hm : (a, (ck + 5, 0)) ∈ L) (hn : As.length = n) (hl : ls.size = nL) (hC : CtA l E L y cb nb ret d mc ms (.ref a :: As) M sz r L' M') (hf : d + 1 ≤ R.frames ∧ 42 * d + 42 ≤ R.locals ∧ cells + mc ≤ R.cells ∧ slots + ms ≤ R.slots) (hst : (rest.map fun v => v.category).sum ≤ 8) (hdg : decode cc pc = .ok (.invokevirtual index, 3))
    (kk : ∀ (H1 : Heap) (locs1 : List Loc), Bx p s m args c cc nL own E L' → Rx s E L' M' H1 locs1 → W p l e R s m args below meth c H1 locs1 (cells + mc) (slots + ms) Q (F0 m (pc + 3) ls (r.toList ++ rest))) : W p l e R s m args below meth c H locs cells slots Q (F0 m pc ls (As.reverse ++ .ref a :: rest)) := by
  refine w_size (fun hle => ?_)
  have hsz := hN.size hle
  obtain ⟨hx, hb, hml, hown, hts, hK, hX, hA⟩ := Y
  obtain ⟨hP, hD, hS, ⟨hcs, -⟩, hZ⟩ := hN
  obtain ⟨q, -, hq⟩ := wsOf_at (g := E.2.1) M hm
  have hG : GoodIn ws0 (wsV own index C y (Cond.code y cb nb ret :: ws0)) := fun w hw => by
    unfold wsV at hw
    rcases List.mem_append.mp hw with h | h
    · have h2 : w ∈ ws0 := by
        simp only [List.mem_cons, List.not_mem_nil, or_false] at h
        rcases h with rfl | rfl | rfl | rfl
        · exact hlink
        · exact hinst
        · exact hsel
        · exact hini
      exact ⟨h2, ws0_good h2⟩
    · exact ws0_in hcode w h
  have hr := va_runV (H := H) (locs := locs) (cells := cells) (slots := slots) (e := e) (below := below) (meth := meth) (g := F0 m pc ls (As.reverse ++ .ref a :: rest)) (As := As) (rest := rest) ⟨hx, hb, hml, hown, hts⟩ hC (cwV n hts hG rfl rfl rfl hd ⟨hf.1, by show 8 + (nb + 11) + 42 * d ≤ _; omega⟩) ⟨PcA.blind, va_recv hK hP hc hq, fun U hU hW => ⟨rfl, by rw [hU]; exact hsz, by rw [hU]; exact hP, va_K.moved hW.alike hK, hD, by rw [hU]; exact (hX.kept hS.2.1).warm hW, fun q hq => hA q (by omega)⟩⟩ rfl hn hl rfl (lv_room hst) hdg hf.2.2
  intro T0 hT0 X
  obtain ⟨v, st₀, t, T', L1, h0, X', hL, e1, e2, ⟨⟨hv, hP1, hD1, hz1⟩, hz, hk⟩, st⟩ := hr T0 hT0 X
  cases hv
  rw [h0] at hz hk
  obtain ⟨t2, a1, b1⟩ := kk T'.heap (locs ++ L1) ⟨hx, hb, hml, hown, hts, hK, fun M => wsOf_D hD1 M, hX⟩ ⟨by rw [e1]; exact hP1, Nat.le_trans hS.1 (by rw [e1]; exact hz), fun q h1 h2 => by rw [e1, hk q (Nat.lt_of_lt_of_le h1 hS.1) h2]; exact hS.2.1 q h1 h2, fun q hq => by
      rcases List.mem_append.mp hq with h | h
      · exact hS.2.2 q h
      · exact hL q h⟩ T' rfl X'
  exact ⟨t2, st t2 a1, b1⟩
theorem a_iret (B : Bx p s m args c cc nL own E L) (hR : Rx s E L M H locs) (hs0 : s.heap.size = sz) (hlast : ∃ p ∈ L, p.1 + 1 = sz + mc) (hsl : slots ≤ ms) (hr : meth.sig.returnType = some .int) (hlocks : meth.locks = false) (hdg : decode cc pc = .ok (.ireturn, 1)) : W p l e R s m args below meth c H locs mc slots (MQ below (QcA E L (some (.int rv)) M (sz + mc)) args s mc ms E.2.2.2) (F0 m pc ls [.int rv]) := by
  refine w_size (fun hle => ?_)
  have hsz : H.size = sz + mc := by
    obtain ⟨z, hz, e0⟩ := hlast
    have := wsOf_lt hR.1 z hz
    omega
  refine W.widen (k := mc) (n := ms) (Nat.le_refl _) hsl ?_
  exact W.iret B.1 B.2.1 hr (fun t ht _ => ⟨⟨rfl, by rw [ht]; exact hR.1, B.2.2.2.2.2.2.1 M, by rw [ht]; exact hsz⟩, hR.2.F ht⟩) hR.2.2.2 hdg
theorem most_tail (B : Bx p s m args c cX10_most 2 RX10 E L) (hR : Rx s E L M H locs) (hQ : At L q T3) (hl : lv_has ls 2 [(0, .ref a), (1, .int x1)]) (hf : 2 ≤ R.frames ∧ 42 * 1 + 42 ≤ R.locals ∧ cells ≤ R.cells ∧ slots ≤ R.slots) (h : fX3_mostRight fu q x1 M = some rv)
    (kk : ∀ (H1 : Heap) (locs1 : List Loc), Rx s E L M H1 locs1 → W p l e R s m args below meth c H1 locs1 cells slots Q (F0 m 22 ls [.int rv])) : W p l e R s m args below meth c H locs cells slots Q (F0 m 18 ls [.ref q]) := by
  have hx := B.1
  have hb := B.2.1
  refine lv_iload_n hx hb dX10_most_18 rfl (lv_at hl 1 rfl) ?_
  exact r_callVG (As := [.int x1]) (n := 1) (r := some (.int rv)) B hR (ci := 3) (C := RX3) (T := TX3) (N := 3) rfl wc_X3_mostRight ml_X10_297 wi_X3_mostRight we_X3_mostRight ini_3 (by decide +kernel) (by decide) (hQ.at0 rfl) rfl hl.1 (mX3_mostRight fu 0 hQ h) hf (Nat.le_of_ble_eq_true rfl) dX10_most_19 kk
theorem best_tail (B : Bx p s m args c cX10_bestSet 4 RX10 E L) (hR : Rx s E L M H locs) (h0 : At L a T10) (hQ : At L q T3) (hl : lv_has ls 4 [(0, .ref a), (1, .int x1), (2, .int x2), (3, .int x3)]) (hf : 37 ≤ R.frames ∧ 42 * 36 + 42 ≤ R.locals ∧ cells ≤ R.cells ∧ slots ≤ R.slots) (h1 : fX3_layBest fu L q x1 (a + 229) M = some M2) (h2 : fX0_tell fu 10 (a + 229) x2 x3 M2 = some rv)
    (kk : ∀ (H1 : Heap) (locs1 : List Loc), Rx s E L M2 H1 locs1 → W p l e R s m args below meth c H1 locs1 cells slots Q (F0 m 33 ls [.int rv])) : W p l e R s m args below meth c H locs cells slots Q (F0 m 16 ls [.ref q]) := by
  have hx := B.1
  have hb := B.2.1
  refine lv_iload_n hx hb dX10_bestSet_16 rfl (lv_at hl 1 rfl) ?_
  refine lv_aload_n hx hb dX10_bestSet_17 rfl (lv_at hl 0 rfl) ?_
  refine r_get B hR (ci := 10) (k := 11) (N := 19) (C := RX10) (T := TX10) (v := .ref (a + 229)) rfl in10 (by decide) lk_X10_79 (h0.at0 rfl) rfl dX10_bestSet_18 ?_
  refine r_callVG (As := [.int x1, .ref (a + 229)]) (n := 2) (r := none) B hR (ci := 3) (C := RX3) (T := TX3) (N := 3) rfl wc_X3_layBest ml_X10_302 wi_X3_layBest we_X3_layBest ini_3 (by decide +kernel) (by decide) (hQ.at0 rfl) rfl hl.1 (mX3_layBest fu 0 hQ (sb_10_11 h0) h1) hf (Nat.le_of_ble_eq_true rfl) dX10_bestSet_21 (fun H locs hR => ?_)
  refine lv_aload_n hx hb dX10_bestSet_24 rfl (lv_at hl 0 rfl) ?_
  refine r_get B hR (ci := 10) (k := 11) (N := 19) (C := RX10) (T := TX10) (v := .ref (a + 229)) rfl in10 (by decide) lk_X10_79 (h0.at0 rfl) rfl dX10_bestSet_25 ?_
  refine lv_iload_n hx hb dX10_bestSet_28 rfl (lv_at hl 2 rfl) ?_
  refine lv_iload_n hx hb dX10_bestSet_29 rfl (lv_at hl 3 rfl) ?_
  exact r_callVG (As := [.int x2, .int x3]) (n := 2) (r := some (.int rv)) B hR (ci := 0) (C := RX0) (T := TX0) (N := 4) rfl wc_X0_tell ml_X10_270 wi_X0_tell we_X0_tell ini_0 (by decide +kernel) (by decide) ((sb_10_11 h0).at0 rfl) rfl hl.1 (mX0_tell fu 0 (sb_10_11 h0) h2) ⟨by omega, by omega, hf.2.2⟩ (Nat.le_of_ble_eq_true rfl) dX10_bestSet_30 kk
end FC

set_option maxRecDepth 100000 in
set_option maxHeartbeats 4000000 in
theorem mX10_most_O {l : Launch} {E : Ge} {L : Lay} (d : Nat) {a : Nat} {x1 : Int32} {M : Mm} (ho : x1 < 0 ∨ ¬ x1 ≤ 10) : Ct l E L yX10_most cX10_most 2 (some .int) d [.ref a, .int x1] M (some (.int (-1))) M := by
  refine Ct.of (by decide) ?_
  intro p e s m below meth c hr hlk B hR
  have B : Bx p s m _ c cX10_most 2 RX10 E L := B
  have hx := B.1
  have hb := B.2.1
  have hl := lv_entry ([.ref a, .int x1]) (n := 2) (Nat.le_of_ble_eq_true rfl)
  rw [lg_entry_eq]
  generalize (lg_sl ([.ref a, .int x1]) ++ List.replicate (2 - (lg_sl ([.ref a, .int x1])).length) Slot.unset).toArray = ls at hl ⊢
  have hl : lv_has ls 2 [(0, .ref a), (1, .int x1)] := hl
  have fin : W p l e (rmD d) s m #[Value.ref a, .int x1] below meth c s.heap [] 0 0 (MQ below (QcM E L (some (.int (-1))) M) #[Value.ref a, .int x1] s 0 0 E.2.2.2) (F0 m 10 ls []) := by
    refine lv_iconst (v := -1) hx hb dX10_most_10 (by decide) ?_
    refine lv_goto (tgt := 22) hx hb dX10_most_11 (by decide) ?_
    exact r_iret B hR hr hlk dX10_most_22
  refine lv_iload_n hx hb dX10_most_0 rfl (lv_at hl 1 rfl) ?_
  refine lv_if_lt (tgt := 10) hx hb dX10_most_1 (by decide) (fun _ => fin) (fun c0 => ?_)
  refine lv_iload_n hx hb dX10_most_4 rfl (lv_at hl 1 rfl) ?_
  refine lv_bipush (v := 10) hx hb dX10_most_5 (by decide) ?_
  exact lv_icmp_le (tgt := 14) hx hb dX10_most_7 (by decide) (fun c1 => absurd c1 (ho.resolve_left c0)) (fun _ => fin)

set_option maxRecDepth 100000 in
set_option maxHeartbeats 4000000 in
theorem mX10_most_A {l : Launch} {E : Ge} {L : Lay} (fu d : Nat) {a q : Nat} {x1 : Int32} {M M' : Mm} {rv : Int32} (h0 : At L a T10) (hi : ¬ x1 < 0 ∧ x1 ≤ 10) (hq : M.2.2 a 13 = some q) (hQ : At L q T3) (h : fnow fu a q M = some M') (h2 : fX3_mostRight fu q x1 M' = some rv) : Ct l E L yX10_most cX10_most 2 (some .int) (d + 20) [.ref a, .int x1] M (some (.int rv)) M' := by
  refine Ct.of (by decide) ?_
  intro p e s m below meth c hr hlk B hR
  have B : Bx p s m _ c cX10_most 2 RX10 E L := B
  have hx := B.1
  have hb := B.2.1
  have hl := lv_entry ([.ref a, .int x1]) (n := 2) (Nat.le_of_ble_eq_true rfl)
  rw [lg_entry_eq]
  generalize (lg_sl ([.ref a, .int x1]) ++ List.replicate (2 - (lg_sl ([.ref a, .int x1])).length) Slot.unset).toArray = ls at hl ⊢
  have hl : lv_has ls 2 [(0, .ref a), (1, .int x1)] := hl
  refine lv_iload_n hx hb dX10_most_0 rfl (lv_at hl 1 rfl) ?_
  refine lv_if_lt (tgt := 10) hx hb dX10_most_1 (by decide) (fun c0 => absurd c0 hi.1) (fun c0 => ?_)
  refine lv_iload_n hx hb dX10_most_4 rfl (lv_at hl 1 rfl) ?_
  refine lv_bipush (v := 10) hx hb dX10_most_5 (by decide) ?_
  refine lv_icmp_le (tgt := 14) hx hb dX10_most_7 (by decide) (fun c1 => ?_) (fun c1 => absurd hi.2 c1)
  refine lv_aload_n hx hb dX10_most_14 rfl (lv_at hl 0 rfl) ?_
  refine r_callV (As := []) (n := 0) (r := some (.ref q)) B hR (ci := 10) (C := RX10) (T := TX10) (N := 19) rfl wc_X10_fillerNow ml_X10_293 wi_X10_fillerNow we_X10_fillerNow ini_10 (by decide +kernel) (by decide) (h0.at0 rfl) rfl hl.1 (mX10_fillerNow_A fu d h0 hq hQ h) (Nat.le_of_ble_eq_true rfl) dX10_most_15 (fun H locs hR => ?_)
  exact most_tail B hR hQ hl ⟨by show 2 ≤ d + 20; omega, by show _ ≤ 42 * (d + 20); omega, Nat.zero_le _, Nat.zero_le _⟩ h2 (fun H locs hR => r_iret B hR hr hlk dX10_most_22)

set_option maxRecDepth 100000 in
set_option maxHeartbeats 4000000 in
theorem mX10_most_B {l : Launch} {E : Ge} {L : Lay} (fu d : Nat) {a sz : Nat} {x1 : Int32} {M M1 M' : Mm} {rv : Int32} (h0 : At L a T10) (hZ0 : Zr sz M) (hlast : ∃ p ∈ L, p.1 + 1 = sz) (hi : ¬ x1 < 0 ∧ x1 ≤ 10) (hq : M.2.2 a 13 = none) (h1 : iC3 fu sz M = some M1) (h : fnow fu a sz (wR M1 a 13 (some sz)) = some M') (h2 : fX3_mostRight fu sz x1 M' = some rv) : CtA l E L yX10_most cX10_most 2 (some .int) (d + 20) 12 22822 [.ref a, .int x1] M sz (some (.int rv)) (nL3 sz L) M' := by
  refine CtA.of (by decide) hZ0 hlast ?_
  intro p e s m below meth c hr hlk Y B hs0 hN
  have Y : By p s m _ c cX10_most 2 RX10 E := Y
  have hx := Y.1
  have hb := Y.2.1
  have hl := lv_entry ([.ref a, .int x1]) (n := 2) (Nat.le_of_ble_eq_true rfl)
  rw [lg_entry_eq]
  generalize (lg_sl ([.ref a, .int x1]) ++ List.replicate (2 - (lg_sl ([.ref a, .int x1])).length) Slot.unset).toArray = ls at hl ⊢
  have hl : lv_has ls 2 [(0, .ref a), (1, .int x1)] := hl
  refine lv_iload_n hx hb dX10_most_0 rfl (lv_at hl 1 rfl) ?_
  refine lv_if_lt (tgt := 10) hx hb dX10_most_1 (by decide) (fun c0 => absurd c0 hi.1) (fun c0 => ?_)
  refine lv_iload_n hx hb dX10_most_4 rfl (lv_at hl 1 rfl) ?_
  refine lv_bipush (v := 10) hx hb dX10_most_5 (by decide) ?_
  refine lv_icmp_le (tgt := 14) hx hb dX10_most_7 (by decide) (fun c1 => ?_) (fun c1 => absurd hi.2 c1)
  refine lv_aload_n hx hb dX10_most_14 rfl (lv_at hl 0 rfl) ?_
  refine a_call (As := []) (n := 0) (r := some (.ref sz)) Y hN (ck := 10) (C := RX10) (T := TX10) (N := 19) rfl wc_X10_fillerNow ml_X10_293 wi_X10_fillerNow we_X10_fillerNow ini_10 (by decide +kernel) (by decide) (h0.at0 rfl) rfl hl.1 (mX10_fillerNow_B fu d h0 hZ0 hlast hq h1 h) ⟨by show _ ≤ d + 20; omega, by show _ ≤ 42 * (d + 20); omega, Nat.le_of_ble_eq_true rfl, Nat.le_of_ble_eq_true rfl⟩ (Nat.le_of_ble_eq_true rfl) dX10_most_15 (fun H locs B2 hR => ?_)
  have hl2 : ∃ p ∈ nL3 sz L, p.1 + 1 = sz + 12 := by
    obtain ⟨z, hz, e0⟩ := nL3_last sz L
    exact ⟨z, hz, by omega⟩
  exact most_tail B2 hR (aL3 _ _) hl ⟨by show 2 ≤ d + 20; omega, by show _ ≤ 42 * (d + 20); omega, Nat.le_of_ble_eq_true rfl, Nat.le_of_ble_eq_true rfl⟩ h2 (fun H locs hR => a_iret (mc := 12) (ms := 22822) B2 hR hs0 hl2 (Nat.le_of_ble_eq_true rfl) hr hlk dX10_most_22)

set_option maxRecDepth 100000 in
set_option maxHeartbeats 4000000 in
theorem mX10_bestSet_O {l : Launch} {E : Ge} {L : Lay} (d : Nat) {a : Nat} {x1 x2 x3 : Int32} {M : Mm} (ho : x1 < 0 ∨ ¬ x1 ≤ 10) : Ct l E L yX10_bestSet cX10_bestSet 4 (some .int) d [.ref a, .int x1, .int x2, .int x3] M (some (.int (-1))) M := by
  refine Ct.of (by decide) ?_
  intro p e s m below meth c hr hlk B hR
  have B : Bx p s m _ c cX10_bestSet 4 RX10 E L := B
  have hx := B.1
  have hb := B.2.1
  have hl := lv_entry ([.ref a, .int x1, .int x2, .int x3]) (n := 4) (Nat.le_of_ble_eq_true rfl)
  rw [lg_entry_eq]
  generalize (lg_sl ([.ref a, .int x1, .int x2, .int x3]) ++ List.replicate (4 - (lg_sl ([.ref a, .int x1, .int x2, .int x3])).length) Slot.unset).toArray = ls at hl ⊢
  have hl : lv_has ls 4 [(0, .ref a), (1, .int x1), (2, .int x2), (3, .int x3)] := hl
  have fin : W p l e (rmD d) s m #[Value.ref a, .int x1, .int x2, .int x3] below meth c s.heap [] 0 0 (MQ below (QcM E L (some (.int (-1))) M) #[Value.ref a, .int x1, .int x2, .int x3] s 0 0 E.2.2.2) (F0 m 10 ls []) := by
    refine lv_iconst (v := -1) hx hb dX10_bestSet_10 (by decide) ?_
    exact r_iret B hR hr hlk dX10_bestSet_11
  refine lv_iload_n hx hb dX10_bestSet_0 rfl (lv_at hl 1 rfl) ?_
  refine lv_if_lt (tgt := 10) hx hb dX10_bestSet_1 (by decide) (fun _ => fin) (fun c0 => ?_)
  refine lv_iload_n hx hb dX10_bestSet_4 rfl (lv_at hl 1 rfl) ?_
  refine lv_bipush (v := 10) hx hb dX10_bestSet_5 (by decide) ?_
  exact lv_icmp_le (tgt := 12) hx hb dX10_bestSet_7 (by decide) (fun c1 => absurd c1 (ho.resolve_left c0)) (fun _ => fin)

set_option maxRecDepth 100000 in
set_option maxHeartbeats 4000000 in
theorem mX10_bestSet_A {l : Launch} {E : Ge} {L : Lay} (fu d : Nat) {a q : Nat} {x1 x2 x3 : Int32} {M M1 M' : Mm} {rv : Int32} (h0 : At L a T10) (hi : ¬ x1 < 0 ∧ x1 ≤ 10) (hq : M.2.2 a 13 = some q) (hQ : At L q T3) (h : fnow fu a q M = some M1) (h2 : fX3_layBest fu L q x1 (a + 229) M1 = some M') (h3 : fX0_tell fu 10 (a + 229) x2 x3 M' = some rv) : Ct l E L yX10_bestSet cX10_bestSet 4 (some .int) (d + 37) [.ref a, .int x1, .int x2, .int x3] M (some (.int rv)) M' := by
  refine Ct.of (by decide) ?_
  intro p e s m below meth c hr hlk B hR
  have B : Bx p s m _ c cX10_bestSet 4 RX10 E L := B
  have hx := B.1
  have hb := B.2.1
  have hl := lv_entry ([.ref a, .int x1, .int x2, .int x3]) (n := 4) (Nat.le_of_ble_eq_true rfl)
  rw [lg_entry_eq]
  generalize (lg_sl ([.ref a, .int x1, .int x2, .int x3]) ++ List.replicate (4 - (lg_sl ([.ref a, .int x1, .int x2, .int x3])).length) Slot.unset).toArray = ls at hl ⊢
  have hl : lv_has ls 4 [(0, .ref a), (1, .int x1), (2, .int x2), (3, .int x3)] := hl
  refine lv_iload_n hx hb dX10_bestSet_0 rfl (lv_at hl 1 rfl) ?_
  refine lv_if_lt (tgt := 10) hx hb dX10_bestSet_1 (by decide) (fun c0 => absurd c0 hi.1) (fun c0 => ?_)
  refine lv_iload_n hx hb dX10_bestSet_4 rfl (lv_at hl 1 rfl) ?_
  refine lv_bipush (v := 10) hx hb dX10_bestSet_5 (by decide) ?_
  refine lv_icmp_le (tgt := 12) hx hb dX10_bestSet_7 (by decide) (fun c1 => ?_) (fun c1 => absurd hi.2 c1)
  refine lv_aload_n hx hb dX10_bestSet_12 rfl (lv_at hl 0 rfl) ?_
  refine r_callV (As := []) (n := 0) (r := some (.ref q)) B hR (ci := 10) (C := RX10) (T := TX10) (N := 19) rfl wc_X10_fillerNow ml_X10_293 wi_X10_fillerNow we_X10_fillerNow ini_10 (by decide +kernel) (by decide) (h0.at0 rfl) rfl hl.1 (mX10_fillerNow_A fu (d + 17) h0 hq hQ h) (Nat.le_of_ble_eq_true rfl) dX10_bestSet_13 (fun H locs hR => ?_)
  exact best_tail B hR h0 hQ hl ⟨by show 37 ≤ d + 37; omega, by show _ ≤ 42 * (d + 37); omega, Nat.zero_le _, Nat.zero_le _⟩ h2 h3 (fun H locs hR => r_iret B hR hr hlk dX10_bestSet_33)

set_option maxRecDepth 100000 in
set_option maxHeartbeats 4000000 in
theorem mX10_bestSet_B {l : Launch} {E : Ge} {L : Lay} (fu d : Nat) {a sz : Nat} {x1 x2 x3 : Int32} {M M1 M2 M' : Mm} {rv : Int32} (h0 : At L a T10) (hZ0 : Zr sz M) (hlast : ∃ p ∈ L, p.1 + 1 = sz) (hi : ¬ x1 < 0 ∧ x1 ≤ 10) (hq : M.2.2 a 13 = none) (h1 : iC3 fu sz M = some M1) (h : fnow fu a sz (wR M1 a 13 (some sz)) = some M2) (h2 : fX3_layBest fu (nL3 sz L) sz x1 (a + 229) M2 = some M') (h3 : fX0_tell fu 10 (a + 229) x2 x3 M' = some rv) : CtA l E L yX10_bestSet cX10_bestSet 4 (some .int) (d + 37) 12 22822 [.ref a, .int x1, .int x2, .int x3] M sz (some (.int rv)) (nL3 sz L) M' := by
  refine CtA.of (by decide) hZ0 hlast ?_
  intro p e s m below meth c hr hlk Y B hs0 hN
  have Y : By p s m _ c cX10_bestSet 4 RX10 E := Y
  have hx := Y.1
  have hb := Y.2.1
  have hl := lv_entry ([.ref a, .int x1, .int x2, .int x3]) (n := 4) (Nat.le_of_ble_eq_true rfl)
  rw [lg_entry_eq]
  generalize (lg_sl ([.ref a, .int x1, .int x2, .int x3]) ++ List.replicate (4 - (lg_sl ([.ref a, .int x1, .int x2, .int x3])).length) Slot.unset).toArray = ls at hl ⊢
  have hl : lv_has ls 4 [(0, .ref a), (1, .int x1), (2, .int x2), (3, .int x3)] := hl
  refine lv_iload_n hx hb dX10_bestSet_0 rfl (lv_at hl 1 rfl) ?_
  refine lv_if_lt (tgt := 10) hx hb dX10_bestSet_1 (by decide) (fun c0 => absurd c0 hi.1) (fun c0 => ?_)
  refine lv_iload_n hx hb dX10_bestSet_4 rfl (lv_at hl 1 rfl) ?_
  refine lv_bipush (v := 10) hx hb dX10_bestSet_5 (by decide) ?_
  refine lv_icmp_le (tgt := 12) hx hb dX10_bestSet_7 (by decide) (fun c1 => ?_) (fun c1 => absurd hi.2 c1)
  refine lv_aload_n hx hb dX10_bestSet_12 rfl (lv_at hl 0 rfl) ?_
  refine a_call (As := []) (n := 0) (r := some (.ref sz)) Y hN (ck := 10) (C := RX10) (T := TX10) (N := 19) rfl wc_X10_fillerNow ml_X10_293 wi_X10_fillerNow we_X10_fillerNow ini_10 (by decide +kernel) (by decide) (h0.at0 rfl) rfl hl.1 (mX10_fillerNow_B fu d h0 hZ0 hlast hq h1 h) ⟨by show _ ≤ d + 37; omega, by show _ ≤ 42 * (d + 37); omega, Nat.le_of_ble_eq_true rfl, Nat.le_of_ble_eq_true rfl⟩ (Nat.le_of_ble_eq_true rfl) dX10_bestSet_13 (fun H locs B2 hR => ?_)
  have hl2 : ∃ p ∈ nL3 sz L, p.1 + 1 = sz + 12 := by
    obtain ⟨z, hz, e0⟩ := nL3_last sz L
    exact ⟨z, hz, by omega⟩
  exact best_tail B2 hR (h0.mono (sL3 _ _)) (aL3 _ _) hl ⟨by show 37 ≤ d + 37; omega, by show _ ≤ 42 * (d + 37); omega, Nat.le_of_ble_eq_true rfl, Nat.le_of_ble_eq_true rfl⟩ h2 h3 (fun H locs hR => a_iret (mc := 12) (ms := 22822) B2 hR hs0 hl2 (Nat.le_of_ble_eq_true rfl) hr hlk dX10_bestSet_33)

