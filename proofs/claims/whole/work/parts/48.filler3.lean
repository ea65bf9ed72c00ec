theorem cl_X10_298 : Cond.classLink RX10 298 RX3 ∈ ws0 := tb_5 158 (by decide +kernel) rfl
theorem mi_X10_410 : Cond.methodLinkNest RX10 410 yX3_init "SpanKinds" ∈ nestW := tn_5 160 (by decide +kernel) rfl
/-! A method that makes cells: contracts. -/
def PcA (E : Ge) (L : Lay) (av : List Value) (M : Mm) (sz : Nat) : Array Value → State → Prop := va_Pc av (fun U => U.heap.size = sz ∧ va_P E.1 vwCl (wsOf E.2.1 L M) U.heap ∧ va_K E.1 vwCl (tyG E.2.1) U ∧ va_D E.2.2.2 (wsOf E.2.1 L M) ∧ SX E.2.2.1 E.2.2.2 U U.heap ∧ ∀ q, sz ≤ q → E.2.2.2 q)
def QcA (E : Ge) (L' : Lay) (r : Option Value) (M' : Mm) (sz : Nat) : Array Value → State → Outcome → State → Prop := fun _ st oc t => (oc = .returned r ∧ va_P E.1 vwCl (wsOf E.2.1 L' M') t.heap ∧ va_D E.2.2.2 (wsOf E.2.1 L' M') ∧ t.heap.size = sz) ∧ va_F E.2.2.2 st t
def CtA (l : Launch) (E : Ge) (L : Lay) (y : MethodName) (cc : ByteArray) (nL : Nat) (ret : Option FieldType) (d mc ms : Nat) (av : List Value) (M : Mm) (sz : Nat) (r : Option Value) (L' : Lay) (M' : Mm) : Prop :=
  Met l y (Cond.code y cc nL ret :: ws0) (rmN d mc ms) (PcA E L av M sz) (QcA E L' r M' (sz + mc)) mc ms E.2.2.2
theorem PcA.blind {E : Ge} {L : Lay} {av : List Value} {M : Mm} {sz : Nat} : FrameBlind (PcA E L av M sz) := by
  intro ar U gg mk q
  obtain ⟨q0, q1, qP, qK, qD, qX, qA⟩ := q
  exact ⟨q0, q1, qP, va_K.moved (u := U) (U := U.calling gg mk ar) (Vm.Alike.refl U.vm) qK, qD, SX.same (s := U) (U := U.calling gg mk ar) rfl qX, qA⟩
theorem CtA.of {l : Launch} {E : Ge} {L : Lay} {y : MethodName} {cc : ByteArray} {nL : Nat} {ret : Option FieldType} {d mc ms : Nat} {av : List Value} {M : Mm} {sz : Nat} {r : Option Value} {L' : Lay} {M' : Mm} (hy : plainName y.cls = true) (hZ : Zr sz M) (hlast : ∃ p ∈ L, p.1 + 1 = sz)
    (body : ∀ p e s m below meth c, meth.sig.returnType = ret → meth.locks = false → By p s m av.toArray c cc nL y.cls E → Bx p s m av.toArray c cc nL y.cls E L → s.heap.size = sz → Nx s E [] L M sz 0 s.heap [] →
      W p l e (rmN d mc ms) s m av.toArray below meth c s.heap [] 0 0 (MQ below (QcA E L' r M' (sz + mc)) av.toArray s mc ms E.2.2.2) (entryFrame m av.toArray nL)) : CtA l E L y cc nL ret d mc ms av M sz r L' M' := by
  refine Met.ofW (cc := cc) (maxL := nL) (ret := ret) hy rfl ?_
  intro p e s m args below meth c s₁ B hml hv
  obtain ⟨rfl, hsz, hP, hK, hD, hX, hA⟩ := hv
  have hts := atoms_spec (ws := Cond.code y cc nL ret :: ws0) B.pre
  obtain ⟨q, hq, e0⟩ := hlast
  exact body p e s m below meth c B.returns B.notSynchronized ⟨B.exec, B.bytes, hml, findClass_of_methodNamed B.named, fun w hw => hts w (List.mem_cons_of_mem _ hw), hK, hX, fun q hq => hA q (by omega)⟩ ⟨B.exec, B.bytes, hml, findClass_of_methodNamed B.named, fun w hw => hts w (List.mem_cons_of_mem _ hw), hK, fun M => wsOf_D hD M, hX⟩ hsz ⟨hP, hD, va_S.rf, ⟨hsz, (q.1, cellOf E.2.1 q.2 q.1 M), List.mem_map.mpr ⟨q, hq, rfl⟩, e0⟩, hZ⟩
section FB
variable {p : Program} {l : Launch} {e : Env} {R : Room} {s : State} {m : MethodId} {args : Array Value} {below : List Frame} {meth : Method} {c : Code} {H : Heap} {locs : List Loc} {cells slots : Nat} {Q : State → Prop} {ls : Array Slot} {E : Ge} {L : Lay} {M M' : Mm} {a q fu nL pc sz mc ms : Nat} {cc : ByteArray} {rest : List Value} {own : String}
theorem Nx.toB (Y : By p s m args c cc nL own E) (hN : Nx s E [] L M sz cells H locs) : Bx p s m args c cc nL own E L ∧ Rx s E L M H locs :=
  ⟨⟨Y.1, Y.2.1, Y.2.2.1, Y.2.2.2.1, Y.2.2.2.2.1, Y.2.2.2.2.2.1, fun M' => wsOf_D (g := E.2.1) (L := L) (M := M) hN.2.1 M', Y.2.2.2.2.2.2.1⟩, hN.1, hN.2.2.1⟩
theorem a_aret {rc : String} (B : Bx p s m args c cc nL own E L) (hR : Rx s E L M H locs) (hs0 : s.heap.size = sz) (hlast : ∃ p ∈ L, p.1 + 1 = sz + mc) (hsl : slots ≤ ms) (hr : meth.sig.returnType = some (.object rc)) (hlocks : meth.locks = false) (hdg : decode cc pc = .ok (.areturn, 1)) : W p l e R s m args below meth c H locs mc slots (MQ below (QcA E L (some (.ref q)) M (sz + mc)) args s mc ms E.2.2.2) (F0 m pc ls [.ref q]) := by
  refine w_size (fun hle => ?_)
  have hsz : H.size = sz + mc := by
    obtain ⟨z, hz, e0⟩ := hlast
    have := wsOf_lt hR.1 z hz
    omega
  refine W.widen (k := mc) (n := ms) (Nat.le_refl _) hsl ?_
  exact W.aret B.1 B.2.1 hr (Or.inl ⟨_, rfl⟩) (Or.inr ⟨_, rfl⟩) (fun t ht _ => ⟨⟨rfl, by rw [ht]; exact hR.1, B.2.2.2.2.2.2.1 M, by rw [ht]; exact hsz⟩, hR.2.F ht⟩) hR.2.2.2 hdg
end FB
set_option maxRecDepth 100000 in
set_option maxHeartbeats 4000000 in
/-- fillerNow without a filler: it makes one, at sz -/
theorem mX10_fillerNow_B {l : Launch} {E : Ge} {L : Lay} (fu d : Nat) {a sz : Nat} {M M1 M' : Mm} (h0 : At L a T10) (hZ0 : Zr sz M) (hlast : ∃ p ∈ L, p.1 + 1 = sz) (hq : M.2.2 a 13 = none) (h1 : iC3 fu sz M = some M1) (h : fnow fu a sz (wR M1 a 13 (some sz)) = some M') : CtA l E L yX10_fillerNow cX10_fillerNow 1 (some (.object "SpanKinds$Filler")) (d + 19) 12 22822 [.ref a] M sz (some (.ref sz)) (nL3 sz L) M' := by
  refine CtA.of (by decide) hZ0 hlast ?_
  intro p e s m below meth c hr hlk Y B hs0 hN
  have Y : By p s m _ c cX10_fillerNow 1 RX10 E := Y
  have B : Bx p s m _ c cX10_fillerNow 1 RX10 E L := B
  have hx := B.1
  have hb := B.2.1
  have hl := lv_entry ([.ref a]) (n := 1) (Nat.le_of_ble_eq_true rfl)
  rw [lg_entry_eq]
  generalize (lg_sl ([.ref a]) ++ List.replicate (1 - (lg_sl ([.ref a])).length) Slot.unset).toArray = ls at hl ⊢
  have hl : lv_has ls 1 [(0, .ref a)] := hl
  have hR : Rx s E L M s.heap [] := ⟨hN.1, hN.2.2.1⟩
  refine lv_aload_n hx hb dX10_fillerNow_0 rfl (lv_at hl 0 rfl) ?_
  refine r_get B hR (ci := 10) (k := 13) (N := 19) (C := RX10) (T := TX10) (v := va_rf (M.2.2 a 13)) rfl in10 (by decide) lk_X10_406 (h0.at0 rfl) rfl dX10_fillerNow_1 ?_
  rw [hq]
  refine lv_ifnonnullN hx hb dX10_fillerNow_4 ?_
  refine lv_aload_n hx hb dX10_fillerNow_7 rfl (lv_at hl 0 rfl) ?_
  refine n_new (ci := 3) (C := RX3) (T := TX3) (N := 3) (ty0 := tyX3) (df := dfl3) Y hN rfl in3 tyX3_ok cl_X10_298 win_3 ini_3 dfv3 (Nat.le_of_ble_eq_true rfl) (Nat.le_of_ble_eq_true rfl) dX10_fillerNow_8 (fun H hP hD hS hsz hcs hZ => ?_)
  refine lv_dup hx hb dX10_fillerNow_11 rfl ?_
  refine n_callI (L' := nL3 sz L) (M' := M1) (ex := []) (ci := 3) (df := dfl3) (mc := 11) (ms := 22819) (As := []) (n := 0) Y hP hD hS hsz hcs (by decide) (fun z hz => absurd hz List.not_mem_nil) (iC3_Z h1 (hZ.mono (by omega))) (nL3_last _ _) wci_3 (Or.inr mi_X10_410) wii_3 ini_3 rfl (by decide +kernel) (by decide) rfl hl.1 (kC3 fu d hZ h1) ⟨by show _ ≤ d + 19; omega, by show _ ≤ 42 * (d + 19); omega, Nat.le_of_ble_eq_true rfl, Nat.le_of_ble_eq_true rfl⟩ (Nat.le_of_ble_eq_true rfl) dX10_fillerNow_12 (fun H locs hN => ?_)
  obtain ⟨B2, hR2⟩ := Nx.toB Y hN
  have h02 : At (nL3 sz L) a T10 := h0.mono (sL3 _ _)
  refine r_putR B2 hR2 (ci := 10) (k := 13) (N := 19) (C := RX10) (T := TX10) (ty0 := tyX10) (x := some sz) rfl in10 tyX10_ok nmX10 (by decide) lk_X10_406 rfl (fun a M x => ⟨by simp [flds, wR, va_up], by simp [flds]⟩) rfl rfl (h02.at0 rfl) dX10_fillerNow_15 (fun H locs hR => ?_)
  refine fn_tail B2 hR h02 (by simp [wR, va_up]) (aL3 _ _) hl ⟨by show 19 ≤ d + 19; omega, by show 42 * 18 + 42 ≤ 42 * (d + 19); omega, Nat.le_of_ble_eq_true rfl, Nat.le_of_ble_eq_true rfl⟩ h (fun H locs hR => ?_)
  have hl2 : ∃ p ∈ nL3 sz L, p.1 + 1 = sz + 12 := by
    obtain ⟨z, hz, e0⟩ := nL3_last sz L
    exact ⟨z, hz, by omega⟩
  exact a_aret (mc := 12) (ms := 22822) B2 hR hs0 hl2 (Nat.le_of_ble_eq_true rfl) hr hlk dX10_fillerNow_45

