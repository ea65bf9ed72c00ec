/-! From the law's entry to its loop. -/
theorem cl_LW_7 : Cond.classLink RLaw 7 RX10 ∈ ws0 := tb_1 20 (by decide +kernel) rfl
theorem mi_LW_9 : Cond.methodLink RLaw 9 yX10_init ∈ ws0 := tb_1 22 (by decide +kernel) rfl
theorem cl_LW_10 : Cond.classLink RLaw 10 RX11 ∈ ws0 := tb_6 177 (by decide +kernel) rfl
theorem mi_LW_12 : Cond.methodLink RLaw 12 yX11_init ∈ ws0 := tb_6 179 (by decide +kernel) rfl
section RN
variable {p : Program} {l : Launch} {e : Env} {R : Room} {s : State} {m : MethodId} {args : Array Value} {below : List Frame} {meth : Method} {c : Code} {Q : State → Prop} {ls : Array Slot} {E : Ge} {M : Mm} {cc : ByteArray} {nL pc : Nat} {own : String} {rest : List Value}
/-- the first object of all -/
theorem n_new0 {ci N index : Nat} {C : String} {T : u_T} {ty0 : Nat → FieldType} {df : List Value} (Y : By p s m args c cc nL own E) (hc : vwCl[ci]? = some (C, T, N)) (hin : ∀ w ∈ u_ws C T N, w ∈ ws0) (hty : ∀ k, k < N → parseFieldDescriptor (T k).2.2.1 = some (ty0 k)) (hcl : Cond.classLink own index C ∈ ws0) (hinst : Cond.instantiable C N ∈ ws0) (hini : Cond.initialized C ∈ ws0) (hfs : ∀ j, j < N → defaultValue (ty0 j) = vp_V df j) (hcells : 0 + 1 ≤ R.cells) (hslots : 0 + N ≤ R.slots) (hdg : decode cc pc = .ok (.new index, 3))
    (kk : ∀ H1 : Heap, va_P E.1 vwCl ([(s.heap.size, .inr (ci, df))]) H1 → va_D E.2.2.2 ([(s.heap.size, .inr (ci, df))]) → va_S E.2.2.2 s.heap H1 [] → H1.size = s.heap.size + 1 → W p l e R s m args below meth c H1 [] (0 + 1) (0 + N) Q (F0 m (pc + 3) ls (.ref s.heap.size :: rest))) : W p l e R s m args below meth c s.heap [] 0 0 Q (F0 m pc ls rest) := by
  obtain ⟨hx, hb, hml, hown, hts, hK, hX, hA⟩ := Y
  have hKn := hK.1 ci _ hc
  refine W.newcK hx hb hown (hts _ hcl) (hts _ hinst) (hts _ hini) rfl hdg hcells hslots hKn.2.1 rfl fun H1 kC hkC e1 z1 o1 => ?_
  refine kk H1 (fun k x hx => ?_) ⟨fun i j a b ha hb _ => ?_, fun k q hq => ?_⟩ ⟨by rw [z1]; omega, fun q h1 h2 => o1 q (by omega), fun _ h => absurd h List.not_mem_nil⟩ z1
  · have hz : k < 1 := (List.getElem?_eq_some_iff.mp hx).1
    rw [show k = 0 by omega] at hx
    cases hx
    exact ⟨_, hc, (u_born ty0 hts hin hKn hkC e1 hty).to hfs⟩
  · have h1 : i < 1 := (List.getElem?_eq_some_iff.mp ha).1
    have h2 : j < 1 := (List.getElem?_eq_some_iff.mp hb).1
    omega
  · have hz : k < 1 := (List.getElem?_eq_some_iff.mp hq).1
    rw [show k = 0 by omega] at hq
    cases hq
    exact hA _ (Nat.le_refl _)
end RN
def M00 : Mm := (fun _ _ => 0, fun _ _ => 0, fun _ _ => none)
theorem M00_Z (q : Nat) : Zr q M00 := fun _ _ => ⟨rfl, rfl, rfl⟩
section RN2
variable {p : Program} {l : Launch} {e : Env} {s : State} {m : MethodId} {below : List Frame} {meth : Method} {c : Code} {E : Ge} {b n : Nat} {xs : Nat → Int32}
set_option maxRecDepth 100000 in
set_option maxHeartbeats 4000000 in
theorem start_run (hr : meth.sig.returnType = ret) (hlocks : meth.locks = false) (hXs : va_X b n xs s s.heap) (hbl : b < s.heap.size) (hbA : ¬ E.2.2.2 b) (hEA : ∀ q, E.2.2.2 q → s.heap.size ≤ q) (hn : n ≤ 3072) (Y : By p s m #[Value.ref b] c code 4 RLaw E) : W p l e room_1 s m #[Value.ref b] below meth c s.heap [] 0 0 (lw_Z below #[Value.ref b] s) (entryFrame m ([Value.ref b] : List Value).toArray 4) := by
  have hx := Y.1
  have hb := Y.2.1
  have hl := lv_entry ([.ref b]) (n := 4) (Nat.le_of_ble_eq_true rfl)
  obtain ⟨M1, M2, i1, i2, hJ, z1, z2⟩ := start_j (fu := 200000) (a := s.heap.size) (M := M00) (Nat.le_refl _) (M00_Z _)
  rw [lg_entry_eq]
  generalize (lg_sl ([.ref b]) ++ List.replicate (4 - (lg_sl ([.ref b])).length) Slot.unset).toArray = ls at hl ⊢
  have hl : lv_has ls 4 [(0, .ref b)] := hl
  refine n_new0 (ci := 10) (C := RX10) (T := TX10) (N := 19) (ty0 := tyX10) (df := dfl10) Y rfl in10 tyX10_ok cl_LW_7 win_10 ini_10 dfv10 (Nat.le_of_ble_eq_true rfl) (Nat.le_of_ble_eq_true rfl) dLw_0 (fun H hP hD hS hsz => ?_)
  refine lv_dup hx hb dLw_3 rfl ?_
  refine n_callI (L := []) (M := M00) (L' := nL10 s.heap.size []) (M' := M1) (ex := []) (ci := 10) (df := dfl10) (mc := 240) (ms := 11776) (As := []) (n := 0) (sz := s.heap.size) Y hP hD hS hsz rfl (by decide) (fun _ h => absurd h List.not_mem_nil) z1 (nL10_last _ _) wci_10 (Or.inl mi_LW_9) wii_10 ini_10 rfl (by decide +kernel) (by decide) rfl hl.1 (kC10 200000 0 (M00_Z _) i1) ⟨Nat.le_of_ble_eq_true rfl, Nat.le_of_ble_eq_true rfl, Nat.le_of_ble_eq_true rfl, Nat.le_of_ble_eq_true rfl⟩ (Nat.le_of_ble_eq_true rfl) dLw_4 (fun H locs hN => ?_)
  refine lv_astore_n (lv' := [(1, .ref s.heap.size), (0, .ref b)]) hx hb dLw_7 rfl hl (by decide) rfl (fun ls hl => ?_)
  refine n_new (ci := 11) (C := RX11) (T := TX11) (N := 52) (ty0 := tyX11) (df := dfl11) Y hN rfl in11 tyX11_ok cl_LW_10 win_11 ini_11 dfv11 (Nat.le_of_ble_eq_true rfl) (Nat.le_of_ble_eq_true rfl) dLw_8 (fun H hP hD hS hsz hcs hZ => ?_)
  refine lv_dup hx hb dLw_11 rfl ?_
  refine n_callI (L' := nL11 (s.heap.size + 1 + 240) (nL10 s.heap.size [])) (M' := M2) (ex := []) (ci := 11) (df := dfl11) (mc := 29) (ms := 193213) (As := []) (n := 0) Y hP hD hS hsz hcs (by decide) (fun _ h => absurd h List.not_mem_nil) z2 (nL11_last _ _) wci_11 (Or.inl mi_LW_12) wii_11 ini_11 rfl (by decide +kernel) (by decide) rfl hl.1 (kC11 200000 0 z1 i2) ⟨Nat.le_of_ble_eq_true rfl, Nat.le_of_ble_eq_true rfl, Nat.le_of_ble_eq_true rfl, Nat.le_of_ble_eq_true rfl⟩ (Nat.le_of_ble_eq_true rfl) dLw_12 (fun H locs hN => ?_)
  refine lv_astore_n (lv' := [(2, .ref (s.heap.size + 241)), (1, .ref s.heap.size), (0, .ref b)]) hx hb dLw_15 rfl hl (by decide) rfl (fun ls hl => ?_)
  refine lv_iconst (v := 0) hx hb dLw_16 (by decide) ?_
  refine lv_istore_n (lv' := [(3, .int 0), (2, .ref (s.heap.size + 241)), (1, .ref s.heap.size), (0, .ref b)]) hx hb dLw_17 rfl hl (by decide) rfl (fun ls hl => ?_)
  obtain ⟨hx', hb'', hml, hown, hts, hK, hX, hA⟩ := id Y
  obtain ⟨hP, hD, hS, hcl, hZ⟩ := hN
  have hB : Bx p s m #[Value.ref b] c code 4 RLaw E (nL11 (s.heap.size + 241) (nL10 s.heap.size [])) := ⟨hx, hb, hml, hown, hts, hK, fun M => wsOf_D hD M, hX⟩
  exact law_loop (a := s.heap.size) (L0 := nL11 (s.heap.size + 241) (nL10 s.heap.size [])) (s0 := 0 + 19 + 11776 + 52 + 193213) hx hb hr hlocks hXs hbl hbA hEA hn Y rfl (by decide) (fun q hq => by
      have := aL10 s.heap.size [] q hq
      unfold nL11
      simp [this]) (aL11 _ _) (by
      obtain ⟨q, h1, h2⟩ := nL11_last (s.heap.size + 241) (nL10 s.heap.size [])
      exact ⟨q, h1, by omega⟩) (n + 1) 0 none M2 _ H locs 271 _ ls (by omega) (Nat.zero_le _) (Or.inl ⟨rfl, rfl, rfl, rfl⟩) hB hJ ⟨hP, hS⟩ (lv_sub hl [3, 2, 1, 0] rfl)
end RN2
