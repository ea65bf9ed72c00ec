/-! Making objects: constructors. World: the cells under construction, then those that are done. -/
def Zr (sz : Nat) (M : Mm) : Prop := ∀ q, sz ≤ q → M.1 q = (fun _ => 0) ∧ M.2.1 q = (fun _ => 0) ∧ M.2.2 q = (fun _ => none)
def trunc (sz : Nat) (M : Mm) : Mm := (fun q => if q < sz then M.1 q else fun _ => 0, fun q => if q < sz then M.2.1 q else fun _ => 0, fun q => if q < sz then M.2.2 q else fun _ => none)
theorem trunc_Zr (sz : Nat) (M : Mm) : Zr sz (trunc sz M) := fun q hq => by
  have h : ¬ q < sz := Nat.not_lt.mpr hq
  simp [trunc, h]
theorem Zr.mono {a b : Nat} {M : Mm} (h : Zr a M) (hab : a ≤ b) : Zr b M := fun q hq => h q (Nat.le_trans hab hq)
theorem Zr.wI {sz a k : Nat} {M : Mm} {v : Int32} (h : Zr sz M) (ha : a < sz) : Zr sz (wI M a k v) := fun q hq => by
  obtain ⟨h1, h2, h3⟩ := h q hq
  have hne : q ≠ a := by omega
  exact ⟨by show (if q = a then _ else M.1 q) = _; rw [if_neg hne]; exact h1, h2, h3⟩
theorem wsOf_trunc {g : Nat → ClassId} {L : Lay} {M : Mm} {sz : Nat} (h : ∀ p ∈ L, p.1 < sz) : wsOf g L (trunc sz M) = wsOf g L M := by
  unfold wsOf
  apply List.map_congr_left
  intro p hp
  have hl := h p hp
  rw [cellOf_ne (M := M) (M' := trunc sz M) (by simp [trunc, hl]) (by simp [trunc, hl]) (by simp [trunc, hl])]
theorem wsOf_app (g : Nat → ClassId) (L1 L2 : Lay) (M : Mm) : wsOf g (L1 ++ L2) M = wsOf g L1 M ++ wsOf g L2 M := by simp [wsOf]
theorem wsOf_lt {D : va_G} {g : Nat → ClassId} {L : Lay} {M : Mm} {H : Heap} (h : va_P D vwCl (wsOf g L M) H) : ∀ p ∈ L, p.1 < H.size := by
  intro p hp
  obtain ⟨q, -, hq⟩ := wsOf_at (g := g) M (a := p.1) (sh := p.2) hp
  exact (h q _ hq).lt
theorem va_P_l {D : va_G} {cl : List vw_C} {w1 w2 : va_W} {H : Heap} (h : va_P D cl (w1 ++ w2) H) : va_P D cl w1 H := fun k q hk => h k q (by
  rw [List.getElem?_append_left (List.getElem?_eq_some_iff.mp hk).1]; exact hk)
theorem va_P_r {D : va_G} {cl : List vw_C} {w1 w2 : va_W} {H : Heap} (h : va_P D cl (w1 ++ w2) H) : va_P D cl w2 H := fun k q hk => h (w1.length + k) q (by
  rw [List.getElem?_append_right (Nat.le_add_right _ _), Nat.add_sub_cancel_left]; exact hk)
theorem va_P_kept {D : va_G} {cl : List vw_C} {ws : va_W} {H H1 : Heap} (h : va_P D cl ws H) (hk : ∀ q, q < H.size → (∃ p ∈ ws, p.1 = q) → H1[q]? = H[q]?) : va_P D cl ws H1 := fun k q hq => (h k q hq).kept (hk q.1 (h k q hq).lt ⟨q, List.mem_of_getElem? hq, rfl⟩)
theorem va_D_nd {A : Nat → Prop} {ws : va_W} : va_D A ws ↔ (ws.map Prod.fst).Nodup ∧ ∀ p ∈ ws, A p.1 := by
  constructor
  · intro h
    refine ⟨?_, fun p hp => ?_⟩
    · rw [List.nodup_iff_pairwise_ne, List.pairwise_iff_getElem]
      intro i j hi hj hij e
      simp only [List.length_map] at hi hj
      simp only [List.getElem_map] at e
      have := h.1 i j ws[i] ws[j] (List.getElem?_eq_getElem hi) (List.getElem?_eq_getElem hj) e
      omega
    · obtain ⟨k, hk⟩ := List.getElem?_of_mem hp
      exact h.2 k p hk
  · rintro ⟨h1, h2⟩
    refine ⟨fun i j p q hp hq e => ?_, fun k q hk => h2 q (List.mem_of_getElem? hk)⟩
    rw [List.nodup_iff_pairwise_ne, List.pairwise_iff_getElem] at h1
    obtain ⟨hi, e1⟩ := List.getElem?_eq_some_iff.mp hp
    obtain ⟨hj, e2⟩ := List.getElem?_eq_some_iff.mp hq
    rcases Nat.lt_trichotomy i j with hlt | heq | hgt
    · exact absurd (show (ws.map Prod.fst)[i]'(by simpa using hi) = (ws.map Prod.fst)[j]'(by simpa using hj) by simp only [List.getElem_map, e1, e2, e]) (h1 i j _ _ hlt)
    · exact heq
    · exact absurd (show (ws.map Prod.fst)[j]'(by simpa using hj) = (ws.map Prod.fst)[i]'(by simpa using hi) by simp only [List.getElem_map, e1, e2, e]) (h1 j i _ _ hgt)
theorem SX.narrow {κ : Kp} {A A' : Nat → Prop} {U : State} {H : Heap} (h : SX κ A U H) (hA : ∀ q, A' q → A q) : SX κ A' U H :=
  ⟨⟨h.1.1.narrow hA, h.1.2.narrow hA⟩, ⟨h.2.1.1.narrow hA, h.2.1.2.narrow hA⟩, h.2.2.1.narrow hA, by
    rcases h.2.2.2.1 with z | ⟨t, z⟩
    · exact Or.inl (z.narrow hA)
    · exact Or.inr ⟨t, z.narrow hA⟩, h.2.2.2.2.1.narrow hA, h.2.2.2.2.2⟩
def rmN (d mc ms : Nat) : Room := { frames := d, cells := mc, slots := ms, locals := 42 * d }
/-- what stands in a constructor's body all the time -/
def By (p : Program) (s : State) (m : MethodId) (args : Array Value) (c : Code) (cc : ByteArray) (nL : Nat) (own : String) (E : Ge) : Prop :=
  p.tables.exec = Jvm.exec ∧ c.code = cc ∧ c.maxLocals = nL ∧ s.vm.findClass own = some m.cls ∧ (∀ w ∈ ws0, w.before args s = true) ∧ va_K E.1 vwCl (tyG E.2.1) s ∧ SX E.2.2.1 E.2.2.2 s s.heap ∧ ∀ q, s.heap.size ≤ q → E.2.2.2 q
def Nx (s : State) (E : Ge) (ex : va_W) (L : Lay) (M : Mm) (sz cells : Nat) (H : Heap) (locs : List Loc) : Prop :=
  va_P E.1 vwCl (ex ++ wsOf E.2.1 L M) H ∧ va_D E.2.2.2 (ex ++ wsOf E.2.1 L M) ∧ va_S E.2.2.2 s.heap H locs ∧ (s.heap.size + cells = sz ∧ ∃ p ∈ ex ++ wsOf E.2.1 L M, p.1 + 1 = sz) ∧ Zr sz M
theorem Nx.size {s : State} {E : Ge} {ex : va_W} {L : Lay} {M : Mm} {sz cells : Nat} {H : Heap} {locs : List Loc} (h : Nx s E ex L M sz cells H locs) (hle : H.size ≤ s.heap.size + cells) : H.size = sz := by
  obtain ⟨hP, -, -, ⟨h1, p, hp, h2⟩, -⟩ := h
  obtain ⟨k, hk⟩ := List.getElem?_of_mem hp
  have := (hP k p hk).lt
  omega
theorem w_size {p : Program} {l : Launch} {e : Env} {R : Room} {s : State} {m : MethodId} {args : Array Value} {below : List Frame} {meth : Method} {c : Code} {H : Heap} {locs : List Loc} {cells slots : Nat} {Q : State → Prop} {g : JFrame} (k : H.size ≤ s.heap.size + cells → W p l e R s m args below meth c H locs cells slots Q g) : W p l e R s m args below meth c H locs cells slots Q g :=
  fun T hT X => k (by rw [← hT]; exact X.same.2.2.1) T hT X
def PcN (E : Ge) (ci : Nat) (df : List Value) (L : Lay) (a : Nat) (av : List Value) (M : Mm) : Array Value → State → Prop := va_Pc (.ref a :: av) (fun U => U.heap.size = a + 1 ∧ va_P E.1 vwCl ([(a, .inr (ci, df))] ++ wsOf E.2.1 L M) U.heap ∧ va_K E.1 vwCl (tyG E.2.1) U ∧ va_D E.2.2.2 ([(a, .inr (ci, df))] ++ wsOf E.2.1 L M) ∧ SX E.2.2.1 E.2.2.2 U U.heap ∧ ∀ q, a ≤ q → E.2.2.2 q)
def QcN (E : Ge) (L' : Lay) (M' : Mm) (sz : Nat) : Array Value → State → Outcome → State → Prop := fun _ st oc t => (oc = .returned none ∧ va_P E.1 vwCl (wsOf E.2.1 L' M') t.heap ∧ va_D E.2.2.2 (wsOf E.2.1 L' M') ∧ t.heap.size = sz) ∧ va_F E.2.2.2 st t
/-- a constructor: the object at a, blank; mc cells more; then all is done -/
def Cn (l : Launch) (E : Ge) (ci : Nat) (df : List Value) (y : MethodName) (cc : ByteArray) (nL d mc ms a : Nat) (av : List Value) (L : Lay) (M : Mm) (L' : Lay) (M' : Mm) : Prop :=
  Met l y (Cond.code y cc nL none :: ws0) (rmN d mc ms) (PcN E ci df L a av M) (QcN E L' M' (a + 1 + mc)) mc ms E.2.2.2
theorem PcN.blind {E : Ge} {ci a : Nat} {df : List Value} {L : Lay} {av : List Value} {M : Mm} : FrameBlind (PcN E ci df L a av M) := by
  intro ar U gg mk q
  obtain ⟨q0, q1, qP, qK, qD, qX, qA⟩ := q
  exact ⟨q0, q1, qP, va_K.moved (u := U) (U := U.calling gg mk ar) (Vm.Alike.refl U.vm) qK, qD, SX.same (s := U) (U := U.calling gg mk ar) rfl qX, qA⟩
theorem Cn.of {l : Launch} {E : Ge} {ci : Nat} {df : List Value} {y : MethodName} {cc : ByteArray} {nL d mc ms a : Nat} {av : List Value} {L : Lay} {M : Mm} {L' : Lay} {M' : Mm} (hy : plainName y.cls = true) (hZ : Zr a M)
    (body : ∀ p e s m below meth c, meth.sig.returnType = none → meth.locks = false → meth.name = y.name → By p s m (Value.ref a :: av).toArray c cc nL y.cls E → s.heap.size = a + 1 → Nx s E [(a, .inr (ci, df))] L M (a + 1) 0 s.heap [] →
      W p l e (rmN d mc ms) s m (Value.ref a :: av).toArray below meth c s.heap [] 0 0 (MQ below (QcN E L' M' (a + 1 + mc)) (Value.ref a :: av).toArray s mc ms E.2.2.2) (entryFrame m (Value.ref a :: av).toArray nL)) : Cn l E ci df y cc nL d mc ms a av L M L' M' := by
  refine Met.ofW (cc := cc) (maxL := nL) (ret := none) hy rfl ?_
  intro p e s m args below meth c s₁ B hml hv
  obtain ⟨rfl, hsz, hP, hK, hD, hX, hA⟩ := hv
  have hts := atoms_spec (ws := Cond.code y cc nL none :: ws0) B.pre
  exact body p e s m below meth c B.returns B.notSynchronized (name_of_methodNamed B.named B.method).1 ⟨B.exec, B.bytes, hml, findClass_of_methodNamed B.named, fun w hw => hts w (List.mem_cons_of_mem _ hw), hK, hX, fun q hq => hA q (by omega)⟩ hsz ⟨hP, hD, va_S.rf, ⟨hsz, (a, .inr (ci, df)), List.mem_append_left _ (List.mem_singleton.mpr rfl), rfl⟩, hZ.mono (Nat.le_succ a)⟩
section NW
variable {p : Program} {l : Launch} {e : Env} {R : Room} {s : State} {m : MethodId} {args : Array Value} {below : List Frame} {meth : Method} {c : Code} {H : Heap} {locs : List Loc} {cells slots : Nat} {Q : State → Prop}
variable {cc : ByteArray} {pc nL sz : Nat} {ls : Array Slot} {rest : List Value} {own : String} {E : Ge} {ex : va_W} {L : Lay} {M : Mm} {a : Nat}
theorem n_arr {atype : ArrayType} {ty : FieldType} {k N : Nat} {n : Int32} {a0 : vp_A} (Y : By p s m args c cc nL own E) (hN : Nx s E ex L M sz cells H locs) (harr : Cond.arrayClass ty ∈ ws0) (hty : newarray.typeOf atype = ty) (hk : (tyG E.2.1)[k]? = some (E.2.1 k, ty)) (hRA : ∀ U : State, va_RA U (E.2.1 k) ty → U.vm.findClass ("[" ++ ty.toString) = some (E.2.1 k)) (hcell : ∀ M : Mm, Zr sz M → cellOf E.2.1 (k, N) sz M = .inl (E.2.1 k, a0)) (ha : ∀ cA : ClassId, vp_cell cA a0 = arrV cA N (fun _ => defaultValue ty))
    (hn : ¬ n < 0) (hNn : ix n = N) (hbytes : N * componentBytes ty ≤ 536870912) (hcells : cells + 1 ≤ R.cells) (hslots : slots + N ≤ R.slots) (hdg : decode cc pc = .ok (.newarray atype, 2))
    (kk : ∀ H1 : Heap, Nx s E ex (L ++ [(sz, (k, N))]) M (sz + 1) (cells + 1) H1 locs → W p l e R s m args below meth c H1 locs (cells + 1) (slots + N) Q (F0 m (pc + 2) ls (.ref sz :: rest))) : W p l e R s m args below meth c H locs cells slots Q (F0 m pc ls (.int n :: rest)) := by
  subst hty
  obtain ⟨hx, hb, hml, hown, hts, hK, hX, hA⟩ := Y
  refine w_size (fun hle => ?_)
  have hsz := hN.size hle
  obtain ⟨hP, hD, hS, ⟨hcs, -⟩, hZ⟩ := hN
  refine va_newaK hx hb (hts _ harr) rfl hdg rfl hn hNn hbytes hcells hslots hsz (fun H1 cA e1 z1 o1 _ hf => ?_)
  have hc : cA = E.2.1 k := by
    have h1 := hRA s (hK.2 k _ hk).2
    rw [hf] at h1
    exact Option.some.inj h1
  subst hc
  refine kk H1 ⟨?_, ?_, ⟨by rw [z1]; have := hS.1; omega, fun q h1 h2 => (o1 q (by have := hS.1; omega)).trans (hS.2.1 q h1 h2), hS.2.2⟩, ⟨by omega, (sz, cellOf E.2.1 (k, N) sz M), List.mem_append_right _ (by rw [wsOf_app]; exact List.mem_append_right _ (List.mem_singleton.mpr rfl)), rfl⟩, hZ.mono (Nat.le_succ _)⟩
  · rw [wsOf_app, ← List.append_assoc]
    refine va_P.app (va_P_kept hP (fun q hq _ => o1 q (by omega))) (fun j x hx => ?_)
    have hj : j < 1 := (List.getElem?_eq_some_iff.mp hx).1
    rw [show j = 0 by omega] at hx
    cases hx
    show va_at E.1 vwCl (sz, cellOf E.2.1 (k, N) sz M) H1
    rw [hcell M hZ]
    show H1[sz]? = some (vp_cell (E.2.1 k) a0)
    rw [ha]
    exact e1
  · rw [wsOf_app, ← List.append_assoc]
    exact hD.push hP hsz.symm (hA _ (by have := hS.1; omega))
theorem n_arrI {N : Nat} {n : Int32} (Y : By p s m args c cc nL own E) (hN : Nx s E ex L M sz cells H locs) (hn : ¬ n < 0) (hNn : ix n = N) (hbytes : N * 4 ≤ 536870912) (hcells : cells + 1 ≤ R.cells) (hslots : slots + N ≤ R.slots) (hdg : decode cc pc = .ok (.newarray .int, 2))
    (kk : ∀ H1 : Heap, Nx s E ex (L ++ [(sz, (0, N))]) M (sz + 1) (cells + 1) H1 locs → W p l e R s m args below meth c H1 locs (cells + 1) (slots + N) Q (F0 m (pc + 2) ls (.ref sz :: rest))) : W p l e R s m args below meth c H locs cells slots Q (F0 m pc ls (.int n :: rest)) :=
  n_arr (atype := .int) (ty := .int) (k := 0) (a0 := (N, .inl fun _ => 0)) Y hN (by decide +kernel) rfl rfl (fun _ h => h) (fun M hZ => by simp [cellOf, (hZ sz (Nat.le_refl _)).1]) (fun _ => rfl) hn hNn hbytes hcells hslots hdg kk
theorem n_arrZ {N : Nat} {n : Int32} (Y : By p s m args c cc nL own E) (hN : Nx s E ex L M sz cells H locs) (hn : ¬ n < 0) (hNn : ix n = N) (hbytes : N * 1 ≤ 536870912) (hcells : cells + 1 ≤ R.cells) (hslots : slots + N ≤ R.slots) (hdg : decode cc pc = .ok (.newarray .boolean, 2))
    (kk : ∀ H1 : Heap, Nx s E ex (L ++ [(sz, (1, N))]) M (sz + 1) (cells + 1) H1 locs → W p l e R s m args below meth c H1 locs (cells + 1) (slots + N) Q (F0 m (pc + 2) ls (.ref sz :: rest))) : W p l e R s m args below meth c H locs cells slots Q (F0 m pc ls (.int n :: rest)) :=
  n_arr (atype := .boolean) (ty := .boolean) (k := 1) (a0 := (N, .inl fun _ => 0)) Y hN (by decide +kernel) rfl rfl (fun _ h => h) (fun M hZ => by simp [cellOf, (hZ sz (Nat.le_refl _)).1]) (fun _ => rfl) hn hNn hbytes hcells hslots hdg kk
theorem n_arrB {N : Nat} {n : Int32} (Y : By p s m args c cc nL own E) (hN : Nx s E ex L M sz cells H locs) (hn : ¬ n < 0) (hNn : ix n = N) (hbytes : N * 1 ≤ 536870912) (hcells : cells + 1 ≤ R.cells) (hslots : slots + N ≤ R.slots) (hdg : decode cc pc = .ok (.newarray .byte, 2))
    (kk : ∀ H1 : Heap, Nx s E ex (L ++ [(sz, (2, N))]) M (sz + 1) (cells + 1) H1 locs → W p l e R s m args below meth c H1 locs (cells + 1) (slots + N) Q (F0 m (pc + 2) ls (.ref sz :: rest))) : W p l e R s m args below meth c H locs cells slots Q (F0 m pc ls (.int n :: rest)) :=
  n_arr (atype := .byte) (ty := .byte) (k := 2) (a0 := (N, .inl fun _ => 0)) Y hN (by decide +kernel) rfl rfl (fun _ h => h) (fun M hZ => by simp [cellOf, (hZ sz (Nat.le_refl _)).1]) (fun _ => rfl) hn hNn hbytes hcells hslots hdg kk
theorem n_arrJ {N : Nat} {n : Int32} (Y : By p s m args c cc nL own E) (hN : Nx s E ex L M sz cells H locs) (hn : ¬ n < 0) (hNn : ix n = N) (hbytes : N * 8 ≤ 536870912) (hcells : cells + 1 ≤ R.cells) (hslots : slots + N ≤ R.slots) (hdg : decode cc pc = .ok (.newarray .long, 2))
    (kk : ∀ H1 : Heap, Nx s E ex (L ++ [(sz, (3, N))]) M (sz + 1) (cells + 1) H1 locs → W p l e R s m args below meth c H1 locs (cells + 1) (slots + N) Q (F0 m (pc + 2) ls (.ref sz :: rest))) : W p l e R s m args below meth c H locs cells slots Q (F0 m pc ls (.int n :: rest)) :=
  n_arr (atype := .long) (ty := .long) (k := 3) (a0 := (N, .inr (.inl fun _ => 0))) Y hN (by decide +kernel) rfl rfl (fun _ h => h) (fun M hZ => by simp [cellOf, (hZ sz (Nat.le_refl _)).2.1]) (fun _ => rfl) hn hNn hbytes hcells hslots hdg kk
theorem n_new {ci N index : Nat} {C : String} {T : u_T} {ty0 : Nat → FieldType} {df : List Value} (Y : By p s m args c cc nL own E) (hN : Nx s E ex L M sz cells H locs) (hc : vwCl[ci]? = some (C, T, N)) (hin : ∀ w ∈ u_ws C T N, w ∈ ws0) (hty : ∀ k, k < N → parseFieldDescriptor (T k).2.2.1 = some (ty0 k)) (hcl : Cond.classLink own index C ∈ ws0) (hinst : Cond.instantiable C N ∈ ws0) (hini : Cond.initialized C ∈ ws0) (hfs : ∀ j, j < N → defaultValue (ty0 j) = vp_V df j) (hcells : cells + 1 ≤ R.cells) (hslots : slots + N ≤ R.slots) (hdg : decode cc pc = .ok (.new index, 3))
    (kk : ∀ H1 : Heap, va_P E.1 vwCl (ex ++ wsOf E.2.1 L M ++ [(sz, .inr (ci, df))]) H1 → va_D E.2.2.2 (ex ++ wsOf E.2.1 L M ++ [(sz, .inr (ci, df))]) → va_S E.2.2.2 s.heap H1 locs → H1.size = sz + 1 → s.heap.size + (cells + 1) = sz + 1 → Zr sz M → W p l e R s m args below meth c H1 locs (cells + 1) (slots + N) Q (F0 m (pc + 3) ls (.ref sz :: rest))) : W p l e R s m args below meth c H locs cells slots Q (F0 m pc ls rest) := by
  obtain ⟨hx, hb, hml, hown, hts, hK, hX, hA⟩ := Y
  refine w_size (fun hle => ?_)
  have hsz := hN.size hle
  obtain ⟨hP, hD, hS, ⟨hcs, -⟩, hZ⟩ := hN
  have hKn := hK.1 ci _ hc
  refine W.newcK hx hb hown (hts _ hcl) (hts _ hinst) (hts _ hini) rfl hdg hcells hslots hKn.2.1 hsz fun H1 kC hkC e1 z1 o1 => ?_
  refine kk H1 ((va_P_kept hP (fun q hq _ => o1 q (by omega))).app (fun k x hx => ?_)) (hD.push hP hsz.symm (hA _ (by have := hS.1; omega))) ⟨by rw [z1]; have := hS.1; omega, fun q h1 h2 => (o1 q (by have := hS.1; omega)).trans (hS.2.1 q h1 h2), hS.2.2⟩ z1 (by omega) hZ
  have hz : k < 1 := (List.getElem?_eq_some_iff.mp hx).1
  rw [show k = 0 by omega] at hx
  cases hx
  exact ⟨_, hc, (u_born ty0 hts hin hKn hkC e1 hty).to hfs⟩
theorem Nx.ex1 {s : State} {E : Ge} {er : va_W} {x x' : Nat × va_E} {L : Lay} {M : Mm} {sz cells : Nat} {H H1 : Heap} {locs locs1 : List Loc} (h : Nx s E (x :: er) L M sz cells H locs) (hx : x'.1 = x.1) (h1 : va_P E.1 vwCl ((x :: er ++ wsOf E.2.1 L M).set 0 x') H1) (h2 : va_D E.2.2.2 ((x :: er ++ wsOf E.2.1 L M).set 0 x')) (h3 : va_S E.2.2.2 s.heap H1 locs1) : Nx s E (x' :: er) L M sz cells H1 locs1 := by
  obtain ⟨-, -, -, ⟨hc, p, hp, hl⟩, hZ⟩ := h
  refine ⟨h1, h2, h3, ⟨hc, ?_⟩, hZ⟩
  rcases List.mem_cons.mp (show p ∈ x :: (er ++ wsOf E.2.1 L M) from hp) with rfl | hp
  · exact ⟨x', List.mem_cons_self, by rw [hx]; exact hl⟩
  · exact ⟨p, List.mem_cons_of_mem _ hp, hl⟩
theorem n_putF {ci k N index : Nat} {C : String} {T : u_T} {ty0 : Nat → FieldType} {fs fs' : List Value} {q : Nat} {er : va_W} (Y : By p s m args c cc nL own E) (hN : Nx s E ((a, .inr (ci, fs)) :: er) L M sz cells H locs) (hc : vwCl[ci]? = some (C, T, N)) (hin : ∀ w ∈ u_ws C T N, w ∈ ws0) (hty : ∀ k, k < N → parseFieldDescriptor (T k).2.2.1 = some (ty0 k)) (hnm : ∀ a, a < N → ∀ b, b < N → a ≠ b → (T a).2.1 ≠ (T b).2.1) (hk : k < N) (hlink : Cond.fieldLink own index (T k).1 (T k).2.1 (T k).2.2.1 ∈ ws0) (hfin : (T k).2.2.2 = true) (hini : meth.name = "<init>") (hdecl : (T k).1 = own) (hn : narrow (ty0 k) (.ref q) = .ref q) (hfit : fits (ty0 k) (.ref q) = true) (hlen : k < fs.length) (hfs : fs.set k (.ref q) = fs') (hdg : decode cc pc = .ok (.putfield index, 3))
    (kk : ∀ (H1 : Heap) (locs1 : List Loc), Nx s E ((a, .inr (ci, fs')) :: er) L M sz cells H1 locs1 → W p l e R s m args below meth c H1 locs1 cells slots Q (F0 m (pc + 3) ls rest)) : W p l e R s m args below meth c H locs cells slots Q (F0 m pc ls (.ref q :: .ref a :: rest)) := by
  subst hfs
  obtain ⟨hx, hb, hml, hown, hts, hK, hX, hA⟩ := Y
  refine va_putF hx hb hts hin ty0 hty hnm hown hK hN.1 hN.2.1 hN.2.2.1 0 rfl hc k hk (hts _ hlink) (fun _ h => h) hfin hini hdecl (hty k hk) hn hfit hlen hdg (fun H1 locs1 h1 h2 h3 => kk H1 locs1 (hN.ex1 rfl h1 h2 h3))
theorem n_putI {ci k N index : Nat} {C : String} {T : u_T} {ty0 : Nat → FieldType} {fs fs' : List Value} {x : Int32} {er : va_W} (Y : By p s m args c cc nL own E) (hN : Nx s E ((a, .inr (ci, fs)) :: er) L M sz cells H locs) (hc : vwCl[ci]? = some (C, T, N)) (hin : ∀ w ∈ u_ws C T N, w ∈ ws0) (hty : ∀ k, k < N → parseFieldDescriptor (T k).2.2.1 = some (ty0 k)) (hnm : ∀ a, a < N → ∀ b, b < N → a ≠ b → (T a).2.1 ≠ (T b).2.1) (hk : k < N) (hlink : Cond.fieldLink own index (T k).1 (T k).2.1 (T k).2.2.1 ∈ ws0) (hfin : (T k).2.2.2 = false) (hn : narrow (ty0 k) (.int x) = .int x) (hfit : fits (ty0 k) (.int x) = true) (hlen : k < fs.length) (hfs : fs.set k (.int x) = fs') (hdg : decode cc pc = .ok (.putfield index, 3))
    (kk : ∀ (H1 : Heap) (locs1 : List Loc), Nx s E ((a, .inr (ci, fs')) :: er) L M sz cells H1 locs1 → W p l e R s m args below meth c H1 locs1 cells slots Q (F0 m (pc + 3) ls rest)) : W p l e R s m args below meth c H locs cells slots Q (F0 m pc ls (.int x :: .ref a :: rest)) := by
  subst hfs
  obtain ⟨hx, hb, hml, hown, hts, hK, hX, hA⟩ := Y
  refine va_put hx hb hts hin ty0 hty hnm hown hK hN.1 hN.2.1 hN.2.2.1 0 rfl hc k hk (hts _ hlink) (fun _ h => h) hfin (hty k hk) hn hfit hlen hdg (fun H1 locs1 h1 h2 h3 => kk H1 locs1 (hN.ex1 rfl h1 h2 h3))
/-- a field of the object under construction is read -/
theorem n_get {ci k N index : Nat} {C : String} {T : u_T} {fs : List Value} {v : Value} {er : va_W} (Y : By p s m args c cc nL own E) (hN : Nx s E ((a, .inr (ci, fs)) :: er) L M sz cells H locs) (hc : vwCl[ci]? = some (C, T, N)) (hin : ∀ w ∈ u_ws C T N, w ∈ ws0) (hk : k < N) (hlink : Cond.fieldLink own index (T k).1 (T k).2.1 (T k).2.2.1 ∈ ws0) (hv : fs[k]? = some v) (hdg : decode cc pc = .ok (.getfield index, 3))
    (kk : W p l e R s m args below meth c H locs cells slots Q (F0 m (pc + 3) ls (v :: rest))) : W p l e R s m args below meth c H locs cells slots Q (F0 m pc ls (.ref a :: rest)) := by
  obtain ⟨hx, hb, hml, hown, hts, hK, hX, hA⟩ := Y
  exact va_get hx hb hts hin hown hK hN.1 0 rfl hc k hk (hts _ hlink) (fun _ h => h) hv hdg kk
/-- super() -/
theorem n_obj {idx : Nat} {q : Nat} (Y : By p s m args c cc nL own E) (hlink : Cond.methodLink own idx objectInit ∈ ws0) (hl : ls.size = nL) (hd : decode cc pc = .ok (.invokespecial idx, 3)) (hf : 1 ≤ R.frames) (hlo : (rest.map fun v => v.category).sum + 12 ≤ R.locals)
    (kk : W p l e R s m args below meth c H locs cells slots Q (F0 m (pc + 3) ls rest)) : W p l e R s m args below meth c H locs cells slots Q (F0 m pc ls (.ref q :: rest)) := by
  obtain ⟨hx, hb, hml, hown, hts, hK, hX, hA⟩ := Y
  exact W.objInit hx hb hown (hts _ hlink) (hts _ (by decide +kernel)) (hts _ (show Cond.code Lib.objectInit ⟨#[0xb1]⟩ 1 none ∈ ws0 by decide +kernel)) rfl (by rw [hml]; exact hl) rfl hd hf (by show 2 * 0 + _ + 12 ≤ _; omega) kk
end NW
/-- a world but for some cells -/
def but (E : Ge) (ex : va_W) : Ge := (E.1, E.2.1, E.2.2.1, fun q => E.2.2.2 q ∧ ∀ p ∈ ex, p.1 ≠ q)
section NC
variable {p : Program} {l : Launch} {e : Env} {R : Room} {s : State} {m : MethodId} {args : Array Value} {below : List Frame} {meth : Method} {c : Code} {H : Heap} {locs : List Loc} {cells slots : Nat} {Q : State → Prop}
variable {cc : ByteArray} {pc nL sz d mc ms n index : Nat} {ls : Array Slot} {rest : List Value} {own : String} {E : Ge} {ex : va_W} {L L' : Lay} {M M' : Mm} {a ci : Nat} {df : List Value} {y : MethodName} {cb : ByteArray} {nb : Nat} {As : List Value} {ret : Option FieldType} {r : Option Value}
theorem n_on (hP : va_P E.1 vwCl ex H) (hD : va_D E.2.2.2 ex) (hS : va_S E.2.2.2 s.heap H locs) (hcs : s.heap.size + cells = sz + 1) (hZ' : Zr (sz + 1 + mc) M') (hlast : ∃ p ∈ L', p.1 = sz + mc) {st0 : List Value} {av : Array Value} (hr : va_Run p l e R s m args below meth c H locs cells slots mc ms (F0 m pc ls st0) rest (QcN (but E ex) L' M' (sz + 1 + mc) av) (but E ex).2.2.2)
    (kk : ∀ (H1 : Heap) (locs1 : List Loc), Nx s E ex L' M' (sz + 1 + mc) (cells + mc) H1 locs1 → W p l e R s m args below meth c H1 locs1 (cells + mc) (slots + ms) Q (F0 m (pc + 3) ls rest)) : W p l e R s m args below meth c H locs cells slots Q (F0 m pc ls st0) := by
  intro T hT X
  obtain ⟨v, st₀, t, T', L1, h0, X', hL, e1, e2, ⟨⟨hv, hP1, hD1, hz1⟩, hz, hk⟩, st⟩ := hr T hT X
  cases hv
  rw [h0] at hz hk
  obtain ⟨q0, hq0, e0⟩ := hlast
  have hPn : va_P E.1 vwCl (ex ++ wsOf E.2.1 L' M') T'.heap := by
    rw [e1]
    exact va_P.app (va_P_kept hP (fun q hq hm => hk q hq (fun z => by obtain ⟨p, hp, hpq⟩ := hm; exact z.2 p hp hpq))) hP1
  have hDn : va_D E.2.2.2 (ex ++ wsOf E.2.1 L' M') := va_D.app hD (hD1.weaken (fun _ _ _ h => h.1)) (fun i j x z hx hz2 => (hD1.2 j z hz2).2 x (List.mem_of_getElem? hx))
  obtain ⟨t2, a1, b1⟩ := kk T'.heap (locs ++ L1) ⟨hPn, hDn, ⟨Nat.le_trans hS.1 (by rw [e1]; exact hz), fun q h1 h2 => by rw [e1, hk q (Nat.lt_of_lt_of_le h1 hS.1) (fun z => h2 z.1)]; exact hS.2.1 q h1 h2, fun q hq => by
      rcases List.mem_append.mp hq with h | h
      · exact hS.2.2 q h
      · exact (hL q h).1⟩, ⟨by omega, (q0.1, cellOf E.2.1 q0.2 q0.1 M'), List.mem_append_right _ (List.mem_map.mpr ⟨q0, hq0, rfl⟩), by show q0.1 + 1 = _; omega⟩, hZ'⟩ T' rfl X'
  exact ⟨t2, st t2 a1, b1⟩
theorem n_callI (Y : By p s m args c cc nL own E) (hP : va_P E.1 vwCl (ex ++ wsOf E.2.1 L M ++ [(sz, .inr (ci, df))]) H) (hD : va_D E.2.2.2 (ex ++ wsOf E.2.1 L M ++ [(sz, .inr (ci, df))])) (hS : va_S E.2.2.2 s.heap H locs) (hsz : H.size = sz + 1) (hcs : s.heap.size + cells = sz + 1) (hc1 : 1 ≤ cells) (hex : ∀ p ∈ ex, p.1 < sz) (hZ' : Zr (sz + 1 + mc) M') (hlast : ∃ p ∈ L', p.1 = sz + mc)
    (hcode : Cond.code y cb nb none ∈ ws0) (hlink : Cond.methodLink own index y ∈ ws0 ∨ Cond.methodLinkNest own index y "SpanKinds" ∈ nestW) (hinst : Cond.instanceMethod y ∈ ws0) (hini : Cond.initialized y.cls ∈ ws0) (hy1 : y.name = "<init>") (hd : y.cls ≠ "java/lang/invoke/MethodHandle" ∧ y.cls ≠ "java/lang/invoke/VarHandle" ∧ (parseMethodDescriptor y.desc).map (fun d => d.parameters.length) = some n) (hnb : nb ≤ 23)
    (hn : As.length = n) (hl : ls.size = nL) (hC : Cn l (but E ex) ci df y cb nb d mc ms sz As L M L' M') (hf : d + 1 ≤ R.frames ∧ 42 * d + 42 ≤ R.locals ∧ cells + mc ≤ R.cells ∧ slots + ms ≤ R.slots) (hst : (rest.map fun v => v.category).sum ≤ 8) (hdg : decode cc pc = .ok (.invokespecial index, 3))
    (kk : ∀ (H1 : Heap) (locs1 : List Loc), Nx s E ex L' M' (sz + 1 + mc) (cells + mc) H1 locs1 → W p l e R s m args below meth c H1 locs1 (cells + mc) (slots + ms) Q (F0 m (pc + 3) ls rest)) : W p l e R s m args below meth c H locs cells slots Q (F0 m pc ls (As.reverse ++ .ref sz :: rest)) := by
  obtain ⟨hx, hb, hml, hown, hts, hK, hX, hA⟩ := Y
  have hpre : PreS s H (PcN (but E ex) ci df L sz As M) (.ref sz :: As) := by
    refine ⟨PcN.blind, fun U hU hW => ⟨rfl, by rw [hU]; exact hsz, ?_, va_K.moved hW.alike hK, ?_, ?_, fun q hq => ⟨hA q (by have := hS.1; omega), fun z hz => by have := hex z hz; omega⟩⟩⟩
    · rw [hU]
      exact va_P.app (va_P_r hP) (va_P_r (va_P_l hP))
    · have hnd := (va_D_nd.mp hD)
      refine va_D_nd.mpr ⟨?_, fun z hz => ?_⟩
      · have h1 : ((wsOf E.2.1 L M ++ [(sz, (.inr (ci, df) : va_E))]).map Prod.fst).Nodup := by
          have h2 := hnd.1
          rw [List.append_assoc, List.map_append] at h2
          exact (List.nodup_append.mp h2).2.1
        have hpm : (([(sz, (.inr (ci, df) : va_E))] ++ wsOf E.2.1 L M).map Prod.fst).Perm ((wsOf E.2.1 L M ++ [(sz, (.inr (ci, df) : va_E))]).map Prod.fst) := List.Perm.map _ List.perm_append_comm
        exact hpm.nodup_iff.mpr h1
      · have hz2 : z ∈ wsOf E.2.1 L M ++ [(sz, (.inr (ci, df) : va_E))] := by
          rcases List.mem_append.mp hz with h | h
          · exact List.mem_append_right _ h
          · exact List.mem_append_left _ h
        refine ⟨hnd.2 z (by rw [List.append_assoc]; exact List.mem_append_right _ hz2), fun w hw e => ?_⟩
        have h2 := hnd.1
        rw [List.append_assoc, List.map_append] at h2
        exact (List.nodup_append.mp h2).2.2 w.1 (List.mem_map.mpr ⟨w, hw, rfl⟩) z.1 (List.mem_map.mpr ⟨z, hz2, rfl⟩) e
    · rw [hU]
      exact ((hX.kept hS.2.1).warm hW).narrow (fun q hq => hq.1)
  have hDe : va_D E.2.2.2 ex := by
    have hnd := (va_D_nd.mp hD)
    have h2 := hnd.1
    rw [List.append_assoc, List.map_append] at h2
    exact va_D_nd.mpr ⟨(List.nodup_append.mp h2).1, fun z hz => hnd.2 z (by rw [List.append_assoc]; exact List.mem_append_left _ hz)⟩
  have hPe : va_P E.1 vwCl ex H := va_P_l (va_P_l hP)
  rcases hlink with hlk | hlk
  · exact n_on hPe hDe hS hcs hZ' hlast (va_runI (As := As) (rest := rest) ⟨hx, hb, hml, hown, hts⟩ hC ⟨callB_of n hts (ws0_in hcode) rfl rfl rfl (hts _ hini) (hts _ hlk) hd ⟨hf.1, by show 8 + (nb + 11) + 42 * d ≤ _; omega⟩, hy1, hts _ hinst⟩ hpre rfl hn hl rfl (lv_room hst) hdg hf.2.2) kk
  · exact n_on hPe hDe hS hcs hZ' hlast (va_runIN (As := As) (rest := rest) ⟨hx, hb, hml, hown, hts⟩ hC ⟨va_cnB n hts (ws0_in hcode) rfl rfl rfl (hX.2.2.2.2.2.2 _ hlk) (hts _ hini) hd ⟨hf.1, by show 8 + (nb + 11) + 42 * d ≤ _; omega⟩, hy1, hts _ hinst⟩ hpre rfl hn hl rfl (lv_room hst) hdg hf.2.2) kk
/-- a method of what is done already, while other cells are under construction -/
theorem n_call (Y : By p s m args c cc nL own E) (hN : Nx s E ex L M sz cells H locs) {ck N : Nat} {C : String} {T : u_T} (hc : vwCl[ck]? = some (C, T, N)) (hcode : Cond.code y cb nb ret ∈ ws0) (hlink : Cond.methodLink own index y ∈ ws0) (hinst : Cond.instanceMethod y ∈ ws0) (hsel : Cond.selects C y y ∈ ws0) (hini : Cond.initialized C ∈ ws0) (hd : y.cls = C ∧ y.cls ≠ "java/lang/invoke/MethodHandle" ∧ y.cls ≠ "java/lang/invoke/VarHandle" ∧ (parseMethodDescriptor y.desc).map (fun d => d.parameters.length) = some n) (hnb : nb ≤ 23)
    (hm : (a, (ck + 5, 0)) ∈ L) (hn : As.length = n) (hl : ls.size = nL) (hC : Ct l (but E ex) L y cb nb ret d (.ref a :: As) M r M') (hf : d + 1 ≤ R.frames ∧ 42 * d + 42 ≤ R.locals ∧ cells ≤ R.cells ∧ slots ≤ R.slots) (hst : (rest.map fun v => v.category).sum ≤ 8) (hdg : decode cc pc = .ok (.invokevirtual index, 3))
    (kk : ∀ (H1 : Heap) (locs1 : List Loc), Nx s E ex L (trunc sz M') sz cells H1 locs1 → W p l e R s m args below meth c H1 locs1 cells slots Q (F0 m (pc + 3) ls (r.toList ++ rest))) : W p l e R s m args below meth c H locs cells slots Q (F0 m pc ls (As.reverse ++ .ref a :: rest)) := by
  refine w_size (fun hle => ?_)
  have hsz := hN.size hle
  obtain ⟨hx, hb, hml, hown, hts, hK, hX, hA⟩ := Y
  obtain ⟨hP, hD, hS, ⟨hcs, hlast⟩, hZ⟩ := hN
  have hnd := va_D_nd.mp hD
  have hnd1 := hnd.1
  rw [List.map_append] at hnd1
  have hDe : va_D E.2.2.2 ex := va_D_nd.mpr ⟨(List.nodup_append.mp hnd1).1, fun z hz => hnd.2 z (List.mem_append_left _ hz)⟩
  have hDw : va_D (but E ex).2.2.2 (wsOf E.2.1 L M) := va_D_nd.mpr ⟨(List.nodup_append.mp hnd1).2.1, fun z hz => ⟨hnd.2 z (List.mem_append_right _ hz), fun w hw e => (List.nodup_append.mp hnd1).2.2 w.1 (List.mem_map.mpr ⟨w, hw, rfl⟩) z.1 (List.mem_map.mpr ⟨z, hz, rfl⟩) e⟩⟩
  obtain ⟨q, -, hq⟩ := wsOf_at (g := E.2.1) M hm
  have hG : GoodIn ws0 (wsV own index C y (Cond.code y cb nb ret :: ws0)) := fun w hw => by
    unfold wsV at hw
    rcases List.mem_append.mp hw with h | h
    · have h2 : w ∈ ws0 := by
        simp only [List.mem_cons, List.not_mem_nil, or_false] at h
        rcases h with rfl | rfl | rfl | rfl
        · exact hlink
        · exact hinst
        · exact hsel
        · exact hini
      exact ⟨h2, ws0_good h2⟩
    · exact ws0_in hcode w h
  have hr := va_runV (H := H) (locs := locs) (cells := cells) (slots := slots) (e := e) (below := below) (meth := meth) (g := F0 m pc ls (As.reverse ++ .ref a :: rest)) (As := As) (rest := rest) ⟨hx, hb, hml, hown, hts⟩ hC (cwV n hts hG rfl rfl rfl hd (rm_ok hf.1 hf.2.1 hnb)) ⟨PcM.blind, va_recv hK (va_P_r hP) hc hq, fun U hU hW => ⟨rfl, by rw [hU]; exact va_P_r hP, va_K.moved hW.alike hK, hDw, by rw [hU]; exact ((hX.kept hS.2.1).warm hW).narrow (fun q hq => hq.1)⟩⟩ rfl hn hl rfl (lv_room hst) hdg ⟨hf.2.2.1, hf.2.2.2⟩
  intro T0 hT0 X
  obtain ⟨v, st₀, t, T', L1, h0, X', hL, e1, e2, ⟨⟨hv, hP1⟩, hz, hk⟩, st⟩ := hr T0 hT0 X
  cases hv
  rw [h0] at hz hk
  have hlt : ∀ z ∈ L, z.1 < sz := fun z hz => by rw [← hsz]; exact wsOf_lt (va_P_r hP) z hz
  have hPn : va_P E.1 vwCl (ex ++ wsOf E.2.1 L (trunc sz M')) T'.heap := by
    rw [e1, wsOf_trunc hlt]
    exact va_P.app (va_P_kept (va_P_l hP) (fun q hq hm => hk q hq (fun z => by obtain ⟨p, hp, hpq⟩ := hm; exact z.2 p hp hpq))) hP1
  have hDn : va_D E.2.2.2 (ex ++ wsOf E.2.1 L (trunc sz M')) := va_D.app hDe ((wsOf_D hDw _).weaken (fun _ _ _ h => h.1)) (fun i j x z hx hz2 => ((wsOf_D hDw (trunc sz M')).2 j z hz2).2 x (List.mem_of_getElem? hx))
  obtain ⟨pl, hpl, epl⟩ := hlast
  have hlast' : ∃ p ∈ ex ++ wsOf E.2.1 L (trunc sz M'), p.1 + 1 = sz := by
    rcases List.mem_append.mp hpl with h | h
    · exact ⟨pl, List.mem_append_left _ h, epl⟩
    · obtain ⟨q2, hq2, e3⟩ := List.mem_map.mp h
      exact ⟨(q2.1, cellOf E.2.1 q2.2 q2.1 (trunc sz M')), List.mem_append_right _ (List.mem_map.mpr ⟨q2, hq2, rfl⟩), by rw [← e3] at epl; exact epl⟩
  obtain ⟨t2, a1, b1⟩ := kk T'.heap (locs ++ L1) ⟨hPn, hDn, ⟨Nat.le_trans hS.1 (by rw [e1]; exact hz), fun q h1 h2 => by rw [e1, hk q (Nat.lt_of_lt_of_le h1 hS.1) (fun z => h2 z.1)]; exact hS.2.1 q h1 h2, fun q hq => by
      rcases List.mem_append.mp hq with h | h
      · exact hS.2.2 q h
      · exact (hL q h).1⟩, ⟨hcs, hlast'⟩, trunc_Zr sz M'⟩ T' rfl X'
  exact ⟨t2, st t2 a1, b1⟩
/-- what was under construction is done -/
theorem Nx.done {er : va_W} {x : Nat × va_E} {k : Nat} {M1 : Mm} (h : Nx s E (x :: er) L M sz cells H locs) (hx : x = (a, cellOf E.2.1 (k, n) a M1)) (hM : ∀ b, b ≠ a → M1.1 b = M.1 b ∧ M1.2.1 b = M.2.1 b ∧ M1.2.2 b = M.2.2 b) (ha : a < sz) : Nx s E er ((a, (k, n)) :: L) M1 sz cells H locs := by
  subst hx
  obtain ⟨hP, hD, hS, ⟨hcs, hlast⟩, hZ⟩ := h
  have hnd := va_D_nd.mp hD
  have hna : ∀ z ∈ L, z.1 ≠ a := by
    intro z hz e
    have h1 := hnd.1
    rw [show (((a, cellOf E.2.1 (k, n) a M1) :: er ++ wsOf E.2.1 L M).map Prod.fst) = a :: ((er ++ wsOf E.2.1 L M).map Prod.fst) from rfl, List.nodup_cons] at h1
    exact h1.1 (List.mem_map.mpr ⟨(z.1, cellOf E.2.1 z.2 z.1 M), List.mem_append_right _ (List.mem_map.mpr ⟨z, hz, rfl⟩), e⟩)
  have hw : wsOf E.2.1 L M1 = wsOf E.2.1 L M := by
    unfold wsOf
    apply List.map_congr_left
    intro z hz
    obtain ⟨h1, h2, h3⟩ := hM z.1 (hna z hz)
    rw [cellOf_ne h1 h2 h3]
  have hpm : (er ++ wsOf E.2.1 ((a, (k, n)) :: L) M1).Perm ((a, cellOf E.2.1 (k, n) a M1) :: er ++ wsOf E.2.1 L M) := by
    show (er ++ ((a, cellOf E.2.1 (k, n) a M1) :: wsOf E.2.1 L M1)).Perm _
    rw [hw]
    exact List.perm_middle
  refine ⟨fun j q hq => ?_, va_D_nd.mpr ⟨(hpm.map Prod.fst).nodup_iff.mpr hnd.1, fun z hz => hnd.2 z (hpm.mem_iff.mp hz)⟩, hS, ⟨hcs, ?_⟩, fun q hq => ?_⟩
  · obtain ⟨i, hi⟩ := List.getElem?_of_mem (hpm.mem_iff.mp (List.mem_of_getElem? hq))
    exact hP i q hi
  · obtain ⟨z, hz, e⟩ := hlast
    exact ⟨z, hpm.mem_iff.mpr hz, e⟩
  · obtain ⟨h1, h2, h3⟩ := hM q (by omega)
    obtain ⟨g1, g2, g3⟩ := hZ q hq
    exact ⟨h1.trans g1, h2.trans g2, h3.trans g3⟩
theorem n_ret (Y : By p s m args c cc nL own E) (hN : Nx s E [] L M sz mc H locs) (hs0 : s.heap.size = a + 1) (hsl : slots ≤ ms) (hr : meth.sig.returnType = none) (hlocks : meth.locks = false) (hdg : decode cc pc = .ok (.return_, 1)) : W p l e R s m args below meth c H locs mc slots (MQ below (QcN E L M (a + 1 + mc)) args s mc ms E.2.2.2) (F0 m pc ls []) := by
  refine w_size (fun hle => ?_)
  have hsz := hN.size hle
  obtain ⟨hP, hD, hS, ⟨hcs, hlast⟩, hZ⟩ := hN
  refine W.widen (k := mc) (n := ms) (Nat.le_refl _) hsl ?_
  exact W.vret Y.1 Y.2.1 hr (fun t ht _ => ⟨⟨rfl, by rw [ht]; exact hP, hD, by rw [ht, hsz]; omega⟩, hS.F ht⟩) hS.2.2 hdg
end NC
