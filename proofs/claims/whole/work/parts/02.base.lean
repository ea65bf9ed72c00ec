/-! The base: one memory of all cells of class and reference, as a function; a world list out of it; contracts of one form. -/
-- words: those of the tables that every callee may take over
def ws0 : List Cond := lw_tbl.filter goodWord
def isNest : Cond → Bool
  | .methodLinkNest _ _ _ _ => true
  | .fieldLinkNest _ _ _ _ _ _ => true
  | .arrayOver (.object _) => true
  | _ => false
def nestW : List Cond := lw_tbl.filter isNest
theorem ws0_good {w : Cond} (h : w ∈ ws0) : (w.onTables && w.keeps) = true ∨ ∃ ty, w = .arrayClass ty := good_of_word (List.mem_filter.mp h).2
theorem ws0_in {y : MethodName} {b : ByteArray} {n : Nat} {r : Option FieldType} (h : Cond.code y b n r ∈ ws0) : GoodIn ws0 (Cond.code y b n r :: ws0) := fun w hw => by
  rcases List.mem_cons.mp hw with rfl | hw
  · exact ⟨h, ws0_good h⟩
  · exact ⟨hw, ws0_good hw⟩
-- the memory: ints, longs, references that change
abbrev Mm : Type := (Nat → Nat → Int32) × (Nat → Nat → Int64) × (Nat → Nat → Option Nat)
abbrev ix (i : Int32) : Nat := i.toNatClampNeg
def wI (M : Mm) (a k : Nat) (v : Int32) : Mm := (fun b => if b = a then upd (M.1 b) k v else M.1 b, M.2)
def wIs (M : Mm) (a : Nat) (f : Nat → Int32) : Mm := (fun b => if b = a then f else M.1 b, M.2)
def wJ (M : Mm) (a k : Nat) (v : Int64) : Mm := (M.1, fun b => if b = a then vp_updL (M.2.1 b) k v else M.2.1 b, M.2.2)
def wR (M : Mm) (a k : Nat) (v : Option Nat) : Mm := (M.1, M.2.1, fun b => if b = a then va_up (M.2.2 b) k v else M.2.2 b)
/-- an object's fields, by the number of its class, its address, the memory -/
def flds (ci a : Nat) (M : Mm) : List Value := match ci with
  | 0 => [.ref (a + 1), .ref (a + 2), .ref (a + 3), .int (M.1 a 3)]
  | 1 => [.int (M.1 a 0), .int (M.1 a 1), .int (M.1 a 2), .int (M.1 a 3), .ref (a + 1), .ref (a + 2), .ref (a + 4), .ref (a + 5), .ref (a + 6), .ref (a + 7), .int (M.1 a 10), .int (M.1 a 11), .int (M.1 a 12)]
  | 2 => [.ref (a + 1), .int (M.1 a 1)]
  | 3 => [.ref (a + 1), .ref (a + 11), va_rf (M.2.2 a 2)]
  | 4 => [.ref (a + 1), .int (M.1 a 1), .int (M.1 a 2), .int (M.1 a 3)]
  | 5 => [.ref (a + 1), .ref (a + 3), .ref (a + 4), .ref (a + 5), .ref (a + 6), .ref (a + 7), .int (M.1 a 6), .int (M.1 a 7), .int (M.1 a 8)]
  | 6 => [.ref (a + 1), .ref (a + 11), .ref (a + 12), .ref (a + 13), .int (M.1 a 4), va_rf (M.2.2 a 5), va_rf (M.2.2 a 6)]
  | 7 => [.ref (a + 1), .int (M.1 a 1), .int (M.1 a 2), .int (M.1 a 3), .ref (a + 2), .int (M.1 a 5), .int (M.1 a 6), .int (M.1 a 7), .int (M.1 a 8), .int (M.1 a 9), .int (M.1 a 10), .int (M.1 a 11), .int (M.1 a 12), .int (M.1 a 13)]
  | 8 => [.int (M.1 a 0), .int (M.1 a 1), .int (M.1 a 2), .int (M.1 a 3), .int (M.1 a 4), .ref (a + 1), .ref (a + 2), .ref (a + 3), .ref (a + 4), .ref (a + 5), .ref (a + 6), .ref (a + 7), .ref (a + 8)]
  | 9 => [.ref (a + 1), .ref (a + 2), .ref (a + 3), .ref (a + 4), .ref (a + 5), .int (M.1 a 5), .int (M.1 a 6), .int (M.1 a 7), .ref (a + 6), .ref (a + 8), .ref (a + 9), .int (M.1 a 11), .int (M.1 a 12)]
  | 10 => [.ref (a + 1), .ref (a + 12), .ref (a + 21), .ref (a + 176), .ref (a + 195), .ref (a + 196), .ref (a + 198), .ref (a + 206), .ref (a + 220), .ref (a + 224), .ref (a + 228), .ref (a + 229), .ref (a + 233), va_rf (M.2.2 a 13), .int (M.1 a 14), .int (M.1 a 15), .int (M.1 a 16), .int (M.1 a 17), .int (M.1 a 18)]
  | 11 => [.ref (a + 1), .ref (a + 2), .ref (a + 3), .ref (a + 4), .ref (a + 5), .int (M.1 a 5), .ref (a + 6), .int (M.1 a 7), .int (M.1 a 8), .int (M.1 a 9), .int (M.1 a 10), .int (M.1 a 11), .int (M.1 a 12), .int (M.1 a 13), .int (M.1 a 14), .int (M.1 a 15), .int (M.1 a 16), .int (M.1 a 17), .ref (a + 7), .int (M.1 a 19), .int (M.1 a 20), .ref (a + 8), .ref (a + 9), .ref (a + 10), .ref (a + 11), .int (M.1 a 25), .ref (a + 12), .ref (a + 13), .ref (a + 14), .ref (a + 15), .ref (a + 16), .ref (a + 17), .int (M.1 a 32), .int (M.1 a 33), .ref (a + 18), .ref (a + 19), .ref (a + 20), .ref (a + 21), .ref (a + 22), .int (M.1 a 39), .int (M.1 a 40), .int (M.1 a 41), .int (M.1 a 42), .ref (a + 23), .ref (a + 24), .ref (a + 25), .ref (a + 26), .ref (a + 27), .ref (a + 28), .ref (a + 29), .int (M.1 a 50), .int (M.1 a 51)]
  | _ => []
/-- a cell: (0, n) int[n], (1, n) boolean[n], (2, n) byte[n], (3, n) long[n], (4, n) Store[n] with its stores right behind it, (k + 5, _) an object of class k -/
def cellOf (g : Nat → ClassId) (sh : Nat × Nat) (a : Nat) (M : Mm) : va_E := match sh.1 with
  | 0 => .inl (g 0, sh.2, .inl (M.1 a))
  | 1 => .inl (g 1, sh.2, .inl (M.1 a))
  | 2 => .inl (g 2, sh.2, .inl (M.1 a))
  | 3 => .inl (g 3, sh.2, .inr (.inl (M.2.1 a)))
  | 4 => .inl (g 4, sh.2, .inr (.inr (.inr (.inr (fun i => some (a + 1 + 9 * i))))))
  | k + 5 => .inr (k, flds k a M)
abbrev Lay : Type := List (Nat × (Nat × Nat))
def wsOf (g : Nat → ClassId) (L : Lay) (M : Mm) : va_W := L.map fun p => (p.1, cellOf g p.2 p.1 M)
def tyG (g : Nat → ClassId) : List (ClassId × FieldType) := [(g 0, .int), (g 1, .boolean), (g 2, .byte), (g 3, .long), (g 4, .object "SpanKinds$Store")]
/-- a class's cells lie from a on -/
def At (L : Lay) (a : Nat) (T : Lay) : Prop := ∀ p ∈ T, (a + p.1, p.2) ∈ L
theorem At.sub {L T T' : Lay} {a : Nat} (h : At L a T) (off : Nat) (hs : T'.all (fun p => T.contains (off + p.1, p.2)) = true) : At L (a + off) T' := by
  intro p hp
  have h1 := List.all_eq_true.mp hs p hp
  have h2 := h (off + p.1, p.2) (List.contains_iff_mem.mp h1)
  rw [Nat.add_assoc]
  exact h2
theorem At.at {L T : Lay} {a : Nat} (h : At L a T) (i : Nat) {k : Nat} {sh : Nat × Nat} (hk : T[i]? = some (k, sh)) : (a + k, sh) ∈ L := h (k, sh) (List.mem_of_getElem? hk)
theorem At.at0 {L T : Lay} {a : Nat} (h : At L a T) {sh : Nat × Nat} (hk : T[0]? = some (0, sh)) : (a, sh) ∈ L := h (0, sh) (List.mem_of_getElem? hk)
theorem wsOf_at {g : Nat → ClassId} {L : Lay} (M : Mm) {a : Nat} {sh : Nat × Nat} (h : (a, sh) ∈ L) : ∃ q : Nat, L[q]? = some (a, sh) ∧ (wsOf g L M)[q]? = some (a, cellOf g sh a M) := by
  obtain ⟨q, hq⟩ := List.getElem?_of_mem h
  exact ⟨q, hq, by simp [wsOf, hq]⟩
theorem cellOf_ne {g : Nat → ClassId} {M M' : Mm} {b : Nat} (h1 : M'.1 b = M.1 b) (h2 : M'.2.1 b = M.2.1 b) (h3 : M'.2.2 b = M.2.2 b) (sh : Nat × Nat) : cellOf g sh b M' = cellOf g sh b M := by
  unfold cellOf
  split <;> (try simp only [h1, h2])
  rename_i k _
  unfold flds
  split <;> simp only [h1, h3]
theorem wsOf_set {g : Nat → ClassId} {L : Lay} {M M' : Mm} {A : Nat → Prop} (hD : va_D A (wsOf g L M)) {q a : Nat} {sh : Nat × Nat} (hq : L[q]? = some (a, sh)) {x : va_E} (hx : cellOf g sh a M' = x) (hn : ∀ b, b ≠ a → M'.1 b = M.1 b ∧ M'.2.1 b = M.2.1 b ∧ M'.2.2 b = M.2.2 b) : (wsOf g L M).set q (a, x) = wsOf g L M' := by
  apply List.ext_getElem?
  intro i
  by_cases hi : q = i
  · subst hi
    have hl : q < L.length := (List.getElem?_eq_some_iff.mp hq).1
    rw [List.getElem?_set_self (by simp [wsOf, hl])]
    simp [wsOf, hq, hx]
  · rw [List.getElem?_set_ne hi]
    cases hc : L[i]? with
    | none => simp [wsOf, hc]
    | some p =>
      obtain ⟨b, s2⟩ := p
      have hb : b ≠ a := fun e => hi (hD.1 q i (a, cellOf g sh a M) (b, cellOf g s2 b M) (by simp [wsOf, hq]) (by simp [wsOf, hc]) e.symm)
      obtain ⟨h1, h2, h3⟩ := hn b hb
      simp [wsOf, hc, cellOf_ne h1 h2 h3]
theorem wsOf_D {g : Nat → ClassId} {L : Lay} {M : Mm} {A : Nat → Prop} (hD : va_D A (wsOf g L M)) (M' : Mm) : va_D A (wsOf g L M') := by
  refine ⟨fun i j p q hp hq e => ?_, fun k q hq => ?_⟩
  · cases hi : L[i]? with
    | none => simp [wsOf, hi] at hp
    | some x =>
      cases hj : L[j]? with
      | none => simp [wsOf, hj] at hq
      | some y =>
        have e1 : p.1 = x.1 := by simp [wsOf, hi] at hp; rw [← hp]
        have e2 : q.1 = y.1 := by simp [wsOf, hj] at hq; rw [← hq]
        exact hD.1 i j (x.1, cellOf g x.2 x.1 M) (y.1, cellOf g y.2 y.1 M) (by simp [wsOf, hi]) (by simp [wsOf, hj]) (by show x.1 = y.1; rw [← e1, ← e2]; exact e)
  · cases hk : L[k]? with
    | none => simp [wsOf, hk] at hq
    | some x =>
      have e1 : q.1 = x.1 := by simp [wsOf, hk] at hq; rw [← hq]
      rw [e1]
      exact hD.2 k (x.1, cellOf g x.2 x.1 M) (by simp [wsOf, hk])
-- what lies outside the world: static rows, String constants, links of nest mates
def laidT : List Int32 := [-1, -1, -1, -1, -1, 0, -1, -1, -1, -1, 0, -1, -1, -1, -1, 0, -1, -1, -1, -1, 0, -1, 2, -1, -1, 0, 1, 2, 3, 4]
def seenT : List Int32 := [0, 0, 0, 0, 0, 5, 0, 1, 1, 1, 1, 5, 0, 1, 2, 0, 2, 5, 0, 1, 0, 3, 3, 5, 0, 1, 2, 3, 4, 5, 0, 1, 2, 3, 4, 5]
def strW : List (Nat × String) := [(67, "space"), (76, "registers"), (81, "default"), (173, "none"), (175, "comb"), (177, "thru"), (179, "prot"), (181, "back"), (86, "fixed"), (91, "span"), (96, "reg"), (101, "page")]
def strB : List (List Int32) := [[115, 112, 97, 99, 101], [114, 101, 103, 105, 115, 116, 101, 114, 115], [100, 101, 102, 97, 117, 108, 116], [110, 111, 110, 101], [99, 111, 109, 98], [116, 104, 114, 117], [112, 114, 111, 116], [98, 97, 99, 107], [102, 105, 120, 101, 100], [115, 112, 97, 110], [114, 101, 103], [112, 97, 103, 101]]
def strL : List Nat := [5, 9, 7, 4, 4, 4, 4, 4, 5, 4, 3, 4]
abbrev Kp : Type := Nat × Nat × (Nat → Nat) × (Nat → Nat)
def SX (κ : Kp) (A : Nat → Prop) (U : State) (H : Heap) : Prop :=
  (va_Z RX10 "LAID" "[I" (.ref κ.1) A U H ∧ va_T .int κ.1 30 (fun j => .int (laidT.getD j 0)) A U H) ∧
  (va_Z RX10 "SEEN" "[I" (.ref κ.2.1) A U H ∧ va_T .int κ.2.1 36 (fun j => .int (seenT.getD j 0)) A U H) ∧
  va_Z RJ0 "COMPACT_STRINGS" "Z" (.int 1) A U H ∧ va_Zq RJ3 "SIOOBE_FORMATTER" "Ljava/util/function/BiFunction;" A U H ∧
  vk_S 12 strL strB κ.2.2.1 κ.2.2.2 A U H ∧ (∀ i : Nat, i < 12 → vk_R RX7 (strW.getD i (0, "")).1 (strW.getD i (0, "")).2 (κ.2.2.1 i) U) ∧
  ∀ w ∈ nestW, va_Nw w U
theorem SX.kept {κ : Kp} {A : Nat → Prop} {U : State} {H H1 : Heap} (h : SX κ A U H) (hq : ∀ a : Nat, a < H.size → ¬ A a → H1[a]? = H[a]?) : SX κ A U H1 :=
  ⟨⟨h.1.1.kept hq, h.1.2.kept hq⟩, ⟨h.2.1.1.kept hq, h.2.1.2.kept hq⟩, h.2.2.1.kept hq, h.2.2.2.1.kept hq, h.2.2.2.2.1.kept hq, h.2.2.2.2.2.1, h.2.2.2.2.2.2⟩
theorem nest_warm {s U : State} (hW : s.WarmedH U.vm) {w : Cond} (hn : isNest w = true) (h : va_Nw w s) : va_Nw w U := by
  unfold isNest at hn
  split at hn
  · exact va_Nw.warmM hW h
  · exact va_Nw.warmF hW h
  · exact va_AO.moved hW.alike h
  · cases hn
theorem nest_same {s U : State} (hv : s.vm = U.vm) {w : Cond} (hn : isNest w = true) (h : va_Nw w s) : va_Nw w U := by
  unfold isNest at hn
  split at hn
  · exact va_Nw.same rfl hv h
  · exact va_Nw.same rfl hv h
  · exact va_AO.moved (by rw [hv]; exact Vm.Alike.refl _) h
  · cases hn
theorem SX.warm {κ : Kp} {A : Nat → Prop} {s U : State} {H : Heap} (hW : s.WarmedH U.vm) (h : SX κ A s H) : SX κ A U H :=
  ⟨⟨va_Z.moved hW.alike h.1.1, va_T.moved hW.alike h.1.2⟩, ⟨va_Z.moved hW.alike h.2.1.1, va_T.moved hW.alike h.2.1.2⟩, va_Z.moved hW.alike h.2.2.1, va_Zq.moved hW.alike h.2.2.2.1, vk_S.moved hW.alike h.2.2.2.2.1, fun i hi => (h.2.2.2.2.2.1 i hi).warm hW, fun w hw => nest_warm hW (List.mem_filter.mp hw).2 (h.2.2.2.2.2.2 w hw)⟩
theorem SX.same {κ : Kp} {A : Nat → Prop} {s U : State} {H : Heap} (hv : U.vm = s.vm) (h : SX κ A s H) : SX κ A U H := by
  have hr : s.vm.Alike U.vm := by rw [hv]; exact Vm.Alike.refl _
  exact ⟨⟨va_Z.moved hr h.1.1, va_T.moved hr h.1.2⟩, ⟨va_Z.moved hr h.2.1.1, va_T.moved hr h.2.1.2⟩, va_Z.moved hr h.2.2.1, va_Zq.moved hr h.2.2.2.1, vk_S.moved hr h.2.2.2.2.1, fun i hi => (h.2.2.2.2.2.1 i hi).same hv, fun w hw => nest_same hv.symm (List.mem_filter.mp hw).2 (h.2.2.2.2.2.2 w hw)⟩
-- contracts
def rmD (d : Nat) : Room := { frames := d, cells := 0, slots := 0, locals := 42 * d }
abbrev Ge : Type := va_G × (Nat → ClassId) × Kp × (Nat → Prop)
def PcM (E : Ge) (L : Lay) (av : List Value) (M : Mm) : Array Value → State → Prop := va_Pc av (fun U => va_P E.1 vwCl (wsOf E.2.1 L M) U.heap ∧ va_K E.1 vwCl (tyG E.2.1) U ∧ va_D E.2.2.2 (wsOf E.2.1 L M) ∧ SX E.2.2.1 E.2.2.2 U U.heap)
def QcM (E : Ge) (L : Lay) (r : Option Value) (M' : Mm) : Array Value → State → Outcome → State → Prop := fun _ st oc t => (oc = .returned r ∧ va_P E.1 vwCl (wsOf E.2.1 L M') t.heap) ∧ va_F E.2.2.2 st t
/-- from memory M, with these arguments, the method comes to its end with r, and memory M' -/
def Ct (l : Launch) (E : Ge) (L : Lay) (y : MethodName) (cc : ByteArray) (nL : Nat) (ret : Option FieldType) (d : Nat) (av : List Value) (M : Mm) (r : Option Value) (M' : Mm) : Prop :=
  Met l y (Cond.code y cc nL ret :: ws0) (rmD d) (PcM E L av M) (QcM E L r M') 0 0 E.2.2.2
theorem PcM.blind {E : Ge} {L : Lay} {av : List Value} {M : Mm} : FrameBlind (PcM E L av M) := by
  intro a U gg mk q
  obtain ⟨q0, qP, qK, qD, qX⟩ := q
  exact ⟨q0, qP, va_K.moved (u := U) (U := U.calling gg mk a) (Vm.Alike.refl U.vm) qK, qD, SX.same (s := U) (U := U.calling gg mk a) rfl qX⟩
/-- what stands in a method's body all the time -/
def Bx (p : Program) (s : State) (m : MethodId) (args : Array Value) (c : Code) (cc : ByteArray) (nL : Nat) (own : String) (E : Ge) (L : Lay) : Prop :=
  p.tables.exec = Jvm.exec ∧ c.code = cc ∧ c.maxLocals = nL ∧ s.vm.findClass own = some m.cls ∧ (∀ w ∈ ws0, w.before args s = true) ∧ va_K E.1 vwCl (tyG E.2.1) s ∧ (∀ M : Mm, va_D E.2.2.2 (wsOf E.2.1 L M)) ∧ SX E.2.2.1 E.2.2.2 s s.heap
/-- where a body is: the memory, and what was written since the start -/
def Rx (s : State) (E : Ge) (L : Lay) (M : Mm) (H : Heap) (locs : List Loc) : Prop := va_P E.1 vwCl (wsOf E.2.1 L M) H ∧ va_S E.2.2.2 s.heap H locs
theorem Ct.of {l : Launch} {E : Ge} {L : Lay} {y : MethodName} {cc : ByteArray} {nL : Nat} {ret : Option FieldType} {d : Nat} {av : List Value} {M : Mm} {r : Option Value} {M' : Mm} (hy : plainName y.cls = true)
    (body : ∀ p e s m below meth c, meth.sig.returnType = ret → meth.locks = false → Bx p s m av.toArray c cc nL y.cls E L → Rx s E L M s.heap [] →
      W p l e (rmD d) s m av.toArray below meth c s.heap [] 0 0 (MQ below (QcM E L r M') av.toArray s 0 0 E.2.2.2) (entryFrame m av.toArray nL)) : Ct l E L y cc nL ret d av M r M' := by
  refine Met.ofW (cc := cc) (maxL := nL) (ret := ret) hy rfl ?_
  intro p e s m args below meth c s₁ B hml hv
  obtain ⟨rfl, hP, hK, hD, hX⟩ := hv
  have hts := atoms_spec (ws := Cond.code y cc nL ret :: ws0) B.pre
  exact body p e s m below meth c B.returns B.notSynchronized ⟨B.exec, B.bytes, hml, findClass_of_methodNamed B.named, fun w hw => hts w (List.mem_cons_of_mem _ hw), hK, fun M => wsOf_D hD M, hX⟩ ⟨hP, va_S.rf⟩
