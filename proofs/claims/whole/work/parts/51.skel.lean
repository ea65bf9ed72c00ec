/-! THE CLAIM OUT OF ONE WALK OF THE LAW'S BODY. Your part is whole_start (and what it stands on); all else here is the same for every law, but numbers. -/
def R_law : String := "SpanKindsLaw"
def lw_P (b : Addr) (xs : List Int32) (args : Array Value) (s : State) : Prop := args = #[.ref b] ∧ s.IntsAt b xs ∧ xs.length ≤ 3072 ∧ (Jvm.Cond.and given_1 narrow_1).before args s = true
def lw_Q (_ : Array Value) (s : State) (o : Outcome) (t : State) : Prop := o = .returned (some (.int 1)) ∧ Framed s o t [] 600000 7302250
def lw_Z (below : List Frame) (a : Array Value) (s : State) : State → Prop := fun t => ∃ o, t.status = .running ∧ Ended t below o ∧ lw_Q a s o t
/-- the law's own end, with 1 on the stack, nothing written that was there before, its room as the claim has it -/
theorem lw_ret {p : Program} {l : Launch} {e : Env} {s : State} {m : MethodId} {below : List Frame} {meth : Method} {c : Code} {b : Nat} (hx : p.tables.exec = Jvm.exec) (hb : c.code = code) (hr : meth.sig.returnType = ret) (hlocks : meth.locks = false) {pc : Nat} {H : Heap} {ls : Array Slot} (hdg : decode code pc = .ok (.ireturn, 1)) : W p l e room_1 s m #[Value.ref b] below meth c H [] 600000 7302250 (lw_Z below #[Value.ref b] s) (F0 m pc ls [.int 1]) := by
  intro T hT X
  obtain ⟨fs, hret, hrun, hended, hW, hframe⟩ := X.leave (v := some (.int 1)) (hlocks := hlocks) (fun h => by rw [hr] at h; cases h)
  have hmeth' : T.vm.method? m = some meth := X.method'
  refine ⟨T.setFrames fs, ?_, .returned (some (.int 1)), hrun, hended, rfl, ⟨_, rfl⟩, hW, hframe⟩
  jvm_step X.here [X.here.top, hx, hb, hdg, hmeth', hr, ret, narrow_b1]
  (try refine ⟨rfl, ?_⟩); (try refine ⟨rfl, ?_⟩)
  first | (intro acts; rw [hret _ acts rfl rfl rfl]) | rw [hret _ _ rfl rfl rfl]
  exact Steps.refl _
/-- what holds at the law's entry: the machine, the code, the tables' words (any of lw_tbl by 'hts w (by decide +kernel)'), the script of L ints xs at the cell b, what the Statement gives of the start (any of its parts by flat_of_before) -/
def lw_At (p : Program) (s : State) (m : MethodId) (meth : Method) (c : Code) (b L : Nat) (xs : Nat → Int32) : Prop :=
  p.tables.exec = Jvm.exec ∧ c.code = code ∧ meth.sig.returnType = ret ∧ c.maxLocals = 4 ∧ s.vm.findClass R_law = some m.cls ∧ (∀ w ∈ lw_tbl, w.before #[Value.ref b] s = true) ∧ va_X b L xs s s.heap ∧ b < s.heap.size ∧ meth.locks = false ∧ (Jvm.Cond.and given_1 narrow_1).before #[Value.ref b] s = true
section LH
variable {p : Program} {l : Launch} {e : Env} {s : State} {m : MethodId} {below : List Frame} {meth : Method} {c : Code} {H : Heap} {locs : List Loc} {cells slots : Nat} {ls : Array Slot} {E : Ge} {L : Lay} {M : Mm} {b n qx qm i : Nat} {xs : Nat → Int32} {x3 : Int32}
/-- at the loop's head: it ends with 1, or goes to the switch with the next number -/
theorem lw_head (hx : p.tables.exec = Jvm.exec) (hb : c.code = code) (hr : meth.sig.returnType = ret) (hlocks : meth.locks = false) (hXs : va_X b n xs s s.heap) (hbl : b < s.heap.size) (hbA : ¬ E.2.2.2 b) (hEA : ∀ q, E.2.2.2 q → s.heap.size ≤ q) (hS : va_S E.2.2.2 s.heap H locs) (hl : lv_has ls 4 [(0, .ref b), (1, .ref qx), (2, .ref qm), (3, .int x3)]) (hn : n ≤ 3072) (hi : x3 = nI i) (hi2 : i ≤ n + 6) (hce : cells ≤ 600000) (hsl : slots ≤ 7302250)
    (kk : i + 6 ≤ n → W p l e room_1 s m #[Value.ref b] below meth c H locs cells slots (lw_Z below #[Value.ref b] s) (F0 m 33 ls [.int (xs (ix x3) &&& 63)])) : W p l e room_1 s m #[Value.ref b] below meth c H locs cells slots (lw_Z below #[Value.ref b] s) (F0 m 18 ls []) := by
  refine lv_iload_n hx hb dLw_18 rfl (lv_at hl 3 rfl) ?_
  refine lv_aload_n hx hb dLw_19 rfl (lv_at hl 0 rfl) ?_
  refine va_slen hx hb hXs hbl hbA hS dLw_20 ?_
  refine lv_bipush (v := 6) hx hb dLw_21 (by decide) ?_
  refine lv_isub hx hb dLw_23 ?_
  have e3 : x3.toInt = (i : Int) := by rw [hi]; exact Int32.toInt_ofNat_of_lt (by omega)
  have en : (Int32.ofNat n).toInt = (n : Int) := Int32.toInt_ofNat_of_lt (by omega)
  have ed : (Int32.ofNat n - 6).toInt = (n : Int) - 6 := by
    rw [Int32.toInt_sub, en]
    have : (6 : Int32).toInt = 6 := by decide
    rw [this]
    exact Int.bmod_eq_of_le (by omega) (by omega)
  refine lv_icmp_gt (tgt := 1517) hx hb dLw_24 (by decide) (fun c0 => ?_) (fun c0 => ?_)
  · refine lv_iconst (v := 1) hx hb dLw_1517 (by decide) ?_
    refine va_forget (fun q hq => hEA _ (hS.2.2 q hq)) ?_
    refine W.widen (k := 600000) (n := 7302250) hce hsl ?_
    exact lw_ret hx hb hr hlocks dLw_1518
  · have hle : i + 6 ≤ n := by
      rw [Int32.lt_iff_toInt_lt, e3, ed] at c0
      omega
    have hin : vp_in x3 n := by
      rw [hi]
      exact vp_in_nI (by omega) (by omega)
    refine lv_aload_n hx hb dLw_27 rfl (lv_at hl 0 rfl) ?_
    refine lv_iload_n hx hb dLw_28 rfl (lv_at hl 3 rfl) ?_
    refine va_sld hx hb hXs hbl hbA hS hin dLw_29 ?_
    refine lv_bipush (v := 63) hx hb dLw_30 (by decide) ?_
    refine lv_iand hx hb dLw_32 ?_
    exact kk hle
end LH
