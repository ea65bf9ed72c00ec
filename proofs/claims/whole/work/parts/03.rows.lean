/-! Rows of an instruction or a call over the memory. -/
section RW
variable {p : Program} {l : Launch} {e : Env} {R : Room} {s : State} {m : MethodId} {args : Array Value} {below : List Frame} {meth : Method} {c : Code} {H : Heap} {locs : List Loc} {cells slots : Nat} {Q : State → Prop}
variable {cc : ByteArray} {pc nL : Nat} {ls : Array Slot} {rest : List Value} {own : String} {E : Ge} {L : Lay} {M : Mm} {a : Nat}
theorem r_get (B : Bx p s m args c cc nL own E L) (hR : Rx s E L M H locs) {ci k N index : Nat} {C : String} {T : u_T} {v : Value} (hc : vwCl[ci]? = some (C, T, N)) (hin : ∀ w ∈ u_ws C T N, w ∈ ws0) (hk : k < N) (hlink : Cond.fieldLink own index (T k).1 (T k).2.1 (T k).2.2.1 ∈ ws0) (hm : (a, (ci + 5, 0)) ∈ L) (hv : (flds ci a M)[k]? = some v) (hdg : decode cc pc = .ok (.getfield index, 3))
    (kk : W p l e R s m args below meth c H locs cells slots Q (F0 m (pc + 3) ls (v :: rest))) : W p l e R s m args below meth c H locs cells slots Q (F0 m pc ls (.ref a :: rest)) := by
  obtain ⟨hx, hb, hml, hown, hts, hK, hD, hX⟩ := B
  obtain ⟨q, -, hq⟩ := wsOf_at (g := E.2.1) M hm
  exact va_get hx hb hts hin hown hK hR.1 q hq hc k hk (hts _ hlink) (fun _ h => h) hv hdg kk
theorem r_putI (B : Bx p s m args c cc nL own E L) (hR : Rx s E L M H locs) {ci k N index : Nat} {C : String} {T : u_T} {x : Int32} {ty0 : Nat → FieldType} (hc : vwCl[ci]? = some (C, T, N)) (hin : ∀ w ∈ u_ws C T N, w ∈ ws0) (hty : ∀ k, k < N → parseFieldDescriptor (T k).2.2.1 = some (ty0 k)) (hnm : ∀ a, a < N → ∀ b, b < N → a ≠ b → (T a).2.1 ≠ (T b).2.1) (hk : k < N) (hlink : Cond.fieldLink own index (T k).1 (T k).2.1 (T k).2.2.1 ∈ ws0) (hfin : (T k).2.2.2 = false) (hset : ∀ (a : Nat) (M : Mm) (x : Int32), (flds ci a M).set k (.int x) = flds ci a (wI M a k x) ∧ k < (flds ci a M).length) (hn : narrow (ty0 k) (.int x) = .int x) (hfit : fits (ty0 k) (.int x) = true) (hm : (a, (ci + 5, 0)) ∈ L) (hdg : decode cc pc = .ok (.putfield index, 3))
    (kk : ∀ (H1 : Heap) (locs1 : List Loc), Rx s E L (wI M a k x) H1 locs1 → W p l e R s m args below meth c H1 locs1 cells slots Q (F0 m (pc + 3) ls rest)) : W p l e R s m args below meth c H locs cells slots Q (F0 m pc ls (.int x :: .ref a :: rest)) := by
  obtain ⟨hx, hb, hml, hown, hts, hK, hD, hX⟩ := B
  obtain ⟨q, hq0, hq⟩ := wsOf_at (g := E.2.1) M hm
  refine va_put hx hb hts hin ty0 hty hnm hown hK hR.1 (hD M) hR.2 q hq hc k hk (hts _ hlink) (fun _ h => h) hfin (hty k hk) hn hfit (hset a M x).2 hdg (fun H1 locs1 h1 _ h3 => kk H1 locs1 ⟨?_, h3⟩)
  rw [(hset a M x).1] at h1
  rw [wsOf_set (M' := wI M a k x) (hD M) hq0 (x := .inr (ci, flds ci a (wI M a k x))) rfl (fun b hb => by simp [wI, hb])] at h1
  exact h1
theorem r_putR (B : Bx p s m args c cc nL own E L) (hR : Rx s E L M H locs) {ci k N index : Nat} {C : String} {T : u_T} {x : Option Nat} {ty0 : Nat → FieldType} (hc : vwCl[ci]? = some (C, T, N)) (hin : ∀ w ∈ u_ws C T N, w ∈ ws0) (hty : ∀ k, k < N → parseFieldDescriptor (T k).2.2.1 = some (ty0 k)) (hnm : ∀ a, a < N → ∀ b, b < N → a ≠ b → (T a).2.1 ≠ (T b).2.1) (hk : k < N) (hlink : Cond.fieldLink own index (T k).1 (T k).2.1 (T k).2.2.1 ∈ ws0) (hfin : (T k).2.2.2 = false) (hset : ∀ (a : Nat) (M : Mm) (x : Option Nat), (flds ci a M).set k (va_rf x) = flds ci a (wR M a k x) ∧ k < (flds ci a M).length) (hn : narrow (ty0 k) (va_rf x) = va_rf x) (hfit : fits (ty0 k) (va_rf x) = true) (hm : (a, (ci + 5, 0)) ∈ L) (hdg : decode cc pc = .ok (.putfield index, 3))
    (kk : ∀ (H1 : Heap) (locs1 : List Loc), Rx s E L (wR M a k x) H1 locs1 → W p l e R s m args below meth c H1 locs1 cells slots Q (F0 m (pc + 3) ls rest)) : W p l e R s m args below meth c H locs cells slots Q (F0 m pc ls (va_rf x :: .ref a :: rest)) := by
  obtain ⟨hx, hb, hml, hown, hts, hK, hD, hX⟩ := B
  obtain ⟨q, hq0, hq⟩ := wsOf_at (g := E.2.1) M hm
  refine va_put hx hb hts hin ty0 hty hnm hown hK hR.1 (hD M) hR.2 q hq hc k hk (hts _ hlink) (fun _ h => h) hfin (hty k hk) hn hfit (hset a M x).2 hdg (fun H1 locs1 h1 _ h3 => kk H1 locs1 ⟨?_, h3⟩)
  rw [(hset a M x).1] at h1
  rw [wsOf_set (M' := wR M a k x) (hD M) hq0 (x := .inr (ci, flds ci a (wR M a k x))) rfl (fun b hb => by simp [wR, hb])] at h1
  exact h1
-- rows of arrays
theorem r_iald (B : Bx p s m args c cc nL own E L) (hR : Rx s E L M H locs) {n : Nat} {i : Int32} (hm : (a, (0, n)) ∈ L) (hin : ¬ (i < 0 ∨ n ≤ ix i)) (hdg : decode cc pc = .ok (.iaload, 1))
    (kk : W p l e R s m args below meth c H locs cells slots Q (F0 m (pc + 1) ls (.int (M.1 a (ix i)) :: rest))) : W p l e R s m args below meth c H locs cells slots Q (F0 m pc ls (.int i :: .ref a :: rest)) := by
  obtain ⟨hx, hb, hml, hown, hts, hK, hD, hX⟩ := B
  obtain ⟨q, -, hq⟩ := wsOf_at (g := E.2.1) M hm
  exact va_iald hx hb hK hR.1 q 0 hq rfl hin hdg kk
theorem r_bald (B : Bx p s m args c cc nL own E L) (hR : Rx s E L M H locs) {n : Nat} {i : Int32} (hm : (a, (2, n)) ∈ L) (hin : ¬ (i < 0 ∨ n ≤ ix i)) (hdg : decode cc pc = .ok (.baload, 1))
    (kk : W p l e R s m args below meth c H locs cells slots Q (F0 m (pc + 1) ls (.int (M.1 a (ix i)) :: rest))) : W p l e R s m args below meth c H locs cells slots Q (F0 m pc ls (.int i :: .ref a :: rest)) := by
  obtain ⟨hx, hb, hml, hown, hts, hK, hD, hX⟩ := B
  obtain ⟨q, -, hq⟩ := wsOf_at (g := E.2.1) M hm
  exact va_bald hx hb hK hR.1 q 2 hq rfl hin hdg kk
theorem r_zald (B : Bx p s m args c cc nL own E L) (hR : Rx s E L M H locs) {n : Nat} {i : Int32} (hm : (a, (1, n)) ∈ L) (hin : ¬ (i < 0 ∨ n ≤ ix i)) (hdg : decode cc pc = .ok (.baload, 1))
    (kk : W p l e R s m args below meth c H locs cells slots Q (F0 m (pc + 1) ls (.int (M.1 a (ix i)) :: rest))) : W p l e R s m args below meth c H locs cells slots Q (F0 m pc ls (.int i :: .ref a :: rest)) := by
  obtain ⟨hx, hb, hml, hown, hts, hK, hD, hX⟩ := B
  obtain ⟨q, -, hq⟩ := wsOf_at (g := E.2.1) M hm
  exact va_zald hx hb hK hR.1 q 1 hq rfl hin hdg kk
theorem r_lald (B : Bx p s m args c cc nL own E L) (hR : Rx s E L M H locs) {n : Nat} {i : Int32} (hm : (a, (3, n)) ∈ L) (hin : ¬ (i < 0 ∨ n ≤ ix i)) (hdg : decode cc pc = .ok (.laload, 1))
    (kk : W p l e R s m args below meth c H locs cells slots Q (F0 m (pc + 1) ls (.long (M.2.1 a (ix i)) :: rest))) : W p l e R s m args below meth c H locs cells slots Q (F0 m pc ls (.int i :: .ref a :: rest)) := by
  obtain ⟨hx, hb, hml, hown, hts, hK, hD, hX⟩ := B
  obtain ⟨q, -, hq⟩ := wsOf_at (g := E.2.1) M hm
  exact va_lald hx hb hK hR.1 q 3 hq rfl hin hdg kk
theorem r_aald (B : Bx p s m args c cc nL own E L) (hR : Rx s E L M H locs) {n : Nat} {i : Int32} (hm : (a, (4, n)) ∈ L) (hin : ¬ (i < 0 ∨ n ≤ ix i)) (hdg : decode cc pc = .ok (.aaload, 1))
    (kk : W p l e R s m args below meth c H locs cells slots Q (F0 m (pc + 1) ls (.ref (a + 1 + 9 * ix i) :: rest))) : W p l e R s m args below meth c H locs cells slots Q (F0 m pc ls (.int i :: .ref a :: rest)) := by
  obtain ⟨hx, hb, hml, hown, hts, hK, hD, hX⟩ := B
  obtain ⟨q, -, hq⟩ := wsOf_at (g := E.2.1) M hm
  exact va_aldq hx hb hK hR.1 q 4 hq rfl hin hdg kk
theorem r_iast (B : Bx p s m args c cc nL own E L) (hR : Rx s E L M H locs) {n : Nat} {i x : Int32} (hm : (a, (0, n)) ∈ L) (hin : ¬ (i < 0 ∨ n ≤ ix i)) (hdg : decode cc pc = .ok (.iastore, 1))
    (kk : ∀ (H1 : Heap) (locs1 : List Loc), Rx s E L (wI M a (ix i) x) H1 locs1 → W p l e R s m args below meth c H1 locs1 cells slots Q (F0 m (pc + 1) ls rest)) : W p l e R s m args below meth c H locs cells slots Q (F0 m pc ls (.int x :: .int i :: .ref a :: rest)) := by
  obtain ⟨hx, hb, hml, hown, hts, hK, hD, hX⟩ := B
  obtain ⟨q, hq0, hq⟩ := wsOf_at (g := E.2.1) M hm
  refine va_iast hx hb hK hR.1 (hD M) hR.2 q 0 hq rfl hin hdg (fun H1 locs1 h1 _ h3 => kk H1 locs1 ⟨?_, h3⟩)
  rw [wsOf_set (M' := wI M a (ix i) x) (hD M) hq0 (by simp [cellOf, wI]) (fun b hb => by simp [wI, hb])] at h1
  exact h1
theorem r_bast (B : Bx p s m args c cc nL own E L) (hR : Rx s E L M H locs) {n : Nat} {i x : Int32} (hm : (a, (2, n)) ∈ L) (hin : ¬ (i < 0 ∨ n ≤ ix i)) (hdg : decode cc pc = .ok (.bastore, 1))
    (kk : ∀ (H1 : Heap) (locs1 : List Loc), Rx s E L (wI M a (ix i) (vp_nar .byte x)) H1 locs1 → W p l e R s m args below meth c H1 locs1 cells slots Q (F0 m (pc + 1) ls rest)) : W p l e R s m args below meth c H locs cells slots Q (F0 m pc ls (.int x :: .int i :: .ref a :: rest)) := by
  obtain ⟨hx, hb, hml, hown, hts, hK, hD, hX⟩ := B
  obtain ⟨q, hq0, hq⟩ := wsOf_at (g := E.2.1) M hm
  refine va_bast hx hb hK hR.1 (hD M) hR.2 q 2 hq rfl hin hdg (fun H1 locs1 h1 _ h3 => kk H1 locs1 ⟨?_, h3⟩)
  rw [wsOf_set (M' := wI M a (ix i) (vp_nar .byte x)) (hD M) hq0 (by simp [cellOf, wI]) (fun b hb => by simp [wI, hb])] at h1
  exact h1
theorem r_zast (B : Bx p s m args c cc nL own E L) (hR : Rx s E L M H locs) {n : Nat} {i x : Int32} (hm : (a, (1, n)) ∈ L) (hin : ¬ (i < 0 ∨ n ≤ ix i)) (hdg : decode cc pc = .ok (.bastore, 1))
    (kk : ∀ (H1 : Heap) (locs1 : List Loc), Rx s E L (wI M a (ix i) (vp_nar .boolean x)) H1 locs1 → W p l e R s m args below meth c H1 locs1 cells slots Q (F0 m (pc + 1) ls rest)) : W p l e R s m args below meth c H locs cells slots Q (F0 m pc ls (.int x :: .int i :: .ref a :: rest)) := by
  obtain ⟨hx, hb, hml, hown, hts, hK, hD, hX⟩ := B
  obtain ⟨q, hq0, hq⟩ := wsOf_at (g := E.2.1) M hm
  refine va_zast hx hb hK hR.1 (hD M) hR.2 q 1 hq rfl hin hdg (fun H1 locs1 h1 _ h3 => kk H1 locs1 ⟨?_, h3⟩)
  rw [wsOf_set (M' := wI M a (ix i) (vp_nar .boolean x)) (hD M) hq0 (by simp [cellOf, wI]) (fun b hb => by simp [wI, hb])] at h1
  exact h1
theorem r_last (B : Bx p s m args c cc nL own E L) (hR : Rx s E L M H locs) {n : Nat} {i : Int32} {x : Int64} (hm : (a, (3, n)) ∈ L) (hin : ¬ (i < 0 ∨ n ≤ ix i)) (hdg : decode cc pc = .ok (.lastore, 1))
    (kk : ∀ (H1 : Heap) (locs1 : List Loc), Rx s E L (wJ M a (ix i) x) H1 locs1 → W p l e R s m args below meth c H1 locs1 cells slots Q (F0 m (pc + 1) ls rest)) : W p l e R s m args below meth c H locs cells slots Q (F0 m pc ls (.long x :: .int i :: .ref a :: rest)) := by
  obtain ⟨hx, hb, hml, hown, hts, hK, hD, hX⟩ := B
  obtain ⟨q, hq0, hq⟩ := wsOf_at (g := E.2.1) M hm
  refine va_last hx hb hK hR.1 (hD M) hR.2 q 3 hq rfl hin hdg (fun H1 locs1 h1 _ h3 => kk H1 locs1 ⟨?_, h3⟩)
  rw [wsOf_set (M' := wJ M a (ix i) x) (hD M) hq0 (by simp [cellOf, wJ]) (fun b hb => by simp [wJ, hb])] at h1
  exact h1
theorem r_alenI (B : Bx p s m args c cc nL own E L) (hR : Rx s E L M H locs) {n : Nat} {v : Int32} (hm : (a, (0, n)) ∈ L) (hv : Int32.ofNat n = v) (hdg : decode cc pc = .ok (.arraylength, 1))
    (kk : W p l e R s m args below meth c H locs cells slots Q (F0 m (pc + 1) ls (.int v :: rest))) : W p l e R s m args below meth c H locs cells slots Q (F0 m pc ls (.ref a :: rest)) := by
  obtain ⟨hx, hb, hml, hown, hts, hK, hD, hX⟩ := B
  obtain ⟨q, -, hq⟩ := wsOf_at (g := E.2.1) M hm
  exact va_alen hx hb hK hR.1 q 0 hq rfl hv hdg kk
theorem r_alenJ (B : Bx p s m args c cc nL own E L) (hR : Rx s E L M H locs) {n : Nat} {v : Int32} (hm : (a, (3, n)) ∈ L) (hv : Int32.ofNat n = v) (hdg : decode cc pc = .ok (.arraylength, 1))
    (kk : W p l e R s m args below meth c H locs cells slots Q (F0 m (pc + 1) ls (.int v :: rest))) : W p l e R s m args below meth c H locs cells slots Q (F0 m pc ls (.ref a :: rest)) := by
  obtain ⟨hx, hb, hml, hown, hts, hK, hD, hX⟩ := B
  obtain ⟨q, -, hq⟩ := wsOf_at (g := E.2.1) M hm
  exact va_alen hx hb hK hR.1 q 3 hq rfl hv hdg kk
-- static rows
theorem r_tald (B : Bx p s m args c cc nL own E L) (hR : Rx s E L M H locs) {t N : Nat} {f : Nat → Int32} (hT : va_T .int t N (fun j => .int (f j)) E.2.2.2 s s.heap) {i : Int32} (hin : ¬ (i < 0 ∨ N ≤ ix i)) (hdg : decode cc pc = .ok (.iaload, 1))
    (kk : W p l e R s m args below meth c H locs cells slots Q (F0 m (pc + 1) ls (.int (f (ix i)) :: rest))) : W p l e R s m args below meth c H locs cells slots Q (F0 m pc ls (.int i :: .ref t :: rest)) := by
  obtain ⟨hx, hb, hml, hown, hts, hK, hD, hX⟩ := B
  obtain ⟨cell, h1, h2, h3, h4, h5, h6, h7⟩ := hT
  have hc : H[t]? = some cell := by rw [hR.2.2.1 t (Array.getElem?_eq_some_iff.mp h1).1 h7]; exact h1
  have hlt : ix i < N := Nat.not_le.mp fun q => hin (Or.inr q)
  exact W.iald (v := .int (f (ix i))) hx hb hc h2 h3 (fun q => by rcases q with q | q; exact hin (Or.inl q); exact absurd q (by show ¬ cell.slots.size ≤ ix i; omega)) (h6 _ hlt) rfl rfl hdg kk
end RW
section RC
variable {p : Program} {l : Launch} {e : Env} {s : State} {m : MethodId} {args : Array Value} {below : List Frame} {meth : Method} {c : Code} {H : Heap} {locs : List Loc} {Q : State → Prop}
variable {cc : ByteArray} {pc nL d : Nat} {ls : Array Slot} {rest : List Value} {own : String} {E : Ge} {L : Lay} {M M' : Mm} {a : Nat}
variable {y : MethodName} {cb : ByteArray} {nb : Nat} {ret : Option FieldType} {r : Option Value} {index n : Nat} {As : List Value}
theorem rm_ok {R : Room} (hf : d + 1 ≤ R.frames) (hl : 42 * d + 42 ≤ R.locals) (hn : nb ≤ 23) : (rmD d).frames + 1 ≤ R.frames ∧ 8 + (nb + 11) + (rmD d).locals ≤ R.locals := ⟨hf, by show 8 + (nb + 11) + 42 * d ≤ _; omega⟩
theorem c_pre {av : List Value} (B : Bx p s m args c cc nL own E L) (hR : Rx s E L M H locs) : ∀ U : State, U.heap = H → s.WarmedH U.vm → PcM E L av M av.toArray U := by
  obtain ⟨hx, hb, hml, hown, hts, hK, hD, hX⟩ := B
  intro U hU hW
  refine ⟨rfl, by rw [hU]; exact hR.1, va_K.moved hW.alike hK, hD M, ?_⟩
  rw [hU]
  exact (hX.kept hR.2.2.1).warm hW
/-- behind a call -/
theorem c_on {R : Room} {cells slots : Nat} {st0 : List Value} {av : Array Value} (hR : Rx s E L M H locs) (hr : va_Run p l e R s m args below meth c H locs cells slots 0 0 (F0 m pc ls st0) rest (QcM E L r M' av) E.2.2.2)
    (kk : ∀ (H1 : Heap) (locs1 : List Loc), Rx s E L M' H1 locs1 → W p l e R s m args below meth c H1 locs1 cells slots Q (F0 m (pc + 3) ls (r.toList ++ rest))) : W p l e R s m args below meth c H locs cells slots Q (F0 m pc ls st0) := by
  intro T hT X
  obtain ⟨v, st₀, t, T', L1, h0, X', hL, e1, e2, ⟨⟨hv, hP⟩, hz, hk⟩, st⟩ := hr T hT X
  cases hv
  rw [h0] at hz hk
  obtain ⟨t2, a1, b1⟩ := kk T'.heap (locs ++ L1) ⟨by rw [e1]; exact hP, Nat.le_trans hR.2.1 (by rw [e1]; exact hz), fun q h1 h2 => by rw [e1, hk q (Nat.lt_of_lt_of_le h1 hR.2.1) h2]; exact hR.2.2.1 q h1 h2, fun q hq => by
      rcases List.mem_append.mp hq with h | h
      · exact hR.2.2.2 q h
      · exact hL q h⟩ T' rfl X'
  exact ⟨t2, st t2 a1, b1⟩
theorem r_callV (B : Bx p s m args c cc nL own E L) (hR : Rx s E L M H locs) {ci N : Nat} {C : String} {T : u_T} (hc : vwCl[ci]? = some (C, T, N)) (hcode : Cond.code y cb nb ret ∈ ws0) (hlink : Cond.methodLink own index y ∈ ws0) (hinst : Cond.instanceMethod y ∈ ws0) (hsel : Cond.selects C y y ∈ ws0) (hini : Cond.initialized C ∈ ws0) (hd : y.cls = C ∧ y.cls ≠ "java/lang/invoke/MethodHandle" ∧ y.cls ≠ "java/lang/invoke/VarHandle" ∧ (parseMethodDescriptor y.desc).map (fun d => d.parameters.length) = some n) (hnb : nb ≤ 23)
    (hm : (a, (ci + 5, 0)) ∈ L) (hn : As.length = n) (hl : ls.size = nL) (hC : Ct l E L y cb nb ret d (.ref a :: As) M r M') (hst : (rest.map fun v => v.category).sum ≤ 8) (hdg : decode cc pc = .ok (.invokevirtual index, 3))
    (kk : ∀ (H1 : Heap) (locs1 : List Loc), Rx s E L M' H1 locs1 → W p l e (rmD (d + 1)) s m args below meth c H1 locs1 0 0 Q (F0 m (pc + 3) ls (r.toList ++ rest))) : W p l e (rmD (d + 1)) s m args below meth c H locs 0 0 Q (F0 m pc ls (As.reverse ++ .ref a :: rest)) := by
  have B0 := B
  obtain ⟨hx, hb, hml, hown, hts, hK, hD, hX⟩ := B
  obtain ⟨q, -, hq⟩ := wsOf_at (g := E.2.1) M hm
  have hG : GoodIn ws0 (wsV own index C y (Cond.code y cb nb ret :: ws0)) := fun w hw => by
    unfold wsV at hw
    rcases List.mem_append.mp hw with h | h
    · have h2 : w ∈ ws0 := by
        simp only [List.mem_cons, List.not_mem_nil, or_false] at h
        rcases h with rfl | rfl | rfl | rfl
        · exact hlink
        · exact hinst
        · exact hsel
        · exact hini
      exact ⟨h2, ws0_good h2⟩
    · exact ws0_in hcode w h
  refine c_on hR (va_runV (As := As) (rest := rest) ⟨hx, hb, hml, hown, hts⟩ hC (cwV n hts hG rfl rfl rfl hd (rm_ok (Nat.le_refl _) (by show 42 * d + 42 ≤ 42 * (d + 1); omega) hnb)) ⟨PcM.blind, va_recv hK hR.1 hc hq, c_pre B0 hR⟩ rfl hn hl rfl (lv_room hst) hdg ⟨Nat.zero_le _, Nat.zero_le _⟩) kk
theorem r_callS (B : Bx p s m args c cc nL own E L) (hR : Rx s E L M H locs) (hcode : Cond.code y cb nb ret ∈ ws0) (hlink : Cond.methodLink own index y ∈ ws0) (hstat : Cond.static y ∈ ws0) (hini : Cond.initialized y.cls ∈ ws0) (hd : y.cls ≠ "java/lang/invoke/MethodHandle" ∧ y.cls ≠ "java/lang/invoke/VarHandle" ∧ (parseMethodDescriptor y.desc).map (fun d => d.parameters.length) = some n) (hnb : nb ≤ 23)
    (hn : As.length = n) (hl : ls.size = nL) (hC : Ct l E L y cb nb ret d As M r M') (hst : (rest.map fun v => v.category).sum ≤ 8) (hdg : decode cc pc = .ok (.invokestatic index, 3))
    (kk : ∀ (H1 : Heap) (locs1 : List Loc), Rx s E L M' H1 locs1 → W p l e (rmD (d + 1)) s m args below meth c H1 locs1 0 0 Q (F0 m (pc + 3) ls (r.toList ++ rest))) : W p l e (rmD (d + 1)) s m args below meth c H locs 0 0 Q (F0 m pc ls (As.reverse ++ rest)) := by
  have B0 := B
  obtain ⟨hx, hb, hml, hown, hts, hK, hD, hX⟩ := B
  refine c_on hR (va_runS (As := As) (rest := rest) ⟨hx, hb, hml, hown, hts⟩ hC ⟨callB_of n hts (ws0_in hcode) rfl rfl rfl (hts _ hini) (hts _ hlink) hd (rm_ok (Nat.le_refl _) (by show 42 * d + 42 ≤ 42 * (d + 1); omega) hnb), hts _ hstat⟩ ⟨PcM.blind, c_pre B0 hR⟩ rfl hn hl rfl (lv_room hst) hdg ⟨Nat.zero_le _, Nat.zero_le _⟩) kk
theorem r_callSN (B : Bx p s m args c cc nL own E L) (hR : Rx s E L M H locs) {host : String} (hcode : Cond.code y cb nb ret ∈ ws0) (hlink : Cond.methodLinkNest own index y host ∈ nestW) (hstat : Cond.static y ∈ ws0) (hini : Cond.initialized y.cls ∈ ws0) (hd : y.cls ≠ "java/lang/invoke/MethodHandle" ∧ y.cls ≠ "java/lang/invoke/VarHandle" ∧ (parseMethodDescriptor y.desc).map (fun d => d.parameters.length) = some n) (hnb : nb ≤ 23)
    (hn : As.length = n) (hl : ls.size = nL) (hC : Ct l E L y cb nb ret d As M r M') (hst : (rest.map fun v => v.category).sum ≤ 8) (hdg : decode cc pc = .ok (.invokestatic index, 3))
    (kk : ∀ (H1 : Heap) (locs1 : List Loc), Rx s E L M' H1 locs1 → W p l e (rmD (d + 1)) s m args below meth c H1 locs1 0 0 Q (F0 m (pc + 3) ls (r.toList ++ rest))) : W p l e (rmD (d + 1)) s m args below meth c H locs 0 0 Q (F0 m pc ls (As.reverse ++ rest)) := by
  have B0 := B
  obtain ⟨hx, hb, hml, hown, hts, hK, hD, hX⟩ := B
  refine c_on hR (va_runSN (As := As) (rest := rest) ⟨hx, hb, hml, hown, hts⟩ hC ⟨va_cnB n hts (ws0_in hcode) rfl rfl rfl (hX.2.2.2.2.2.2 _ hlink) (hts _ hini) hd (rm_ok (Nat.le_refl _) (by show 42 * d + 42 ≤ 42 * (d + 1); omega) hnb), hts _ hstat, trivial⟩ ⟨PcM.blind, c_pre B0 hR⟩ rfl hn hl rfl (lv_room hst) hdg ⟨Nat.zero_le _, Nat.zero_le _⟩) kk
-- ends
theorem r_iret {v : Int32} {R : Room} (B : Bx p s m args c cc nL own E L) (hR : Rx s E L M H locs) (hr : meth.sig.returnType = some .int) (hlocks : meth.locks = false) (hdg : decode cc pc = .ok (.ireturn, 1)) : W p l e R s m args below meth c H locs 0 0 (MQ below (QcM E L (some (.int v)) M) args s 0 0 E.2.2.2) (F0 m pc ls [.int v]) :=
  W.iret B.1 B.2.1 hr (fun t ht _ => ⟨⟨rfl, by rw [ht]; exact hR.1⟩, hR.2.F ht⟩) hR.2.2.2 hdg
theorem r_zret {v : Int32} {R : Room} (B : Bx p s m args c cc nL own E L) (hR : Rx s E L M H locs) (hr : meth.sig.returnType = some .boolean) (hlocks : meth.locks = false) (hn : narrow .boolean (.int v) = .int v) (hdg : decode cc pc = .ok (.ireturn, 1)) : W p l e R s m args below meth c H locs 0 0 (MQ below (QcM E L (some (.int v)) M) args s 0 0 E.2.2.2) (F0 m pc ls [.int v]) :=
  W.zret B.1 B.2.1 hr hn (fun t ht _ => ⟨⟨rfl, by rw [ht]; exact hR.1⟩, hR.2.F ht⟩) hR.2.2.2 hdg
theorem r_vret {R : Room} (B : Bx p s m args c cc nL own E L) (hR : Rx s E L M H locs) (hr : meth.sig.returnType = none) (hlocks : meth.locks = false) (hdg : decode cc pc = .ok (.return_, 1)) : W p l e R s m args below meth c H locs 0 0 (MQ below (QcM E L none M) args s 0 0 E.2.2.2) (F0 m pc ls []) :=
  W.vret B.1 B.2.1 hr (fun t ht _ => ⟨⟨rfl, by rw [ht]; exact hR.1⟩, hR.2.F ht⟩) hR.2.2.2 hdg
end RC
