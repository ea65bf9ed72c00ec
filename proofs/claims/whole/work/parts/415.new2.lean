/-! More rows for constructors: rows of references, bytes; lists of cells that grow. -/
theorem va_P_perm {D : va_G} {cl : List vw_C} {w1 w2 : va_W} {H : Heap} (hp : w1.Perm w2) (h : va_P D cl w1 H) : va_P D cl w2 H := fun j q hq => by
  obtain ⟨i, hi⟩ := List.getElem?_of_mem (hp.mem_iff.mpr (List.mem_of_getElem? hq))
  exact h i q hi
theorem va_D_perm {A : Nat → Prop} {w1 w2 : va_W} (hp : w1.Perm w2) (h : va_D A w1) : va_D A w2 := by
  have h1 := va_D_nd.mp h
  exact va_D_nd.mpr ⟨(hp.map Prod.fst).nodup_iff.mp h1.1, fun z hz => h1.2 z (hp.mem_iff.mpr hz)⟩
theorem At.mono {L L' T : Lay} {a : Nat} (h : At L a T) (hs : ∀ p ∈ L, p ∈ L') : At L' a T := fun p hp => hs _ (h p hp)
theorem At.app {L T1 T2 : Lay} {a : Nat} (h1 : At L a T1) (h2 : At L a T2) : At L a (T1 ++ T2) := fun p hp => (List.mem_append.mp hp).elim (h1 p) (h2 p)
def shT (k : Nat) (T : Lay) : Lay := T.map fun p => (k + p.1, p.2)
theorem At.shift {L T : Lay} {a k : Nat} (h : At L (a + k) T) : At L a (shT k T) := by
  intro p hp
  obtain ⟨q, hq, rfl⟩ := List.mem_map.mp hp
  have h1 := h q hq
  rw [Nat.add_assoc] at h1
  exact h1
theorem At.one {L : Lay} {a k : Nat} {sh : Nat × Nat} (h : (a + k, sh) ∈ L) : At L a [(k, sh)] := fun p hp => by
  rw [List.mem_singleton] at hp
  subst hp
  exact h
section N2
variable {p : Program} {l : Launch} {e : Env} {R : Room} {s : State} {m : MethodId} {args : Array Value} {below : List Frame} {meth : Method} {c : Code} {H : Heap} {locs : List Loc} {cells slots : Nat} {Q : State → Prop}
variable {cc : ByteArray} {pc nL sz N index : Nat} {ls : Array Slot} {rest : List Value} {own : String} {E : Ge} {ex er : va_W} {L : Lay} {M : Mm} {a q : Nat} {n i x : Int32} {f f' : Nat → Option Nat} {x0 : Nat × va_E}
abbrev rQ (E : Ge) (N : Nat) (f : Nat → Option Nat) : va_E := .inl (E.2.1 4, N, .inr (.inr (.inr (.inr f))))
theorem n_anew (Y : By p s m args c cc nL own E) (hN : Nx s E ex L M sz cells H locs) (hcl : Cond.classLink own index RX8 ∈ ws0) (hover : Cond.arrayOver (.object RX8) ∈ nestW) (hn : ¬ n < 0) (hNn : ix n = N) (hbytes : N * 4 ≤ 536870912) (hcells : cells + 1 ≤ R.cells) (hslots : slots + N ≤ R.slots) (hdg : decode cc pc = .ok (.anewarray index, 3))
    (kk : ∀ H1 : Heap, Nx s E (ex ++ [(sz, rQ E N fun _ => none)]) L M (sz + 1) (cells + 1) H1 locs → W p l e R s m args below meth c H1 locs (cells + 1) (slots + N) Q (F0 m (pc + 3) ls (.ref sz :: rest))) : W p l e R s m args below meth c H locs cells slots Q (F0 m pc ls (.int n :: rest)) := by
  subst hNn
  refine w_size (fun hle => ?_)
  have hsz := hN.size hle
  obtain ⟨hx, hb, hml, hown, hts, hK, hX, hA⟩ := Y
  obtain ⟨hP, hD, hS, ⟨hcs, -⟩, hZ⟩ := hN
  subst hsz
  refine W.anew hx hb hown (hts _ hcl) (hX.2.2.2.2.2.2 _ hover) rfl hdg rfl hn hbytes hcells hslots fun cA kA comp f1 f2 f3 f4 => ?_
  have hc : cA = E.2.1 4 := by
    obtain ⟨_, _, -, -, -, h1⟩ := (hK.2 4 _ rfl).2
    have h2 : s.vm.findClass ("[" ++ (FieldType.object RX8).toString) = some (E.2.1 4) := h1
    rw [f1] at h2
    exact Option.some.inj h2
  subst hc
  generalize hH1 : H.push ({ cls := E.2.1 4, slots := Array.replicate n.toNatClampNeg .null, vm := .none } : Cell) = H1
  have z1 : H1.size = H.size + 1 := by rw [← hH1, Array.size_push]
  have e1 : H1[H.size]? = some (arrV (E.2.1 4) n.toNatClampNeg (fun _ => .null)) := by rw [← hH1, Array.getElem?_push_size, ← arrV_new]
  have o1 : ∀ q : Nat, q < H.size → H1[q]? = H[q]? := fun q hq => by rw [← hH1, Array.getElem?_push, if_neg (Nat.ne_of_lt hq)]
  have hpm : (ex ++ wsOf E.2.1 L M ++ [(H.size, rQ E (ix n) fun _ => none)]).Perm ((ex ++ [(H.size, rQ E (ix n) fun _ => none)]) ++ wsOf E.2.1 L M) := by
    rw [List.append_assoc, List.append_assoc]
    exact List.Perm.append_left _ List.perm_append_comm
  refine kk H1 ⟨va_P_perm hpm (va_P.app (va_P_kept hP (fun q hq _ => o1 q hq)) (fun j y hy => ?_)), va_D_perm hpm (hD.push hP rfl (hA _ hS.1)), ⟨Nat.le_trans hS.1 (by omega), fun y h1 h2 => (o1 y (Nat.lt_of_lt_of_le h1 hS.1)).trans (hS.2.1 y h1 h2), hS.2.2⟩, ⟨by omega, (H.size, rQ E (ix n) fun _ => none), List.mem_append_left _ (List.mem_append_right _ (List.mem_singleton.mpr rfl)), rfl⟩, hZ.mono (Nat.le_succ _)⟩
  have hj : j < 1 := (List.getElem?_eq_some_iff.mp hy).1
  rw [show j = 0 by omega] at hy
  cases hy
  exact e1
theorem n_aast {v : Nat} (Y : By p s m args c cc nL own E) (hN : Nx s E (x0 :: (a, rQ E N f) :: er) L M sz cells H locs) (hv : (v, (13, 0)) ∈ L) (hin : ¬ (i < 0 ∨ N ≤ ix i)) (hdg : decode cc pc = .ok (.aastore, 1))
    (kk : ∀ (H1 : Heap) (locs1 : List Loc), Nx s E (x0 :: (a, rQ E N (va_up f (ix i) (some v))) :: er) L M sz cells H1 locs1 → W p l e R s m args below meth c H1 locs1 cells slots Q (F0 m (pc + 1) ls rest)) : W p l e R s m args below meth c H locs cells slots Q (F0 m pc ls (.ref v :: .int i :: .ref a :: rest)) := by
  obtain ⟨hx, hb, hml, hown, hts, hK, hX, hA⟩ := Y
  obtain ⟨hP, hD, hS, ⟨hcs, pl, hpl, epl⟩, hZ⟩ := hN
  obtain ⟨k, -, hk⟩ := wsOf_at (g := E.2.1) M hv
  refine va_astq (r := (RX8, TX8, 13)) (ci := 8) (vs := flds 8 v M) hx hb hK hP hD hS 1 4 ((x0 :: (a, rQ E N f) :: er).length + k) rfl rfl ?_ rfl hin hdg (fun H1 locs1 h1 h2 h3 => kk H1 locs1 ⟨h1, h2, h3, ⟨hcs, ?_⟩, hZ⟩)
  · rw [List.getElem?_append_right (Nat.le_add_right _ _), Nat.add_sub_cancel_left]
    exact hk
  · rcases List.mem_cons.mp (show pl ∈ x0 :: ((a, rQ E N f) :: (er ++ wsOf E.2.1 L M)) from hpl) with rfl | hp
    · exact ⟨pl, List.mem_cons_self, epl⟩
    · rcases List.mem_cons.mp hp with rfl | hp
      · exact ⟨(a, rQ E N (va_up f (ix i) (some v))), List.mem_cons_of_mem _ List.mem_cons_self, epl⟩
      · exact ⟨pl, List.mem_cons_of_mem _ (List.mem_cons_of_mem _ hp), epl⟩
theorem arrV_congr {cA : ClassId} {n : Nat} {z z' : Nat → Value} (h : ∀ j, j < n → z j = z' j) : arrV cA n z = arrV cA n z' := by
  unfold arrV
  congr 2
  funext j
  exact h j.1 j.2
/-- a row of references holds what is asked, where it has places -/
theorem Nx.exq (h : Nx s E ((a, rQ E N f) :: er) L M sz cells H locs) (hf : ∀ j, j < N → f j = f' j) : Nx s E ((a, rQ E N f') :: er) L M sz cells H locs := by
  obtain ⟨hP, hD, hS, ⟨hcs, pl, hpl, epl⟩, hZ⟩ := h
  refine ⟨fun j y hy => ?_, ?_, hS, ⟨hcs, ?_⟩, hZ⟩
  · cases j with
    | zero =>
      have h0 := hP 0 (a, rQ E N f) rfl
      cases hy
      show H[a]? = some (vp_cell (E.2.1 4) (N, .inr (.inr (.inr (.inr f')))))
      have h1 : H[a]? = some (vp_cell (E.2.1 4) (N, .inr (.inr (.inr (.inr f))))) := h0
      rw [h1, vp_cell_q, vp_cell_q, arrV_congr (fun j hj => by rw [hf j hj])]
    | succ j => exact hP (j + 1) y hy
  · have h1 := va_D_nd.mp hD
    refine va_D_nd.mpr ⟨h1.1, fun z hz => ?_⟩
    rcases List.mem_cons.mp (show z ∈ (a, rQ E N f') :: (er ++ wsOf E.2.1 L M) from hz) with rfl | hz
    · exact h1.2 (a, rQ E N f) List.mem_cons_self
    · exact h1.2 z (List.mem_cons_of_mem _ hz)
  · rcases List.mem_cons.mp (show pl ∈ (a, rQ E N f) :: (er ++ wsOf E.2.1 L M) from hpl) with rfl | hp
    · exact ⟨(a, rQ E N f'), List.mem_cons_self, epl⟩
    · exact ⟨pl, List.mem_cons_of_mem _ hp, epl⟩
theorem n_bast (Y : By p s m args c cc nL own E) (hN : Nx s E ex L M sz cells H locs) (hm : (q, (2, N)) ∈ L) (hin : ¬ (i < 0 ∨ N ≤ ix i)) (hdg : decode cc pc = .ok (.bastore, 1))
    (kk : ∀ (H1 : Heap) (locs1 : List Loc), Nx s E ex L (wI M q (ix i) (vp_nar .byte x)) sz cells H1 locs1 → W p l e R s m args below meth c H1 locs1 cells slots Q (F0 m (pc + 1) ls rest)) : W p l e R s m args below meth c H locs cells slots Q (F0 m pc ls (.int x :: .int i :: .ref q :: rest)) := by
  refine w_size (fun hle => ?_)
  have hsz := hN.size hle
  obtain ⟨hx, hb, hml, hown, hts, hK, hX, hA⟩ := Y
  obtain ⟨hP, hD, hS, ⟨hcs, pl, hpl, epl⟩, hZ⟩ := hN
  obtain ⟨k, hk0, hk⟩ := wsOf_at (g := E.2.1) M hm
  have hqs : q < sz := by rw [← hsz]; exact wsOf_lt (va_P_r hP) (q, (2, N)) hm
  have hnd := va_D_nd.mp hD
  have hDw : va_D E.2.2.2 (wsOf E.2.1 L M) := by
    have h1 := hnd.1
    rw [List.map_append] at h1
    exact va_D_nd.mpr ⟨(List.nodup_append.mp h1).2.1, fun z hz => hnd.2 z (List.mem_append_right _ hz)⟩
  have hset : ∀ y : va_E, (ex ++ wsOf E.2.1 L M).set (ex.length + k) (q, y) = ex ++ (wsOf E.2.1 L M).set k (q, y) := fun y => by
    rw [List.set_append_right _ _ (Nat.le_add_right _ _), Nat.add_sub_cancel_left]
  refine va_bast hx hb hK hP hD hS (ex.length + k) 2 (by rw [List.getElem?_append_right (Nat.le_add_right _ _), Nat.add_sub_cancel_left]; exact hk) rfl hin hdg (fun H1 locs1 h1 h2 h3 => ?_)
  rw [hset, wsOf_set (M' := wI M q (ix i) (vp_nar .byte x)) hDw hk0 (by simp [cellOf, wI]) (fun b hb => by simp [wI, hb])] at h1 h2
  refine kk H1 locs1 ⟨h1, h2, h3, ⟨hcs, ?_⟩, hZ.wI hqs⟩
  rcases List.mem_append.mp hpl with h | h
  · exact ⟨pl, List.mem_append_left _ h, epl⟩
  · obtain ⟨q2, hq2, e3⟩ := List.mem_map.mp h
    exact ⟨(q2.1, cellOf E.2.1 q2.2 q2.1 (wI M q (ix i) (vp_nar .byte x))), List.mem_append_right _ (List.mem_map.mpr ⟨q2, hq2, rfl⟩), by rw [← e3] at epl; exact epl⟩
end N2
