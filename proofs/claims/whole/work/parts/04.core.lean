/-! Words of the functions that the methods are: names, guards, calls, loops; their eliminations; rows that end a method. -/
def lt {α β : Type} (x : α) (k : α → β) : β := k x
def gd (c : Prop) [Decidable c] {ρ : Type} (k : Option ρ) : Option ρ := if c then k else none
def bi {ρ : Type} (x : Option Int32) (k : Int32 → Option ρ) : Option ρ := match x with
  | none => none
  | some r => k r
def bm {ρ : Type} (x : Option Mm) (k : Mm → Option ρ) : Option ρ := match x with
  | none => none
  | some M => k M
def bl {ρ : Type} (x : Option Nat) (k : Nat → Option ρ) : Option ρ := match x with
  | none => none
  | some q => k q
def bw {ρ : Type} (x : Option (Int32 × Mm)) (k : Int32 → Mm → Option ρ) : Option ρ := match x with
  | none => none
  | some q => k q.1 q.2
def lp {σ ρ : Type} (F : (σ → Option ρ) → σ → Option ρ) : Nat → σ → Option ρ
  | 0, _ => none
  | n + 1, z => F (lp F n) z
theorem lt_el {α β : Type} {x : α} {k : α → β} {y : β} (h : lt x k = y) : ∃ z, z = x ∧ k z = y := ⟨x, rfl, h⟩
theorem gd_el {c : Prop} [Decidable c] {ρ : Type} {k : Option ρ} {o : ρ} (h : gd c k = some o) : c ∧ k = some o := by
  unfold gd at h
  split at h
  · exact ⟨by assumption, h⟩
  · cases h
theorem ifn_el {c : Prop} [Decidable c] {ρ : Type} {k : Option ρ} {o : ρ} (h : (if c then none else k) = some o) : ¬ c ∧ k = some o := by
  split at h
  · cases h
  · exact ⟨by assumption, h⟩
theorem bi_el {ρ : Type} {x : Option Int32} {k : Int32 → Option ρ} {o : ρ} (h : bi x k = some o) : ∃ r, x = some r ∧ k r = some o := by
  cases x with
  | none => cases h
  | some r => exact ⟨r, rfl, h⟩
theorem bm_el {ρ : Type} {x : Option Mm} {k : Mm → Option ρ} {o : ρ} (h : bm x k = some o) : ∃ r, x = some r ∧ k r = some o := by
  cases x with
  | none => cases h
  | some r => exact ⟨r, rfl, h⟩
theorem bl_el {ρ : Type} {x : Option Nat} {k : Nat → Option ρ} {o : ρ} (h : bl x k = some o) : ∃ r, x = some r ∧ k r = some o := by
  cases x with
  | none => cases h
  | some r => exact ⟨r, rfl, h⟩
theorem bw_el {ρ : Type} {x : Option (Int32 × Mm)} {k : Int32 → Mm → Option ρ} {o : ρ} (h : bw x k = some o) : ∃ r M, x = some (r, M) ∧ k r M = some o := by
  cases x with
  | none => cases h
  | some r => exact ⟨r.1, r.2, rfl, h⟩
theorem lp_G {σ ρ : Type} {F : (σ → Option ρ) → σ → Option ρ} {o : ρ} {G : σ → Prop} (hF : ∀ rec, (∀ z, rec z = some o → G z) → ∀ z, F rec z = some o → G z) (n : Nat) : ∀ z, lp F n z = some o → G z := by
  induction n with
  | zero => intro z h; cases h
  | succ n ih => intro z h; exact hF (lp F n) ih z h
theorem ne_toInt {x k : Int32} (h : ¬ x = k) {a : Int} (hk : k.toInt = a) : x.toInt ≠ a := fun e => h (Int32.toInt_inj.mp (e.trans hk.symm))
def atB (L : Lay) (a : Nat) (T : Lay) : Bool := T.all fun p => L.contains (a + p.1, p.2)
theorem atB_at {L T : Lay} {a : Nat} (h : atB L a T = true) : At L a T := fun p hp => List.contains_iff_mem.mp (List.all_eq_true.mp h p hp)
theorem bz_nar {x : Int32} (h : x = 0 ∨ x = 1) : narrow .boolean (.int x) = .int x ∧ fits .boolean (.int x) = true := by
  rcases h with rfl | rfl
  · exact ⟨rfl, rfl⟩
  · exact ⟨rfl, rfl⟩
section RE
variable {p : Program} {l : Launch} {e : Env} {R : Room} {s : State} {m : MethodId} {args : Array Value} {below : List Frame} {meth : Method} {c : Code} {H : Heap} {locs : List Loc} {Q : State → Prop}
variable {cc : ByteArray} {pc nL cells slots : Nat} {ls : Array Slot} {rest : List Value} {own : String} {E : Ge} {L : Lay} {M M' : Mm} {r v : Int32}
theorem r_nmI {x y : Int32} (h : y = x) (k : W p l e R s m args below meth c H locs cells slots Q (F0 m pc ls (.int y :: rest))) : W p l e R s m args below meth c H locs cells slots Q (F0 m pc ls (.int x :: rest)) := h ▸ k
theorem r_iretP (B : Bx p s m args c cc nL own E L) (hR : Rx s E L M H locs) (hr : meth.sig.returnType = some .int) (hlocks : meth.locks = false) (h : some v = some r) (hdg : decode cc pc = .ok (.ireturn, 1)) : W p l e R s m args below meth c H locs 0 0 (MQ below (QcM E L (some (.int r)) M) args s 0 0 E.2.2.2) (F0 m pc ls [.int v]) := by
  cases h
  exact r_iret B hR hr hlocks hdg
theorem r_iretW (B : Bx p s m args c cc nL own E L) (hR : Rx s E L M H locs) (hr : meth.sig.returnType = some .int) (hlocks : meth.locks = false) (h : some (v, M) = some (r, M')) (hdg : decode cc pc = .ok (.ireturn, 1)) : W p l e R s m args below meth c H locs 0 0 (MQ below (QcM E L (some (.int r)) M') args s 0 0 E.2.2.2) (F0 m pc ls [.int v]) := by
  cases h
  exact r_iret B hR hr hlocks hdg
theorem r_zretP (B : Bx p s m args c cc nL own E L) (hR : Rx s E L M H locs) (hr : meth.sig.returnType = some .boolean) (hlocks : meth.locks = false) (hz : v = 0 ∨ v = 1) (h : some v = some r) (hdg : decode cc pc = .ok (.ireturn, 1)) : W p l e R s m args below meth c H locs 0 0 (MQ below (QcM E L (some (.int r)) M) args s 0 0 E.2.2.2) (F0 m pc ls [.int v]) := by
  cases h
  exact r_zret B hR hr hlocks (bz_nar hz).1 hdg
theorem r_zretW (B : Bx p s m args c cc nL own E L) (hR : Rx s E L M H locs) (hr : meth.sig.returnType = some .boolean) (hlocks : meth.locks = false) (hz : v = 0 ∨ v = 1) (h : some (v, M) = some (r, M')) (hdg : decode cc pc = .ok (.ireturn, 1)) : W p l e R s m args below meth c H locs 0 0 (MQ below (QcM E L (some (.int r)) M') args s 0 0 E.2.2.2) (F0 m pc ls [.int v]) := by
  cases h
  exact r_zret B hR hr hlocks (bz_nar hz).1 hdg
theorem r_vretW (B : Bx p s m args c cc nL own E L) (hR : Rx s E L M H locs) (hr : meth.sig.returnType = none) (hlocks : meth.locks = false) (h : some M = some M') (hdg : decode cc pc = .ok (.return_, 1)) : W p l e R s m args below meth c H locs 0 0 (MQ below (QcM E L none M') args s 0 0 E.2.2.2) (F0 m pc ls []) := by
  cases h
  exact r_vret B hR hr hlocks hdg
theorem r_aretW {q : Nat} {rc : String} (B : Bx p s m args c cc nL own E L) (hR : Rx s E L M H locs) (hr : meth.sig.returnType = some (.object rc)) (hlocks : meth.locks = false) (h : some M = some M') (hdg : decode cc pc = .ok (.areturn, 1)) : W p l e R s m args below meth c H locs 0 0 (MQ below (QcM E L (some (.ref q)) M') args s 0 0 E.2.2.2) (F0 m pc ls [.ref q]) := by
  cases h
  exact W.aret B.1 B.2.1 hr (Or.inl ⟨_, rfl⟩) (Or.inr ⟨_, rfl⟩) (fun t ht _ => ⟨⟨rfl, by rw [ht]; exact hR.1⟩, hR.2.F ht⟩) hR.2.2.2 hdg
theorem r_aretP {q q' : Nat} {rc : String} (B : Bx p s m args c cc nL own E L) (hR : Rx s E L M H locs) (hr : meth.sig.returnType = some (.object rc)) (hlocks : meth.locks = false) (h : some q = some q') (hdg : decode cc pc = .ok (.areturn, 1)) : W p l e R s m args below meth c H locs 0 0 (MQ below (QcM E L (some (.ref q')) M) args s 0 0 E.2.2.2) (F0 m pc ls [.ref q]) := by
  cases h
  exact W.aret B.1 B.2.1 hr (Or.inl ⟨_, rfl⟩) (Or.inr ⟨_, rfl⟩) (fun t ht _ => ⟨⟨rfl, by rw [ht]; exact hR.1⟩, hR.2.F ht⟩) hR.2.2.2 hdg
end RE
section RM
variable {p : Program} {l : Launch} {e : Env} {s : State} {m : MethodId} {args : Array Value} {below : List Frame} {meth : Method} {c : Code} {H : Heap} {locs : List Loc} {Q : State → Prop}
variable {cc : ByteArray} {pc nL d : Nat} {ls : Array Slot} {rest : List Value} {own : String} {E : Ge} {L : Lay} {M : Mm} {index : Nat}
theorem r_max (B : Bx p s m args c cc nL own E L) (hlink : Cond.methodLink own index Lib.Math.max.name ∈ ws0) (hstat : Cond.static Lib.Math.max.name ∈ ws0) (hini : Cond.initialized "java/lang/Math" ∈ ws0) (hcode : Cond.code Lib.Math.max.name Lib.Math.max.code 2 (some .int) ∈ ws0) (hl : ls.size = nL) (hst : (rest.map fun v => v.category).sum ≤ 8) {x y : Int32} (hdg : decode cc pc = .ok (.invokestatic index, 3))
    (kk : W p l e (rmD (d + 1)) s m args below meth c H locs 0 0 Q (F0 m (pc + 3) ls (.int (if x < y then y else x) :: rest))) : W p l e (rmD (d + 1)) s m args below meth c H locs 0 0 Q (F0 m pc ls (.int y :: .int x :: rest)) := by
  obtain ⟨hx, hb, hml, hown, hts, hK, hD, hX⟩ := B
  exact va_mmax hx hb (hml.trans hl.symm) hown (hts _ hlink) (hts _ hstat) (hts _ hini) (hts _ hcode) (Nat.le_add_left 1 d) (by show _ + 13 ≤ 42 * (d + 1); omega) (Nat.zero_le _) (Nat.zero_le _) hdg kk
theorem r_min (B : Bx p s m args c cc nL own E L) (hlink : Cond.methodLink own index Lib.Math.min.name ∈ ws0) (hstat : Cond.static Lib.Math.min.name ∈ ws0) (hini : Cond.initialized "java/lang/Math" ∈ ws0) (hcode : Cond.code Lib.Math.min.name Lib.Math.min.code 2 (some .int) ∈ ws0) (hl : ls.size = nL) (hst : (rest.map fun v => v.category).sum ≤ 8) {x y : Int32} (hdg : decode cc pc = .ok (.invokestatic index, 3))
    (kk : W p l e (rmD (d + 1)) s m args below meth c H locs 0 0 Q (F0 m (pc + 3) ls (.int (if y < x then y else x) :: rest))) : W p l e (rmD (d + 1)) s m args below meth c H locs 0 0 Q (F0 m pc ls (.int y :: .int x :: rest)) := by
  obtain ⟨hx, hb, hml, hown, hts, hK, hD, hX⟩ := B
  exact va_mmin hx hb (hml.trans hl.symm) hown (hts _ hlink) (hts _ hstat) (hts _ hini) (hts _ hcode) (Nat.le_add_left 1 d) (by show _ + 13 ≤ 42 * (d + 1); omega) (Nat.zero_le _) (Nat.zero_le _) hdg kk
theorem r_copy (B : Bx p s m args c cc nL own E L) (hR : Rx s E L M H locs) {a0 a n0 n1 : Nat} (hlink : Cond.methodLink own index arraycopyName ∈ ws0) (hnat : Cond.native arraycopyName ∈ ws0) (hstat : Cond.static arraycopyName ∈ ws0) (hini : Cond.initialized "java/lang/System" ∈ ws0) (hm0 : (a0, (0, n0)) ∈ L) (hm1 : (a, (0, n1)) ∈ L) (hl : ls.size = nL) {sp dp n : Int32} (hh : (¬ sp < 0 ∧ ¬ dp < 0 ∧ ¬ n < 0) ∧ ix sp + ix n ≤ n0 ∧ ix dp + ix n ≤ n1) (hst : (rest.map fun v => v.category).sum ≤ 8) (hdg : decode cc pc = .ok (.invokestatic index, 3))
    (kk : ∀ (H1 : Heap) (locs1 : List Loc), Rx s E L (wIs M a (va_cpy (M.1 a0) (M.1 a) (ix sp) (ix dp) (ix n))) H1 locs1 → W p l e (rmD (d + 1)) s m args below meth c H1 locs1 0 0 Q (F0 m (pc + 3) ls rest)) : W p l e (rmD (d + 1)) s m args below meth c H locs 0 0 Q (F0 m pc ls (.int n :: .int dp :: .ref a :: .int sp :: .ref a0 :: rest)) := by
  obtain ⟨hx, hb, hml, hown, hts, hK, hD, hX⟩ := B
  obtain ⟨q, -, hq⟩ := wsOf_at (g := E.2.1) M hm0
  obtain ⟨q1, hq10, hq1⟩ := wsOf_at (g := E.2.1) M hm1
  have hw : nativeFrameWords "java/lang/System" "arraycopy" 5 ≤ 20 := by decide +kernel
  have hlo : (rest.map fun v => v.category).sum + (nativeFrameWords "java/lang/System" "arraycopy" 5 + 11) ≤ (rmD (d + 1)).locals := by
    show _ ≤ 42 * (d + 1)
    omega
  refine va_copyi hx hb (hml.trans hl.symm) hown (hts _ hlink) (hts _ hnat) (hts _ hstat) (hts _ hini) hK hR.1 (hD M) hR.2 q q1 0 0 hq hq1 rfl rfl rfl hh.1.1 hh.1.2.1 hh.1.2.2 hh.2.1 hh.2.2 (fun _ _ => rfl) (Nat.le_add_left 1 d) hlo hdg (fun H1 locs1 h1 _ h3 => kk H1 locs1 ⟨?_, h3⟩)
  rw [wsOf_set (M' := wIs M a (va_cpy (M.1 a0) (M.1 a) (ix sp) (ix dp) (ix n))) (hD M) hq10 (by simp [cellOf, wIs]) (fun b hb => by simp [wIs, hb])] at h1
  exact h1
end RM
