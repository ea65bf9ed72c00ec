/-! The start: what the class's constructor leaves. -/
def Lw (q : Nat) (M M1 : Mm) : Prop := ∀ c, c < q → M1.1 c = M.1 c ∧ M1.2.1 c = M.2.1 c ∧ M1.2.2 c = M.2.2 c
def Eqv (M M1 : Mm) : Prop := ∀ c, M1.1 c = M.1 c ∧ M1.2.1 c = M.2.1 c ∧ M1.2.2 c = M.2.2 c
theorem Lw.tr {q : Nat} {M M1 M2 : Mm} (h : Lw q M M1) (h' : Lw q M1 M2) : Lw q M M2 := fun c hc => ⟨(h' c hc).1.trans (h c hc).1, (h' c hc).2.1.trans (h c hc).2.1, (h' c hc).2.2.trans (h c hc).2.2⟩
theorem Lw.lo {q q' : Nat} {M M1 : Mm} (h : Lw q M M1) (hq : q' ≤ q) : Lw q' M M1 := fun c hc => h c (by omega)
theorem Eqv.tr {M M1 M2 : Mm} (h : Eqv M M1) (h' : Eqv M1 M2) : Eqv M M2 := fun c => ⟨(h' c).1.trans (h c).1, (h' c).2.1.trans (h c).2.1, (h' c).2.2.trans (h c).2.2⟩
theorem Eqv.zr {q : Nat} {M M1 : Mm} (h : Eqv M M1) (hZ : Zr q M) : Zr q M1 := hZ.fr fun c _ => h c
theorem pt_eqv {q c0 : Nat} {M : Mm} (hZ : Zr q M) (h : q ≤ c0) : Eqv M (pt c0 (fun _ => 0) M) := fun c => by
  refine ⟨?_, rfl, ?_⟩
  · show (if c = c0 then _ else M.1 c) = M.1 c
    by_cases e : c = c0
    · rw [if_pos e]; exact (hZ c (by omega)).1.symm
    · rw [if_neg e]
  · show (if c = c0 then _ else M.2.2 c) = M.2.2 c
    by_cases e : c = c0
    · rw [if_pos e]; exact (hZ c (by omega)).2.2.symm
    · rw [if_neg e]
theorem pt_lw {c0 : Nat} (row : Nat → Int32) (M : Mm) : ∀ c, c ≠ c0 → (pt c0 row M).1 c = M.1 c ∧ (pt c0 row M).2.1 c = M.2.1 c ∧ (pt c0 row M).2.2 c = M.2.2 c := fun c hc => ⟨if_neg hc, rfl, if_neg hc⟩
theorem trunc_lw (q : Nat) (M : Mm) : Lw q M (trunc q M) := fun c hc => ⟨if_pos hc, if_pos hc, if_pos hc⟩
theorem iC8_ok {fu q : Nat} {M : Mm} (hfu : 200000 ≤ fu) (hZ : Zr q M) : ∃ M1, iC8 fu q M = some M1 ∧ VX tzS M1 q ∧ Lw q M M1 ∧ Zr (q + 9) M1 := by
  obtain ⟨M2, e, w1, w2, w3⟩ := X8_wipe (fu := fu) (M := pt q (fun _ => 0) M) (b := q) hfu
  refine ⟨trunc (q + 9) M2, ?_, (VF.vx w1 tzS_pi.1.1).fr fun c h1 h2 => (trunc_lw (q + 9) M2 c (by omega)).1, fun c hc => ?_, trunc_Zr _ _⟩
  · unfold iC8
    rw [lt_eq, e, bm_s, lt_eq]
  · obtain ⟨a1, a2, a3⟩ := trunc_lw (q + 9) M2 c (by omega)
    obtain ⟨b1, b2, b3⟩ := w2 c (by omega)
    obtain ⟨c1, c2, c3⟩ := pt_lw (c0 := q) (fun _ => 0) M c (by omega)
    exact ⟨a1.trans (b1.trans c1), a2.trans (b2.trans c2), a3.trans (b3.trans c3)⟩
set_option maxHeartbeats 1000000 in
theorem iC4_ok {fu q : Nat} {M : Mm} (hfu : 200000 ≤ fu) (hZ : Zr q M) : ∃ M1, iC4 fu q M = some M1 ∧ M1.1 q 1 = nI 0 ∧ Lw q M M1 ∧ Zr (q + 155) M1 := by
  obtain ⟨M1, e1, v1, l1, z1⟩ := iC8_ok (q := q + 2) hfu (hZ.mono (by omega))
  obtain ⟨M2, e2, v2, l2, z2⟩ := iC8_ok (q := q + 11) hfu (z1.mono (by omega))
  obtain ⟨M3, e3, v3, l3, z3⟩ := iC8_ok (q := q + 20) hfu (z2.mono (by omega))
  obtain ⟨M4, e4, v4, l4, z4⟩ := iC8_ok (q := q + 29) hfu (z3.mono (by omega))
  obtain ⟨M5, e5, v5, l5, z5⟩ := iC8_ok (q := q + 38) hfu (z4.mono (by omega))
  obtain ⟨M6, e6, v6, l6, z6⟩ := iC8_ok (q := q + 47) hfu (z5.mono (by omega))
  obtain ⟨M7, e7, v7, l7, z7⟩ := iC8_ok (q := q + 56) hfu (z6.mono (by omega))
  obtain ⟨M8, e8, v8, l8, z8⟩ := iC8_ok (q := q + 65) hfu (z7.mono (by omega))
  obtain ⟨M9, e9, v9, l9, z9⟩ := iC8_ok (q := q + 74) hfu (z8.mono (by omega))
  obtain ⟨M10, e10, v10, l10, z10⟩ := iC8_ok (q := q + 83) hfu (z9.mono (by omega))
  obtain ⟨M11, e11, v11, l11, z11⟩ := iC8_ok (q := q + 92) hfu (z10.mono (by omega))
  obtain ⟨M12, e12, v12, l12, z12⟩ := iC8_ok (q := q + 101) hfu (z11.mono (by omega))
  obtain ⟨M13, e13, v13, l13, z13⟩ := iC8_ok (q := q + 110) hfu (z12.mono (by omega))
  obtain ⟨M14, e14, v14, l14, z14⟩ := iC8_ok (q := q + 119) hfu (z13.mono (by omega))
  obtain ⟨M15, e15, v15, l15, z15⟩ := iC8_ok (q := q + 128) hfu (z14.mono (by omega))
  obtain ⟨M16, e16, v16, l16, z16⟩ := iC8_ok (q := q + 137) hfu (z15.mono (by omega))
  obtain ⟨M17, e17, v17, l17, z17⟩ := iC8_ok (q := q + 146) hfu (z16.mono (by omega))
  refine ⟨pt q (fun _ => 0) M17, ?_, ?_, ?_, pt_Zr (z17.mono (by omega)) (by omega)⟩
  · unfold iC4
    rw [e1, bm_s, e2, bm_s, e3, bm_s, e4, bm_s, e5, bm_s, e6, bm_s, e7, bm_s, e8, bm_s, e9, bm_s, e10, bm_s, e11, bm_s, e12, bm_s, e13, bm_s, e14, bm_s, e15, bm_s, e16, bm_s, e17, bm_s, lt_eq]
  · show (if q = q then (fun _ => (0 : Int32)) else M17.1 q) 1 = nI 0
    rw [if_pos rfl]
    rfl
  · have hl : Lw q M M17 := ((((((((((((((((l1.lo (by omega)).tr (l2.lo (by omega))).tr (l3.lo (by omega))).tr (l4.lo (by omega))).tr (l5.lo (by omega))).tr (l6.lo (by omega))).tr (l7.lo (by omega))).tr (l8.lo (by omega))).tr (l9.lo (by omega))).tr (l10.lo (by omega))).tr (l11.lo (by omega))).tr (l12.lo (by omega))).tr (l13.lo (by omega))).tr (l14.lo (by omega))).tr (l15.lo (by omega))).tr (l16.lo (by omega))).tr (l17.lo (by omega))
    exact hl.tr fun c hc => pt_lw _ _ c (by omega)
theorem iC7_ok {fu q : Nat} {M : Mm} (hfu : 200000 ≤ fu) (hZ : Zr q M) : ∃ M1, iC7 fu q M = some M1 ∧ M1.1 q 1 = nI 0 ∧ M1.1 q 2 = nI 0 ∧ M1.1 q 3 = mI ∧ Zr (q + 11) M1 := by
  obtain ⟨M1, e1, v1, l1, z1⟩ := iC8_ok (q := q + 2) hfu (hZ.mono (by omega))
  have hr : (pt q (fun k => if k = 3 then (-1) else 0) M1).1 q = fun k => if k = 3 then (-1 : Int32) else 0 := if_pos rfl
  refine ⟨pt q (fun k => if k = 3 then (-1) else 0) M1, ?_, ?_, ?_, ?_, pt_Zr (z1.mono (by omega)) (by omega)⟩
  · unfold iC7
    rw [e1, bm_s, lt_eq]
  · rw [hr]; rfl
  · rw [hr]; rfl
  · rw [hr]; rfl
theorem start_x {fu a : Nat} {M : Mm} (hfu : 200000 ≤ fu) (hZ : Zr a M) : ∃ M1, iC10 fu a M = some M1 ∧ JX none tzS (fun _ => tzS) 0 0 (fun _ => tzS) (fun _ => 0) (fun _ => 0) 0 (nI 0) mI M1 a ∧ Zr (a + 241) M1 := by
  obtain ⟨M1, e1, a1, a2, a3, z1⟩ := iC7_ok (q := a + 1) hfu (hZ.mono (by omega))
  obtain ⟨M2, e2, v2, l2, z2⟩ := iC8_ok (q := a + 12) hfu (z1.mono (by omega))
  obtain ⟨M3, e3, a4, l3, z3⟩ := iC4_ok (q := a + 21) hfu (z2.mono (by omega))
  have V3 : VX tzS M3 (a + 12) := v2.fr fun c h1 h2 => (l3 c (by omega)).1
  obtain ⟨M4, e4, h4, f4⟩ := X4_begin (fu := fu) (h := a + 21) (o := 0) a4 (by omega) V3 tzS_pi.1.1 (by omega)
  have t4 := trunc_lw (a + 176) M4
  obtain ⟨M5, e5, v5, l5, z5⟩ := iC8_ok (q := a + 177) (M := trunc (a + 176) M4) hfu ((trunc_Zr _ _).mono (by omega))
  obtain ⟨M6, e6, v6, l6, z6⟩ := iC8_ok (q := a + 186) hfu (z5.mono (by omega))
  have low : ∀ c, a + 12 ≤ c → c < a + 177 → ¬ c = a + 176 → M6.1 c = M4.1 c := fun c h1 h2 h3 => (l6 c (by omega)).1.trans ((l5 c (by omega)).1.trans (t4 c (by omega)).1)
  have low1 : M6.1 (a + 1) = M1.1 (a + 1) := (l6 _ (by omega)).1.trans ((l5 _ (by omega)).1.trans ((t4 _ (by omega)).1.trans ((f4 _ (by omega)).1.trans ((l3 _ (by omega)).1.trans (l2 _ (by omega)).1))))
  have E7 : Eqv M6 (pt (a + 196) (fun _ => 0) M6) := pt_eqv z6 (by omega)
  have E8a := E7.tr (pt_eqv (c0 := a + 198 + 1) (E7.zr z6) (by omega))
  have E8 := E8a.tr (pt_eqv (c0 := a + 198) (E8a.zr z6) (by omega))
  have E9a := E8.tr (pt_eqv (c0 := a + 206 + 1 + 6) (E8.zr z6) (by omega))
  have E9b := E9a.tr (pt_eqv (c0 := a + 206 + 1) (E9a.zr z6) (by omega))
  have E9 := E9b.tr (pt_eqv (c0 := a + 206) (E9b.zr z6) (by omega))
  have E10 := E9.tr (pt_eqv (c0 := a + 220) (E9.zr z6) (by omega))
  have E11 := E10.tr (pt_eqv (c0 := a + 224) (E10.zr z6) (by omega))
  have E12 := E11.tr (pt_eqv (c0 := a + 229) (E11.zr z6) (by omega))
  have E13a := E12.tr (pt_eqv (c0 := a + 233 + 2) (E12.zr z6) (by omega))
  have E13 := E13a.tr (pt_eqv (c0 := a + 233) (E13a.zr z6) (by omega))
  obtain ⟨M13, hM13⟩ : ∃ M13, M13 = pt (a + 233) (fun _ => 0) (pt (a + 233 + 2) (fun _ => 0) (pt (a + 229) (fun _ => 0) (pt (a + 224) (fun _ => 0) (pt (a + 220) (fun _ => 0) (pt (a + 206) (fun _ => 0) (pt (a + 206 + 1) (fun _ => 0) (pt (a + 206 + 1 + 6) (fun _ => 0) (pt (a + 198) (fun _ => 0) (pt (a + 198 + 1) (fun _ => 0) (pt (a + 196) (fun _ => 0) M6)))))))))) := ⟨_, rfl⟩
  have E : Eqv M6 M13 := by rw [hM13]; exact E13
  have z13 : Zr (a + 195) M13 := E.zr z6
  have he : iC10 fu a M = some (pt a (fun _ => 0) M13) := by
    unfold iC10
    rw [e1, bm_s, e2, bm_s, e3, bm_s, e4, bm_s, lt_eq, e5, bm_s, e6, bm_s, hM13]
    rfl
  have pz := pt_lw (c0 := a) (fun _ => 0) M13
  have p0 : (pt a (fun _ => 0) M13).1 a = fun _ => 0 := if_pos rfl
  have zz : Zr (a + 195) (pt a (fun _ => 0) M13) := pt_Zr z13 (by omega)
  have cc : ∀ c, a + 12 ≤ c → c < a + 176 → (pt a (fun _ => 0) M13).1 c = M4.1 c := fun c h1 h2 => (pz c (by omega)).1.trans ((E c).1.trans (low c h1 (by omega) (by omega)))
  have c1 : (pt a (fun _ => 0) M13).1 (a + 1) = M1.1 (a + 1) := (pz _ (by omega)).1.trans ((E _).1.trans low1)
  refine ⟨_, he, ⟨⟨(V3.fr (M' := M4) fun c h1 h2 => (f4 c (by omega)).1).fr fun c h1 h2 => cc c (by omega) (by omega), Or.inl (by rw [p0]; rfl), Or.inl (by rw [p0]; rfl), Or.inl (by rw [p0]; rfl), Or.inl (by rw [p0]; rfl), Or.inl (by rw [p0]; rfl), ?_, Or.inl ⟨rfl, by rw [p0]; rfl, zz.mono (by omega)⟩⟩, h4.fr fun c h1 h2 => cc c (by omega) (by omega), fun j hj => Or.inl ⟨rfl, by rw [(zz (a + 195) (by omega)).1]; rfl⟩, ⟨by omega, by rw [c1]; exact a1, fun j hj => absurd hj (by omega)⟩, by rw [c1]; exact a2, by rw [c1]; exact a3⟩, zz.mono (by omega)⟩
  show (if a = a then (fun _ => none) else M13.2.2 a) 13 = none
  rw [if_pos rfl]
