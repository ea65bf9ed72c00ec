/-! The start: what the reference's constructor leaves. -/
def wrL (m : Nat) : List Nat → Nat → Mm → Mm
  | [], _, M => M
  | x :: xs, k, M => wrL m xs (k + 1) (wI M (m + 7) k (vp_nar .byte (nI x)))
theorem nar_b : ∀ x, x < 128 → vp_nar .byte (nI x) = nI x := by decide +kernel
theorem wrL_ok (m : Nat) : ∀ l k M, (∀ c, c ≠ m + 7 → (wrL m l k M).1 c = M.1 c) ∧ (wrL m l k M).2 = M.2 ∧ (∀ j, j < k → (wrL m l k M).1 (m + 7) j = M.1 (m + 7) j) ∧ ∀ i, i < l.length → (wrL m l k M).1 (m + 7) (k + i) = vp_nar .byte (nI (l.getD i 0))
  | [], _, _ => ⟨fun _ _ => rfl, rfl, fun _ _ => rfl, fun i hi => absurd hi (Nat.not_lt_zero _)⟩
  | x :: xs, k, M => by
    obtain ⟨h1, h2, h3, h4⟩ := wrL_ok m xs (k + 1) (wI M (m + 7) k (vp_nar .byte (nI x)))
    refine ⟨fun c hc => (h1 c hc).trans (wI_ne hc), h2, fun j hj => (h3 j (by omega)).trans (wI_nk (by omega)), fun i hi => ?_⟩
    cases i with
    | zero => exact (h3 k (by omega)).trans wI_eq
    | succ i =>
      have := h4 i (by simpa using hi)
      rw [show k + 1 + i = k + (i + 1) by omega] at this
      exact this
theorem lt_len : ltA.length = 69 := rfl
set_option maxRecDepth 100000 in
set_option maxHeartbeats 2000000 in
theorem iC11_eq (fu a : Nat) (M : Mm) : iC11 fu a M = bm (fX11_clearBank fu a 0 (pt a (fun k => if k = 17 then (-1) else 0) (wrL a ltA 0 M))) fun M71a => bm (fX11_startAnew fu a (trunc (a + 30) M71a)) fun M72a => some (trunc (a + 30) M72a) := rfl
theorem start_m {fu m : Nat} {M : Mm} (hfu : 200000 ≤ fu) (hZ : Zr m M) : ∃ M1, iC11 fu m M = some M1 ∧ JM tzS (fun _ => tzS) 0 0 (fun _ => tzS) (fun _ => 0) (fun _ => 0) 0 (nI 0) mI M1 m ∧ RFr m M M1 ∧ Zr (m + 30) M1 := by
  obtain ⟨w1, w2, w3, w4⟩ := wrL_ok m ltA 0 M
  rw [iC11_eq]
  obtain ⟨M69, h69⟩ : ∃ M69, M69 = wrL m ltA 0 M := ⟨_, rfl⟩
  rw [← h69] at w1 w2 w3 w4 ⊢
  obtain ⟨M70, h70⟩ : ∃ M70, M70 = pt m (fun k => if k = 17 then (-1) else 0) M69 := ⟨_, rfl⟩
  rw [← h70]
  have r70 : M70.1 m = fun k => if k = 17 then (-1 : Int32) else 0 := by rw [h70]; exact if_pos rfl
  have c70 : ∀ c, c ≠ m → M70.1 c = M69.1 c := fun c hc => by rw [h70]; exact if_neg hc
  have d70 : M70.2.1 = M.2.1 := by rw [h70]; show M69.2.1 = _; rw [w2]
  have f70 : ∀ c, M70.2.2 c = M.2.2 c := fun c => by
    rw [h70]
    show (if c = m then _ else M69.2.2 c) = _
    by_cases e : c = m
    · rw [if_pos e]; exact (hZ c (by omega)).2.2.symm
    · rw [if_neg e, w2]
  obtain ⟨M71, e71, s1, s2, s3⟩ := X11_clearBank (fu := fu) (b := 0) (m := m) (M := M70) hfu (by omega)
  have e71 : fX11_clearBank fu m 0 M70 = some M71 := e71
  rw [e71, bm_s]
  have t1 := trunc_lw (m + 30) M71
  have S1 : RS tzS (trunc (m + 30) M71) m 0 := by
    unfold RS
    rw [(t1 _ (by omega)).1, (t1 _ (by omega)).1, (t1 _ (by omega)).1, (t1 _ (by omega)).1]
    exact s1
  have m71 : (trunc (m + 30) M71).1 m = fun k => if k = 17 then (-1 : Int32) else 0 := by rw [(t1 m (by omega)).1, s3, r70]
  obtain ⟨M72, e72, q1, q2, q3, q4, q5, q6, q7⟩ := X11_startAnew (fu := fu) (b := 0) hfu (by omega) (by rw [m71]; rfl) S1
  rw [e72, bm_s]
  have t2 := trunc_lw (m + 30) M72
  have sl : ∀ j, j ≠ 50 → j ≠ 51 → (trunc (m + 30) M72).1 m j = if j = 17 then (-1 : Int32) else 0 := fun j h1 h2 => by
    rw [(t2 m (by omega)).1, q6 j h1 h2, m71]
  have ce : ∀ c, c < m + 30 → c ≠ m → c ≠ m + 1 → c ≠ m + 29 → (trunc (m + 30) M72).1 c = M71.1 c := fun c h0 h1 h2 h3 => by
    rw [(t2 c h0).1, q5 c h1 h2 h3, (t1 c h0).1]
  refine ⟨_, rfl, ⟨⟨⟨0, by omega, ?_, ?_, ?_, ?_⟩, fun k hk => ?_⟩, ⟨by omega, ?_, ?_, fun i hi => absurd hi (by omega), fun i h1 h2 => absurd h2 (by omega)⟩, fun j hj => Or.inl ⟨rfl, ?_⟩, ⟨by omega, ?_, fun j hj => absurd hj (by omega), fun j hj => ?_⟩, ?_, ?_⟩, ⟨fun c hc => ?_, ?_⟩, trunc_Zr _ _⟩
  · rw [sl 5 (by omega) (by omega)]; rfl
  · rw [ce _ (by omega) (by omega) (by omega) (by omega)]; exact s1.1.1
  · rw [ce _ (by omega) (by omega) (by omega) (by omega)]; exact s1.1.2.1
  · rw [ce _ (by omega) (by omega) (by omega) (by omega)]; exact s1.1.2.2
  · rw [(t2 _ (by omega)).1]; exact q1 k hk
  · rw [(t2 _ (by omega)).1]; exact q2
  · rw [(t2 _ (by omega)).1]; exact q3
  · rw [(t2 _ (by omega)).1]; exact q4 j hj
  · rw [sl 7 (by omega) (by omega)]; rfl
  · rw [ce _ (by omega) (by omega) (by omega) (by omega), s2.1 _ (by omega) (by omega), c70 _ (by omega)]
    have := w4 j (by rw [lt_len]; exact hj)
    rw [Nat.zero_add] at this
    rw [this]
    exact nar_b _ (lt_lt j hj)
  · rw [sl 16 (by omega) (by omega)]; rfl
  · rw [sl 17 (by omega) (by omega)]; rfl
  · by_cases h : c < m
    · rw [ce c (by omega) (by omega) (by omega) (by omega), s2.1 c (by omega) (by omega), c70 c (by omega), w1 c (by omega)]
    · rw [(trunc_Zr (m + 30) M72 c (by omega)).1, (hZ c (by omega)).1]
  · have e1 : ∀ c, (trunc (m + 30) M72).2.1 c = M.2.1 c := fun c => by
      by_cases h : c < m + 30
      · rw [(t2 c h).2.1, q7, (t1 c h).2.1, s2.2.2.2.2, d70]
      · rw [(trunc_Zr (m + 30) M72 c (by omega)).2.1, (hZ c (by omega)).2.1]
    have e2 : ∀ c, (trunc (m + 30) M72).2.2 c = M.2.2 c := fun c => by
      by_cases h : c < m + 30
      · rw [(t2 c h).2.2, q7, (t1 c h).2.2, s2.2.2.2.2, f70]
      · rw [(trunc_Zr (m + 30) M72 c (by omega)).2.2, (hZ c (by omega)).2.2]
    exact Prod.ext (funext e1) (funext e2)
theorem start_j {fu a : Nat} {M : Mm} (hfu : 200000 ≤ fu) (hZ : Zr a M) : ∃ M1 M2, iC10 fu a M = some M1 ∧ iC11 fu (a + 241) M1 = some M2 ∧ JJ none M2 a ∧ Zr (a + 241) M1 ∧ Zr (a + 271) M2 := by
  obtain ⟨M1, e1, x1, z1⟩ := start_x hfu hZ
  obtain ⟨M2, e2, y1, y2, z2⟩ := start_m hfu z1
  exact ⟨M1, M2, e1, e2, ⟨tzS, _, _, _, _, _, _, _, _, _, ⟨tzS_pi.1.1, rfl, fun _ _ => ⟨tzS_pi.1.1, rfl, rfl, rfl⟩, fun j hj hb => absurd hb (show ¬ (0 : Nat) = 1 by decide)⟩, x1.rf y2, y1⟩, z1, z2⟩
