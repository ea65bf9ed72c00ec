/-! Acts: what they make of a store, and the class's side of them. -/
def adS (S : Sto) (x y z : Nat) : Sto := fun j => if j = 1 then S 1 + 1 else if j = 2 + 3 * S 1 then x else if j = 3 + 3 * S 1 then y else if j = 4 + 3 * S 1 then z else S j
def drS (S : Sto) (i : Nat) : Sto := fun j => if j = 1 then S 1 - 1 else if 2 + 3 * i ≤ j ∧ j < 2 + 3 * (S 1 - 1) then S (j + 3) else S j
theorem Gd.of {S S' : Sto} (hG : Gd S) (g : Gm S S') (h0 : S' 0 < 5) (h1 : S' 1 ≤ 12) (hl : ∀ k, S' k ≤ 1024) (hs : ∀ i, i < S' 1 → S' (2 + 3 * i) ≤ S' (3 + 3 * i) ∧ S' (3 + 3 * i) < 2 ^ S 140 ∧ S' (4 + 3 * i) < 5) (hr : ∀ r, r < S 141 → Rg (S 140) (S' (38 + 3 * r)) (S' (39 + 3 * r)) (S' (40 + 3 * r))) (hd : ∀ r q, r < S 141 → q < S 141 → r ≠ q → 0 < S' (39 + 3 * r) → ¬ (S' (38 + 3 * r) = S' (38 + 3 * q) ∧ S' (39 + 3 * r) = S' (39 + 3 * q))) (hp : 0 < S 142 → ∀ p, p < 8 → S' (68 + p) < 5) (hq : ∀ p, p < 2 ^ S 140 / 16 → S' (76 + p) ≤ 5) : Gd S' := by
  obtain ⟨g1, g2, g3⟩ := g
  unfold Gd
  rw [g1, g2, g3]
  exact ⟨⟨hG.1.1, hG.1.2.1, hG.1.2.2.1, hG.1.2.2.2.1, h0, h1⟩, hl, hG.2.2.1, hs, hr, hd, hp, hq⟩
theorem adS_e {S : Sto} (hm : S 1 < 12) (x y z : Nat) : ∀ j, (38 ≤ j ∨ j = 0) → adS S x y z j = S j := fun j hj => by
  unfold adS
  rw [if_neg (by omega), if_neg (by omega), if_neg (by omega), if_neg (by omega)]
theorem adS_g {S : Sto} (hm : S 1 < 12) (x y z : Nat) : Gm S (adS S x y z) := ⟨adS_e hm x y z _ (by omega), adS_e hm x y z _ (by omega), adS_e hm x y z _ (by omega)⟩
theorem Gd.ads {S : Sto} (hG : Gd S) (hm : S 1 < 12) {x y z : Nat} (hxy : x ≤ y) (hy : y < 2 ^ S 140) (hz : z < 5) : Gd (adS S x y z) := by
  have e := adS_e hm x y z
  have hA := hG.ad
  refine hG.of (adS_g hm x y z) ?_ ?_ (fun k => ?_) (fun i hi => ?_) (fun r hr => ?_) (fun r q hr hq hrq h0 => ?_) (fun h p hp => ?_) (fun p hp => ?_)
  · rw [e 0 (by omega)]; exact hG.1.2.2.2.2.1
  · show S 1 + 1 ≤ 12
    omega
  · have := hG.2.1 k
    unfold adS
    split
    · omega
    · split
      · omega
      · split
        · omega
        · split <;> omega
  · have hi : i < S 1 + 1 := hi
    unfold adS
    by_cases c : i = S 1
    · subst c
      rw [if_neg (by omega), if_pos rfl, if_neg (by omega), if_neg (by omega), if_pos rfl, if_neg (by omega), if_neg (by omega), if_neg (by omega), if_pos rfl]
      exact ⟨hxy, hy, hz⟩
    · rw [if_neg (by omega), if_neg (by omega), if_neg (by omega), if_neg (by omega), if_neg (by omega), if_neg (by omega), if_neg (by omega), if_neg (by omega), if_neg (by omega), if_neg (by omega), if_neg (by omega), if_neg (by omega)]
      exact hG.2.2.2.1 i (by omega)
  · rw [e _ (by omega), e _ (by omega), e _ (by omega)]
    exact hG.2.2.2.2.1 r hr
  · rw [e _ (by omega)] at h0
    rw [e _ (by omega), e _ (by omega), e _ (by omega), e _ (by omega)]
    exact hG.2.2.2.2.2.1 r q hr hq hrq h0
  · rw [e _ (by omega)]
    exact hG.2.2.2.2.2.2.1 h p hp
  · rw [e _ (by omega)]
    exact hG.2.2.2.2.2.2.2 p hp
theorem drS_e {S : Sto} (hG : Gd S) (i : Nat) : ∀ j, (38 ≤ j ∨ j = 0) → drS S i j = S j := fun j hj => by
  have := hG.1.2.2.2.2.2
  unfold drS
  rw [if_neg (by omega), if_neg (by omega)]
theorem drS_g {S : Sto} (hG : Gd S) (i : Nat) : Gm S (drS S i) := ⟨drS_e hG i _ (by omega), drS_e hG i _ (by omega), drS_e hG i _ (by omega)⟩
theorem drS_s {S : Sto} {i r c : Nat} (hc : c < 3) (hr : r < S 1 - 1) : drS S i (2 + c + 3 * r) = if i ≤ r then S (2 + c + 3 * (r + 1)) else S (2 + c + 3 * r) := by
  unfold drS
  rw [if_neg (by omega)]
  by_cases h : i ≤ r
  · rw [if_pos (by omega), if_pos h]
    congr 1
  · rw [if_neg (by omega), if_neg h]
theorem Gd.drs {S : Sto} (hG : Gd S) {i : Nat} (hi : i < S 1) : Gd (drS S i) := by
  have e := drS_e hG i
  have h12 := hG.1.2.2.2.2.2
  refine hG.of (drS_g hG i) ?_ ?_ (fun k => ?_) (fun r hr => ?_) (fun r hr => ?_) (fun r q hr hq hrq h0 => ?_) (fun h p hp => ?_) (fun p hp => ?_)
  · rw [e 0 (by omega)]; exact hG.1.2.2.2.2.1
  · show S 1 - 1 ≤ 12
    omega
  · have h1 := hG.2.1 k
    have h2 := hG.2.1 (k + 3)
    unfold drS
    split
    · omega
    · split <;> omega
  · have hr : r < S 1 - 1 := hr
    have t0 := drS_s (S := S) (i := i) (c := 0) (by omega) hr
    have t1 := drS_s (S := S) (i := i) (c := 1) (by omega) hr
    have t2 := drS_s (S := S) (i := i) (c := 2) (by omega) hr
    rw [Nat.add_zero] at t0
    rw [t0, show 3 + 3 * r = 2 + 1 + 3 * r by omega, t1, show 4 + 3 * r = 2 + 2 + 3 * r by omega, t2]
    by_cases c : i ≤ r
    · rw [if_pos c, if_pos c, if_pos c]
      exact hG.2.2.2.1 (r + 1) (by omega)
    · rw [if_neg c, if_neg c, if_neg c]
      exact hG.2.2.2.1 r (by omega)
  · rw [e _ (by omega), e _ (by omega), e _ (by omega)]
    exact hG.2.2.2.2.1 r hr
  · rw [e _ (by omega)] at h0
    rw [e _ (by omega), e _ (by omega), e _ (by omega), e _ (by omega)]
    exact hG.2.2.2.2.2.1 r q hr hq hrq h0
  · rw [e _ (by omega)]
    exact hG.2.2.2.2.2.2.1 h p hp
  · rw [e _ (by omega)]
    exact hG.2.2.2.2.2.2.2 p hp
theorem upS_n {S : Sto} {k v j : Nat} (h : j ≠ k) : upS S k v j = S j := if_neg h
theorem upS_y {S : Sto} {k v : Nat} : upS S k v k = v := if_pos rfl
theorem upS_g {S : Sto} {k v : Nat} (hk : k < 140) : Gm S (upS S k v) := ⟨upS_n (by omega), upS_n (by omega), upS_n (by omega)⟩
theorem upS_l {S : Sto} (hG : Gd S) {k v : Nat} (hv : v ≤ 1024) : ∀ j, upS S k v j ≤ 1024 := fun j => by
  unfold upS
  split
  · exact hv
  · exact hG.2.1 j
theorem Gd.upd0 {S : Sto} (hG : Gd S) {v : Nat} (hv : v < 5) : Gd (upS S 0 v) := by
  refine hG.of (upS_g (by omega)) ?_ ?_ (upS_l hG (by omega)) (fun i hi => ?_) (fun r hr => ?_) (fun r q hr hq hrq h0 => ?_) (fun h p hp => ?_) (fun p hp => ?_)
  · rw [upS_y]; exact hv
  · rw [upS_n (by omega)]; exact hG.1.2.2.2.2.2
  · rw [upS_n (by omega)] at hi
    rw [upS_n (by omega), upS_n (by omega), upS_n (by omega)]
    exact hG.2.2.2.1 i hi
  · rw [upS_n (by omega), upS_n (by omega), upS_n (by omega)]
    exact hG.2.2.2.2.1 r hr
  · rw [upS_n (by omega)] at h0
    rw [upS_n (by omega), upS_n (by omega), upS_n (by omega), upS_n (by omega)]
    exact hG.2.2.2.2.2.1 r q hr hq hrq h0
  · rw [upS_n (by omega)]
    exact hG.2.2.2.2.2.2.1 h p hp
  · rw [upS_n (by omega)]
    exact hG.2.2.2.2.2.2.2 p hp
theorem Gd.up68 {S : Sto} (hG : Gd S) {i v : Nat} (hi : i < 8) (hv : v < 5) : Gd (upS S (68 + i) v) := by
  have h12 := hG.1.2.2.2.2.2
  have h10 := hG.1.2.2.2.1
  refine hG.of (upS_g (by omega)) ?_ ?_ (upS_l hG (by omega)) (fun i hi => ?_) (fun r hr => ?_) (fun r q hr hq hrq h0 => ?_) (fun h p hp => ?_) (fun p hp => ?_)
  · rw [upS_n (by omega)]; exact hG.1.2.2.2.2.1
  · rw [upS_n (by omega)]; exact hG.1.2.2.2.2.2
  · rw [upS_n (by omega)] at hi
    rw [upS_n (by omega), upS_n (by omega), upS_n (by omega)]
    exact hG.2.2.2.1 i hi
  · rw [upS_n (by omega), upS_n (by omega), upS_n (by omega)]
    exact hG.2.2.2.2.1 r hr
  · rw [upS_n (by omega)] at h0
    rw [upS_n (by omega), upS_n (by omega), upS_n (by omega), upS_n (by omega)]
    exact hG.2.2.2.2.2.1 r q hr hq hrq h0
  · by_cases c : p = i
    · subst c
      rw [upS_y]; exact hv
    · rw [upS_n (by omega)]
      exact hG.2.2.2.2.2.2.1 h p hp
  · rw [upS_n (by omega)]
    exact hG.2.2.2.2.2.2.2 p hp
theorem Gd.up76 {S : Sto} (hG : Gd S) {i v : Nat} (hi : i < 64) (hv : v ≤ 5) : Gd (upS S (76 + i) v) := by
  have h12 := hG.1.2.2.2.2.2
  have h10 := hG.1.2.2.2.1
  refine hG.of (upS_g (by omega)) ?_ ?_ (upS_l hG (by omega)) (fun i hi => ?_) (fun r hr => ?_) (fun r q hr hq hrq h0 => ?_) (fun h p hp => ?_) (fun p hp => ?_)
  · rw [upS_n (by omega)]; exact hG.1.2.2.2.2.1
  · rw [upS_n (by omega)]; exact hG.1.2.2.2.2.2
  · rw [upS_n (by omega)] at hi
    rw [upS_n (by omega), upS_n (by omega), upS_n (by omega)]
    exact hG.2.2.2.1 i hi
  · rw [upS_n (by omega), upS_n (by omega), upS_n (by omega)]
    exact hG.2.2.2.2.1 r hr
  · rw [upS_n (by omega)] at h0
    rw [upS_n (by omega), upS_n (by omega), upS_n (by omega), upS_n (by omega)]
    exact hG.2.2.2.2.2.1 r q hr hq hrq h0
  · rw [upS_n (by omega)]
    exact hG.2.2.2.2.2.2.1 h p hp
  · by_cases c : p = i
    · subst c
      rw [upS_y]; exact hv
    · rw [upS_n (by omega)]
      exact hG.2.2.2.2.2.2.2 p hp
theorem putS_e {S : Sto} {r x y z : Nat} (hr : r < 10) : ∀ j, (j < 38 ∨ 68 ≤ j) → putS S r x y z j = S j := fun j hj => by
  unfold putS
  rw [if_neg (by omega), if_neg (by omega), if_neg (by omega)]
theorem putS_g {S : Sto} {r x y z : Nat} (hr : r < 10) : Gm S (putS S r x y z) := ⟨putS_e hr _ (by omega), putS_e hr _ (by omega), putS_e hr _ (by omega)⟩
theorem putS_y (S : Sto) (r x y z : Nat) : putS S r x y z (38 + 3 * r) = x ∧ putS S r x y z (39 + 3 * r) = y ∧ putS S r x y z (40 + 3 * r) = z := by
  unfold putS
  refine ⟨if_pos rfl, ?_, ?_⟩
  · rw [if_neg (by omega), if_pos rfl]
  · rw [if_neg (by omega), if_neg (by omega), if_pos rfl]
theorem putS_n (S : Sto) {r q : Nat} (x y z : Nat) (h : q ≠ r) : putS S r x y z (38 + 3 * q) = S (38 + 3 * q) ∧ putS S r x y z (39 + 3 * q) = S (39 + 3 * q) ∧ putS S r x y z (40 + 3 * q) = S (40 + 3 * q) := by
  unfold putS
  refine ⟨?_, ?_, ?_⟩
  · rw [if_neg (by omega), if_neg (by omega), if_neg (by omega)]
  · rw [if_neg (by omega), if_neg (by omega), if_neg (by omega)]
  · rw [if_neg (by omega), if_neg (by omega), if_neg (by omega)]
theorem Gd.put {S : Sto} (hG : Gd S) {r x y z : Nat} (hr : r < S 141) (hR : Rg (S 140) x y z) (hD : 0 < y → ∀ q, q < S 141 → q ≠ r → ¬ (S (38 + 3 * q) = x ∧ S (39 + 3 * q) = y)) : Gd (putS S r x y z) := by
  have h12 := hG.1.2.2.2.2.2
  have h10 := hG.1.2.2.2.1
  have hA := hG.ad
  have e := putS_e (S := S) (r := r) (x := x) (y := y) (z := z) (by omega)
  have hb : x ≤ 1024 ∧ y ≤ 1024 ∧ z ≤ 1024 := by
    rcases hR with ⟨h1, h2, h3⟩ | ⟨h1, e1, h2, h3, q, h4, h5⟩ <;> omega
  refine hG.of (putS_g (by omega)) ?_ ?_ (fun k => ?_) (fun i hi => ?_) (fun q hq => ?_) (fun q1 q2 h1 h2 h3 h0 => ?_) (fun h p hp => ?_) (fun p hp => ?_)
  · rw [e _ (by omega)]; exact hG.1.2.2.2.2.1
  · rw [e _ (by omega)]; exact hG.1.2.2.2.2.2
  · have := hG.2.1 k
    unfold putS
    split
    · omega
    · split
      · omega
      · split <;> omega
  · rw [e _ (by omega)] at hi
    rw [e _ (by omega), e _ (by omega), e _ (by omega)]
    exact hG.2.2.2.1 i hi
  · by_cases c : q = r
    · subst c
      obtain ⟨p1, p2, p3⟩ := putS_y S q x y z
      rw [p1, p2, p3]
      exact hR
    · obtain ⟨p1, p2, p3⟩ := putS_n S x y z c
      rw [p1, p2, p3]
      exact hG.2.2.2.2.1 q hq
  · by_cases c1 : q1 = r
    · subst c1
      obtain ⟨p1, p2, _⟩ := putS_y S q1 x y z
      obtain ⟨p4, p5, _⟩ := putS_n S x y z (q := q2) (r := q1) (by omega)
      rw [p2] at h0
      rw [p1, p2, p4, p5]
      exact fun w => hD h0 q2 h2 (by omega) ⟨w.1.symm, w.2.symm⟩
    · obtain ⟨p1, p2, _⟩ := putS_n S x y z c1
      rw [p2] at h0
      rw [p1, p2]
      by_cases c2 : q2 = r
      · subst c2
        obtain ⟨p4, p5, _⟩ := putS_y S q2 x y z
        rw [p4, p5]
        exact fun w => hD (by omega) q1 h1 (by omega) w
      · obtain ⟨p4, p5, _⟩ := putS_n S x y z c2
        rw [p4, p5]
        exact hG.2.2.2.2.2.1 q1 q2 h1 h2 h3 h0
  · rw [e _ (by omega)]
    exact hG.2.2.2.2.2.2.1 h p hp
  · rw [e _ (by omega)]
    exact hG.2.2.2.2.2.2.2 p hp
/-- an act of the class, one by which other kinds may be wanted, one by which not -/
def XW (a : Nat) (Hs : Nat → Sto) (k : Nat) (M : Mm) (S' : Sto) (r : Int32) (z : Int32 × Mm) : Prop := z.1 = r ∧ VX S' z.2 (a + 12) ∧ HX (ntH Hs k S') (ntK k) 0 z.2 (a + 21) ∧ WD a M z.2
def XK (a : Nat) (Hs : Nat → Sto) (k : Nat) (M : Mm) (S' : Sto) (r : Int32) (z : Int32 × Mm) : Prop := z.1 = r ∧ VX S' z.2 (a + 12) ∧ HX (ntH Hs k S') (ntK k) 0 z.2 (a + 21) ∧ KD a M z.2
section AX
variable {fu a k u : Nat} {S : Sto} {M : Mm} {Hs : Nat → Sto}
theorem HX.pre {M' : Mm} (hH : HX Hs k u M (a + 21)) (hf : Fr (a + 12) 9 M M') : HX Hs k u M' (a + 21) := hH.fr fun c k1 k2 => hf.at (by omega)
theorem X10_isKind_y {v : Nat} (hv : v < 5) : fX10_isKind fu (nI v) = some (nI 1) := by
  obtain ⟨w, e, ⟨rfl, _⟩ | ⟨rfl, h⟩⟩ := X10_isKind (fu := fu) (nI v)
  · exact e
  · exact absurd rfl (h v hv)
theorem X10_isKind_n {x : Int32} (hx : ∀ j, j < 5 → x ≠ nI j) : fX10_isKind fu x = some (nI 0) := by
  obtain ⟨w, e, ⟨rfl, j, hj, h⟩ | ⟨rfl, h⟩⟩ := X10_isKind (fu := fu) x
  · exact absurd h (hx j hj)
  · exact e
theorem X10_span_y (hV : VX S M (a + 12)) (hG : Gd S) (hH : HX Hs k u M (a + 21)) (hm : S 1 < 12) {i j v : Nat} (hij : i ≤ j) (hj : j < 2 ^ S 140) (hv : v < 5) : Wp (fX10_span fu a (nI i) (nI j) (nI v) M) (XW a Hs k M (adS S i j v) (nI (S 1))) := by
  have hA := hG.ad
  unfold fX10_span fX10_span_j25
  simp (disch := omega) only [zi_li, zi_m, zi_m1, nI_add, zi_sub, zi_mul, zi_addm, zi_m_lt, zi_lt_m, zi_m_le, zi_le_m, zi_eq_m, zi_m_eq, nI_ltI, nI_leI, nI_eq, nI_clamp, zi_div, lt_eq, bm_s, bi_s, bl_s, bw_s, gd, hV.1.1, hV.1.2.2.2.1, X10_isKind_y hv, if_pos, if_neg, ite_true, ite_false, or_false, false_or, and_true, true_and, not_true, not_false_iff, true_or, or_true, Nat.not_lt_zero]
  rw [wp_bm]
  refine (X8_addSpan hV hG hm i j v).mono fun M1 q => ?_
  obtain ⟨q1, q2⟩ := q
  have q1 : VX (adS S i j v) M1 (a + 12) := q1
  rw [wp_bm]
  refine (X10_wantedDone q1 (hG.ads hm hij hj hv) (hH.pre q2)).mono fun M2 p => ?_
  obtain ⟨p1, p2, p3⟩ := p
  have e : M2.1 (a + 12) 3 = nI (S 1 + 1) := p1.1.2.2.2.1
  rw [wp_some, e]
  refine ⟨?_, p1, p2, p3.pre q2⟩
  simp (disch := omega) only [zi_li, zi_m, zi_m1, nI_add, zi_sub, zi_mul, zi_addm, zi_m_lt, zi_lt_m, zi_m_le, zi_le_m, zi_eq_m, zi_m_eq, nI_ltI, nI_leI, nI_eq, nI_clamp, zi_div, lt_eq, bm_s, bi_s, bl_s, bw_s, gd]
  rfl
theorem X10_span_n (hV : VX S M (a + 12)) (hG : Gd S) {x1 x2 x3 : Int32} (h : ¬ ∃ i j v, x1 = nI i ∧ x2 = nI j ∧ x3 = nI v ∧ i ≤ j ∧ j < 2 ^ S 140 ∧ v < 5 ∧ S 1 < 12) : fX10_span fu a x1 x2 x3 M = some (mI, M) := by
  have hA := hG.ad
  have h12 := hG.1.2.2.2.2.2
  have n0 : fX10_span_j24 fu a x1 x2 x3 M = some (mI, M) := rfl
  unfold fX10_span
  rw [n0, hV.1.1]
  by_cases c1 : x1 < 0
  · rw [if_pos c1]
  rw [if_neg c1]
  by_cases c2 : x2 < x1
  · rw [if_pos c2]
  rw [if_neg c2]
  by_cases c3 : nI (2 ^ S 140) ≤ x2
  · rw [if_pos c3]
  rw [if_neg c3]
  obtain ⟨i, hi, rfl⟩ := nI_of c1
  rcases i32_cases x2 with c4 | ⟨j, hj, rfl⟩
  · exact absurd (neg_lt c4 hi) c2
  have t1 : i ≤ j := Nat.not_lt.mp fun z => c2 ((nI_ltI hj hi).mpr z)
  have t2 : j < 2 ^ S 140 := Nat.not_le.mp fun z => c3 ((nI_leI (by omega) hj).mpr z)
  unfold fX10_span_j25
  rw [if_neg (by decide)]
  by_cases c5 : ∃ v, v < 5 ∧ x3 = nI v
  · obtain ⟨v, hv, rfl⟩ := c5
    have t3 : ¬ S 1 < 12 := fun z => h ⟨i, j, v, rfl, rfl, rfl, t1, t2, hv, z⟩
    have t4 : ¬ nI (S 1) < (12 : Int32) := fun z => t3 ((nI_ltI (a := S 1) (b := 12) (by omega) (by omega)).mp z)
    rw [X10_isKind_y hv, bi_s, if_neg (by decide), hV.1.2.2.2.1, if_neg t4]
    rfl
  · rw [X10_isKind_n (fun j hj e => c5 ⟨j, hj, e⟩), bi_s, if_pos (by decide)]
    rfl
theorem X8_dropSpan {b i : Nat} (hfu : 200000 ≤ fu) (hV : VX S M b) (hG : Gd S) (hi : i < S 1) : Wp (fX8_dropSpan fu b (nI i) M) (fun M' => VX (drS S i) M' b ∧ Fr b 9 M M') := by
  have h12 := hG.1.2.2.2.2.2
  unfold fX8_dropSpan fX8_dropSpan_l2
  refine lp_ho (fun t z => z.1 = nI (i + t) ∧ (∀ c y, 1 ≤ c → c < 4 → z.2.1 (b + c) y = if i ≤ y ∧ y < i + t then M.1 (b + c) (y + 1) else M.1 (b + c) y) ∧ (∀ c, c ≠ b + 1 → c ≠ b + 2 → c ≠ b + 3 → z.2.1 c = M.1 c) ∧ z.2.2 = M.2) _ (S 1 - 1 - i) (i := 0) (by omega) (by omega) ⟨rfl, fun c y _ _ => by rw [if_neg (by omega)], fun c _ _ _ => rfl, rfl⟩ (fun t z ht hz rec hrec => ?_) (fun z hz rec => ?_)
  · obtain ⟨z1, z2⟩ := z
    obtain ⟨rfl, g1, g2, g3⟩ := hz
    dsimp only at *
    have eb : z2.1 b 3 = nI (S 1) := by rw [g2 b (by omega) (by omega) (by omega)]; exact hV.1.2.2.2.1
    simp (disch := omega) only [fX8_dropSpan_b2, eb, zi_li, zi_m, zi_m1, nI_add, zi_sub, zi_mul, zi_addm, zi_m_lt, zi_lt_m, zi_m_le, zi_le_m, zi_eq_m, zi_m_eq, nI_ltI, nI_leI, nI_eq, nI_clamp, zi_div, lt_eq, bm_s, bi_s, bl_s, bw_s, gd, if_pos, if_neg, ite_true, ite_false, or_false, false_or, and_true, true_and, not_true, not_false_iff, true_or, or_true, Nat.not_lt_zero, wI_ne, wI_eq, wI_nk, wIs_ne, wIs_eq]
    refine hrec _ ⟨rfl, fun c y hc1 hc2 => ?_, fun c h1 h2 h3 => ?_, g3⟩
    · have hc : c = 1 ∨ c = 2 ∨ c = 3 := by omega
      have key : ∀ c', 1 ≤ c' → c' < 4 → (if y = i + t then z2.1 (b + c') (i + t + 1) else z2.1 (b + c') y) = if i ≤ y ∧ y < i + (t + 1) then M.1 (b + c') (y + 1) else M.1 (b + c') y := fun c' k1 k2 => by
        by_cases cy : y = i + t
        · subst cy
          rw [if_pos rfl, g1 c' _ k1 k2, if_neg (by omega), if_pos (by omega)]
        · rw [if_neg cy, g1 c' _ k1 k2]
          by_cases cy2 : i ≤ y ∧ y < i + t
          · rw [if_pos cy2, if_pos (by omega)]
          · rw [if_neg cy2, if_neg (by omega)]
      rcases hc with rfl | rfl | rfl
      · rw [← key 1 (by omega) (by omega)]
        by_cases cy : y = i + t
        · subst cy
          simp (disch := omega) only [wI_ne, wI_eq, wI_nk, wIs_ne, wIs_eq, if_pos, if_neg, ite_true, ite_false, or_false, false_or, and_true, true_and, not_true, not_false_iff, true_or, or_true, Nat.not_lt_zero]
        · simp (disch := omega) only [wI_ne, wI_eq, wI_nk, wIs_ne, wIs_eq, if_pos, if_neg, ite_true, ite_false, or_false, false_or, and_true, true_and, not_true, not_false_iff, true_or, or_true, Nat.not_lt_zero]
      · rw [← key 2 (by omega) (by omega)]
        by_cases cy : y = i + t
        · subst cy
          simp (disch := omega) only [wI_ne, wI_eq, wI_nk, wIs_ne, wIs_eq, if_pos, if_neg, ite_true, ite_false, or_false, false_or, and_true, true_and, not_true, not_false_iff, true_or, or_true, Nat.not_lt_zero]
        · simp (disch := omega) only [wI_ne, wI_eq, wI_nk, wIs_ne, wIs_eq, if_pos, if_neg, ite_true, ite_false, or_false, false_or, and_true, true_and, not_true, not_false_iff, true_or, or_true, Nat.not_lt_zero]
      · rw [← key 3 (by omega) (by omega)]
        by_cases cy : y = i + t
        · subst cy
          simp (disch := omega) only [wI_ne, wI_eq, wI_nk, wIs_ne, wIs_eq, if_pos, if_neg, ite_true, ite_false, or_false, false_or, and_true, true_and, not_true, not_false_iff, true_or, or_true, Nat.not_lt_zero]
        · simp (disch := omega) only [wI_ne, wI_eq, wI_nk, wIs_ne, wIs_eq, if_pos, if_neg, ite_true, ite_false, or_false, false_or, and_true, true_and, not_true, not_false_iff, true_or, or_true, Nat.not_lt_zero]
    · simp (disch := omega) only [wI_ne, wI_eq, wI_nk, wIs_ne, wIs_eq]
      exact g2 c h1 h2 h3
  · obtain ⟨z1, z2⟩ := z
    obtain ⟨rfl, g1, g2, g3⟩ := hz
    dsimp only at *
    have eb : z2.1 b 3 = nI (S 1) := by rw [g2 b (by omega) (by omega) (by omega)]; exact hV.1.2.2.2.1
    have et : i + (S 1 - 1 - i) = S 1 - 1 := by omega
    rw [et] at g1 ⊢
    simp (disch := omega) only [fX8_dropSpan_b2, fX8_dropSpan_j60, eb, zi_li, zi_m, zi_m1, nI_add, zi_sub, zi_mul, zi_addm, zi_m_lt, zi_lt_m, zi_m_le, zi_le_m, zi_eq_m, zi_m_eq, nI_ltI, nI_leI, nI_eq, nI_clamp, zi_div, lt_eq, bm_s, bi_s, bl_s, bw_s, gd, if_pos, if_neg, ite_true, ite_false, or_false, false_or, and_true, true_and, not_true, not_false_iff, true_or, or_true, Nat.not_lt_zero]
    rw [wp_some]
    obtain ⟨⟨a0, a1, a2, a3, a4⟩, a5, a6, a7, a8⟩ := hV
    have e := drS_e hG i
    refine ⟨?_, fun c hc => ⟨?_, by rw [wI_2, g3], by rw [wI_2, g3]⟩⟩
    · unfold VX
      rw [e 140 (by omega), e 141 (by omega), e 142 (by omega), e 0 (by omega)]
      have gb := g2 b (by omega) (by omega) (by omega)
      refine ⟨⟨?_, ?_, ?_, ?_, ?_⟩, fun r hr => ?_, fun h p hp => ?_, fun r hr => ?_, fun p hp => ?_⟩
      · simp (disch := omega) only [wI_ne, wI_eq, wI_nk, wIs_ne, wIs_eq, gb, a0]
      · simp (disch := omega) only [wI_ne, wI_eq, wI_nk, wIs_ne, wIs_eq, gb, a1]
      · simp (disch := omega) only [wI_ne, wI_eq, wI_nk, wIs_ne, wIs_eq, gb, a2]
      · simp (disch := omega) only [wI_ne, wI_eq, wI_nk, wIs_ne, wIs_eq]
        rfl
      · simp (disch := omega) only [wI_ne, wI_eq, wI_nk, wIs_ne, wIs_eq, gb, a4]
      · have hr : r < S 1 - 1 := hr
        have t0 := drS_s (S := S) (i := i) (c := 0) (by omega) hr
        have t1 := drS_s (S := S) (i := i) (c := 1) (by omega) hr
        have t2 := drS_s (S := S) (i := i) (c := 2) (by omega) hr
        rw [Nat.add_zero] at t0
        simp (disch := omega) only [wI_ne, wI_eq, wI_nk, wIs_ne, wIs_eq]
        rw [t0, show 3 + 3 * r = 2 + 1 + 3 * r by omega, t1, show 4 + 3 * r = 2 + 2 + 3 * r by omega, t2, g1 1 r (by omega) (by omega), g1 2 r (by omega) (by omega), g1 3 r (by omega) (by omega)]
        by_cases c : i ≤ r
        · rw [if_pos c, if_pos c, if_pos c, if_pos ⟨c, by omega⟩, if_pos ⟨c, by omega⟩, if_pos ⟨c, by omega⟩]
          exact a5 (r + 1) (by omega)
        · rw [if_neg c, if_neg c, if_neg c, if_neg (fun z => c z.1), if_neg (fun z => c z.1), if_neg (fun z => c z.1)]
          exact a5 r (by omega)
      · rw [e _ (by omega)]
        simp (disch := omega) only [wI_ne, wI_eq, wI_nk, wIs_ne, wIs_eq]
        rw [g2 _ (by omega) (by omega) (by omega)]
        exact a6 h p hp
      · rw [e _ (by omega), e _ (by omega), e _ (by omega)]
        simp (disch := omega) only [wI_ne, wI_eq, wI_nk, wIs_ne, wIs_eq]
        rw [g2 _ (by omega) (by omega) (by omega), g2 _ (by omega) (by omega) (by omega), g2 _ (by omega) (by omega) (by omega)]
        exact a7 r hr
      · rw [e _ (by omega)]
        simp (disch := omega) only [wI_ne, wI_eq, wI_nk, wIs_ne, wIs_eq]
        rw [g2 _ (by omega) (by omega) (by omega)]
        exact a8 p hp
    · simp (disch := omega) only [wI_ne, wI_eq, wI_nk, wIs_ne, wIs_eq]
      exact g2 c (by omega) (by omega) (by omega)
theorem X10_drop_y (hfu : 200000 ≤ fu) (hV : VX S M (a + 12)) (hG : Gd S) (hH : HX Hs k u M (a + 21)) {i : Nat} (hi : i < S 1) : Wp (fX10_drop fu a (nI i) M) (XW a Hs k M (drS S i) (nI (S 1 - 1))) := by
  have h12 := hG.1.2.2.2.2.2
  unfold fX10_drop
  simp (disch := omega) only [zi_li, zi_m, zi_m1, nI_add, zi_sub, zi_mul, zi_addm, zi_m_lt, zi_lt_m, zi_m_le, zi_le_m, zi_eq_m, zi_m_eq, nI_ltI, nI_leI, nI_eq, nI_clamp, zi_div, lt_eq, bm_s, bi_s, bl_s, bw_s, gd, hV.1.2.2.2.1, if_pos, if_neg, ite_true, ite_false, or_false, false_or, and_true, true_and, not_true, not_false_iff, true_or, or_true, Nat.not_lt_zero]
  rw [wp_bm]
  refine (X8_dropSpan hfu hV hG hi).mono fun M1 q => ?_
  obtain ⟨q1, q2⟩ := q
  rw [wp_bm]
  refine (X10_wantedDone q1 (hG.drs hi) (hH.pre q2)).mono fun M2 p => ?_
  obtain ⟨p1, p2, p3⟩ := p
  have e : M2.1 (a + 12) 3 = nI (S 1 - 1) := p1.1.2.2.2.1
  rw [wp_some, e]
  exact ⟨rfl, p1, p2, p3.pre q2⟩
theorem X10_drop_n (hV : VX S M (a + 12)) (hG : Gd S) {x : Int32} (h : ¬ ∃ i, x = nI i ∧ i < S 1) : fX10_drop fu a x M = some (mI, M) := by
  have h12 := hG.1.2.2.2.2.2
  have n0 : fX10_drop_j15 fu M = some (mI, M) := rfl
  unfold fX10_drop
  rw [n0, hV.1.2.2.2.1]
  by_cases c1 : x < 0
  · rw [if_pos c1]
  rw [if_neg c1]
  obtain ⟨i, hi, rfl⟩ := nI_of c1
  rw [if_neg (fun z => h ⟨i, rfl, (nI_ltI hi (by omega)).mp z⟩)]
theorem VX.up0 (hV : VX S M (a + 12)) (v : Nat) : VX (upS S 0 v) (wI M (a + 12) 2 (nI v)) (a + 12) := by
  obtain ⟨⟨a0, a1, a2, a3, a4⟩, a5, a6, a7, a8⟩ := hV
  have e : ∀ j, j ≠ 0 → upS S 0 v j = S j := fun j hj => upS_n hj
  unfold VX
  rw [e 140 (by omega), e 141 (by omega), e 142 (by omega), e 1 (by omega), upS_y]
  refine ⟨⟨?_, ?_, ?_, ?_, ?_⟩, fun r hr => ?_, fun h p hp => ?_, fun r hr => ?_, fun p hp => ?_⟩
  · simp (disch := omega) only [wI_ne, wI_eq, wI_nk, wIs_ne, wIs_eq, a0]
  · simp (disch := omega) only [wI_ne, wI_eq, wI_nk, wIs_ne, wIs_eq, a1]
  · simp (disch := omega) only [wI_ne, wI_eq, wI_nk, wIs_ne, wIs_eq]
  · simp (disch := omega) only [wI_ne, wI_eq, wI_nk, wIs_ne, wIs_eq, a3]
  · simp (disch := omega) only [wI_ne, wI_eq, wI_nk, wIs_ne, wIs_eq, a4]
  · rw [e _ (by omega), e _ (by omega), e _ (by omega)]
    simp (disch := omega) only [wI_ne, wI_eq, wI_nk, wIs_ne, wIs_eq]
    exact a5 r hr
  · rw [e _ (by omega)]
    simp (disch := omega) only [wI_ne, wI_eq, wI_nk, wIs_ne, wIs_eq]
    exact a6 h p hp
  · rw [e _ (by omega), e _ (by omega), e _ (by omega)]
    simp (disch := omega) only [wI_ne, wI_eq, wI_nk, wIs_ne, wIs_eq]
    exact a7 r hr
  · rw [e _ (by omega)]
    simp (disch := omega) only [wI_ne, wI_eq, wI_nk, wIs_ne, wIs_eq]
    exact a8 p hp
theorem X10_prefer_y (hV : VX S M (a + 12)) (hG : Gd S) (hH : HX Hs k u M (a + 21)) {v : Nat} (hv : v < 5) : Wp (fX10_prefer fu a (nI v) M) (XW a Hs k M (upS S 0 v) (nI (S 0))) := by
  unfold fX10_prefer
  rw [X10_isKind_y hv, bi_s, if_neg (by decide), lt_eq, lt_eq, wp_bm]
  have q2 : Fr (a + 12) 9 M (wI M (a + 12) 2 (nI v)) := Fr.w1 _ _ _ _ (by omega) (by omega)
  refine (X10_wantedDone (hV.up0 v) (hG.upd0 hv) (hH.pre q2)).mono fun M2 p => ?_
  obtain ⟨p1, p2, p3⟩ := p
  rw [wp_some]
  exact ⟨hV.1.2.2.1, p1, p2, p3.pre q2⟩
theorem X10_prefer_n {x : Int32} (h : ¬ ∃ v, x = nI v ∧ v < 5) : fX10_prefer fu a x M = some (mI, M) := by
  unfold fX10_prefer
  rw [X10_isKind_n (fun j hj e => h ⟨j, e, hj⟩), bi_s, if_pos (by decide)]
  rfl
theorem VX.up68 (hV : VX S M (a + 12)) (hG : Gd S) {i : Nat} (v : Nat) (hi : i < 8) : VX (upS S (68 + i) v) (wI M (a + 12 + 4) i (nI v)) (a + 12) := by
  have h12 := hG.1.2.2.2.2.2
  have h10 := hG.1.2.2.2.1
  obtain ⟨⟨a0, a1, a2, a3, a4⟩, a5, a6, a7, a8⟩ := hV
  have e : ∀ j, j ≠ 68 + i → upS S (68 + i) v j = S j := fun j hj => upS_n hj
  unfold VX
  rw [e 140 (by omega), e 141 (by omega), e 142 (by omega), e 1 (by omega), e 0 (by omega)]
  refine ⟨⟨?_, ?_, ?_, ?_, ?_⟩, fun r hr => ?_, fun h p hp => ?_, fun r hr => ?_, fun p hp => ?_⟩
  · simp (disch := omega) only [wI_ne, wI_eq, wI_nk, wIs_ne, wIs_eq, a0]
  · simp (disch := omega) only [wI_ne, wI_eq, wI_nk, wIs_ne, wIs_eq, a1]
  · simp (disch := omega) only [wI_ne, wI_eq, wI_nk, wIs_ne, wIs_eq, a2]
  · simp (disch := omega) only [wI_ne, wI_eq, wI_nk, wIs_ne, wIs_eq, a3]
  · simp (disch := omega) only [wI_ne, wI_eq, wI_nk, wIs_ne, wIs_eq, a4]
  · rw [e _ (by omega), e _ (by omega), e _ (by omega)]
    simp (disch := omega) only [wI_ne, wI_eq, wI_nk, wIs_ne, wIs_eq]
    exact a5 r hr
  · by_cases c : p = i
    · subst c
      rw [upS_y]
      simp (disch := omega) only [wI_ne, wI_eq, wI_nk, wIs_ne, wIs_eq]
    · rw [e _ (by omega)]
      simp (disch := omega) only [wI_ne, wI_eq, wI_nk, wIs_ne, wIs_eq]
      exact a6 h p hp
  · rw [e _ (by omega), e _ (by omega), e _ (by omega)]
    simp (disch := omega) only [wI_ne, wI_eq, wI_nk, wIs_ne, wIs_eq]
    exact a7 r hr
  · rw [e _ (by omega)]
    simp (disch := omega) only [wI_ne, wI_eq, wI_nk, wIs_ne, wIs_eq]
    exact a8 p hp
theorem X10_fix_y (hV : VX S M (a + 12)) (hG : Gd S) (hH : HX Hs k u M (a + 21)) (h0 : 0 < S 142) {i v : Nat} (hi : i < 8) (hv : v < 5) : Wp (fX10_fix fu a (nI i) (nI v) M) (XK a Hs k M (upS S (68 + i) v) (nI (S (68 + i)))) := by
  unfold fX10_fix
  obtain ⟨w, e, ⟨rfl, _⟩ | ⟨rfl, h⟩⟩ := X8_hasPart (fu := fu) hV hG (nI i)
  · rw [e, bi_s, if_neg (by decide), X10_isKind_y hv, bi_s, if_neg (by decide), if_neg (nI_in (by omega) (by omega)), ix_n (by omega), lt_eq, lt_eq, wp_bm]
    have q2 : Fr (a + 12) 9 M (wI M (a + 12 + 4) i (nI v)) := Fr.w1 _ _ _ _ (by omega) (by omega)
    refine (X10_kindsDone (hV.up68 hG v hi) (hG.up68 hi hv) (hH.pre q2)).mono fun M2 p => ?_
    obtain ⟨p1, p2, p3⟩ := p
    rw [wp_some]
    exact ⟨hV.2.2.1 h0 i hi, p1, p2, p3.pre q2⟩
  · rcases h with h | h
    · omega
    · exact absurd rfl (h i hi)
theorem X10_fix_n (hV : VX S M (a + 12)) (hG : Gd S) {x1 x2 : Int32} (h : ¬ (0 < S 142 ∧ ∃ i v, x1 = nI i ∧ x2 = nI v ∧ i < 8 ∧ v < 5)) : fX10_fix fu a x1 x2 M = some (mI, M) := by
  have n0 : fX10_fix_j18 fu M = some (mI, M) := rfl
  unfold fX10_fix
  rw [n0]
  obtain ⟨w, e, ⟨rfl, h0, i, hi, rfl⟩ | ⟨rfl, _⟩⟩ := X8_hasPart (fu := fu) hV hG x1
  · rw [e, bi_s, if_neg (by decide), X10_isKind_n (fun j hj e => h ⟨h0, i, j, rfl, e, hi, hj⟩), bi_s, if_pos (by decide)]
  · rw [e, bi_s, if_pos (by decide)]
theorem VX.up76 {b : Nat} (hV : VX S M b) (h10 : S 141 ≤ 10) (h12 : S 1 ≤ 12) {i : Nat} (v : Nat) (hi : i < 64) : VX (upS S (76 + i) v) (wI M (b + 8) i (nI v)) b := by
  obtain ⟨⟨a0, a1, a2, a3, a4⟩, a5, a6, a7, a8⟩ := hV
  have e : ∀ j, j ≠ 76 + i → upS S (76 + i) v j = S j := fun j hj => upS_n hj
  unfold VX
  rw [e 140 (by omega), e 141 (by omega), e 142 (by omega), e 1 (by omega), e 0 (by omega)]
  refine ⟨⟨?_, ?_, ?_, ?_, ?_⟩, fun r hr => ?_, fun h p hp => ?_, fun r hr => ?_, fun p hp => ?_⟩
  · simp (disch := omega) only [wI_ne, wI_eq, wI_nk, wIs_ne, wIs_eq, a0]
  · simp (disch := omega) only [wI_ne, wI_eq, wI_nk, wIs_ne, wIs_eq, a1]
  · simp (disch := omega) only [wI_ne, wI_eq, wI_nk, wIs_ne, wIs_eq, a2]
  · simp (disch := omega) only [wI_ne, wI_eq, wI_nk, wIs_ne, wIs_eq, a3]
  · simp (disch := omega) only [wI_ne, wI_eq, wI_nk, wIs_ne, wIs_eq, a4]
  · rw [e _ (by omega), e _ (by omega), e _ (by omega)]
    simp (disch := omega) only [wI_ne, wI_eq, wI_nk, wIs_ne, wIs_eq]
    exact a5 r hr
  · rw [e _ (by omega)]
    simp (disch := omega) only [wI_ne, wI_eq, wI_nk, wIs_ne, wIs_eq]
    exact a6 h p hp
  · rw [e _ (by omega), e _ (by omega), e _ (by omega)]
    simp (disch := omega) only [wI_ne, wI_eq, wI_nk, wIs_ne, wIs_eq]
    exact a7 r hr
  · by_cases c : p = i
    · subst c
      rw [upS_y]
      simp (disch := omega) only [wI_ne, wI_eq, wI_nk, wIs_ne, wIs_eq]
    · rw [e _ (by omega)]
      simp (disch := omega) only [wI_ne, wI_eq, wI_nk, wIs_ne, wIs_eq]
      exact a8 p hp
theorem X10_page_y (hV : VX S M (a + 12)) (hG : Gd S) (hH : HX Hs k u M (a + 21)) {i v : Nat} (hi : i < 2 ^ S 140 / 16) (hv : v ≤ 5) : Wp (fX10_page fu a (nI i) (nI v) M) (XK a Hs k M (upS S (76 + i) v) (nI (S (76 + i)))) := by
  have hA := hG.ad
  unfold fX10_page
  obtain ⟨w, e, ⟨rfl, _⟩ | ⟨rfl, h⟩⟩ := X8_hasPage (fu := fu) hV hG (nI i)
  · rw [e, bi_s, if_neg (by decide)]
    simp (disch := omega) only [zi_li, zi_m, zi_m1, nI_add, zi_sub, zi_mul, zi_addm, zi_m_lt, zi_lt_m, zi_m_le, zi_le_m, zi_eq_m, zi_m_eq, nI_ltI, nI_leI, nI_eq, nI_clamp, zi_div, lt_eq, bm_s, bi_s, bl_s, bw_s, gd, if_pos, if_neg, ite_true, ite_false, or_false, false_or, and_true, true_and, not_true, not_false_iff, true_or, or_true, Nat.not_lt_zero]
    rw [wp_bm]
    have q2 : Fr (a + 12) 9 M (wI M (a + 12 + 8) i (nI v)) := Fr.w1 _ _ _ _ (by omega) (by omega)
    refine (X10_kindsDone (hV.up76 hG.1.2.2.2.1 hG.1.2.2.2.2.2 v (by omega)) (hG.up76 (by omega) hv) (hH.pre q2)).mono fun M2 p => ?_
    obtain ⟨p1, p2, p3⟩ := p
    rw [wp_some]
    exact ⟨hV.2.2.2.2 i hi, p1, p2, p3.pre q2⟩
  · exact absurd rfl (h i hi)
theorem X10_page_n (hV : VX S M (a + 12)) (hG : Gd S) {x1 x2 : Int32} (h : ¬ ∃ i v, x1 = nI i ∧ x2 = nI v ∧ i < 2 ^ S 140 / 16 ∧ v ≤ 5) : fX10_page fu a x1 x2 M = some (mI, M) := by
  have n0 : fX10_page_j20 fu M = some (mI, M) := rfl
  unfold fX10_page
  rw [n0]
  obtain ⟨w, e, ⟨rfl, i, hi, rfl⟩ | ⟨rfl, _⟩⟩ := X8_hasPage (fu := fu) hV hG x1
  · rw [e, bi_s, if_neg (by decide)]
    by_cases c1 : x2 < 0
    · rw [if_pos c1]
    · obtain ⟨v, hv, rfl⟩ := nI_of c1
      have c2 : ¬ nI v ≤ (5 : Int32) := fun z => h ⟨i, v, rfl, rfl, hi, (nI_leI (a := v) (b := 5) hv (by omega)).mp z⟩
      rw [if_neg c1, if_neg c2]
  · rw [e, bi_s, if_pos (by decide)]
theorem fP_mk {t e q : Nat} (ht : t ≤ 10) (he : e ≤ t) (hq : q * 2 ^ e + 2 ^ e ≤ 2 ^ t) : fP t (nI (q * 2 ^ e)) (nI (2 ^ e)) := by
  have hp : 2 ^ t ≤ 2 ^ 10 := Nat.pow_le_pow_right (by decide) ht
  have hp0 : 0 < 2 ^ e := Nat.two_pow_pos e
  refine ⟨(nI_ltI (by omega) (by omega)).mpr hp0, (nI_leI (by omega) (by omega)).mpr (by omega), ?_, (nI_leI (by omega) (by omega)).mpr (Nat.zero_le _), (nI_ltI (by omega) (by omega)).mpr (by omega), ?_⟩
  · rw [zi_sub (by omega), zi_and (by omega) (by omega), Nat.and_two_pow_sub_one_eq_mod, Nat.mod_self]
  · rw [zi_sub (by omega), zi_and (by omega) (by omega), Nat.and_two_pow_sub_one_eq_mod, Nat.mul_mod_left]
/-- a register may be set so -/
def stP (S : Sto) (x1 x2 x3 x4 : Int32) (r b s v : Nat) : Prop := (x1 = nI r ∧ x2 = nI b ∧ x3 = nI s ∧ x4 = nI v) ∧ r < S 141 ∧ Rg (S 140) b s v ∧ 0 < s ∧ ∀ q, q < S 141 → q ≠ r → ¬ (S (38 + 3 * q) = b ∧ S (39 + 3 * q) = s)
theorem X10_set_y (hfu : 200000 ≤ fu) (hV : VX S M (a + 12)) (hG : Gd S) (hH : HX Hs k u M (a + 21)) {x1 x2 x3 x4 : Int32} {r b s v : Nat} (h : stP S x1 x2 x3 x4 r b s v) : Wp (fX10_set fu a x1 x2 x3 x4 M) (XK a Hs k M (putS S r b s v) (nI 1)) := by
  obtain ⟨⟨rfl, rfl, rfl, rfl⟩, hr, hR, hs, hD⟩ := h
  have h10 := hG.1.2.2.2.1
  have hA := hG.ad
  have t10 := hG.1.2.1
  have hR' := hR
  have hb : b + s ≤ 2 ^ S 140 := by
    rcases hR with ⟨h1, h2, _⟩ | ⟨h1, e, h2, h3, q, h4, h5⟩ <;> omega
  rcases hR with ⟨_, h2, _⟩ | ⟨h1, e, h2, h3, q, h4, h5⟩
  · omega
  have hf : fP (S 140) (nI b) (nI s) := by
    rw [h3, h4]
    exact fP_mk t10 h2 (by omega)
  have fin : Wp (fX10_set_j58 fu a (nI r) (nI b) (nI s) (nI v) M) (XK a Hs k M (putS S r b s v) (nI 1)) := by
    unfold fX10_set_j58
    rw [X8_put (by omega), bm_s, wp_bm]
    have q2 : Fr (a + 12) 9 M (wI (wI (wI M (a + 12 + 5) r (nI b)) (a + 12 + 6) r (nI s)) (a + 12 + 7) r (nI v)) := ((Fr.w1 _ _ _ _ (by omega) (by omega)).tr (Fr.w1 _ _ _ _ (by omega) (by omega))).tr (Fr.w1 _ _ _ _ (by omega) (by omega))
    refine (X10_kindsDone (hV.put hG hr b s v) (hG.put hr hR' (fun _ => hD)) (hH.pre q2)).mono fun M2 p => ?_
    obtain ⟨p1, p2, p3⟩ := p
    rw [wp_some]
    exact ⟨rfl, p1, p2, p3.pre q2⟩
  unfold fX10_set
  obtain ⟨w, e1, ⟨rfl, _⟩ | ⟨rfl, hn⟩⟩ := X8_hasRegister (fu := fu) hV hG (nI r)
  · rw [e1, bi_s, if_neg (by decide), X8_fits hV hG, bI_t hf, bi_s, if_neg (by decide), X10_isKind_y h1, bi_s, if_neg (by decide)]
    obtain ⟨v2, e2, ⟨rfl, hn⟩ | ⟨r2, hr2, rfl, m1, m2⟩⟩ := X8_holderOf hfu hV hG (x := b) (y := s) (by omega) (by omega)
    · rw [e2, bi_s, if_pos (by rfl)]
      exact fin
    · have : r2 = r := Decidable.not_not.mp fun c => hD r2 hr2 c ⟨m1, m2⟩
      subst this
      rw [e2, bi_s, if_neg (fun z => by rw [zi_m1, zi_eq_m (by omega)] at z; exact z), if_pos rfl]
      exact fin
  · exact absurd rfl (hn r hr)
theorem X10_set_n (hfu : 200000 ≤ fu) (hV : VX S M (a + 12)) (hG : Gd S) {x1 x2 x3 x4 : Int32} (h : ¬ ∃ r b s v, stP S x1 x2 x3 x4 r b s v) : fX10_set fu a x1 x2 x3 x4 M = some (nI 0, M) := by
  have h10 := hG.1.2.2.2.1
  have hA := hG.ad
  have t10 := hG.1.2.1
  have n0 : fX10_set_j31 fu M = some (nI 0, M) := rfl
  unfold fX10_set
  rw [n0]
  obtain ⟨w, e1, ⟨rfl, r, hr, rfl⟩ | ⟨rfl, hn⟩⟩ := X8_hasRegister (fu := fu) hV hG x1
  · rw [e1, bi_s, if_neg (by decide), X8_fits hV hG, bi_s]
    by_cases hf : fP (S 140) x2 x3
    · obtain ⟨e, q, h2, rfl, rfl, h5⟩ := fP_of t10 hf
      rw [bI_t hf, if_neg (by decide)]
      by_cases c5 : ∃ v, v < 5 ∧ x4 = nI v
      · obtain ⟨v, hv, rfl⟩ := c5
        have hp := pwp e
        rw [X10_isKind_y hv, bi_s, if_neg (by decide)]
        obtain ⟨v2, e2, ⟨rfl, hn⟩ | ⟨r2, hr2, rfl, m1, m2⟩⟩ := X8_holderOf hfu hV hG (x := q * 2 ^ e) (y := 2 ^ e) (by omega) (by omega)
        · exact absurd ⟨r, q * 2 ^ e, 2 ^ e, v, ⟨rfl, rfl, rfl, rfl⟩, hr, Or.inr ⟨hv, e, h2, rfl, q, rfl, h5⟩, hp, fun q' hq' _ => hn q' hq'⟩ h
        · rw [e2, bi_s, if_neg (fun z => by rw [zi_m1, zi_eq_m (by omega)] at z; exact z)]
          have : ¬ r2 = r := fun c => by
            subst c
            refine h ⟨r2, q * 2 ^ e, 2 ^ e, v, ⟨rfl, rfl, rfl, rfl⟩, hr, Or.inr ⟨hv, e, h2, rfl, q, rfl, h5⟩, hp, fun q' hq' hne w => ?_⟩
            exact hG.2.2.2.2.2.1 r2 q' hr hq' (fun z => hne z.symm) (by omega) ⟨by omega, by omega⟩
          rw [if_neg (fun z => this ((nI_eq (by omega) (by omega)).mp z))]
          rfl
      · rw [X10_isKind_n (fun j hj e => c5 ⟨j, hj, e⟩), bi_s, if_pos (by decide)]
    · rw [bI_f hf, if_pos (by decide)]
  · rw [e1, bi_s, if_pos (by decide)]
theorem X10_clear_y (hV : VX S M (a + 12)) (hG : Gd S) (hH : HX Hs k u M (a + 21)) {r : Nat} (hr : r < S 141) (hs : 0 < S (39 + 3 * r)) : Wp (fX10_clear fu a (nI r) M) (XK a Hs k M (putS S r 0 0 0) (nI 1)) := by
  have h10 := hG.1.2.2.2.1
  unfold fX10_clear
  obtain ⟨w, e1, ⟨rfl, _⟩ | ⟨rfl, hn⟩⟩ := X8_isSet (fu := fu) hV hG (nI r)
  · rw [e1, bi_s, if_neg (by decide), X8_put (by omega), bm_s, wp_bm]
    have q2 : Fr (a + 12) 9 M (wI (wI (wI M (a + 12 + 5) r (nI 0)) (a + 12 + 6) r (nI 0)) (a + 12 + 7) r (nI 0)) := ((Fr.w1 _ _ _ _ (by omega) (by omega)).tr (Fr.w1 _ _ _ _ (by omega) (by omega))).tr (Fr.w1 _ _ _ _ (by omega) (by omega))
    refine (X10_kindsDone (hV.put hG hr 0 0 0) (hG.put hr (Or.inl ⟨rfl, rfl, rfl⟩) (fun z => by omega)) (hH.pre q2)).mono fun M2 p => ?_
    obtain ⟨p1, p2, p3⟩ := p
    rw [wp_some]
    exact ⟨rfl, p1, p2, p3.pre q2⟩
  · exact absurd (hn r hr rfl) (by omega)
theorem X10_clear_n (hV : VX S M (a + 12)) (hG : Gd S) {x : Int32} (h : ¬ ∃ r, x = nI r ∧ r < S 141 ∧ 0 < S (39 + 3 * r)) : fX10_clear fu a x M = some (nI 0, M) := by
  unfold fX10_clear
  obtain ⟨w, e1, ⟨rfl, r, hr, rfl, hs⟩ | ⟨rfl, hn⟩⟩ := X8_isSet (fu := fu) hV hG x
  · exact absurd ⟨r, rfl, hr, hs⟩ h
  · rw [e1, bi_s, if_pos (by decide)]
    rfl
end AX
