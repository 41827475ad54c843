/-! pure: persons, comers, parts -/
section Pass
variable {D P Rm : Nat} {f g dA dB dS dO dr : Nat → Int32}
/-- the doors whose line lets one of this ill through -/
def opN (g : Nat → Int32) (x : Int32) (k : Nat) : Bool := decide (mX10_stopsBy (g (3 + k)) x = 0)
theorem passable_n (h : okNow D P Rm f g) (hD : D ≤ 10) {i : Nat} (hi : i ≤ 1000) : mX1_passable (nI D) f (nI i) = nI (setN (opN g (nI i)) D) := by
  unfold mX1_passable
  rw [clamp_nI (by omega)]
  refine iter_set (fun k hk y => ?_)
  obtain ⟨t, ht, k1, k2, k3⟩ := h.sp hk hD
  unfold mX1_passable_l4 opN
  rw [k1, k3, hold_eq (by omega) (by omega), onlyC (by omega)]
  by_cases c : mX10_stopsBy (nI t) (nI i) = 0
  · rw [if_pos c, if_pos (decide_eq_true c)]
  · rw [if_neg c, if_neg (by simpa using c)]
theorem pass_op (h : okNow D P Rm f g) (hD : D ≤ 10) {i : Nat} (hi : i ≤ 1000) : ∀ k, k < D → mX9_inSet (mX1_passable (nI D) f (nI i)) (nI k) = if opN g (nI i) k then 1 else 0 := by
  intro k hk
  rw [passable_n h hD hi, inSet_n (setN_lt31 _ (by omega)) (by omega), setN_bit]
  simp only [hk, decide_true, Bool.true_and]
theorem has0 (k : Nat) (hk : k < 31) : mX10_has (nI 0) (nI k) = 0 := by
  show mX9_inSet (nI 0) (nI k) = 0
  rw [inSet_n (by omega) hk, Nat.zero_testBit]; rfl
theorem nI_m1 {k : Nat} (hk : k < 1000) : ¬ nI k = (-1 : Int32) := by
  intro q
  have := congrArg Int32.toInt q
  rw [nI_toInt (by omega)] at this
  have e : (-1 : Int32).toInt = -1 := rfl
  omega
/-- the part of room s for an ill of i -/
def partN (D : Nat) (dr g : Nat → Int32) (Rm s i : Nat) : Nat := cloN D (opN g (nI i)) (eaN dr) (ebN dr) Rm s
theorem part_n (h : okNow D P Rm f g) (hD : D ≤ 10) (hR : Rm ≤ 8) (hd : ∀ d, d < D → okDoor Rm dA dB dS dO dr d) {i s : Nat} (hi : i ≤ 1000) (hs : s < Rm) :
    mX8_partOf (nI Rm) (nI D) dS f (nI s) (nI i) = nI (partN D dr g Rm s i) ∧ mX10_comesBy D dr g (nI i) (nI s) (-1) (nI 0) = nI (partN D dr g Rm s i) ∧ partN D dr g Rm s i < 256 := by
  have h1 := reach_n hD hR hd (pass_op h hD hi) hs
  refine ⟨h1.1, ?_, h1.2⟩
  refine comesBy_n hD hR hd (fun k hk => ?_) hs
  unfold opN
  rw [decide_eq_true_eq]
  exact ⟨fun q => ⟨nI_m1 (by omega), has0 k (by omega), q⟩, fun q => q.2.2⟩
theorem part_eq (h : okNow D P Rm f g) (hD : D ≤ 10) (hR : Rm ≤ 8) (hd : ∀ d, d < D → okDoor Rm dA dB dS dO dr d) {i s : Nat} (hi : i ≤ 1000) (hs : s < Rm) :
    mX8_partOf (nI Rm) (nI D) dS f (nI s) (nI i) = mX10_comesBy D dr g (nI i) (nI s) (-1) (nI 0) := by
  have := part_n h hD hR hd hi hs
  rw [this.1, this.2.1]
theorem rooms_eq (h : okNow D P Rm f g) (hD : D ≤ 10) (hP : P ≤ 6) (hR : Rm ≤ 8) (hd : ∀ d, d < D → okDoor Rm dA dB dS dO dr d) {p : Nat} (hp : p < P) : mX8_roomsOf (nI Rm) (nI D) dS f (nI p) = mX10_comesOf D dr g p ∧ ∃ n, n < 256 ∧ mX10_comesOf D dr g p = nI n := by
  obtain ⟨i, hi, i1, i2⟩ := h.ill hp hP
  obtain ⟨c, hc, k1, k2, k3⟩ := h.pl hp hP
  unfold mX8_roomsOf mX10_comesOf
  rw [i1, i2, k1, k3]
  have := part_n h hD hR hd (i := i) (s := c) (by omega) hc
  exact ⟨part_eq h hD hR hd (by omega) hc, _, this.2.2, this.2.1⟩
end Pass
theorem st_person {cI : Nat → Int32} {cR : Nat → Nat → Int32} {mN : Nat → Nat} {mI : Nat → Int32} {mR : Nat → Nat → Int32} (h : Rel cI cR mN mI mR) (x1 x2 : Int32) : (mX9_person (cI 0) (cI 2) (cI 3) (cR 3) (cR 5) x1 x2) = (mX10_person (mN 8) (mN 9) (mR 5) (mR 6) x1 x2) := by
  obtain ⟨⟨e0, e1, hRm, e2, hRn, e3, hD, e4, hP, hz⟩, hrain, hdoor⟩ := h.house
  unfold mX9_person mX10_person
  rw [e0, e3, e4, e1]
  rcases person_cases (D := mN 9) (by omega) x1 with ⟨p, hp, rfl, h1, h2⟩ | ⟨h1, h2⟩
  · obtain ⟨i, hi, i1, i2⟩ := h.now.ill hp hP
    obtain ⟨c, hc, k1, k2, k3⟩ := h.now.pl hp hP
    obtain ⟨w, hw, w1, w2⟩ := (h.now.2.2.2.2 p hp).2
    rw [h1, h2, if_neg one_ne0, if_neg one_ne0, clamp_nI (by omega), i1, i2, k1, k3, w1, wishOf_n (by omega), w2, (rooms_eq h.now hD hP hRm hdoor hp).1, show (9 : Int32) = nI 9 from rfl, Int32.sub_add_cancel]
  · rw [h1, h2, if_pos rfl, if_pos rfl]
theorem comers_n {D P Rm : Nat} {f g dA dB dS dO dr : Nat → Int32} (h : okNow D P Rm f g) (hD : D ≤ 10) (hP : P ≤ 6) (hR : Rm ≤ 8) (hd : ∀ d, d < D → okDoor Rm dA dB dS dO dr d) (x : Int32) : mX8_comersTo (nI Rm) (nI D) (nI P) dS f x = nI (setN (fun k => decide (¬ mX10_has (mX10_comesOf D dr g k) x = 0)) P) ∧ iter (mX10_comers_l15 D dr g x) P (nI 0) = nI (setN (fun k => decide (¬ mX10_has (mX10_comesOf D dr g k) x = 0)) P) := by
  unfold mX8_comersTo
  rw [clamp_nI (by omega)]
  constructor
  · refine iter_set (fun k hk y => ?_)
    unfold mX8_comersTo_l4
    rw [(rooms_eq h hD hP hR hd hk).1, ← has_inSet, onlyC (by omega)]
    by_cases c : mX10_has (mX10_comesOf D dr g k) x = 0
    · rw [if_pos c, if_neg (by simpa using c)]
    · rw [if_neg c, if_pos (by simpa using c)]
  · refine iter_set (fun k hk y => ?_)
    unfold mX10_comers_l15
    rw [show nI 1 <<< (nI k &&& 31) = nI (2 ^ k) from only_n k (by omega)]
    by_cases c : mX10_has (mX10_comesOf D dr g k) x = 0
    · rw [if_pos c, if_neg (by simpa using c), show nI 0 = (0 : Int32) from rfl, Int32.or_zero]
    · rw [if_neg c, if_pos (by simpa using c)]
theorem st_comers {cI : Nat → Int32} {cR : Nat → Nat → Int32} {mN : Nat → Nat} {mI : Nat → Int32} {mR : Nat → Nat → Int32} (h : Rel cI cR mN mI mR) (x1 : Int32) : (mX9_comers (cI 0) (cI 2) (cI 3) (cR 3) (cR 5) x1) = (mX10_comers (mI 6) (mN 8) (mN 9) (mR 5) (mR 6) x1) := by
  obtain ⟨⟨e0, e1, hRm, e2, hRn, e3, hD, e4, hP, hz⟩, hrain, hdoor⟩ := h.house
  unfold mX9_comers mX10_comers
  have hc := room_cases (D := (mI 6).toNatClampNeg) (by omega) x1
  rw [← e1] at hc
  rw [e0, e3, e4]
  rcases hc with ⟨p, hp, rfl, h1, h2⟩ | ⟨h1, h2⟩
  · rw [h1, h2, if_neg one_ne0, if_neg one_ne0, (comers_n h.now hD hP hRm hdoor _).2]
    rw [← (comers_n h.now hD hP hRm hdoor _).1, ← e1]
  · rw [h1, h2, if_pos rfl, if_pos rfl]
theorem st_door {cI : Nat → Int32} {cR : Nat → Nat → Int32} {mN : Nat → Nat} {mI : Nat → Int32} {mR : Nat → Nat → Int32} (h : Rel cI cR mN mI mR) (x1 x2 : Int32) : (mX9_door (cI 2) (cI 3) (cR 1) (cR 2) (cR 4) (cR 5) x1 x2) = (mX10_door (mN 8) (mN 9) (mR 5) (mR 6) x1 x2) := by
  obtain ⟨⟨e0, e1, hRm, e2, hRn, e3, hD, e4, hP, hz⟩, hrain, hdoor⟩ := h.house
  unfold mX9_door mX10_door
  rw [e3, e4]
  rcases door_cases (D := mN 8) (by omega) x1 with ⟨d, hd, rfl, h1, h2⟩ | ⟨h1, h2⟩
  · obtain ⟨a, b, o, ha, hb, hab, ho1, d1, d2, d3, d4, d5, d6, d7⟩ := hdoor d hd
    obtain ⟨t, ht, t1, t2, t3⟩ := h.now.sp hd hD
    have hs : mX1_stoppedAt (nI (mN 9)) (cR 5) (nI d) = iter (mX10_door_l85 (mR 6) (nI d)) (mN 9) (nI 0) := by
      unfold mX1_stoppedAt
      rw [clamp_nI (by omega)]
      show iter _ _ (nI 0) = _
      refine iter_congr (fun k hk y => ?_)
      obtain ⟨i, hi, i1, i2⟩ := h.now.ill hk hP
      unfold mX1_stoppedAt_l4 mX10_door_l85 mX1_lineStops mX10_stopsIn mX9_only
      rw [clamp_nI (by omega), i1, i2, t1, t3, hold_eq (by omega) (by omega)]
      split
      · rw [show nI 0 = (0 : Int32) from rfl, Int32.or_zero]
      · rfl
    rw [h1, h2, if_neg one_ne0, if_neg one_ne0, hs, clamp_nI (by omega), get_nat (by omega) (by omega), get_nat (by omega) (by omega), get_nat (by omega) (by omega), crossings_n (by omega), (h.now.2.2.2.1 d hd).2, t1, t3, Nat.add_zero, d1, d2, d3, d4, d5, d6]
  · rw [h1, h2, if_pos rfl, if_pos rfl]
theorem worst_lp {D P Rm : Nat} {f g dA dB dS dO dr : Nat → Int32} (h : okNow D P Rm f g) (hD : D ≤ 10) (hR : Rm ≤ 8) (hR0 : 0 < Rm) (hd : ∀ d, d < D → okDoor Rm dA dB dS dO dr d) (x : Int32) : ∀ n k, k + n = 10 → mX8_leastIllKeptFrom_l2 (nI Rm) (nI D) dS f x n k = mX10_worst_l13 D dr g x n k := by
  intro n
  induction n with
  | zero => intro k _; rfl
  | succ n ih =>
    intro k hk
    unfold mX8_leastIllKeptFrom_l2 mX10_worst_l13
    rw [ih (k + 1) (by omega), show (0 : Int32) = nI 0 from rfl, part_eq h hD hR hd (by omega) hR0]
    rfl
theorem st_worst {cI : Nat → Int32} {cR : Nat → Nat → Int32} {mN : Nat → Nat} {mI : Nat → Int32} {mR : Nat → Nat → Int32} (h : Rel cI cR mN mI mR) (x1 : Int32) : (mX9_worst (cI 0) (cI 2) (cR 3) (cR 5) x1) = (mX10_worst (mI 6) (mN 8) (mR 5) (mR 6) x1) := by
  obtain ⟨⟨e0, e1, hRm, e2, hRn, e3, hD, e4, hP, hz⟩, hrain, hdoor⟩ := h.house
  unfold mX9_worst mX10_worst mX8_leastIllKeptFrom
  have hc := room_cases (D := (mI 6).toNatClampNeg) (by omega) x1
  rw [← e1] at hc
  rw [e0, e3]
  rcases hc with ⟨p, hp, rfl, h1, h2⟩ | ⟨h1, h2⟩
  · rw [h1, h2, if_neg one_ne0, if_neg one_ne0, ← worst_lp h.now hD hRm (by omega) hdoor _ 10 0 (by omega), ← e1]
  · rw [h1, h2, if_pos rfl, if_pos rfl]
