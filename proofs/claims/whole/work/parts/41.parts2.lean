/-! pure: who is shut in, who is first, softening, parts -/
set_option maxRecDepth 100000 in
theorem compl_n : ∀ P, P < 7 → ∀ c, c < 2 ^ P → ((mX9_only (nI P)) - (1 : Int32)) &&& (nI c ^^^ (-1 : Int32)) = nI (2 ^ P - (c + 1)) := by decide +kernel
theorem setN_compl (c c' : Nat → Bool) (P : Nat) (h : ∀ k, c' k = !c k) : 2 ^ P - (setN c P + 1) = setN c' P := by
  refine Nat.eq_of_testBit_eq (fun i => ?_)
  rw [Nat.testBit_two_pow_sub_succ (setN_lt c P), setN_bit, setN_bit, h]
  by_cases q : i < P
  · simp [q]
  · simp [q]
theorem st_told {cI : Nat → Int32} {cR : Nat → Nat → Int32} {mN : Nat → Nat} {mI : Nat → Int32} {mR : Nat → Nat → Int32} (h : Rel cI cR mN mI mR) (x1 : Int32) : (mX9_told (cI 0) (cI 1) (cI 2) (cI 3) (cI 15) (cI 16) (cI 14) (cI 4) (cR 3) (cR 5) x1) = (mX10_told (mN 0) (mI 6) (mN 7) (mN 8) (mN 9) (mN 10) (mN 11) (mN 12) (mR 5) (mR 6) x1) := by
  obtain ⟨⟨e0, e1, hRm, e2, hRn, e3, hD, e4, hP, hz⟩, hrain, hdoor⟩ := h.house
  obtain ⟨hh, hb, h1, h2⟩ := h.now.1
  obtain ⟨t, ht, t1, t2⟩ := h.now.2.1
  have hs : mX8_shutIn (mI 6) (nI (mN 8)) (nI (mN 9)) (cR 3) (cR 5) = mX10_shutIn (mN 8) (mN 9) (mR 5) (mR 6) := by
    unfold mX8_shutIn mX10_shutIn
    rw [e1, (comers_n h.now hD hP hRm hdoor _).1, compl_n _ (by omega) _ (setN_lt _ _), setN_compl _ (fun k => decide (mX10_has (mX10_comesOf (mN 8) (mR 5) (mR 6) k) (nI 0) = 0)) _ (fun k => ?_)]
    · symm
      refine iter_set (fun k hk y => ?_)
      unfold mX10_shutIn_l4
      rw [show nI 1 <<< (nI k &&& 31) = nI (2 ^ k) from only_n k (by omega)]
      by_cases c : mX10_has (mX10_comesOf (mN 8) (mR 5) (mR 6) k) (nI 0) = 0
      · rw [if_pos c, if_pos (decide_eq_true c)]
      · rw [if_neg c, if_neg (by simpa using c), show nI 0 = (0 : Int32) from rfl, Int32.or_zero]
    · by_cases c : mX10_has (mX10_comesOf (mN 8) (mR 5) (mR 6) k) (nI 0) = 0
      · simp [c, show (0 : Int32) = nI 0 from rfl]
      · simp [c, show (0 : Int32) = nI 0 from rfl]
  unfold mX9_told mX10_told
  rw [e0, e2, e3, e4, hs, (sumC_n h.now hD).1, (sumC_n h.now hD).2, h.notes.1.1, h.notes.1.2.2.1, h.past.1.1, h.text.1, hours_n, store_n, stopped_n, h1, h2, t1, t2, h.now.2.2.1]
theorem st_first {cI : Nat → Int32} {cR : Nat → Nat → Int32} {mN : Nat → Nat} {mI : Nat → Int32} {mR : Nat → Nat → Int32} (h : Rel cI cR mN mI mR) : (mX9_first (cI 0) (cI 2) (cI 3) (cR 3) (cR 5)) = (mX10_first (mN 8) (mN 9) (mR 5) (mR 6)) := by
  obtain ⟨⟨e0, e1, hRm, e2, hRn, e3, hD, e4, hP, hz⟩, hrain, hdoor⟩ := h.house
  unfold mX9_first mX8_worstComer mX10_first
  rw [e0, e3, e4, clamp_nI (by omega)]
  dsimp only
  rw [iter_congr (f := mX8_worstComer_l13 (mI 6) (nI (mN 8)) (nI (mN 9)) (cR 3) (cR 5)) (g := mX10_first_l6 (mN 8) (mR 5) (mR 6))]
  intro k hk s
  obtain ⟨i, hi, i1, i2⟩ := h.now.ill hk hP
  unfold mX8_worstComer_l13 mX10_first_l6
  have hc := (comers_n h.now hD hP hRm hdoor (nI 0)).1
  rw [← e1] at hc
  rw [show (0 : Int32) = nI 0 from rfl, hc, inSet_n (setN_lt31 _ (by omega)) (by omega), setN_bit, i1, i2]
  simp only [hk, decide_true, Bool.true_and]
  by_cases c : mX10_has (mX10_comesOf (mN 8) (mR 5) (mR 6) k) (nI 0) = 0
  · rw [if_pos (show mX10_has (mX10_comesOf (mN 8) (mR 5) (mR 6) k) (nI 0) = nI 0 from c), if_pos (by rw [if_neg (by simpa using c)]; rfl)]
  · rw [if_neg (show ¬ mX10_has (mX10_comesOf (mN 8) (mR 5) (mR 6) k) (nI 0) = nI 0 from c), if_neg (by rw [if_pos (by simpa using c)]; exact one_ne0)]
theorem soft_n : ∀ w, w < 19 → ∀ k, k < 10 → mX9_illOfWish (nI w - nI 9 + nI k) = nI (9 - w - k) := by decide +kernel
theorem soft_lp {D P Rm : Nat} {f g dA dB dS dO dr : Nat → Int32} (h : okNow D P Rm f g) (hD : D ≤ 10) (hP : P ≤ 6) (hR : Rm ≤ 8) (hd : ∀ d, d < D → okDoor Rm dA dB dS dO dr d) {p : Nat} (hp : p < P) (x : Int32) : ∀ n k, k + n = 10 → mX8_leastSoftening_l2 (nI Rm) (nI D) dS f (nI p) x n k = mX10_soften_l21 D dr g (nI p) x n k := by
  obtain ⟨c, hc, k1, k2, k3⟩ := h.pl hp hP
  obtain ⟨w, hw, w1, w2⟩ := (h.2.2.2.2 p hp).2
  intro n
  induction n with
  | zero => intro k _; rfl
  | succ n ih =>
    intro k hk
    unfold mX8_leastSoftening_l2 mX10_soften_l21
    rw [ih (k + 1) (by omega), clamp_nI (by omega), k1, k3, wishOf_n (by omega), w2, soft_n w (by omega) k (by omega), illM hw w1, lessBy_n (by omega) (by omega), part_eq h hD hR hd (by omega) hc]
    rfl
theorem st_soften {cI : Nat → Int32} {cR : Nat → Nat → Int32} {mN : Nat → Nat} {mI : Nat → Int32} {mR : Nat → Nat → Int32} (h : Rel cI cR mN mI mR) (x1 x2 : Int32) : (mX9_soften (cI 0) (cI 2) (cI 3) (cR 3) (cR 5) x1 x2) = (mX10_soften (mI 6) (mN 8) (mN 9) (mR 5) (mR 6) x1 x2) := by
  obtain ⟨⟨e0, e1, hRm, e2, hRn, e3, hD, e4, hP, hz⟩, hrain, hdoor⟩ := h.house
  unfold mX9_soften mX10_soften mX8_leastSoftening
  have hc := room_cases (D := (mI 6).toNatClampNeg) (by omega) x2
  rw [← e1] at hc
  rw [e0, e3, e4]
  rcases person_cases (D := mN 9) (by omega) x1 with ⟨p, hp, rfl, h1, h2⟩ | ⟨h1, h2⟩
  · rw [h1, h2, if_neg one_ne0, if_neg one_ne0]
    rcases hc with ⟨r, hr, rfl, h3, h4⟩ | ⟨h3, h4⟩
    · rw [h3, h4, if_neg one_ne0, if_neg one_ne0, ← soft_lp h.now hD hP hRm hdoor hp _ 10 0 (by omega), ← e1]
    · rw [h3, h4, if_pos rfl, if_pos rfl]
  · rw [h1, h2, if_pos rfl, if_pos rfl]
section Parts
variable {D P Rm : Nat} {op : Nat → Bool} {ea eb : Nat → Nat}
theorem clo_closed (hE : ∀ d, d < D → ea d < Rm ∧ eb d < Rm) {s : Nat} (hs : s < Rm) : closedN D op ea eb (cloN D op ea eb Rm s) := iterN_done good_rc ⟨s, hs, Nat.testBit_two_pow_self⟩ hE (by omega)
theorem clo_self (s : Nat) : (cloN D op ea eb Rm s).testBit s = true := iterN_sub good_rc _ _ s Nat.testBit_two_pow_self
theorem clo_in {C s : Nat} (hC : closedN D op ea eb C) (h : C.testBit s = true) : subN (cloN D op ea eb Rm s) C := iterN_in good_rc hC (fun k q => by
  rw [Nat.testBit_two_pow, decide_eq_true_eq] at q
  rw [← q]; exact h) _
theorem or_sub {S T : Nat} (h : subN T S) : S ||| T = S := by
  refine Nat.eq_of_testBit_eq (fun i => ?_)
  rw [Nat.testBit_or]
  by_cases q : T.testBit i = true
  · rw [q, h i q]; rfl
  · rw [Bool.not_eq_true] at q
    rw [q, Bool.or_false]
theorem or_closed {S T : Nat} (h1 : closedN D op ea eb S) (h2 : closedN D op ea eb T) : closedN D op ea eb (S ||| T) := by
  intro d hd ho hx
  rw [Nat.testBit_or, Nat.testBit_or, Bool.or_eq_true, Bool.or_eq_true] at *
  rcases hx with (q | q) | (q | q)
  · have := h1 d hd ho (Or.inl q); exact ⟨Or.inl this.1, Or.inl this.2⟩
  · have := h2 d hd ho (Or.inl q); exact ⟨Or.inr this.1, Or.inr this.2⟩
  · have := h1 d hd ho (Or.inr q); exact ⟨Or.inl this.1, Or.inl this.2⟩
  · have := h2 d hd ho (Or.inr q); exact ⟨Or.inr this.1, Or.inr this.2⟩
theorem zero_closed : closedN D op ea eb 0 := by
  intro d _ _ hx
  rw [Nat.zero_testBit, Nat.zero_testBit] at hx
  rcases hx with q | q <;> exact absurd q (by decide)
variable {f g dA dB dS dO dr : Nat → Int32}
theorem countParts_n (h : okNow D P Rm f g) (hD : D ≤ 10) (hR : Rm ≤ 8) (hd : ∀ d, d < D → okDoor Rm dA dB dS dO dr d) {i : Nat} (hi : i ≤ 1000) : mX8_countParts (nI Rm) (nI D) dS f (nI i) = mX10_partsBy (nI Rm) D dr g (nI i) (-1) := by
  unfold mX8_countParts mX10_partsBy
  dsimp only
  rw [clamp_nI (by omega)]
  have hE : ∀ d, d < D → eaN dr d < Rm ∧ ebN dr d < Rm := fun d q => ⟨((hd d q).ends hR).1, ((hd d q).ends hR).2.1⟩
  have := iter_rel (f := mX8_countParts_l7 (nI Rm) (nI D) dS f (nI i)) (g := mX10_partsBy_l8 D dr g (nI i) (-1)) (fun _ s t => s = t ∧ ∃ S, t.2 = nI S ∧ S < 256 ∧ closedN D (opN g (nI i)) (eaN dr) (ebN dr) S) (n := Rm) (s := ((0 : Int32), (0 : Int32))) (t := (nI 0, nI 0)) ⟨rfl, 0, rfl, by omega, zero_closed⟩ (by
    rintro k hk ⟨s1, s2⟩ ⟨t1, t2⟩ ⟨he, S, hS, hlt, hcl⟩
    have hS : t2 = nI S := hS
    have he := Prod.mk.inj he
    rw [he.1, he.2, hS]
    obtain ⟨p1, p2, p3⟩ := part_n h hD hR hd hi hk
    have hc := clo_closed (op := opN g (nI i)) hE hk
    unfold mX8_countParts_l7 mX10_partsBy_l8
    dsimp only
    rw [p1, p2, nI_or, has_inSet, inSet_n (by omega) (by omega)]
    by_cases c : S.testBit k = true
    · have e : S ||| partN D dr g Rm k i = S := or_sub (clo_in hcl c)
      rw [if_pos c, if_neg one_ne0, if_neg one_ne0, e, show nI 0 = (0 : Int32) from rfl, Int32.add_zero]
      exact ⟨rfl, S, rfl, hlt, hcl⟩
    · rw [if_neg c, if_pos rfl, if_pos rfl]
      exact ⟨rfl, _, rfl, Nat.or_lt_two_pow (n := 8) hlt p3, or_closed hcl hc⟩)
  rw [this.1]
end Parts
theorem st_parts {cI : Nat → Int32} {cR : Nat → Nat → Int32} {mN : Nat → Nat} {mI : Nat → Int32} {mR : Nat → Nat → Int32} (h : Rel cI cR mN mI mR) (x1 x2 : Int32) : (mX9_parts (cI 0) (cI 2) (cR 3) (cR 5) x1 x2) = (mX10_parts (mI 6) (mN 8) (mR 5) (mR 6) x1 x2) := by
  obtain ⟨⟨e0, e1, hRm, e2, hRn, e3, hD, e4, hP, hz⟩, hrain, hdoor⟩ := h.house
  have hw : mX9_within x1 0 9 = mX10_in x1 (nI 0) (nI 9) := rfl
  unfold mX9_parts mX10_parts
  rw [e0, e3, hw]
  have ht : (mX1_isTold (mI 6) = 0) = (mI 6 = 0) := propext (told_iff e1).1
  simp only [ht]
  have hc := room_cases (D := (mI 6).toNatClampNeg) (by omega) x2
  rw [← e1] at hc
  rcases in_cases x1 (A := 0) (B := 9) (by omega) (by omega) with ⟨j, j1, j2, rfl, hj⟩ | hj
  · simp only [hj, if_neg one_ne0]
    by_cases q : x2 = -1
    · simp only [if_pos q]
      by_cases q2 : mI 6 = 0
      · rw [if_pos q2, if_pos q2]
      · rw [if_neg q2, if_neg q2]
        have := countParts_n h.now hD hRm hdoor (i := j) (by omega)
        rw [← e1] at this
        exact this
    · simp only [if_neg q]
      rcases hc with ⟨r, hr, rfl, h3, h4⟩ | ⟨h3, h4⟩
      · rw [h3, h4, if_neg one_ne0, if_neg one_ne0]
        by_cases q2 : mI 6 = 0
        · rw [if_pos q2, if_pos q2]
        · rw [if_neg q2, if_neg q2]
          have := part_eq h.now hD hRm hdoor (i := j) (s := r) (by omega) hr
          rw [← e1] at this
          exact this
      · rw [h3, h4, if_pos rfl, if_pos rfl]
  · simp only [hj, if_true]
    rcases hc with ⟨r, hr, rfl, h3, h4⟩ | ⟨h3, h4⟩
    · rw [h3, h4]
    · rw [h3, h4]
