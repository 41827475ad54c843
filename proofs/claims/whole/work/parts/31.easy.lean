/-! pure: the steps that need little -/
theorem st_fault {cI : Nat → Int32} {cR : Nat → Nat → Int32} {mN : Nat → Nat} {mI : Nat → Int32} {mR : Nat → Nat → Int32} (h : Rel cI cR mN mI mR) : (mX9_fault (cI 5)) = (mX10_fault (mI 2)) := by
  exact h.fault
theorem st_dry {cI : Nat → Int32} {cR : Nat → Nat → Int32} {mN : Nat → Nat} {mI : Nat → Int32} {mR : Nat → Nat → Int32} (h : Rel cI cR mN mI mR) (x1 x2 : Int32) : (mX9_dry x1 x2) = (mX10_dry x1 x2) := by
  unfold mX9_dry mX10_dry
  rw [within_in, within_in, show nI 60 = (60 : Int32) from rfl, show nI 100 = (100 : Int32) from rfl, show nI 0 = (0 : Int32) from rfl]
  rfl
theorem st_seed {cI : Nat → Int32} {cR : Nat → Nat → Int32} {mN : Nat → Nat} {mI : Nat → Int32} {mR : Nat → Nat → Int32} (h : Rel cI cR mN mI mR) (x1 : Int32) : ((mX9_seed (cI 17) x1)).1 = ((mX10_seed (mI 7) x1)).1 ∧ Rel (upd cI 17 (((mX9_seed (cI 17) x1)).2)) cR mN (upd mI 7 (((mX10_seed (mI 7) x1)).2)) mR := by
  have hs := h.seed
  by_cases c : 0 ≤ x1
  · simp only [mX9_seed, mX10_seed, if_pos c]
    refine ⟨hs.1, h.text, h.fault, h.house, h.now, h.past, h.img, h.notes, rfl, nn_nat ?_⟩
    rw [Int32.le_iff_toInt_le, Int32.toInt_zero] at c
    exact c
  · simp only [mX9_seed, mX10_seed, if_neg c]
    exact ⟨trivial, h.text, h.fault, h.house, h.now, h.past, h.img, h.notes, hs⟩
theorem st_tear {cI : Nat → Int32} {cR : Nat → Nat → Int32} {mN : Nat → Nat} {mI : Nat → Int32} {mR : Nat → Nat → Int32} (h : Rel cI cR mN mI mR) : ((mX9_tear (cI 15) (cI 16))).1 = ((mX10_tear (mN 11) (mN 12))).1 ∧ Rel (upd (upd cI 15 (((mX9_tear (cI 15) (cI 16))).2.1)) 16 (((mX9_tear (cI 15) (cI 16))).2.2)) cR (updN (updN mN 11 (((mX10_tear (mN 11) (mN 12))).2.1)) 12 (((mX10_tear (mN 11) (mN 12))).2.2)) mI mR := by
  have hn := h.notes
  unfold mX9_tear mX10_tear
  refine ⟨?_, h.text, h.fault, h.house, h.now, h.past, h.img, ?_, h.seed⟩
  · show cI 15 + cI 16 = nI (mN 11 + mN 12)
    rw [hn.1.1, hn.1.2.2.1, nI_add]
  · exact ⟨⟨rfl, Nat.zero_le _, rfl, Nat.zero_le _⟩, fun k hk => absurd hk (Nat.not_lt_zero _), fun k hk => absurd hk (Nat.not_lt_zero _)⟩
theorem st_mostCrossed {cI : Nat → Int32} {cR : Nat → Nat → Int32} {mN : Nat → Nat} {mI : Nat → Int32} {mR : Nat → Nat → Int32} (h : Rel cI cR mN mI mR) : (mX9_mostCrossed (cI 2) (cR 5)) = (mX10_mostCrossed (mN 8) (mR 6)) := by
  obtain ⟨⟨e0, e1, hRm, e2, hRn, e3, hD, e4, hP, hz⟩, hrain, hdoor⟩ := h.house
  unfold mX9_mostCrossed mX8_doorMostCrossed mX10_mostCrossed
  rw [e3, clamp_nI (by omega)]
  show (iter (mX8_doorMostCrossed_l6 (cR 5)) (mN 8) ((-1 : Int32), (0 : Int32))).1 = (iter (mX10_mostCrossed_l6 (mR 6)) (mN 8) ((-1 : Int32), nI 0)).1
  rw [iter_congr (f := mX8_doorMostCrossed_l6 (cR 5)) (g := mX10_mostCrossed_l6 (mR 6))]
  · rfl
  · intro k hk t
    unfold mX8_doorMostCrossed_l6 mX10_mostCrossed_l6
    rw [crossings_n (by omega), (h.now.2.2.2.1 k hk).2]
    split <;> rfl
theorem st_stops {cI : Nat → Int32} {cR : Nat → Nat → Int32} {mN : Nat → Nat} {mI : Nat → Int32} {mR : Nat → Nat → Int32} (h : Rel cI cR mN mI mR) (x1 x2 : Int32) : (mX9_stops (cI 2) (cI 3) (cR 5) x1 x2) = (mX10_stops (mN 8) (mN 9) (mR 6) x1 x2) := by
  obtain ⟨⟨e0, e1, hRm, e2, hRn, e3, hD, e4, hP, hz⟩, hrain, hdoor⟩ := h.house
  unfold mX9_stops mX10_stops
  rw [e3, e4]
  rcases person_cases (D := mN 9) (by omega) x1 with ⟨p, hp, rfl, h1, h2⟩ | ⟨h1, h2⟩
  · rw [h1, h2, if_neg one_ne0, if_neg one_ne0]
    rcases door_cases (D := mN 8) (by omega) x2 with ⟨d, hd, rfl, h3, h4⟩ | ⟨h3, h4⟩
    · rw [h3, h4, if_neg one_ne0, if_neg one_ne0, clamp_nI (by omega), clamp_nI (by omega)]
      obtain ⟨i, hi, k1, k2⟩ := h.now.ill hp (by omega)
      obtain ⟨t, ht, k3, k4, k5⟩ := h.now.sp hd (by omega)
      unfold mX1_lineStops mX10_stopsIn
      rw [k1, k2, k3, k5, hold_eq (by omega) (by omega)]
      rfl
    · rw [h3, h4, if_pos rfl, if_pos rfl]
  · rw [h1, h2, if_pos rfl, if_pos rfl]
theorem st_room {cI : Nat → Int32} {cR : Nat → Nat → Int32} {mN : Nat → Nat} {mI : Nat → Int32} {mR : Nat → Nat → Int32} (h : Rel cI cR mN mI mR) (x1 : Int32) : (mX9_room (cI 0) (cI 3) (cR 5) x1) = (mX10_room (mI 6) (mN 9) (mR 6) x1) := by
  obtain ⟨⟨e0, e1, hRm, e2, hRn, e3, hD, e4, hP, hz⟩, hrain, hdoor⟩ := h.house
  unfold mX9_room mX10_room mX1_personsIn
  rw [e0, e4, clamp_nI (by omega)]
  have hc := room_cases (D := (mI 6).toNatClampNeg) (by omega) x1
  rw [← e1] at hc
  rcases hc with ⟨p, hp, rfl, h1, h2⟩ | ⟨h1, h2⟩
  · rw [h1, h2, if_neg one_ne0, if_neg one_ne0]
    show iter _ _ (nI 0) = iter _ _ (nI 0)
    refine iter_congr (fun k hk t => ?_)
    obtain ⟨a, ha, k1, k2, k3⟩ := h.now.pl hk (by omega)
    unfold mX1_personsIn_l4 mX10_room_l15 mX9_only
    rw [k1, k3]
    split
    · rfl
    · rw [show nI 0 = (0 : Int32) from rfl, Int32.or_zero]
  · rw [h1, h2, if_pos rfl, if_pos rfl]
theorem judge_lp {now g bd bs en : Nat → Int32} {D E : Nat} (hE : E ≤ 20) (hD : D ≤ 10) (hb : ∀ k, k < E → (∃ t, t < D ∧ en (2 * k) = nI t) ∧ bd k = en (2 * k) ∧ bs k = en (2 * k + 1)) (hn : ∀ d, d < D → now d = g (3 + d)) : ∀ n k, k + n = E → mX3_firstWrong_l2 now bd bs n k = mX10_judge_l2 en g n k := by
  intro n
  induction n with
  | zero => intro k _; rfl
  | succ n ih =>
    intro k hk
    unfold mX3_firstWrong_l2 mX10_judge_l2
    obtain ⟨⟨t, ht, h1⟩, h2, h3⟩ := hb k (by omega)
    rw [get_nat (by omega) (by omega), get_nat (by omega) (by omega), h2, h3, h1, spoons_n (by omega), clamp_nI (by omega), hn t ht, ih (k + 1) (by omega)]
theorem okNow.spEq {D P Rm : Nat} {f g : Nat → Int32} (h : okNow D P Rm f g) : ∀ d, d < D → f d = g (3 + d) := fun d hd => by
  obtain ⟨t, -, h1, h2⟩ := (h.2.2.2.1 d hd).1
  rw [h1, h2]
theorem st_judge {cI : Nat → Int32} {cR : Nat → Nat → Int32} {mN : Nat → Nat} {mI : Nat → Int32} {mR : Nat → Nat → Int32} (h : Rel cI cR mN mI mR) : (mX9_judge (cI 16) (cR 16) (cR 17) (cR 5)) = (mX10_judge (mN 12) (mR 13) (mR 6)) := by
  have hn := h.notes
  unfold mX9_judge mX3_firstWrong mX10_judge
  rw [hn.1.2.2.1, clamp_nI (by have := hn.1.2.2.2; omega)]
  exact judge_lp hn.1.2.2.2 h.hD hn.2.2 h.now.spEq _ _ (Nat.zero_add _)
theorem st_feed {cI : Nat → Int32} {cR : Nat → Nat → Int32} {mN : Nat → Nat} {mI : Nat → Int32} {mR : Nat → Nat → Int32} (h : Rel cI cR mN mI mR) (x1 : Int32) : ((mX9_feed (cI 4) (cR 12) x1)).1 = ((mX10_feed (mN 0) (mR 0) x1)).1 ∧ Rel (upd cI 4 (((mX9_feed (cI 4) (cR 12) x1)).2.1)) (updF cR 12 (((mX9_feed (cI 4) (cR 12) x1)).2.2)) (updN mN 0 (((mX10_feed (mN 0) (mR 0) x1)).2.1)) mI (updF mR 0 (((mX10_feed (mN 0) (mR 0) x1)).2.2)) := by
  obtain ⟨t1, t2, t3⟩ := h.text
  have hw : mX9_within x1 0 255 = mX10_in x1 (nI 0) (nI 255) := rfl
  rcases in_cases x1 (A := 0) (B := 255) (by omega) (by omega) with ⟨j, hj0, hj, rfl, hc⟩ | hc
  · by_cases c : mN 0 = 240
    · have c1 : ¬ cI 4 < (240 : Int32) := by rw [t1, c]; decide
      have c2 : nI (mN 0) = nI 240 := by rw [c]
      simp only [mX9_feed, mX10_feed, hw, hc, if_neg one_ne0, if_neg c1, if_pos c2]
      exact ⟨trivial, h⟩
    · have c1 : cI 4 < (240 : Int32) := by rw [t1, show (240 : Int32) = nI 240 from rfl]; exact nI_lt (by omega) (by omega)
      have c2 : ¬ nI (mN 0) = nI 240 := fun q => c ((nI_eq (by omega) (by omega)).mp q)
      have e1 : mX5_append (cI 4) (cR 12) (nI j) = (nI (mN 0 + 1), upd (cR 12) (mN 0) (nI j)) := by
        unfold mX5_append
        rw [t1, nI_1, set_nat (by omega) (by omega)]
      simp only [mX9_feed, mX10_feed, hw, hc, if_neg one_ne0, if_pos c1, if_neg c2, e1]
      refine ⟨trivial, ⟨rfl, by show mN 0 + 1 ≤ 240; omega, ?_⟩, h.fault, h.house, h.now, h.past, h.img, h.notes, h.seed⟩
      intro i hi
      have hi : i < mN 0 + 1 := hi
      show upd (cR 12) (mN 0) (nI j) i = upd (mR 0) (mN 0) (nI j) i ∧ _
      by_cases q : i = mN 0
      · rw [q]
        show _ ∧ ∃ t, t ≤ 255 ∧ upd (mR 0) (mN 0) (nI j) (mN 0) = nI t
        rw [pk_us, pk_us]
        exact ⟨rfl, j, hj, rfl⟩
      · show _ ∧ ∃ t, t ≤ 255 ∧ upd (mR 0) (mN 0) (nI j) i = nI t
        rw [pk_un q, pk_un q]
        exact t3 i (by omega)
  · simp only [mX9_feed, mX10_feed, hw, hc, if_true]
    exact ⟨trivial, h⟩
theorem rain_n {f g ra rf : Nat → Int32} {Rn n : Nat} {hh : Nat} (hR : Rn ≤ 12) (hr : ∀ j, j < Rn → rf j = ra j ∧ ∃ t, t ≤ 3 ∧ ra j = nI t) (h1 : f 32 = nI hh) (hb : hh ≤ 100000) (hn : n ≤ 100000) : ∃ t, t ≤ 3 ∧ mX1_rainBehind (nI Rn) rf f (nI n) = nI t ∧ mX10_rainAt Rn ra (hh + n) = nI t := by
  unfold mX1_rainBehind mX10_rainAt
  rcases Nat.eq_zero_or_pos Rn with q | q
  · refine ⟨0, by omega, ?_, ?_⟩
    · rw [q, if_pos (by decide)]; rfl
    · rw [q, if_pos (show nI 0 = 0 from rfl)]
  · have hlt : (hh + n) % Rn < Rn := Nat.mod_lt _ q
    obtain ⟨h2, t, ht, h3⟩ := hr _ hlt
    refine ⟨t, ht, ?_, ?_⟩
    · rw [if_neg (nI_nle q (by omega)), hours_n, h1, nI_add, pk_rem (by omega) q (by omega), get_nat (by omega) (by omega), h2, h3]
    · rw [if_neg (nI_ne0 q (by omega)), h3]
theorem told_iff {r : Int32} (h : r = nI r.toNatClampNeg) : (mX1_isTold r = 0 ↔ r = 0) ∧ (mX1_isTold r = 0 ∨ mX1_isTold r = 1) := by
  have hb := clampLt r
  unfold mX1_isTold
  by_cases q : r.toNatClampNeg = 0
  · rw [q] at h
    rw [h]
    exact ⟨by decide, by decide⟩
  · rw [h, if_neg (nI_nle (by omega) (by omega))]
    exact ⟨⟨fun c => absurd c one_ne0, fun c => absurd c (nI_ne0 (by omega) (by omega))⟩, Or.inr rfl⟩
theorem st_rain {cI : Nat → Int32} {cR : Nat → Nat → Int32} {mN : Nat → Nat} {mI : Nat → Int32} {mR : Nat → Nat → Int32} (h : Rel cI cR mN mI mR) (x1 : Int32) : (mX9_rain (cI 0) (cI 1) (cR 0) (cR 5) x1) = (mX10_rain (mI 6) (mN 7) (mR 6) (mR 4) x1) := by
  obtain ⟨⟨e0, e1, hRm, e2, hRn, e3, hD, e4, hP, hz⟩, hrain, hdoor⟩ := h.house
  unfold mX9_rain mX10_rain
  rw [show mX9_within x1 0 99 = mX10_in x1 (nI 0) (nI 99) from rfl, e0, e2]
  rcases in_cases x1 (A := 0) (B := 99) (by omega) (by omega) with ⟨j, hj0, hj, rfl, hc⟩ | hc
  · rw [hc, if_neg one_ne0, if_neg one_ne0]
    by_cases q : mI 6 = 0
    · rw [if_pos ((told_iff e1).1.mpr q), if_pos q]
    · rw [if_neg (fun c => q ((told_iff e1).1.mp c)), if_neg q]
      obtain ⟨hh, hb, h1, h2⟩ := h.now.1
      obtain ⟨t, ht, k1, k2⟩ := rain_n (n := j) (f := cR 5) (g := mR 6) hRn hrain h2 (by omega) (by omega)
      rw [h1, clamp_nI (by omega), clamp_nI (by omega), k1, k2]
  · rw [hc, if_pos rfl, if_pos rfl]
theorem st_see {cI : Nat → Int32} {cR : Nat → Nat → Int32} {mN : Nat → Nat} {mI : Nat → Int32} {mR : Nat → Nat → Int32} (h : Rel cI cR mN mI mR) (x1 x2 : Int32) (hb : x2 = 0 ∨ x2 = 1) : ((mX9_see (cI 15) (cR 14) (cR 15) x1 x2)).1 = ((mX10_see (mN 11) (mR 12) x1 x2)).1 ∧ Rel (upd cI 15 (((mX9_see (cI 15) (cR 14) (cR 15) x1 x2)).2.1)) (updF (updF cR 14 (((mX9_see (cI 15) (cR 14) (cR 15) x1 x2)).2.2.1)) 15 (((mX9_see (cI 15) (cR 14) (cR 15) x1 x2)).2.2.2)) (updN mN 11 (((mX10_see (mN 11) (mR 12) x1 x2)).2.1)) mI (updF mR 12 (((mX10_see (mN 11) (mR 12) x1 x2)).2.2)) := by
  obtain ⟨⟨n1, n2, n3, n4⟩, n5, n6⟩ := h.notes
  have hw : mX9_within x1 0 9 = mX10_in x1 (nI 0) (nI 9) := rfl
  rcases in_cases x1 (A := 0) (B := 9) (by omega) (by omega) with ⟨j, hj0, hj, rfl, hc⟩ | hc
  · by_cases c : mN 11 = 6
    · have c1 : ¬ cI 15 < (6 : Int32) := by rw [n1, c]; decide
      have c2 : nI (mN 11) = nI 6 := by rw [c]
      simp only [mX9_see, mX10_see, hw, hc, if_neg one_ne0, if_neg c1, if_pos c2]
      exact ⟨trivial, h⟩
    · have c1 : cI 15 < (6 : Int32) := by rw [n1, show (6 : Int32) = nI 6 from rfl]; exact nI_lt (by omega) (by omega)
      have c2 : ¬ nI (mN 11) = nI 6 := fun q => c ((nI_eq (by omega) (by omega)).mp q)
      have key : ∀ v : Int32, (v = 0 ∨ v = 1) → RNotes (mN 8) (nI (mN 11 + 1)) (cI 16) (upd (cR 14) (mN 11) (nI j)) (upd (cR 15) (mN 11) v) (cR 16) (cR 17) (mN 11 + 1) (mN 12) (upd (upd (mR 12) (2 * mN 11) (nI j)) (2 * mN 11 + 1) v) (mR 13) := by
        intro v hv
        refine ⟨⟨rfl, by omega, n3, n4⟩, ?_, n6⟩
        intro k hk
        by_cases q : k = mN 11
        · subst q
          rw [pk_us, pk_us, pk_us, pk_un (by omega), pk_us]
          exact ⟨⟨j, hj, rfl⟩, rfl, rfl, hv⟩
        · rw [pk_un q, pk_un q, pk_un (by omega), pk_un (by omega), pk_un (by omega), pk_un (by omega)]
          exact n5 k (by omega)
      have e1 : ∀ v : Int32, mX6_set 6 (cR 15) (cI 15) v = upd (cR 15) (mN 11) v := fun v => by rw [n1, set_nat (by omega) (by omega)]
      have e2 : mX6_set 6 (cR 14) (cI 15) (nI j) = upd (cR 14) (mN 11) (nI j) := by rw [n1, set_nat (by omega) (by omega)]
      have e3 : cI 15 + 1 = nI (mN 11 + 1) := by rw [n1, nI_1]
      rcases hb with rfl | rfl
      · simp only [mX9_see, mX10_see, mX3_addSeen, hw, hc, if_neg one_ne0, if_pos c1, if_neg c2, if_true, e1, e2, e3]
        exact ⟨trivial, h.text, h.fault, h.house, h.now, h.past, h.img, key 0 (Or.inl rfl), h.seed⟩
      · simp only [mX9_see, mX10_see, mX3_addSeen, hw, hc, if_neg one_ne0, if_pos c1, if_neg c2, e1, e2, e3]
        exact ⟨trivial, h.text, h.fault, h.house, h.now, h.past, h.img, key 1 (Or.inr rfl), h.seed⟩
  · simp only [mX9_see, mX10_see, hw, hc, if_true]
    exact ⟨trivial, h⟩
theorem st_write {cI : Nat → Int32} {cR : Nat → Nat → Int32} {mN : Nat → Nat} {mI : Nat → Int32} {mR : Nat → Nat → Int32} (h : Rel cI cR mN mI mR) (x1 x2 : Int32) : ((mX9_write (cI 2) (cI 16) (cR 16) (cR 17) x1 x2)).1 = ((mX10_write (mN 8) (mN 12) (mR 13) x1 x2)).1 ∧ Rel (upd cI 16 (((mX9_write (cI 2) (cI 16) (cR 16) (cR 17) x1 x2)).2.1)) (updF (updF cR 16 (((mX9_write (cI 2) (cI 16) (cR 16) (cR 17) x1 x2)).2.2.1)) 17 (((mX9_write (cI 2) (cI 16) (cR 16) (cR 17) x1 x2)).2.2.2)) (updN mN 12 (((mX10_write (mN 8) (mN 12) (mR 13) x1 x2)).2.1)) mI (updF mR 13 (((mX10_write (mN 8) (mN 12) (mR 13) x1 x2)).2.2)) := by
  obtain ⟨⟨n1, n2, n3, n4⟩, n5, n6⟩ := h.notes
  obtain ⟨⟨e0, e1, hRm, e2, hRn, e3, hD, e4, hP, hz⟩, hrain, hdoor⟩ := h.house
  have hw : mX9_within x2 0 9 = mX10_in x2 (nI 0) (nI 9) := rfl
  rcases door_cases (D := mN 8) (by omega) x1 with ⟨d, hd, rfl, h1, h2⟩ | ⟨h1, h2⟩
  · rcases in_cases x2 (A := 0) (B := 9) (by omega) (by omega) with ⟨j, hj0, hj, rfl, hc⟩ | hc
    · by_cases c : mN 12 = 20
      · have c1 : ¬ cI 16 < (20 : Int32) := by rw [n3, c]; decide
        have c2 : nI (mN 12) = nI 20 := by rw [c]
        simp only [mX9_write, mX10_write, e3, h1, h2, hw, hc, if_neg one_ne0, if_neg c1, if_pos c2]
        exact ⟨trivial, h⟩
      · have c1 : cI 16 < (20 : Int32) := by rw [n3, show (20 : Int32) = nI 20 from rfl]; exact nI_lt (by omega) (by omega)
        have c2 : ¬ nI (mN 12) = nI 20 := fun q => c ((nI_eq (by omega) (by omega)).mp q)
        have k1 : mX6_set 20 (cR 16) (cI 16) (nI d) = upd (cR 16) (mN 12) (nI d) := by rw [n3, set_nat (by omega) (by omega)]
        have k2 : mX6_set 20 (cR 17) (cI 16) (nI j) = upd (cR 17) (mN 12) (nI j) := by rw [n3, set_nat (by omega) (by omega)]
        have k3 : cI 16 + 1 = nI (mN 12 + 1) := by rw [n3, nI_1]
        simp only [mX9_write, mX10_write, mX3_addEntry, e3, h1, h2, hw, hc, if_neg one_ne0, if_pos c1, if_neg c2, k1, k2, k3]
        refine ⟨trivial, h.text, h.fault, h.house, h.now, h.past, h.img, ⟨⟨n1, n2, rfl, by show mN 12 + 1 ≤ 20; omega⟩, n5, ?_⟩, h.seed⟩
        intro k hk
        have hk : k < mN 12 + 1 := hk
        show (∃ t, t < mN 8 ∧ upd (upd (mR 13) (2 * mN 12) (nI d)) (2 * mN 12 + 1) (nI j) (2 * k) = nI t) ∧ upd (cR 16) (mN 12) (nI d) k = upd (upd (mR 13) (2 * mN 12) (nI d)) (2 * mN 12 + 1) (nI j) (2 * k) ∧ upd (cR 17) (mN 12) (nI j) k = upd (upd (mR 13) (2 * mN 12) (nI d)) (2 * mN 12 + 1) (nI j) (2 * k + 1)
        by_cases q : k = mN 12
        · rw [q, pk_us, pk_us, pk_us, pk_un (by omega), pk_us]
          exact ⟨⟨d, hd, rfl⟩, rfl, rfl⟩
        · rw [pk_un q, pk_un q, pk_un (by omega), pk_un (by omega), pk_un (by omega), pk_un (by omega)]
          exact n6 k (by omega)
    · simp only [mX9_write, mX10_write, e3, h1, h2, hw, hc, if_neg one_ne0, if_true]
      exact ⟨trivial, h⟩
  · simp only [mX9_write, mX10_write, e3, h1, h2, if_true]
    exact ⟨trivial, h⟩
