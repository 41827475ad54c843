/-! pure: hours -/
def calmed (w : Nat) : Nat := if w < 9 then w + 1 else if w = 9 then 9 else w - 1
theorem calmC : ∀ w, w < 19 → (nI w - nI 9) - mJ6_signum_0f7a4 (nI w - nI 9) = nI (calmed w) - nI 9 := by decide +kernel
theorem calmM : ∀ w, w < 19 → (if nI 9 ≤ nI w then (if nI w ≤ nI 9 then nI w + nI 0 else nI w + (-1 : Int32)) else nI w + nI 1) = nI (calmed w) := by decide +kernel
theorem calmed_le {w : Nat} (h : w ≤ 18) : calmed w ≤ 18 := by unfold calmed; split <;> (try split) <;> omega
theorem goBy_lp (n k : Nat) (u : Nat → Int32) : mX10_goBy_l82 (n + 1) k u = if (u 1 - u 1 / nI 24 * nI 24) = 0 then mX10_goBy_l82 n (k + 1) (upd u (29 + k) (if nI 9 ≤ u (29 + k) then (if u (29 + k) ≤ nI 9 then u (29 + k) + nI 0 else u (29 + k) + (-1 : Int32)) else u (29 + k) + nI 1)) else u := by
  show (if _ then _ else _) = _
  split
  · split
    · split
      · rfl
      · rfl
    · rfl
  · rfl
section Hour
variable {D P Rm : Nat} {f g dO dr rf ra : Nat → Int32}
theorem calm_ok (hD : D ≤ 10) (hP : P ≤ 6) (s0 : Nat → Int32) : ∀ n k u, k + n = P → okNow D P Rm (iter mX1_calmWishes_l2 k s0) u → (u 1 - u 1 / nI 24 * nI 24) = 0 → okNow D P Rm (iter mX1_calmWishes_l2 (k + n) s0) (mX10_goBy_l82 n k u) := by
  intro n
  induction n with
  | zero => intro k u _ h _; exact h
  | succ n ih =>
    intro k u hk h hu
    obtain ⟨w, hw, w1, w2⟩ := (h.2.2.2.2 k (by omega)).2
    rw [goBy_lp, if_pos hu, w1, calmM w (by omega), show k + (n + 1) = k + 1 + n by omega]
    refine ih (k + 1) _ (by omega) ?_ ?_
    · show okNow D P Rm (mX1_calmWishes_l2 k (iter mX1_calmWishes_l2 k s0)) _
      unfold mX1_calmWishes_l2 at h w2 ⊢
      rw [wishOf_n (by omega), w2, calmC w (by omega), setWish_n (by omega)]
      exact h.setWi hD hP (by omega) (calmed_le hw)
    · rw [pk_un (by omega)]; exact hu
theorem calm_no (n k : Nat) (u : Nat → Int32) (hu : ¬ (u 1 - u 1 / nI 24 * nI 24) = 0) : mX10_goBy_l82 n k u = u := by
  cases n with
  | zero => rfl
  | succ n => rw [goBy_lp, if_neg hu]
theorem passHour_ok {Rn hh : Nat} (h : okNow D P Rm f g) (hD : D ≤ 10) (hP : P ≤ 6) (hR : Rn ≤ 12) (hr : ∀ j, j < Rn → rf j = ra j ∧ ∃ t, t ≤ 3 ∧ ra j = nI t) (hd : ∀ d, d < D → ∃ o, o ≤ 1 ∧ dr (4 * d + 3) = nI o ∧ dO d = nI o) (h1 : g 1 = nI hh) (hb : hh ≤ 90029) :
    okNow D P Rm (mX1_passHour (nI Rn) (nI D) (nI P) dO rf f) (mX10_goBy Rn D P dr g ra) := by
  have h2 : f 32 = nI hh := by
    obtain ⟨t, t1, t2, t3⟩ := h.1
    rw [t3, ← t2, h1]
  obtain ⟨t, ht, k1, k2⟩ := rain_n (n := 0) (f := f) (g := g) hR hr h2 (by omega) (by omega)
  have hl : okNow D P Rm (iter (mX1_passHour_l8 (nI Rn) dO rf f) D f) (iter (mX10_goBy_l2 Rn dr g ra) D g) ∧ (iter (mX1_passHour_l8 (nI Rn) dO rf f) D f) 32 = nI hh ∧ (iter (mX10_goBy_l2 Rn dr g ra) D g) 1 = nI hh := by
    refine iter_rel (fun _ s t => okNow D P Rm s t ∧ s 32 = nI hh ∧ t 1 = nI hh) ⟨h, h2, h1⟩ ?_
    intro k hk s u hsu
    obtain ⟨hn, q1, q2⟩ := hsu
    obtain ⟨o, ho, o1, o2⟩ := hd k hk
    obtain ⟨v, hv, v1, v2, v3⟩ := hn.sp hk hD
    unfold mX1_passHour_l8 mX10_goBy_l2 mX1_isOpen
    rw [get_nat (by omega) (by omega), o1, o2, h1, clamp_nI (by omega)]
    have k1' : mX1_rainBehind (nI Rn) rf f 0 = nI t := k1
    rw [show hh = hh + 0 from rfl, k2, k1', v3]
    by_cases c : o = 1
    · rw [c, if_pos (show nI 1 = 1 from rfl), if_neg one_ne0, if_pos (show nI 1 = nI 1 from rfl), takeSpoons_n (by omega) v2 (by omega) (by omega), lessBy_n (by omega) (by omega)]
      refine ⟨hn.setSp hD hP hk (by omega), ?_, ?_⟩
      · rw [pk_un (by omega)]; exact q1
      · rw [pk_un (by omega)]; exact q2
    · have c : o = 0 := by omega
      rw [c, if_neg (show ¬ nI 0 = 1 by decide), if_pos rfl, if_neg (show ¬ nI 0 = nI 1 by decide), ← v3, upd_self]
      exact ⟨hn, q1, q2⟩
  obtain ⟨hn, q1, q2⟩ := hl
  have hn2 := hn.setHour hD hP (t := hh + 1) (by omega)
  unfold mX1_passHour mX10_goBy
  dsimp only
  rw [clamp_nI (by omega), countHour_n, q1, q2, nI_1, nI_add, hours_n, pk_us]
  have e24 : (24 : Int32) = nI 24 := rfl
  rw [e24]
  by_cases c : (nI (hh + 1) - nI (hh + 1) / nI 24 * nI 24) = 0
  · rw [if_pos c]
    unfold mX1_calmWishes
    rw [clamp_nI (by omega)]
    have := calm_ok hD hP (upd (iter (mX1_passHour_l8 (nI Rn) dO rf f) D f) 32 (nI (hh + 1))) P 0 _ (by omega) hn2 (by rw [pk_us]; exact c)
    rw [Nat.zero_add] at this
    exact this
  · rw [if_neg c, calm_no _ _ _ (by rw [pk_us]; exact c)]
    exact hn2
end Hour
theorem sumC_n {D P Rm : Nat} {f g : Nat → Int32} (h : okNow D P Rm f g) (hD : D ≤ 10) : mX1_spoonsInAll (nI D) f = mX10_allSpoons D g ∧ mX1_crossedInAll (nI D) f = mX10_allCrossed D g := by
  unfold mX1_spoonsInAll mX10_allSpoons mX1_crossedInAll mX10_allCrossed
  rw [clamp_nI (by omega)]
  constructor
  · show iter _ _ (nI 0) = _
    refine iter_congr (fun k hk t => ?_)
    unfold mX1_spoonsInAll_l4 mX10_allSpoons_l4
    rw [spoons_n (by omega), h.spEq k hk]
  · show iter _ _ (nI 0) = _
    refine iter_congr (fun k hk t => ?_)
    unfold mX1_crossedInAll_l4 mX10_allCrossed_l4
    rw [crossings_n (by omega), (h.2.2.2.1 k hk).2]
theorem st_hour {cI : Nat → Int32} {cR : Nat → Nat → Int32} {mN : Nat → Nat} {mI : Nat → Int32} {mR : Nat → Nat → Int32} (h : Rel cI cR mN mI mR) (x1 : Int32) : ((mX9_hour (cI 0) (cI 1) (cI 2) (cI 3) (cI 13) (cI 14) (cR 4) (cR 0) (cR 13) (cR 5) x1)).1 = ((mX10_hour (mI 6) (mN 7) (mN 8) (mN 9) (mN 10) (mR 8) (mR 5) (mR 6) (mR 4) x1)).1 ∧ Rel (upd (upd cI 13 (((mX9_hour (cI 0) (cI 1) (cI 2) (cI 3) (cI 13) (cI 14) (cR 4) (cR 0) (cR 13) (cR 5) x1)).2.1)) 14 (((mX9_hour (cI 0) (cI 1) (cI 2) (cI 3) (cI 13) (cI 14) (cR 4) (cR 0) (cR 13) (cR 5) x1)).2.2.1)) (updF (updF cR 5 (((mX9_hour (cI 0) (cI 1) (cI 2) (cI 3) (cI 13) (cI 14) (cR 4) (cR 0) (cR 13) (cR 5) x1)).2.2.2.2)) 13 (((mX9_hour (cI 0) (cI 1) (cI 2) (cI 3) (cI 13) (cI 14) (cR 4) (cR 0) (cR 13) (cR 5) x1)).2.2.2.1)) (updN mN 10 (((mX10_hour (mI 6) (mN 7) (mN 8) (mN 9) (mN 10) (mR 8) (mR 5) (mR 6) (mR 4) x1)).2.1)) mI (updF (updF mR 6 (((mX10_hour (mI 6) (mN 7) (mN 8) (mN 9) (mN 10) (mR 8) (mR 5) (mR 6) (mR 4) x1)).2.2.2)) 8 (((mX10_hour (mI 6) (mN 7) (mN 8) (mN 9) (mN 10) (mR 8) (mR 5) (mR 6) (mR 4) x1)).2.2.1)) := by
  obtain ⟨⟨e0, e1, hRm, e2, hRn, e3, hD, e4, hP, hz⟩, hrain, hdoor⟩ := h.house
  have hw : mX9_within x1 1 30 = mX10_in x1 (nI 1) (nI 30) := rfl
  rcases in_cases x1 (A := 1) (B := 30) (by omega) (by omega) with ⟨j, j1, j2, rfl, hc⟩ | hc
  · have k6 : (nI j).toNatClampNeg = j := clamp_nI (by omega)
    by_cases q : mI 6 = 0
    · simp only [mX9_hour, mX10_hour, mX10_noHours, hw, hc, e0, if_neg one_ne0, if_pos ((told_iff e1).1.mpr q), if_pos q, if_neg (show ¬ (-1000000003 : Int32) = 0 by decide)]
      exact ⟨trivial, h.text, h.fault, h.house, h.now, h.past, h.img, h.notes, h.seed⟩
    · have q' : ¬ mX1_isTold (mI 6) = 0 := fun c => q ((told_iff e1).1.mp c)
      obtain ⟨hh, hb, h1, h2⟩ := h.now.1
      by_cases c : nI hh ≤ 90000
      · have c' : hh ≤ 90000 := (nI_leI (by omega) (by omega)).mp c
        have hl := iter_rel (f := mX9_hour_l46 (nI (mN 7)) (nI (mN 8)) (nI (mN 9)) (cR 4) (cR 0)) (g := mX10_hour_l16 (mN 7) (mN 8) (mN 9) (mR 5) (mR 4)) (fun k s t => RPast (mN 8) (mN 9) (mI 6).toNatClampNeg s.1 s.2.1 s.2.2.1 t.1 t.2.1 ∧ okNow (mN 8) (mN 9) (mI 6).toNatClampNeg s.2.2.2 t.2.2 ∧ ∃ z, z ≤ 90000 + k ∧ t.2.2 1 = nI z) (n := j) (s := (cI 13, cI 14, cR 13, cR 5)) (t := (mN 10, mR 8, mR 6)) ⟨h.past, h.now, hh, by omega, h1⟩ (by
          intro k hk s t hst
          obtain ⟨p1, p2, z, z1, z2⟩ := hst
          refine ⟨past_note hD hP p1 p2, passHour_ok p2 hD hP hRn hrain (fun d hd => ?_) z2 (by omega), z + 1, by omega, ?_⟩
          · obtain ⟨a, b, o, -, -, -, o1, -, -, -, -, o2, o3, -⟩ := hdoor d hd
            exact ⟨o, o1, o2, o3⟩
          · show mX10_goBy _ _ _ _ t.2.2 _ 1 = _
            rw [goBy_1, z2, nI_add])
        simp only [mX9_hour, mX10_hour, mX10_noHours, hw, hc, e0, if_neg one_ne0, if_neg q', if_neg q, hours_n, h1, h2, if_pos c, k6, e2, e3, e4, if_pos (show nI 0 = 0 from rfl)]
        refine ⟨(sumC_n hl.2.1 hD).1, h.text, h.fault, h.house, hl.2.1, hl.1, h.img, h.notes, h.seed⟩
      · simp only [mX9_hour, mX10_hour, mX10_noHours, hw, hc, e0, if_neg one_ne0, if_neg q', if_neg q, hours_n, h1, h2, if_neg c, if_neg (show ¬ (-1000000004 : Int32) = 0 by decide)]
        exact ⟨trivial, h.text, h.fault, h.house, h.now, h.past, h.img, h.notes, h.seed⟩
  · simp only [mX9_hour, mX10_hour, mX10_noHours, hw, hc, if_true, if_neg (show ¬ (-1000000002 : Int32) = 0 by decide)]
    exact ⟨trivial, h.text, h.fault, h.house, h.now, h.past, h.img, h.notes, h.seed⟩
