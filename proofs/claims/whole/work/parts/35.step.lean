/-! pure: a step, an hour -/
set_option maxRecDepth 100000 in
theorem sides_n : ∀ a, a < 8 → ∀ b, b < 8 → ∀ c, c < 8 → mX9_inSet ((1 <<< (nI a &&& 31)) ||| (1 <<< (nI b &&& 31))) (nI c) = if nI a = nI c then nI 1 else (if nI b = nI c then nI 1 else nI 0) := by decide +kernel
/-- a door as the class and as the model hold it -/
def okDoor (Rm : Nat) (dA dB dS dO dr : Nat → Int32) (d : Nat) : Prop := ∃ a b o, a < Rm ∧ b < Rm ∧ a ≠ b ∧ o ≤ 1 ∧ dr (4 * d) = nI a ∧ dA d = nI a ∧ dr (4 * d + 1) = nI b ∧ dB d = nI b ∧ dr (4 * d + 3) = nI o ∧ dO d = nI o ∧ dS d = (1 <<< (nI a &&& 31)) ||| (1 <<< (nI b &&& 31))
theorem upd_self {f : Nat → Int32} {j : Nat} : upd f j (f j) = f := by
  funext k
  by_cases q : k = j
  · rw [q, pk_us]
  · rw [pk_un q]
section Step
variable {D P Rm : Nat} {f g dA dB dS dO dr : Nat → Int32}
theorem at_n (h : okNow D P Rm f g) (hD : D ≤ 10) (hP : P ≤ 6) (hR : Rm ≤ 8) {p d : Nat} (hp : p < P) (hd : d < D) (ho : okDoor Rm dA dB dS dO dr d) : mX1_isAtDoor dS f (nI p) (nI d) = mX10_isAt dr g p d := by
  obtain ⟨c, hc, k1, k2, k3⟩ := h.pl hp hP
  obtain ⟨a, b, o, ha, hb, hab, ho1, d1, d2, d3, d4, d5, d6, d7⟩ := ho
  unfold mX1_isAtDoor mX10_isAt
  rw [get_nat (by omega) (by omega), k1, k3, d7, d1, d3, sides_n a (by omega) b (by omega) c (by omega)]
theorem step_core (h : okNow D P Rm f g) (hD : D ≤ 10) (hP : P ≤ 6) {p d x : Nat} (hp : p < P) (hd : d < D) (hx : x < Rm) :
    okNow D P Rm (if (((mX7_crossings ((mX7_countCrossing ((mX7_setPlace f (nI p) (nI x))) (nI d))) (nI d))) - ((mX7_crossings ((mX7_countCrossing ((mX7_setPlace f (nI p) (nI x))) (nI d))) (nI d))) / ((4 : Int32)) * ((4 : Int32))) = 0 then (mX7_takeSpoons ((mX7_countCrossing ((mX7_setPlace f (nI p) (nI x))) (nI d))) (nI d) ((1 : Int32))) else (mX7_countCrossing ((mX7_setPlace f (nI p) (nI x))) (nI d)))
      (if (((upd (upd g (23 + p) (nI x)) (13 + d) (((upd g (23 + p) (nI x)) (13 + d)) + (nI 1))) (13 + d)) - ((upd (upd g (23 + p) (nI x)) (13 + d) (((upd g (23 + p) (nI x)) (13 + d)) + (nI 1))) (13 + d)) / (nI 4) * (nI 4)) = 0 then upd (upd (upd g (23 + p) (nI x)) (13 + d) (((upd g (23 + p) (nI x)) (13 + d)) + (nI 1))) (3 + d) ((mX10_lessBy ((upd (upd g (23 + p) (nI x)) (13 + d) (((upd g (23 + p) (nI x)) (13 + d)) + (nI 1))) (3 + d)) (nI 1))) else upd (upd g (23 + p) (nI x)) (13 + d) (((upd g (23 + p) (nI x)) (13 + d)) + (nI 1))) := by
  have e1 : mX7_countCrossing (mX7_setPlace f (nI p) (nI x)) (nI d) = upd (upd f (20 + p) (nI x)) (10 + d) (f (10 + d) + 1) := by
    rw [setPlace_n (by omega), countCrossing_n (by omega), pk_un (by omega)]
  have e2 : upd (upd g (23 + p) (nI x)) (13 + d) (((upd g (23 + p) (nI x)) (13 + d)) + (nI 1)) = upd (upd g (23 + p) (nI x)) (13 + d) (f (10 + d) + 1) := by
    rw [pk_un (by omega), (h.2.2.2.1 d hd).2]; rfl
  have hn := (h.setPl hD hP hp hx).setCr hD hP (v := f (10 + d) + 1) hd
  obtain ⟨t, ht, k1, k2, k3⟩ := hn.sp hd hD
  rw [e1, e2, crossings_n (by omega), pk_us, pk_us]
  have e4 : (4 : Int32) = nI 4 := rfl
  rw [e4]
  split
  · rw [show mX7_takeSpoons (upd (upd f (20 + p) (nI x)) (10 + d) (f (10 + d) + 1)) (nI d) 1 = _ from takeSpoons_n (b := 1) (by omega) k2 (by omega) (by omega), k3, lessBy_n (by omega) (by omega)]
    exact hn.setSp hD hP hd (by omega)
  · exact hn
theorem makeStep_ok (h : okNow D P Rm f g) (hD : D ≤ 10) (hP : P ≤ 6) {p d : Nat} (hp : p < P) (hd : d < D) (ho : okDoor Rm dA dB dS dO dr d) (hat : ¬ mX10_isAt dr g p d = 0) : okNow D P Rm (mX1_makeStep dA dB f (nI p) (nI d)) (mX10_steps dr g p d) := by
  obtain ⟨c, hc, k1, k2, k3⟩ := h.pl hp hP
  obtain ⟨a, b, o, ha, hb, hab, ho1, d1, d2, d3, d4, d5, d6, d7⟩ := ho
  obtain ⟨i, hi, i1, i2⟩ := h.ill hp hP
  obtain ⟨t, ht, t1, t2, t3⟩ := h.sp hd hD
  have hls : mX1_lineStops f (nI d) (mX7_ill f (nI p)) = mX10_stopsIn g p d := by
    unfold mX1_lineStops mX10_stopsIn
    rw [i1, i2, t1, t3, hold_eq (by omega) (by omega)]
  have hab2 : nI a ≠ nI b ∨ True := Or.inr trivial
  have hcc : nI c = nI a ∨ nI c = nI b := by
    unfold mX10_isAt at hat
    rw [d1, d3, k3] at hat
    by_cases q : nI a = nI c
    · exact Or.inl q.symm
    · by_cases q2 : nI b = nI c
      · exact Or.inr q2.symm
      · rw [if_neg q, if_neg q2] at hat
        exact absurd rfl hat
  unfold mX1_makeStep mX10_steps
  rw [hls, get_nat (by omega) (by omega), get_nat (by omega) (by omega), k1, d2, d4, d1, d3, k3]
  by_cases q : mX10_stopsIn g p d = 0
  · rw [if_pos q, if_pos q]
    by_cases q2 : nI c = nI a
    · rw [if_pos q2, q2, Int32.add_comm, Int32.add_sub_cancel]
      exact step_core h hD hP hp hd hb
    · have q3 := hcc.resolve_left q2
      rw [if_neg q2, q3, Int32.add_sub_cancel]
      exact step_core h hD hP hp hd ha
  · rw [if_neg q, if_neg q, countStopped_n]
    have := h.2.2.1
    rw [show g 2 + nI 1 = f 34 + 1 by rw [this]; rfl]
    exact h.setStopped hD hP
end Step
theorem st_step {cI : Nat → Int32} {cR : Nat → Nat → Int32} {mN : Nat → Nat} {mI : Nat → Int32} {mR : Nat → Nat → Int32} (h : Rel cI cR mN mI mR) (x1 x2 : Int32) : ((mX9_step (cI 2) (cI 3) (cI 13) (cI 14) (cR 1) (cR 2) (cR 3) (cR 13) (cR 5) x1 x2)).1 = ((mX10_step (mN 8) (mN 9) (mN 10) (mR 8) (mR 5) (mR 6) x1 x2)).1 ∧ Rel (upd (upd cI 13 (((mX9_step (cI 2) (cI 3) (cI 13) (cI 14) (cR 1) (cR 2) (cR 3) (cR 13) (cR 5) x1 x2)).2.1)) 14 (((mX9_step (cI 2) (cI 3) (cI 13) (cI 14) (cR 1) (cR 2) (cR 3) (cR 13) (cR 5) x1 x2)).2.2.1)) (updF (updF cR 5 (((mX9_step (cI 2) (cI 3) (cI 13) (cI 14) (cR 1) (cR 2) (cR 3) (cR 13) (cR 5) x1 x2)).2.2.2.2)) 13 (((mX9_step (cI 2) (cI 3) (cI 13) (cI 14) (cR 1) (cR 2) (cR 3) (cR 13) (cR 5) x1 x2)).2.2.2.1)) (updN mN 10 (((mX10_step (mN 8) (mN 9) (mN 10) (mR 8) (mR 5) (mR 6) x1 x2)).2.1)) mI (updF (updF mR 6 (((mX10_step (mN 8) (mN 9) (mN 10) (mR 8) (mR 5) (mR 6) x1 x2)).2.2.2)) 8 (((mX10_step (mN 8) (mN 9) (mN 10) (mR 8) (mR 5) (mR 6) x1 x2)).2.2.1)) := by
  obtain ⟨⟨e0, e1, hRm, e2, hRn, e3, hD, e4, hP, hz⟩, hrain, hdoor⟩ := h.house
  rcases person_cases (D := mN 9) (by omega) x1 with ⟨p, hp, rfl, h1, h2⟩ | ⟨h1, h2⟩
  · rcases door_cases (D := mN 8) (by omega) x2 with ⟨d, hd, rfl, h3, h4⟩ | ⟨h3, h4⟩
    · have hat := at_n h.now hD hP hRm hp hd (hdoor d hd)
      have k6 : (nI p).toNatClampNeg = p := clamp_nI (by omega)
      have k7 : (nI d).toNatClampNeg = d := clamp_nI (by omega)
      simp only [mX9_step, mX10_step, e3, e4, h1, h2, h3, h4, if_neg one_ne0, k6, k7, hat]
      by_cases q : mX10_isAt (mR 5) (mR 6) p d = 0
      · rw [if_pos q, if_pos q]
        exact ⟨rfl, h.text, h.fault, h.house, h.now, h.past, h.img, h.notes, h.seed⟩
      · rw [if_neg q, if_neg q]
        have hn := makeStep_ok h.now hD hP hp hd (hdoor d hd) q
        obtain ⟨c, hc, k1, k2, k3⟩ := hn.pl hp hP
        refine ⟨?_, h.deed hn⟩
        show mX7_place _ _ = _
        rw [k1]
        exact k3.symm
    · simp only [mX9_step, mX10_step, e3, e4, h1, h2, h3, h4, if_neg one_ne0, if_true]
      exact ⟨trivial, h.text, h.fault, h.house, h.now, h.past, h.img, h.notes, h.seed⟩
  · simp only [mX9_step, mX10_step, e3, e4, h1, h2, if_true]
    exact ⟨trivial, h.text, h.fault, h.house, h.now, h.past, h.img, h.notes, h.seed⟩
