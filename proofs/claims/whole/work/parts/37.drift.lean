/-! pure: drift -/
theorem drawC_eq {s n : Nat} (h0 : 0 < n) (hn : n < 2147483648) : mX0_draw (nI s) (nI n) = mX10_draw (nI s) (nI n) := by
  unfold mX0_draw mX10_draw
  rw [if_neg (nI_nle h0 hn)]
theorem drawC_u {s : Int32} {n : Nat} (hs : s = nI s.toNatClampNeg) (h0 : 0 < n) (hn : n < 2147483648) : mX0_draw s (nI n) = mX10_draw s (nI n) := by
  rw [hs]; exact drawC_eq h0 hn
section Drift
variable {D P Rm : Nat} {dA dB dS dO dr rf ra : Nat → Int32}
theorem move_ok {Rn hh B : Nat} {nx ct sd : Int32} {sh bo f g : Nat → Int32} (hD : D ≤ 10) (hP : P ≤ 6) (hRm : Rm ≤ 8) (hR : Rn ≤ 12) (hr : ∀ j, j < Rn → rf j = ra j ∧ ∃ t, t ≤ 3 ∧ ra j = nI t) (hd : ∀ d, d < D → okDoor Rm dA dB dS dO dr d)
    (hn : okNow D P Rm f g) (hs : sd = nI sd.toNatClampNeg) (h1 : g 1 = nI hh) (hb : hh ≤ 90029) (k : Nat) :
    (mX9_drift_l46 (nI Rn) (nI D) (nI P) dA dB dO dS rf k (sd, nx, ct, sh, f)).1 = (mX10_drift_l16 Rn D P dr ra k (B, sd, bo, g)).2.1 ∧ (mX10_drift_l16 Rn D P dr ra k (B, sd, bo, g)).2.1 = nI (mX10_drift_l16 Rn D P dr ra k (B, sd, bo, g)).2.1.toNatClampNeg ∧
    okNow D P Rm (mX9_drift_l46 (nI Rn) (nI D) (nI P) dA dB dO dS rf k (sd, nx, ct, sh, f)).2.2.2.2 (mX10_drift_l16 Rn D P dr ra k (B, sd, bo, g)).2.2.2 ∧
    (∃ z, z ≤ hh + 1 ∧ (mX10_drift_l16 Rn D P dr ra k (B, sd, bo, g)).2.2.2 1 = nI z) ∧
    (mX9_drift_l46 (nI Rn) (nI D) (nI P) dA dB dO dS rf k (sd, nx, ct, sh, f)).2.1 = (mX4_remember nx ct f sh).1 ∧ (mX9_drift_l46 (nI Rn) (nI D) (nI P) dA dB dO dS rf k (sd, nx, ct, sh, f)).2.2.1 = (mX4_remember nx ct f sh).2.1 ∧ (mX9_drift_l46 (nI Rn) (nI D) (nI P) dA dB dO dS rf k (sd, nx, ct, sh, f)).2.2.2.1 = (mX4_remember nx ct f sh).2.2 ∧
    (mX10_drift_l16 Rn D P dr ra k (B, sd, bo, g)).1 = (mX10_note B bo g).1 ∧ (mX10_drift_l16 Rn D P dr ra k (B, sd, bo, g)).2.2.1 = (mX10_note B bo g).2 := by
  have hdo : ∀ d, d < D → ∃ o, o ≤ 1 ∧ dr (4 * d + 3) = nI o ∧ dO d = nI o := fun d q => by
    obtain ⟨a, b, o, -, -, -, o1, -, -, -, -, o2, o3, -⟩ := hd d q
    exact ⟨o, o1, o2, o3⟩
  have hour : ∀ f g, okNow D P Rm f g → g 1 = nI hh → okNow D P Rm (mX1_passHour (nI Rn) (nI D) (nI P) dO rf f) (mX10_goBy Rn D P dr g ra) ∧ ∃ z, z ≤ hh + 1 ∧ mX10_goBy Rn D P dr g ra 1 = nI z := fun f g a b =>
    ⟨passHour_ok a hD hP hR hr hdo b hb, hh + 1, by omega, by rw [goBy_1, b, nI_add]⟩
  have tail : ∀ (sd : Int32) f g, sd = nI sd.toNatClampNeg → okNow D P Rm f g → g 1 = nI hh →
      ((if (mX0_draw sd 6).1 = 0 then ((mX0_draw sd 6).2, mX1_passHour (nI Rn) (nI D) (nI P) dO rf f) else ((mX0_draw sd 6).2, f) : Int32 × (Nat → Int32)).1 = (mX10_draw sd (nI 6)).2 ∧ (mX10_draw sd (nI 6)).2 = nI (mX10_draw sd (nI 6)).2.toNatClampNeg ∧
      okNow D P Rm (if (mX0_draw sd 6).1 = 0 then ((mX0_draw sd 6).2, mX1_passHour (nI Rn) (nI D) (nI P) dO rf f) else ((mX0_draw sd 6).2, f) : Int32 × (Nat → Int32)).2 (if (mX10_draw sd (nI 6)).1 = 0 then mX10_goBy Rn D P dr g ra else g) ∧
      ∃ z, z ≤ hh + 1 ∧ (if (mX10_draw sd (nI 6)).1 = 0 then mX10_goBy Rn D P dr g ra else g) 1 = nI z) := by
    intro sd f g hs hn hg
    rw [show (6 : Int32) = nI 6 from rfl, drawC_u hs (by omega) (by omega)]
    refine ⟨?_, (draw_u hs (by omega) (by omega) rfl).1, ?_⟩
    · split <;> rfl
    · split
      · exact hour f g hn hg
      · exact ⟨hn, hh, by omega, hg⟩
  have tailE : ∀ (sd : Int32) (a : Nat) (b g : Nat → Int32), ((if (mX10_draw sd (nI 6)).1 = 0 then (a, (mX10_draw sd (nI 6)).2, b, mX10_goBy Rn D P dr g ra) else (a, (mX10_draw sd (nI 6)).2, b, g)) : Nat × Int32 × (Nat → Int32) × (Nat → Int32)) = (a, (mX10_draw sd (nI 6)).2, b, if (mX10_draw sd (nI 6)).1 = 0 then mX10_goBy Rn D P dr g ra else g) := by
    intro sd a b g
    split <;> rfl
  unfold mX9_drift_l46 mX10_drift_l16 mX0_moveOnce
  dsimp only
  by_cases q : P = 0
  · have q' : nI P ≤ 0 := by rw [q]; decide
    rw [if_pos q', if_pos q', tailE]
    obtain ⟨t1, t2, t3, t4⟩ := tail sd f g hs hn h1
    exact ⟨t1, t2, t3, t4, rfl, rfl, rfl, rfl, rfl⟩
  · have q' : ¬ nI P ≤ 0 := nI_nle (by omega) (by omega)
    rw [if_neg q', if_neg q']
    by_cases r : D = 0
    · have r' : nI D ≤ 0 := by rw [r]; decide
      rw [if_pos r', if_pos r', tailE]
      obtain ⟨t1, t2, t3, t4⟩ := tail sd f g hs hn h1
      exact ⟨t1, t2, t3, t4, rfl, rfl, rfl, rfl, rfl⟩
    · have r' : ¬ nI D ≤ 0 := nI_nle (by omega) (by omega)
      rw [if_neg r', if_neg r', drawC_u hs (by omega) (by omega)]
      obtain ⟨u1, u2, u3⟩ := draw_u (n := P) hs (by omega) (by omega) rfl
      generalize mX10_draw sd (nI P) = u at u1 u2 u3 ⊢
      rw [drawC_u u1 (by omega) (by omega)]
      obtain ⟨v1, v2, v3⟩ := draw_u (n := D) u1 (by omega) (by omega) rfl
      generalize mX10_draw u.2 (nI D) = v at v1 v2 v3 ⊢
      have hat := at_n hn hD hP hRm u3 v3 (hd _ v3)
      rw [← u2, ← v2] at hat
      rw [hat]
      by_cases c : mX10_isAt dr g u.1.toNatClampNeg v.1.toNatClampNeg = 0
      · rw [if_pos c, if_pos c, tailE]
        obtain ⟨t1, t2, t3, t4⟩ := tail v.2 f g v1 hn h1
        exact ⟨t1, t2, t3, t4, rfl, rfl, rfl, rfl, rfl⟩
      · rw [if_neg c, if_neg c, tailE]
        have hm := makeStep_ok hn hD hP u3 v3 (hd _ v3) c
        rw [← u2, ← v2] at hm
        obtain ⟨t1, t2, t3, t4⟩ := tail v.2 _ _ v1 hm (by rw [steps_1, h1])
        exact ⟨t1, t2, t3, t4, rfl, rfl, rfl, rfl, rfl⟩
end Drift
theorem st_drift {cI : Nat → Int32} {cR : Nat → Nat → Int32} {mN : Nat → Nat} {mI : Nat → Int32} {mR : Nat → Nat → Int32} (h : Rel cI cR mN mI mR) (x1 : Int32) : ((mX9_drift (cI 17) (cI 0) (cI 1) (cI 2) (cI 3) (cI 13) (cI 14) (cR 1) (cR 2) (cR 4) (cR 3) (cR 0) (cR 13) (cR 5) x1)).1 = ((mX10_drift (mI 6) (mN 7) (mN 8) (mN 9) (mN 10) (mI 7) (mR 8) (mR 5) (mR 6) (mR 4) x1)).1 ∧ Rel (upd (upd (upd cI 13 (((mX9_drift (cI 17) (cI 0) (cI 1) (cI 2) (cI 3) (cI 13) (cI 14) (cR 1) (cR 2) (cR 4) (cR 3) (cR 0) (cR 13) (cR 5) x1)).2.2.1)) 14 (((mX9_drift (cI 17) (cI 0) (cI 1) (cI 2) (cI 3) (cI 13) (cI 14) (cR 1) (cR 2) (cR 4) (cR 3) (cR 0) (cR 13) (cR 5) x1)).2.2.2.1)) 17 (((mX9_drift (cI 17) (cI 0) (cI 1) (cI 2) (cI 3) (cI 13) (cI 14) (cR 1) (cR 2) (cR 4) (cR 3) (cR 0) (cR 13) (cR 5) x1)).2.1)) (updF (updF cR 5 (((mX9_drift (cI 17) (cI 0) (cI 1) (cI 2) (cI 3) (cI 13) (cI 14) (cR 1) (cR 2) (cR 4) (cR 3) (cR 0) (cR 13) (cR 5) x1)).2.2.2.2.2)) 13 (((mX9_drift (cI 17) (cI 0) (cI 1) (cI 2) (cI 3) (cI 13) (cI 14) (cR 1) (cR 2) (cR 4) (cR 3) (cR 0) (cR 13) (cR 5) x1)).2.2.2.2.1)) (updN mN 10 (((mX10_drift (mI 6) (mN 7) (mN 8) (mN 9) (mN 10) (mI 7) (mR 8) (mR 5) (mR 6) (mR 4) x1)).2.1)) (upd mI 7 (((mX10_drift (mI 6) (mN 7) (mN 8) (mN 9) (mN 10) (mI 7) (mR 8) (mR 5) (mR 6) (mR 4) x1)).2.2.1)) (updF (updF mR 6 (((mX10_drift (mI 6) (mN 7) (mN 8) (mN 9) (mN 10) (mI 7) (mR 8) (mR 5) (mR 6) (mR 4) x1)).2.2.2.2)) 8 (((mX10_drift (mI 6) (mN 7) (mN 8) (mN 9) (mN 10) (mI 7) (mR 8) (mR 5) (mR 6) (mR 4) x1)).2.2.2.1)) := by
  obtain ⟨⟨e0, e1, hRm, e2, hRn, e3, hD, e4, hP, hz⟩, hrain, hdoor⟩ := h.house
  have hw : mX9_within x1 1 30 = mX10_in x1 (nI 1) (nI 30) := rfl
  rcases in_cases x1 (A := 1) (B := 30) (by omega) (by omega) with ⟨j, j1, j2, rfl, hc⟩ | hc
  · have k6 : (nI j).toNatClampNeg = j := clamp_nI (by omega)
    by_cases q : mI 6 = 0
    · simp only [mX9_drift, mX10_drift, mX10_noHours, hw, hc, e0, if_neg one_ne0, if_pos ((told_iff e1).1.mpr q), if_pos q, if_neg (show ¬ (-1000000003 : Int32) = 0 by decide)]
      exact ⟨trivial, h.text, h.fault, h.house, h.now, h.past, h.img, h.notes, h.seed⟩
    · have q' : ¬ mX1_isTold (mI 6) = 0 := fun c => q ((told_iff e1).1.mp c)
      obtain ⟨hh, hb, h1, h2⟩ := h.now.1
      by_cases c : nI hh ≤ 90000
      · have c' : hh ≤ 90000 := (nI_leI (by omega) (by omega)).mp c
        have hl := iter_rel (f := mX9_drift_l46 (nI (mN 7)) (nI (mN 8)) (nI (mN 9)) (cR 1) (cR 2) (cR 4) (cR 3) (cR 0)) (g := mX10_drift_l16 (mN 7) (mN 8) (mN 9) (mR 5) (mR 4)) (fun k s t => (s.1 = t.2.1 ∧ t.2.1 = nI t.2.1.toNatClampNeg) ∧ RPast (mN 8) (mN 9) (mI 6).toNatClampNeg s.2.1 s.2.2.1 s.2.2.2.1 t.1 t.2.2.1 ∧ okNow (mN 8) (mN 9) (mI 6).toNatClampNeg s.2.2.2.2 t.2.2.2 ∧ ∃ z, z ≤ 90000 + k ∧ t.2.2.2 1 = nI z) (n := j) (s := (cI 17, cI 13, cI 14, cR 13, cR 5)) (t := (mN 10, mI 7, mR 8, mR 6)) ⟨h.seed, h.past, h.now, hh, by omega, h1⟩ (by
          rintro k hk ⟨sd, nx, ct, sh, f⟩ ⟨B, sm, bo, g⟩ ⟨⟨p0, p0'⟩, p1, p2, z, z1, z2⟩
          have p0 : sd = sm := p0
          subst p0
          obtain ⟨m1, m2, m3, ⟨z', m4, m4'⟩, m5, m6, m7, m8, m9⟩ := move_ok (Rn := mN 7) (nx := nx) (ct := ct) (sh := sh) (B := B) (bo := bo) hD hP hRm hRn hrain hdoor p2 p0' z2 (by omega) k
          refine ⟨⟨m1, m2⟩, ?_, m3, z', by omega, m4'⟩
          rw [m5, m6, m7, m8, m9]
          exact past_note hD hP p1 p2)
        simp only [mX9_drift, mX10_drift, mX10_noHours, hw, hc, e0, if_neg one_ne0, if_neg q', if_neg q, hours_n, h1, h2, if_pos c, k6, e2, e3, e4, if_pos (show nI 0 = 0 from rfl)]
        refine ⟨(sumC_n hl.2.2.1 hD).2, h.text, h.fault, h.house, hl.2.2.1, hl.2.1, h.img, h.notes, hl.1⟩
      · simp only [mX9_drift, mX10_drift, mX10_noHours, hw, hc, e0, if_neg one_ne0, if_neg q', if_neg q, hours_n, h1, h2, if_neg c, if_neg (show ¬ (-1000000004 : Int32) = 0 by decide)]
        exact ⟨trivial, h.text, h.fault, h.house, h.now, h.past, h.img, h.notes, h.seed⟩
  · simp only [mX9_drift, mX10_drift, mX10_noHours, hw, hc, if_true, if_neg (show ¬ (-1000000002 : Int32) = 0 by decide)]
    exact ⟨trivial, h.text, h.fault, h.house, h.now, h.past, h.img, h.notes, h.seed⟩
