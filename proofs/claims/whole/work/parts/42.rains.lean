/-! pure: what rain takes -/
theorem mend_n : ∀ s, s < 10 → ∀ r, r < 4 → nI s - mX10_lessBy (nI s) (nI r) = mJ9_min_7cf53 (nI r) (nI s) := by decide +kernel
theorem mend_0 : ∀ r, r < 4 → nI 0 - mX10_lessBy (nI 0) (nI r) = 0 := by decide +kernel
theorem gone_n : ∀ t, t < 10 → ∀ r, r < 4 → 0 < t → ((∃ u, u < 10 ∧ 0 < u ∧ nI t - nI r = nI u ∧ mX10_lessBy (nI t) (nI r) = nI u) ∨ (¬ 0 < nI t - nI r ∧ mX10_lessBy (nI t) (nI r) = 0)) := by
  intro t ht r hr h0
  by_cases c : r < t
  · left
    refine ⟨t - r, by omega, by omega, ?_, lessBy_n (by omega) (by omega)⟩
    exact pk_sub (by omega)
  · right
    rw [lessBy_n (by omega) (by omega), show t - r = 0 by omega]
    refine ⟨?_, rfl⟩
    rw [Int32.lt_iff_toInt_lt, pk_sub_toInt (by omega) (by omega)]
    show ¬ (0 : Int) < _
    omega
section Rain
variable {D P Rm Rn hh : Nat} {f g dO dr rf ra : Nat → Int32}
theorem gone_lp (hR : Rn ≤ 12) (hr : ∀ j, j < Rn → rf j = ra j ∧ ∃ t, t ≤ 3 ∧ ra j = nI t) (h2 : f 32 = nI hh) (h1 : g 1 = nI hh) (hb : hh ≤ 100000) {d : Nat} (hd : dr (4 * d + 3) = nI 1) : ∀ n k yc ym, k + n = 100 → ((∃ u, u < 10 ∧ 0 < u ∧ yc = nI u ∧ ym = nI u) ∨ (¬ 0 < yc ∧ ym = 0)) → mX8_hoursUntilGone_l14 (nI Rn) rf f n k yc = mX10_lastsOf_l11 Rn dr g ra d n k ym ∧ (mX10_lastsOf_l11 Rn dr g ra d n k ym = -1 ∨ ∃ j, j < 100 ∧ mX10_lastsOf_l11 Rn dr g ra d n k ym = nI j) := by
  intro n
  induction n with
  | zero => intro k yc ym _ _; exact ⟨rfl, Or.inl rfl⟩
  | succ n ih =>
    intro k yc ym hk hy
    unfold mX8_hoursUntilGone_l14 mX10_lastsOf_l11
    rw [if_pos hd]
    rcases hy with ⟨u, u1, u2, rfl, rfl⟩ | ⟨y1, y2⟩
    · obtain ⟨t, ht, k1, k2⟩ := rain_n (n := k) (f := f) (g := g) hR hr h2 (by omega) (by omega)
      rw [if_pos (by rw [show (0 : Int32) = nI 0 from rfl]; exact nI_lt (by omega) (by omega)), if_neg (nI_ne0 u2 (by omega)), h1, clamp_nI (by omega), k1, k2]
      exact ih (k + 1) _ _ (by omega) (gone_n u u1 t (by omega) u2)
    · rw [if_neg y1, if_pos y2]
      exact ⟨rfl, Or.inr ⟨k, by omega, rfl⟩⟩
theorem lasts_n (h : okNow D P Rm f g) (hD : D ≤ 10) (hR : Rn ≤ 12) (hr : ∀ j, j < Rn → rf j = ra j ∧ ∃ t, t ≤ 3 ∧ ra j = nI t) {d o : Nat} (hd : d < D) (ho : o ≤ 1) (o1 : dr (4 * d + 3) = nI o) (o2 : dO d = nI o) :
    (mX1_isOpen dO (nI d) = 0 ∧ mX10_lastsOf Rn dr g ra d = -1) ∨ (mX1_isOpen dO (nI d) = 1 ∧ mX8_hoursUntilGone (nI Rn) rf f (nI d) = mX10_lastsOf Rn dr g ra d ∧ (mX10_lastsOf Rn dr g ra d = -1 ∨ ∃ j, j < 100 ∧ mX10_lastsOf Rn dr g ra d = nI j)) := by
  obtain ⟨t, ht, t1, t2, t3⟩ := h.sp hd hD
  obtain ⟨z, hz, z1, z2⟩ := h.1
  unfold mX1_isOpen mX8_hoursUntilGone mX10_lastsOf
  rw [get_nat (by omega) (by omega), o2, t1, t3]
  by_cases c : o = 1
  · right
    rw [c] at o1 ⊢
    refine ⟨rfl, ?_⟩
    refine gone_lp hR hr z2 z1 (by omega) o1 100 0 _ _ (by omega) ?_
    rcases Nat.eq_zero_or_pos t with q | q
    · right; rw [q]; exact ⟨by decide, rfl⟩
    · left; exact ⟨t, by omega, q, rfl, rfl⟩
  · left
    have c : o = 0 := by omega
    rw [c] at o1 ⊢
    refine ⟨rfl, ?_⟩
    show (if dr (4 * d + 3) = nI 1 then _ else (-1 : Int32)) = -1
    rw [o1, if_neg (by decide)]
end Rain
theorem st_lasts {cI : Nat → Int32} {cR : Nat → Nat → Int32} {mN : Nat → Nat} {mI : Nat → Int32} {mR : Nat → Nat → Int32} (h : Rel cI cR mN mI mR) (x1 : Int32) : (mX9_lasts (cI 1) (cI 2) (cR 4) (cR 0) (cR 5) x1) = (mX10_lasts (mN 7) (mN 8) (mR 5) (mR 6) (mR 4) x1) := by
  obtain ⟨⟨e0, e1, hRm, e2, hRn, e3, hD, e4, hP, hz⟩, hrain, hdoor⟩ := h.house
  unfold mX9_lasts mX10_lasts
  rw [e2, e3]
  rcases door_cases (D := mN 8) (by omega) x1 with ⟨d, hd, rfl, h1, h2⟩ | ⟨h1, h2⟩
  · obtain ⟨a, b, o, ha, hb, hab, ho1, d1, d2, d3, d4, d5, d6, d7⟩ := hdoor d hd
    rw [h1, h2, if_neg one_ne0, if_neg one_ne0, clamp_nI (by omega)]
    rcases lasts_n h.now hD hRn hrain hd ho1 d5 d6 with ⟨q1, q2⟩ | ⟨q1, q2, -⟩
    · rw [q1, q2, if_pos rfl]
    · rw [q1, if_neg one_ne0, q2]
  · rw [h1, h2, if_pos rfl, if_pos rfl]
theorem st_mend {cI : Nat → Int32} {cR : Nat → Nat → Int32} {mN : Nat → Nat} {mI : Nat → Int32} {mR : Nat → Nat → Int32} (h : Rel cI cR mN mI mR) (x1 : Int32) : (mX9_mend (cI 1) (cI 2) (cR 4) (cR 0) (cR 5) x1) = (mX10_mend (mN 7) (mN 8) (mR 5) (mR 6) (mR 4) x1) := by
  obtain ⟨⟨e0, e1, hRm, e2, hRn, e3, hD, e4, hP, hz⟩, hrain, hdoor⟩ := h.house
  obtain ⟨z, hz2, z1, z2⟩ := h.now.1
  have hw : mX9_within x1 0 99 = mX10_in x1 (nI 0) (nI 99) := rfl
  unfold mX9_mend mX10_mend
  rw [hw, e2, e3]
  rcases in_cases x1 (A := 0) (B := 99) (by omega) (by omega) with ⟨j, j1, j2, rfl, hj⟩ | hj
  · rw [hj, if_neg one_ne0, if_neg one_ne0]
    unfold mX8_spoonsToMend
    rw [clamp_nI (by omega)]
    show iter _ _ (nI 0) = _
    refine iter_congr (fun k hk y => ?_)
    unfold mX8_spoonsToMend_l4 mX10_mend_l17
    rw [clamp_nI (by omega)]
    refine iter_congr (fun d hd y => ?_)
    obtain ⟨a, b, o, ha, hb, hab, ho1, d1, d2, d3, d4, d5, d6, d7⟩ := hdoor d hd
    obtain ⟨t, ht, t1, t2, t3⟩ := h.now.sp hd hD
    obtain ⟨r, hr, r1, r2⟩ := rain_n (n := k) (f := cR 5) (g := mR 6) hRn hrain z2 (by omega) (by omega)
    unfold mX8_spoonsToMend_l22 mX10_mend_l25 mX1_isOpen
    rw [get_nat (by omega) (by omega), d5, d6, z1, clamp_nI (by omega), r1, r2, t1, t3, mend_n t (by omega) r (by omega), mend_0 r (by omega)]
    by_cases c : o = 1
    · rw [c, if_pos (show nI 1 = 1 from rfl), if_neg one_ne0, if_pos rfl]
    · have c : o = 0 := by omega
      rw [c, if_neg (show ¬ nI 0 = 1 by decide), if_pos rfl, if_neg (show ¬ nI 0 = nI 1 by decide), Int32.add_zero]
  · rw [hj, if_pos rfl, if_pos rfl]
theorem st_holds {cI : Nat → Int32} {cR : Nat → Nat → Int32} {mN : Nat → Nat} {mI : Nat → Int32} {mR : Nat → Nat → Int32} (h : Rel cI cR mN mI mR) (x1 : Int32) : (mX9_holds (cI 1) (cI 2) (cR 4) (cR 0) (cR 5) x1) = (mX10_holds (mN 7) (mN 8) (mR 5) (mR 6) (mR 4) x1) := by
  obtain ⟨⟨e0, e1, hRm, e2, hRn, e3, hD, e4, hP, hz⟩, hrain, hdoor⟩ := h.house
  have hw : mX9_within x1 0 1 = mX10_in x1 (nI 0) (nI 1) := rfl
  unfold mX9_holds mX10_holds
  rw [hw, e2, e3]
  by_cases hc : mX10_in x1 (nI 0) (nI 1) = 0
  · rw [if_pos hc, if_pos hc]
  · rw [if_neg hc, if_neg hc]
    have hl := iter_rel (f := mX8_goneFirst_l7 (nI (mN 7)) (cR 4) (cR 0) (cR 5)) (g := mX10_holds_l19 (mN 7) (mR 5) (mR 6) (mR 4)) (fun _ s t => s.1 = t.1 ∧ ((t.1 = -1 ∧ s.2 = nI 100 ∧ t.2 = -1) ∨ ∃ j, j < mN 8 ∧ t.1 = nI j ∧ s.2 = t.2 ∧ t.2 = mX8_hoursUntilGone (nI (mN 7)) (cR 0) (cR 5) (nI j))) (n := mN 8) (s := ((-1 : Int32), (100 : Int32))) (t := ((-1 : Int32), (-1 : Int32))) ⟨rfl, Or.inl ⟨rfl, rfl, rfl⟩⟩ (by
      rintro k hk ⟨s1, s2⟩ ⟨t1, t2⟩ ⟨he, hst⟩
      have he : s1 = t1 := he
      subst he
      obtain ⟨a, b, o, ha, hb, hab, ho1, d1, d2, d3, d4, d5, d6, d7⟩ := hdoor k hk
      obtain ⟨t, ht, v1, v2, v3⟩ := h.now.sp hk hD
      unfold mX8_goneFirst_l7 mX10_holds_l19
      dsimp only
      rw [v1, v3]
      rcases lasts_n h.now hD hRn hrain hk ho1 d5 d6 with ⟨q1, q2⟩ | ⟨q1, q2, q3⟩
      · rw [q1, q2, if_pos rfl]
        have : ((if nI t ≤ 0 then (s1, t2) else (if (-1 : Int32) = -1 then (s1, t2) else (if s1 = -1 then (nI k, -1) else (if t2 ≤ -1 then (s1, t2) else (nI k, -1))))) : Int32 × Int32) = (s1, t2) := by
          split
          · rfl
          · rfl
        rw [this]
        exact ⟨rfl, hst⟩
      · rw [q1, q2, if_neg one_ne0]
        rcases Nat.eq_zero_or_pos t with z | z
        · rw [z, if_pos (show nI 0 = 0 from rfl), if_pos (show nI 0 ≤ 0 by decide)]
          exact ⟨rfl, hst⟩
        · rw [if_neg (nI_ne0 z (by omega)), if_neg (nI_nle z (by omega))]
          rcases q3 with q3 | ⟨j, j1, j2⟩
          · rw [q3, if_pos rfl, if_pos rfl]
            exact ⟨rfl, hst⟩
          · have n1 : ¬ mX10_lastsOf (mN 7) (mR 5) (mR 6) (mR 4) k = -1 := by rw [j2]; exact nI_m1 (by omega)
            rw [if_neg n1, if_neg n1]
            rcases hst with ⟨w1, w2, w3⟩ | ⟨i, i1, i2, i3, i4⟩
            · have w1 : s1 = -1 := w1
              have w2 : s2 = nI 100 := w2
              rw [if_pos w1, w2, if_neg (by rw [j2]; intro c; have := (nI_leI (by omega) (by omega)).mp c; omega)]
              exact ⟨rfl, Or.inr ⟨k, hk, rfl, rfl, q2.symm⟩⟩
            · have i2 : s1 = nI i := i2
              have i3 : s2 = t2 := i3
              have n2 : ¬ s1 = -1 := by rw [i2]; exact nI_m1 (by omega)
              rw [if_neg n2, i3]
              split
              · exact ⟨rfl, Or.inr ⟨i, i1, i2, rfl, i4⟩⟩
              · exact ⟨rfl, Or.inr ⟨k, hk, rfl, rfl, q2.symm⟩⟩)
    have eg : mX8_goneFirst (nI (mN 7)) (nI (mN 8)) (cR 4) (cR 0) (cR 5) = (iter (mX10_holds_l19 (mN 7) (mR 5) (mR 6) (mR 4)) (mN 8) ((-1 : Int32), (-1 : Int32))).1 := by
      unfold mX8_goneFirst
      rw [clamp_nI (by omega)]
      exact hl.1
    rw [eg]
    dsimp only
    have hl2 := hl.2
    generalize iter (mX10_holds_l19 (mN 7) (mR 5) (mR 6) (mR 4)) (mN 8) ((-1 : Int32), (-1 : Int32)) = t at hl2
    rcases hl2 with ⟨w1, w2, w3⟩ | ⟨i, i1, i2, i3, i4⟩
    · rw [if_pos w1, w1, w3]
      split <;> rfl
    · rw [if_neg (by rw [i2]; exact nI_m1 (by omega)), i4, i2]
