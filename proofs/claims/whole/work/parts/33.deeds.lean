/-! pure: buying, laying, sweeping, wishing, undoing, images -/
theorem st_buy {cI : Nat → Int32} {cR : Nat → Nat → Int32} {mN : Nat → Nat} {mI : Nat → Int32} {mR : Nat → Nat → Int32} (h : Rel cI cR mN mI mR) (x1 : Int32) : ((mX9_buy (cI 0) (cI 13) (cI 14) (cR 13) (cR 5) x1)).1 = ((mX10_buy (mI 6) (mN 10) (mR 8) (mR 6) x1)).1 ∧ Rel (upd (upd cI 13 (((mX9_buy (cI 0) (cI 13) (cI 14) (cR 13) (cR 5) x1)).2.1)) 14 (((mX9_buy (cI 0) (cI 13) (cI 14) (cR 13) (cR 5) x1)).2.2.1)) (updF (updF cR 5 (((mX9_buy (cI 0) (cI 13) (cI 14) (cR 13) (cR 5) x1)).2.2.2.2)) 13 (((mX9_buy (cI 0) (cI 13) (cI 14) (cR 13) (cR 5) x1)).2.2.2.1)) (updN mN 10 (((mX10_buy (mI 6) (mN 10) (mR 8) (mR 6) x1)).2.1)) mI (updF (updF mR 6 (((mX10_buy (mI 6) (mN 10) (mR 8) (mR 6) x1)).2.2.2)) 8 (((mX10_buy (mI 6) (mN 10) (mR 8) (mR 6) x1)).2.2.1)) := by
  obtain ⟨⟨e0, e1, hRm, e2, hRn, e3, hD, e4, hP, hz⟩, hrain, hdoor⟩ := h.house
  have hw : mX9_within x1 1 999 = mX10_in x1 (nI 1) (nI 999) := rfl
  rcases in_cases x1 (A := 1) (B := 999) (by omega) (by omega) with ⟨j, hj0, hj, rfl, hc⟩ | hc
  · by_cases q : mI 6 = 0
    · have c1 : mX1_isTold (cI 0) = 0 := by rw [e0]; exact (told_iff e1).1.mpr q
      simp only [mX9_buy, mX10_buy, hw, hc, if_neg one_ne0, if_pos c1, if_pos q]
      exact ⟨trivial, h⟩
    · have c1 : ¬ mX1_isTold (cI 0) = 0 := by rw [e0]; exact fun c => q ((told_iff e1).1.mp c)
      obtain ⟨t, ht, k1, k2⟩ := h.now.2.1
      have a1 : mX7_setStore (cR 5) (mJ9_min_7cf53 999 (mX7_store (cR 5) + nI j)) = upd (cR 5) 33 (nI (min 999 (t + j))) := by
        rw [store_n, k2, nI_add, show (999 : Int32) = nI 999 from rfl, min_n (by omega) (by omega), setStore_n]
      have a2 : mX10_capped (mR 6 0 + nI j) = nI (min 999 (t + j)) := by rw [k1, nI_add, capped_n (by omega)]
      simp only [mX9_buy, mX10_buy, hw, hc, if_neg one_ne0, if_neg c1, if_neg q, a1, a2]
      exact ⟨by rw [store_n, pk_us, pk_us], h.deed (h.now.setStore hD hP (by omega))⟩
  · simp only [mX9_buy, mX10_buy, hw, hc, if_true]
    exact ⟨trivial, h⟩
theorem st_lay {cI : Nat → Int32} {cR : Nat → Nat → Int32} {mN : Nat → Nat} {mI : Nat → Int32} {mR : Nat → Nat → Int32} (h : Rel cI cR mN mI mR) (x1 x2 : Int32) : ((mX9_lay (cI 2) (cI 13) (cI 14) (cR 13) (cR 5) x1 x2)).1 = ((mX10_lay (mN 8) (mN 10) (mR 8) (mR 6) x1 x2)).1 ∧ Rel (upd (upd cI 13 (((mX9_lay (cI 2) (cI 13) (cI 14) (cR 13) (cR 5) x1 x2)).2.1)) 14 (((mX9_lay (cI 2) (cI 13) (cI 14) (cR 13) (cR 5) x1 x2)).2.2.1)) (updF (updF cR 5 (((mX9_lay (cI 2) (cI 13) (cI 14) (cR 13) (cR 5) x1 x2)).2.2.2.2)) 13 (((mX9_lay (cI 2) (cI 13) (cI 14) (cR 13) (cR 5) x1 x2)).2.2.2.1)) (updN mN 10 (((mX10_lay (mN 8) (mN 10) (mR 8) (mR 6) x1 x2)).2.1)) mI (updF (updF mR 6 (((mX10_lay (mN 8) (mN 10) (mR 8) (mR 6) x1 x2)).2.2.2)) 8 (((mX10_lay (mN 8) (mN 10) (mR 8) (mR 6) x1 x2)).2.2.1)) := by
  obtain ⟨⟨e0, e1, hRm, e2, hRn, e3, hD, e4, hP, hz⟩, hrain, hdoor⟩ := h.house
  have hw : mX9_within x2 1 9 = mX10_in x2 (nI 1) (nI 9) := rfl
  rcases door_cases (D := mN 8) (by omega) x1 with ⟨d, hd, rfl, h1, h2⟩ | ⟨h1, h2⟩
  · rcases in_cases x2 (A := 1) (B := 9) (by omega) (by omega) with ⟨j, hj0, hj, rfl, hc⟩ | hc
    · obtain ⟨t, ht, k1, k2⟩ := h.now.2.1
      obtain ⟨sp, hsp, k3, k4, k5⟩ := h.now.sp hd (by omega)
      have k6 : (nI d).toNatClampNeg = d := clamp_nI (by omega)
      by_cases q : t < j
      · have c1 : mX7_store (cR 5) - nI j < 0 := by rw [store_n, k2]; exact pk_sneg (by omega) q
        have c2 : mR 6 0 < nI j := by rw [k1]; exact nI_lt q (by omega)
        simp only [mX9_lay, mX10_lay, e3, h1, h2, hw, hc, if_neg one_ne0, if_pos c1, if_pos c2]
        exact ⟨trivial, h⟩
      · have c1 : ¬ mX7_store (cR 5) - nI j < 0 := by rw [store_n, k2, pk_sub (by omega)]; exact nI_pos (by omega)
        have c2 : ¬ mR 6 0 < nI j := by rw [k1]; exact nI_nlt (by omega) (by omega)
        by_cases q2 : sp + j ≤ 9
        · have c3 : mX7_spoons (cR 5) (nI d) + nI j ≤ 9 := by rw [k3, nI_add, show (9 : Int32) = nI 9 from rfl]; exact nI_le q2 (by omega)
          have c4 : mR 6 (3 + (nI d).toNatClampNeg) + nI j ≤ nI 9 := by rw [k6, k5, nI_add]; exact nI_le q2 (by omega)
          simp only [mX9_lay, mX10_lay, e3, h1, h2, hw, hc, if_neg one_ne0, if_neg c1, if_neg c2, if_pos c3, if_pos c4]
          have a1 : mX7_setStore (mX7_setSpoons (cR 5) (nI d) (mX7_spoons (cR 5) (nI d) + nI j)) (mX7_store (cR 5) - nI j) = upd (upd (cR 5) d (nI (sp + j))) 33 (nI (t - j)) := by
            rw [k3, nI_add, store_n, k2, pk_sub (by omega), setSpoons_n (by omega), setStore_n]
          have a2 : upd (upd (mR 6) 0 (mR 6 0 - nI j)) (3 + (nI d).toNatClampNeg) (upd (mR 6) 0 (mR 6 0 - nI j) (3 + (nI d).toNatClampNeg) + nI j) = upd (upd (mR 6) 0 (nI (t - j))) (3 + d) (nI (sp + j)) := by
            rw [k6, pk_un (j := 3 + d) (by omega), k1, k5, nI_add, pk_sub (by omega)]
          rw [a1, a2]
          refine ⟨by rw [k3, nI_add, k6, pk_us], h.deed ?_⟩
          have a3 := (h.now.setStore hD hP (t := t - j) (by omega)).setSp hD hP hd (t := sp + j) (by omega)
          refine a3.congr hD hP (fun i hi => ?_) (fun i _ => rfl)
          by_cases w1 : i = 33
          · subst w1; rw [pk_us, pk_un (by omega), pk_us]
          · rw [pk_un w1]
            by_cases w2 : i = d
            · subst w2; rw [pk_us, pk_us]
            · rw [pk_un w2, pk_un w2, pk_un w1]
        · have c3 : ¬ mX7_spoons (cR 5) (nI d) + nI j ≤ 9 := by rw [k3, nI_add, show (9 : Int32) = nI 9 from rfl]; exact nI_ge (by omega) (by omega)
          have c4 : ¬ mR 6 (3 + (nI d).toNatClampNeg) + nI j ≤ nI 9 := by rw [k6, k5, nI_add]; exact nI_ge (by omega) (by omega)
          simp only [mX9_lay, mX10_lay, e3, h1, h2, hw, hc, if_neg one_ne0, if_neg c1, if_neg c2, if_neg c3, if_neg c4]
          exact ⟨trivial, h⟩
    · simp only [mX9_lay, mX10_lay, e3, h1, h2, hw, hc, if_neg one_ne0, if_true]
      exact ⟨trivial, h⟩
  · simp only [mX9_lay, mX10_lay, e3, h1, h2, if_true]
    exact ⟨trivial, h⟩
theorem st_sweep {cI : Nat → Int32} {cR : Nat → Nat → Int32} {mN : Nat → Nat} {mI : Nat → Int32} {mR : Nat → Nat → Int32} (h : Rel cI cR mN mI mR) (x1 : Int32) : ((mX9_sweep (cI 2) (cI 13) (cI 14) (cR 13) (cR 5) x1)).1 = ((mX10_sweep (mN 8) (mN 10) (mR 8) (mR 6) x1)).1 ∧ Rel (upd (upd cI 13 (((mX9_sweep (cI 2) (cI 13) (cI 14) (cR 13) (cR 5) x1)).2.1)) 14 (((mX9_sweep (cI 2) (cI 13) (cI 14) (cR 13) (cR 5) x1)).2.2.1)) (updF (updF cR 5 (((mX9_sweep (cI 2) (cI 13) (cI 14) (cR 13) (cR 5) x1)).2.2.2.2)) 13 (((mX9_sweep (cI 2) (cI 13) (cI 14) (cR 13) (cR 5) x1)).2.2.2.1)) (updN mN 10 (((mX10_sweep (mN 8) (mN 10) (mR 8) (mR 6) x1)).2.1)) mI (updF (updF mR 6 (((mX10_sweep (mN 8) (mN 10) (mR 8) (mR 6) x1)).2.2.2)) 8 (((mX10_sweep (mN 8) (mN 10) (mR 8) (mR 6) x1)).2.2.1)) := by
  obtain ⟨⟨e0, e1, hRm, e2, hRn, e3, hD, e4, hP, hz⟩, hrain, hdoor⟩ := h.house
  rcases door_cases (D := mN 8) (by omega) x1 with ⟨d, hd, rfl, h1, h2⟩ | ⟨h1, h2⟩
  · obtain ⟨t, ht, k1, k2⟩ := h.now.2.1
    obtain ⟨sp, hsp, k3, k4, k5⟩ := h.now.sp hd (by omega)
    have k6 : (nI d).toNatClampNeg = d := clamp_nI (by omega)
    by_cases q : sp = 0
    · have c1 : mX7_spoons (cR 5) (nI d) = 0 := by rw [k3, q]; rfl
      have c2 : mR 6 (3 + (nI d).toNatClampNeg) = 0 := by rw [k6, k5, q]; rfl
      simp only [mX9_sweep, mX10_sweep, e3, h1, h2, if_neg one_ne0, if_pos c1, if_pos c2]
      exact ⟨trivial, h⟩
    · have c1 : ¬ mX7_spoons (cR 5) (nI d) = 0 := by rw [k3]; exact nI_ne0 (by omega) (by omega)
      have c2 : ¬ mR 6 (3 + (nI d).toNatClampNeg) = 0 := by rw [k6, k5]; exact nI_ne0 (by omega) (by omega)
      have a1 : mX7_setStore (mX7_setSpoons (cR 5) (nI d) 0) (mJ9_min_7cf53 999 (mX7_store (mX7_setSpoons (cR 5) (nI d) 0) + mX7_spoons (cR 5) (nI d) / 2)) = upd (upd (cR 5) d (nI 0)) 33 (nI (min 999 (t + sp / 2))) := by
        rw [k3, setSpoons_n (by omega), store_n, pk_un (by omega), k2, show (2 : Int32) = nI 2 from rfl, pk_div (by omega) (by omega) (by omega), nI_add, show (999 : Int32) = nI 999 from rfl, min_n (by omega) (by omega), setStore_n]
        rfl
      have a2 : upd (upd (mR 6) 0 (mX10_capped (mR 6 0 + mR 6 (3 + (nI d).toNatClampNeg) / nI 2))) (3 + (nI d).toNatClampNeg) (nI 0) = upd (upd (mR 6) 0 (nI (min 999 (t + sp / 2)))) (3 + d) (nI 0) := by
        rw [k6, k5, k1, pk_div (by omega) (by omega) (by omega), nI_add, capped_n (by omega)]
      simp only [mX9_sweep, mX10_sweep, e3, h1, h2, if_neg one_ne0, if_neg c1, if_neg c2]
      rw [a1, a2]
      refine ⟨by rw [store_n, pk_us, pk_un (by omega), pk_us], h.deed ?_⟩
      have a3 := (h.now.setStore hD hP (t := min 999 (t + sp / 2)) (by omega)).setSp hD hP hd (t := 0) (by omega)
      refine a3.congr hD hP (fun i hi => ?_) (fun i _ => rfl)
      by_cases w1 : i = 33
      · subst w1; rw [pk_us, pk_un (by omega), pk_us]
      · rw [pk_un w1]
        by_cases w2 : i = d
        · subst w2; rw [pk_us, pk_us]
        · rw [pk_un w2, pk_un w2, pk_un w1]
  · simp only [mX9_sweep, mX10_sweep, e3, h1, h2, if_true]
    exact ⟨trivial, h⟩
/-- max(-9, min(9, w - 9 + b)), and the model's w + b held in 0 .. 18 -/
theorem wish_n {w : Nat} {b : Int32} (hw : w ≤ 18) (h1 : -9 ≤ b.toInt) (h2 : b.toInt ≤ 9) : ∃ v, v ≤ 18 ∧ mJ9_max_7cf53 (-9) (mJ9_min_7cf53 9 (nI w - nI 9 + b)) = nI v - nI 9 ∧ (if 0 ≤ nI w + b then (if nI w + b ≤ nI 18 then nI w + b else nI 18) else nI 0) = nI v := by
  have e1 : (nI w + b).toInt = w + b.toInt := by
    rw [Int32.toInt_add, nI_toInt (by omega)]
    exact Int.bmod_eq_of_le (by omega) (by omega)
  have e2 : (nI w - nI 9 + b).toInt = w - 9 + b.toInt := by
    rw [Int32.toInt_add, pk_sub_toInt (by omega) (by omega)]
    exact Int.bmod_eq_of_le (by omega) (by omega)
  refine ⟨(min 18 (max 0 (w + b.toInt))).toNat, by omega, ?_, ?_⟩
  · apply Int32.toInt_inj.mp
    rw [pk_sub_toInt (by omega) (by omega)]
    have n9 : (-9 : Int32).toInt = -9 := rfl
    have p9 : (9 : Int32).toInt = 9 := rfl
    have hmin : (mJ9_min_7cf53 9 (nI w - nI 9 + b)).toInt = min 9 (w - 9 + b.toInt) := by
      unfold mJ9_min_7cf53
      split
      · rename_i c
        first
          | (rw [Int32.lt_iff_toInt_lt, e2, p9] at c; first | (rw [e2]; omega) | (rw [p9]; omega))
          | (rw [Int32.le_iff_toInt_le, e2, p9] at c; first | (rw [e2]; omega) | (rw [p9]; omega))
      · rename_i c
        first
          | (rw [Int32.lt_iff_toInt_lt, e2, p9] at c; first | (rw [e2]; omega) | (rw [p9]; omega))
          | (rw [Int32.le_iff_toInt_le, e2, p9] at c; first | (rw [e2]; omega) | (rw [p9]; omega))
    generalize mJ9_min_7cf53 9 (nI w - nI 9 + b) = u at hmin ⊢
    unfold mJ9_max_7cf53
    split
    · rename_i c
      first
        | (rw [Int32.lt_iff_toInt_lt, hmin, n9] at c; first | (rw [hmin]; omega) | (rw [n9]; omega))
        | (rw [Int32.le_iff_toInt_le, hmin, n9] at c; first | (rw [hmin]; omega) | (rw [n9]; omega))
    · rename_i c
      first
        | (rw [Int32.lt_iff_toInt_lt, hmin, n9] at c; first | (rw [hmin]; omega) | (rw [n9]; omega))
        | (rw [Int32.le_iff_toInt_le, hmin, n9] at c; first | (rw [hmin]; omega) | (rw [n9]; omega))
  · apply Int32.toInt_inj.mp
    rw [nI_toInt (by omega)]
    have z0 : (0 : Int32).toInt = 0 := rfl
    split
    · rename_i c
      rw [Int32.le_iff_toInt_le, e1, z0] at c
      split
      · rename_i c2
        rw [Int32.le_iff_toInt_le, e1, nI_toInt (by omega)] at c2
        rw [e1]; omega
      · rename_i c2
        rw [Int32.le_iff_toInt_le, e1, nI_toInt (by omega)] at c2
        rw [nI_toInt (by omega)]; omega
    · rename_i c
      rw [Int32.le_iff_toInt_le, e1, z0] at c
      rw [nI_toInt (by omega)]; omega
theorem st_wish {cI : Nat → Int32} {cR : Nat → Nat → Int32} {mN : Nat → Nat} {mI : Nat → Int32} {mR : Nat → Nat → Int32} (h : Rel cI cR mN mI mR) (x1 x2 : Int32) : ((mX9_wish (cI 3) (cI 13) (cI 14) (cR 13) (cR 5) x1 x2)).1 = ((mX10_wish (mN 9) (mN 10) (mR 8) (mR 6) x1 x2)).1 ∧ Rel (upd (upd cI 13 (((mX9_wish (cI 3) (cI 13) (cI 14) (cR 13) (cR 5) x1 x2)).2.1)) 14 (((mX9_wish (cI 3) (cI 13) (cI 14) (cR 13) (cR 5) x1 x2)).2.2.1)) (updF (updF cR 5 (((mX9_wish (cI 3) (cI 13) (cI 14) (cR 13) (cR 5) x1 x2)).2.2.2.2)) 13 (((mX9_wish (cI 3) (cI 13) (cI 14) (cR 13) (cR 5) x1 x2)).2.2.2.1)) (updN mN 10 (((mX10_wish (mN 9) (mN 10) (mR 8) (mR 6) x1 x2)).2.1)) mI (updF (updF mR 6 (((mX10_wish (mN 9) (mN 10) (mR 8) (mR 6) x1 x2)).2.2.2)) 8 (((mX10_wish (mN 9) (mN 10) (mR 8) (mR 6) x1 x2)).2.2.1)) := by
  obtain ⟨⟨e0, e1, hRm, e2, hRn, e3, hD, e4, hP, hz⟩, hrain, hdoor⟩ := h.house
  have hw : mX9_within x2 (-9) 9 = mX10_in x2 (-9) (nI 9) := rfl
  rcases person_cases (D := mN 9) (by omega) x1 with ⟨p, hp, rfl, h1, h2⟩ | ⟨h1, h2⟩
  · by_cases hc : mX10_in x2 (-9) (nI 9) = 0
    · simp only [mX9_wish, mX10_wish, e4, h1, h2, hw, hc, if_neg one_ne0, if_true]
      exact ⟨trivial, h⟩
    · have hr := in_spec hc
      rw [nI_toInt (by omega)] at hr
      have n9 : (-9 : Int32).toInt = -9 := rfl
      rw [n9] at hr
      obtain ⟨w, hwl, k1, k2⟩ := (h.now.2.2.2.2 p hp).2
      obtain ⟨v, hv, k3, k4⟩ := wish_n (b := x2) hwl hr.1 (by omega)
      have k6 : (nI p).toNatClampNeg = p := clamp_nI (by omega)
      have a1 : mX7_setWish (cR 5) (nI p) (mJ9_max_7cf53 (-9) (mJ9_min_7cf53 9 (mX7_wishOf (cR 5) (nI p) + x2))) = upd (cR 5) (26 + p) (nI v - nI 9) := by
        rw [wishOf_n (by omega), k2, k3, setWish_n (by omega)]
      have a2 : mX10_wish (mN 9) (mN 10) (mR 8) (mR 6) (nI p) x2 = (nI v, (mX10_note (mN 10) (mR 8) (mR 6)).1, (mX10_note (mN 10) (mR 8) (mR 6)).2, upd (mR 6) (29 + p) (nI v)) := by
        unfold mX10_wish
        rw [h2, if_neg one_ne0, if_neg hc, k6, k1, ← k4]
        split
        · split
          · rw [pk_us]
          · rw [pk_us]
        · rw [pk_us]
      rw [a2]
      simp only [mX9_wish, e4, h1, hw, if_neg hc, if_neg one_ne0]
      rw [a1]
      refine ⟨?_, h.deed (h.now.setWi hD hP hp hv)⟩
      rw [wishOf_n (by omega), pk_us, show (9 : Int32) = nI 9 from rfl, Int32.sub_add_cancel]
  · simp only [mX9_wish, mX10_wish, e4, h1, h2, if_true]
    exact ⟨trivial, h⟩
