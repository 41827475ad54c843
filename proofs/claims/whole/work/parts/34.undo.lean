/-! pure: undo, images -/
set_option maxRecDepth 100000 in
theorem floorMod_n : ∀ a, a < 30 → ∀ n, n < 31 → mJ9_floorMod_7cf53 (nI a - nI n) 30 = nI ((a + 30 - n) % 30) := by decide +kernel
theorem okNow.hour {D P Rm : Nat} {f g : Nat → Int32} (h : okNow D P Rm f g) : mX7_hours f = g 1 := by
  obtain ⟨⟨t, h1, h2, h3⟩, -⟩ := h
  rw [hours_n, h2, h3]
theorem past_undo {D P Rm B : Nat} {nx ct : Int32} {sh bo f g : Nat → Int32} (hD : D ≤ 10) (hP : P ≤ 6) (h : RPast D P Rm nx ct sh B bo) {n : Nat} (h0 : 0 < n) (hn : n ≤ B) :
    okNow D P Rm (mX4_bringBack nx ct f sh (nI n)).2.2 (mX10_bring bo g (35 * (B - n)) 0 35) ∧ RPast D P Rm (mX4_bringBack nx ct f sh (nI n)).1 (mX4_bringBack nx ct f sh (nI n)).2.1 sh (B - n) bo := by
  obtain ⟨⟨h1, h2, h3, h4⟩, h5⟩ := h
  obtain ⟨a, ha⟩ : ∃ a, a = nx.toNatClampNeg := ⟨_, rfl⟩
  rw [← ha] at h3 h4 h5
  have e1 : (mX4_bringBack nx ct f sh (nI n)).1 = nI ((a + 30 - n) % 30) := by
    show mJ9_floorMod_7cf53 (nx - nI n) 30 = _
    rw [h3, floorMod_n a h4 n (by omega)]
  have e2 : (mX4_bringBack nx ct f sh (nI n)).2.1 = nI (B - n) := by
    show mJ9_max_7cf53 0 (ct - nI n) = _
    rw [h1, max0_sub (by omega) (by omega)]
  have e3 : (mX4_bringBack nx ct f sh (nI n)).2.2 = mX7_readFrom 1050 sh f (nI ((a + 30 - n) % 30)) := by
    show mX7_readFrom 1050 sh f (mJ9_floorMod_7cf53 (nx - nI n) 30) = _
    rw [h3, floorMod_n a h4 n (by omega)]
  refine ⟨?_, ⟨e2, by omega, ?_, ?_⟩, ?_⟩
  · rw [e3]
    refine (h5 (n - 1) (by omega)).congr hD hP (fun j hj => ?_) (fun j hj => ?_)
    · rw [readFrom_n (by omega) (by omega), if_pos hj, show (a + 29 - (n - 1)) % 30 = (a + 30 - n) % 30 by omega]
    · rw [bring_n, if_pos (by omega), show 35 * (B - n) + (j - 0) = 35 * (B - 1 - (n - 1)) + j by omega]
  · rw [e1, clamp_nI (by omega)]
  · rw [e1, clamp_nI (by omega)]; omega
  · rw [e1, clamp_nI (by omega)]
    intro k hk
    have := h5 (k + n) (by omega)
    rw [show ((a + 30 - n) % 30 + 29 - k) % 30 = (a + 29 - (k + n)) % 30 by omega, show B - n - 1 - k = B - 1 - (k + n) by omega]
    exact this
theorem past_none {D P Rm : Nat} {sh bo : Nat → Int32} : RPast D P Rm 0 0 sh 0 bo := ⟨⟨rfl, by omega, rfl, by decide⟩, fun k hk => absurd hk (by omega)⟩
theorem st_undo {cI : Nat → Int32} {cR : Nat → Nat → Int32} {mN : Nat → Nat} {mI : Nat → Int32} {mR : Nat → Nat → Int32} (h : Rel cI cR mN mI mR) (x1 : Int32) : ((mX9_undo (cI 13) (cI 14) (cR 13) (cR 5) x1)).1 = ((mX10_undo (mN 10) (mR 8) (mR 6) x1)).1 ∧ Rel (upd (upd cI 13 (((mX9_undo (cI 13) (cI 14) (cR 13) (cR 5) x1)).2.1)) 14 (((mX9_undo (cI 13) (cI 14) (cR 13) (cR 5) x1)).2.2.1)) (updF cR 5 (((mX9_undo (cI 13) (cI 14) (cR 13) (cR 5) x1)).2.2.2)) (updN mN 10 (((mX10_undo (mN 10) (mR 8) (mR 6) x1)).2.1)) mI (updF mR 6 (((mX10_undo (mN 10) (mR 8) (mR 6) x1)).2.2)) := by
  have hw : mX9_within x1 1 30 = mX10_in x1 (nI 1) (nI 30) := rfl
  have hb := h.hB
  rcases in_cases x1 (A := 1) (B := 30) (by omega) (by omega) with ⟨j, j1, j2, rfl, hc⟩ | hc
  · have k6 : (nI j).toNatClampNeg = j := clamp_nI (by omega)
    simp only [mX9_undo, mX10_undo, hw, hc, if_neg one_ne0, k6, h.past.1.1]
    by_cases c : nI j ≤ nI (mN 10)
    · have c' := (nI_leI (by omega) (by omega)).mp c
      have hp := past_undo (f := cR 5) (g := mR 6) h.hD h.hPn h.past (n := j) (by omega) c'
      rw [h.past.1.1] at hp
      rw [if_pos c, if_pos c]
      refine ⟨hp.1.hour, h.text, h.fault, h.house, hp.1, hp.2, h.img, h.notes, h.seed⟩
    · rw [if_neg c, if_neg c]
      have hp := h.past
      rw [h.past.1.1] at hp
      exact ⟨rfl, h.text, h.fault, h.house, h.now, hp, h.img, h.notes, h.seed⟩
  · simp only [mX9_undo, mX10_undo, hw, hc, if_true]
    exact ⟨trivial, h.text, h.fault, h.house, h.now, h.past, h.img, h.notes, h.seed⟩
theorem st_keep {cI : Nat → Int32} {cR : Nat → Nat → Int32} {mN : Nat → Nat} {mI : Nat → Int32} {mR : Nat → Nat → Int32} (h : Rel cI cR mN mI mR) (x1 : Int32) : ((mX9_keep (cI 17) (cI 13) (cI 14) (cR 20) (cR 19) (cR 18) (cR 5) x1)).1 = ((mX10_keep (mN 10) (mI 7) (mR 9) (mR 10) (mR 11) (mR 6) x1)).1 ∧ Rel (upd (upd cI 13 (((mX9_keep (cI 17) (cI 13) (cI 14) (cR 20) (cR 19) (cR 18) (cR 5) x1)).2.1)) 14 (((mX9_keep (cI 17) (cI 13) (cI 14) (cR 20) (cR 19) (cR 18) (cR 5) x1)).2.2.1)) (updF (updF (updF cR 18 (((mX9_keep (cI 17) (cI 13) (cI 14) (cR 20) (cR 19) (cR 18) (cR 5) x1)).2.2.2.2.2)) 19 (((mX9_keep (cI 17) (cI 13) (cI 14) (cR 20) (cR 19) (cR 18) (cR 5) x1)).2.2.2.2.1)) 20 (((mX9_keep (cI 17) (cI 13) (cI 14) (cR 20) (cR 19) (cR 18) (cR 5) x1)).2.2.2.1)) (updN mN 10 (((mX10_keep (mN 10) (mI 7) (mR 9) (mR 10) (mR 11) (mR 6) x1)).2.1)) mI (updF (updF (updF mR 9 (((mX10_keep (mN 10) (mI 7) (mR 9) (mR 10) (mR 11) (mR 6) x1)).2.2.1)) 10 (((mX10_keep (mN 10) (mI 7) (mR 9) (mR 10) (mR 11) (mR 6) x1)).2.2.2.1)) 11 (((mX10_keep (mN 10) (mI 7) (mR 9) (mR 10) (mR 11) (mR 6) x1)).2.2.2.2)) := by
  have hw : mX9_within x1 0 1 = mX10_in x1 (nI 0) (nI 1) := rfl
  rcases in_cases x1 (A := 0) (B := 1) (by omega) (by omega) with ⟨j, j1, j2, rfl, hc⟩ | hc
  · have k6 : (nI j).toNatClampNeg = j := clamp_nI (by omega)
    simp only [mX9_keep, mX10_keep, hw, hc, if_neg one_ne0, k6]
    refine ⟨rfl, h.text, h.fault, h.house, h.now, past_none, ?_, h.notes, h.seed⟩
    intro i hi
    obtain ⟨g1, g2, g3⟩ := h.img i hi
    show mX6_set 2 (cR 20) (nI j) 1 i = upd (mR 11) j (nI 1) i ∧ (upd (mR 11) j (nI 1) i = 0 ∨ upd (mR 11) j (nI 1) i = 1) ∧ (upd (mR 11) j (nI 1) i = 1 → mX6_set 2 (cR 19) (nI j) (cI 17) i = upd (mR 10) j (mI 7) i ∧ upd (mR 10) j (mI 7) i = nI (upd (mR 10) j (mI 7) i).toNatClampNeg ∧ okNow (mN 8) (mN 9) (mI 6).toNatClampNeg (fun q => mX7_writeTo 70 (cR 18) (cR 5) (nI j) (35 * i + q)) (fun q => mX10_bring (mR 6) (mR 9) 0 (35 * j) 35 (35 * i + q)))
    rw [set_nat (by omega) (by omega), set_nat (by omega) (by omega)]
    by_cases q : i = j
    · subst q
      rw [pk_us, pk_us, pk_us, pk_us]
      refine ⟨rfl, Or.inr rfl, fun _ => ⟨h.seed.1, h.seed.2, h.now.congr h.hD h.hPn (fun k hk => ?_) (fun k hk => ?_)⟩⟩
      · show mX7_writeTo 70 (cR 18) (cR 5) (nI i) (35 * i + k) = _
        rw [writeTo_n (by omega) (by omega), if_pos (by omega), show 35 * i + k - 35 * i = k by omega]
      · show mX10_bring (mR 6) (mR 9) 0 (35 * i) 35 (35 * i + k) = _
        rw [bring_n, if_pos (by omega), show 0 + (35 * i + k - 35 * i) = k by omega]
    · rw [pk_un q, pk_un q, pk_un q, pk_un q]
      refine ⟨g1, g2, fun hk => ⟨(g3 hk).1, (g3 hk).2.1, (g3 hk).2.2.congr h.hD h.hPn (fun k hk => ?_) (fun k hk => ?_)⟩⟩
      · show mX7_writeTo 70 (cR 18) (cR 5) (nI j) (35 * i + k) = _
        rw [writeTo_n (by omega) (by omega), if_neg (by omega)]
      · show mX10_bring (mR 6) (mR 9) 0 (35 * j) 35 (35 * i + k) = _
        rw [bring_n, if_neg (by omega)]
  · simp only [mX9_keep, mX10_keep, hw, hc, if_true]
    exact ⟨trivial, h.text, h.fault, h.house, h.now, h.past, h.img, h.notes, h.seed⟩
theorem st_goBack {cI : Nat → Int32} {cR : Nat → Nat → Int32} {mN : Nat → Nat} {mI : Nat → Int32} {mR : Nat → Nat → Int32} (h : Rel cI cR mN mI mR) (x1 : Int32) : ((mX9_goBack (cI 17) (cI 13) (cI 14) (cR 20) (cR 19) (cR 18) (cR 5) x1)).1 = ((mX10_goBack (mN 10) (mI 7) (mR 9) (mR 10) (mR 11) (mR 6) x1)).1 ∧ Rel (upd (upd (upd cI 13 (((mX9_goBack (cI 17) (cI 13) (cI 14) (cR 20) (cR 19) (cR 18) (cR 5) x1)).2.2.1)) 14 (((mX9_goBack (cI 17) (cI 13) (cI 14) (cR 20) (cR 19) (cR 18) (cR 5) x1)).2.2.2.1)) 17 (((mX9_goBack (cI 17) (cI 13) (cI 14) (cR 20) (cR 19) (cR 18) (cR 5) x1)).2.1)) (updF cR 5 (((mX9_goBack (cI 17) (cI 13) (cI 14) (cR 20) (cR 19) (cR 18) (cR 5) x1)).2.2.2.2)) (updN mN 10 (((mX10_goBack (mN 10) (mI 7) (mR 9) (mR 10) (mR 11) (mR 6) x1)).2.1)) (upd mI 7 (((mX10_goBack (mN 10) (mI 7) (mR 9) (mR 10) (mR 11) (mR 6) x1)).2.2.1)) (updF mR 6 (((mX10_goBack (mN 10) (mI 7) (mR 9) (mR 10) (mR 11) (mR 6) x1)).2.2.2)) := by
  have hw : mX9_within x1 0 1 = mX10_in x1 (nI 0) (nI 1) := rfl
  rcases in_cases x1 (A := 0) (B := 1) (by omega) (by omega) with ⟨j, j1, j2, rfl, hc⟩ | hc
  · have k6 : (nI j).toNatClampNeg = j := clamp_nI (by omega)
    obtain ⟨g1, g2, g3⟩ := h.img j (by omega)
    have hk : mX2_isKept (cR 20) (nI j) = mR 11 j := by
      unfold mX2_isKept
      rw [get_nat (by omega) (by omega), g1]
      rcases g2 with e | e
      · rw [e]; rfl
      · rw [e]; rfl
    simp only [mX9_goBack, mX10_goBack, hw, hc, if_neg one_ne0, k6, hk]
    by_cases c : mR 11 j = 0
    · rw [if_pos c, if_pos c]
      exact ⟨rfl, h.text, h.fault, h.house, h.now, h.past, h.img, h.notes, h.seed⟩
    · rw [if_neg c, if_neg c]
      have g3 := g3 (g2.resolve_left c)
      refine ⟨rfl, h.text, h.fault, h.house, ?_, past_none, h.img, h.notes, ?_⟩
      · show okNow _ _ _ (mX7_readFrom 70 (cR 18) (cR 5) (nI j)) (mX10_bring (mR 9) (mR 6) (35 * j) 0 35)
        refine g3.2.2.congr h.hD h.hPn (fun k hk => ?_) (fun k hk => ?_)
        · rw [readFrom_n (by omega) (by omega), if_pos hk]
        · rw [bring_n, if_pos (by omega), Nat.sub_zero]
      · show mX6_get 2 (cR 19) (nI j) = mR 10 j ∧ mR 10 j = nI (mR 10 j).toNatClampNeg
        rw [get_nat (by omega) (by omega)]
        exact ⟨g3.1, g3.2.1⟩
  · simp only [mX9_goBack, mX10_goBack, hw, hc, if_true]
    exact ⟨trivial, h.text, h.fault, h.house, h.now, h.past, h.img, h.notes, h.seed⟩
