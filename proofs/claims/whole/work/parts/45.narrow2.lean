/-! pure: narrow -/
set_option maxRecDepth 100000 in
theorem pset_n : ∀ D, D < 11 → ∀ k, k < D → ∀ j, j < D → mX9_inSet (((mX9_only (nI D)) - (1 : Int32)) &&& ((mX9_only (nI k)) ^^^ (-1 : Int32))) (nI j) = if decide (j ≠ k) then 1 else 0 := by decide +kernel
section Bridge
variable {D Rm : Nat} {ea eb : Nat → Nat} {k : Nat}
theorem all_in (hR : Rm ≤ 8) (hE : ∀ d, d < D → ea d < Rm ∧ eb d < Rm) {s : Nat} (hs : s < Rm) : subN (cloN D (fun j => decide (j ≠ k)) ea eb Rm s) (cloN D (fun _ => true) ea eb Rm s) :=
  clo_in (fun d hd _ hx => clo_closed (op := fun _ => true) hE hs d hd rfl hx) (clo_self s)
theorem joined_same (hR : Rm ≤ 8) (hE : ∀ d, d < D → ea d < Rm ∧ eb d < Rm) (hk : k < D) (h : (cloN D (fun j => decide (j ≠ k)) ea eb Rm (ea k)).testBit (eb k) = true) {s : Nat} (hs : s < Rm) : subN (cloN D (fun _ => true) ea eb Rm s) (cloN D (fun j => decide (j ≠ k)) ea eb Rm s) := by
  refine clo_in (fun d hd _ hx => ?_) (clo_self s)
  have hc := clo_closed (op := fun j => decide (j ≠ k)) hE hs
  by_cases q : d = k
  · subst q
    rcases hx with x | x
    · exact ⟨x, clo_in hc x _ h⟩
    · exact ⟨clo_in hc x _ (clo_sym hR hE (hE d hd).2 (hE d hd).1 h), x⟩
  · exact hc d hd (decide_eq_true q) hx
theorem part_split (hR : Rm ≤ 8) (hE : ∀ d, d < D → ea d < Rm ∧ eb d < Rm) {a b ma mb : Nat} (ha : a < Rm) (hb : b < Rm) (hj : (cloN D (fun _ => true) ea eb Rm a).testBit b = true)
    (h1 : (cloN D (fun j => decide (j ≠ k)) ea eb Rm a).testBit ma = true) (h2 : (cloN D (fun j => decide (j ≠ k)) ea eb Rm b).testBit mb = true) (h3 : ∀ j, j < mb → ¬ (cloN D (fun j => decide (j ≠ k)) ea eb Rm b).testBit j = true) (hlt : ma < mb) (hm : mb < Rm) :
    ¬ isMin D (fun _ => true) ea eb Rm mb = true ∧ isMin D (fun j => decide (j ≠ k)) ea eb Rm mb = true := by
  have hma : ma < Rm := by omega
  have cb := clo_closed (op := fun j => decide (j ≠ k)) hE hb
  unfold isMin
  rw [decide_eq_true_eq, decide_eq_true_eq]
  constructor
  · intro q
    refine q ma hlt ?_
    have e1 := clo_sym (op := fun _ => true) hR hE hma ha (all_in hR hE ha _ h1)
    have cm := clo_closed (op := fun _ => true) hE hma
    have e2 := clo_in (Rm := Rm) cm e1 _ hj
    exact clo_in (Rm := Rm) cm e2 _ (all_in hR hE hb _ h2)
  · intro j hjl q
    have e1 := clo_sym (op := fun j => decide (j ≠ k)) hR hE hm (by omega) q
    exact h3 j hjl (clo_in (Rm := Rm) cb h2 _ e1)
theorem clo_room (hR : Rm ≤ 8) (hE : ∀ d, d < D → ea d < Rm ∧ eb d < Rm) {op : Nat → Bool} {s r : Nat} (hs : s < Rm) (h : (cloN D op ea eb Rm s).testBit r = true) : r < Rm := by
  have hF : closedN D op ea eb (setN (fun _ => true) Rm) := by
    intro d hd _ _
    rw [setN_bit, setN_bit]
    simp [hE d hd]
  have := clo_in (Rm := Rm) hF (by rw [setN_bit]; simp [hs]) r h
  rw [setN_bit] at this
  simpa using this
theorem bridge_n (hR : Rm ≤ 8) (hE : ∀ d, d < D → ea d < Rm ∧ eb d < Rm) (hk : k < D) : (cntB (isMin D (fun j => decide (j ≠ k)) ea eb Rm) Rm ≤ cntB (isMin D (fun _ => true) ea eb Rm) Rm) ↔ (cloN D (fun j => decide (j ≠ k)) ea eb Rm (ea k)).testBit (eb k) = true := by
  have ha := (hE k hk).1
  have hb := (hE k hk).2
  constructor
  · intro hle
    refine Classical.byContradiction (fun hno => ?_)
    have hmono : ∀ r, r < Rm → isMin D (fun _ => true) ea eb Rm r = true → isMin D (fun j => decide (j ≠ k)) ea eb Rm r = true := by
      intro r hr q
      unfold isMin at q ⊢
      rw [decide_eq_true_eq] at q ⊢
      exact fun j hj z => q j hj (all_in hR hE (by omega) _ z)
    obtain ⟨ma, a1, a2⟩ := leastN (P := fun r => (cloN D (fun j => decide (j ≠ k)) ea eb Rm (ea k)).testBit r = true) _ (clo_self (ea k))
    obtain ⟨mb, b1, b2⟩ := leastN (P := fun r => (cloN D (fun j => decide (j ≠ k)) ea eb Rm (eb k)).testBit r = true) _ (clo_self (eb k))
    have hma := clo_room hR hE ha a1
    have hmb := clo_room hR hE hb b1
    have hj1 : (cloN D (fun _ => true) ea eb Rm (ea k)).testBit (eb k) = true := (clo_closed (op := fun _ => true) hE ha k hk rfl (Or.inl (clo_self _))).2
    have hj2 : (cloN D (fun _ => true) ea eb Rm (eb k)).testBit (ea k) = true := (clo_closed (op := fun _ => true) hE hb k hk rfl (Or.inr (clo_self _))).1
    rcases Nat.lt_trichotomy ma mb with q | q | q
    · have := part_split (k := k) hR hE ha hb hj1 a1 b1 b2 q hmb
      have := cntB_lt this.1 this.2 Rm hmono hmb
      omega
    · subst q
      have e1 := clo_sym (op := fun j => decide (j ≠ k)) hR hE hma ha a1
      have e2 := clo_in (Rm := Rm) (clo_closed (op := fun j => decide (j ≠ k)) hE hb) b1 _ e1
      exact hno (clo_sym hR hE ha hb e2)
    · have := part_split (k := k) hR hE hb ha hj2 b1 a1 a2 q hma
      have := cntB_lt this.1 this.2 Rm hmono hma
      omega
  · intro h
    refine cntB_mono Rm (fun r hr q => ?_)
    unfold isMin at q ⊢
    rw [decide_eq_true_eq] at q ⊢
    exact fun j hj z => q j hj (joined_same hR hE hk h (by omega) _ z)
end Bridge
theorem st_narrow {cI : Nat → Int32} {cR : Nat → Nat → Int32} {mN : Nat → Nat} {mI : Nat → Int32} {mR : Nat → Nat → Int32} (h : Rel cI cR mN mI mR) : (mX9_narrow (cI 0) (cI 2) (cR 1) (cR 2) (cR 3)) = (mX10_narrow (mI 6) (mN 8) (mR 5) (mR 6)) := by
  obtain ⟨⟨e0, e1, hRm, e2, hRn, e3, hD, e4, hP, hz⟩, hrain, hdoor⟩ := h.house
  have hdoor : ∀ d, d < mN 8 → okDoor (mI 6).toNatClampNeg (cR 1) (cR 2) (cR 3) (cR 4) (mR 5) d := hdoor
  unfold mX9_narrow mX8_bridges mX10_narrow
  rw [e0, e3, clamp_nI (by omega), e1]
  show iter _ _ (nI 0) = _
  refine iter_congr (fun k hk y => ?_)
  have hE : ∀ d, d < mN 8 → eaN (mR 5) d < (mI 6).toNatClampNeg ∧ ebN (mR 5) d < (mI 6).toNatClampNeg := fun d q => ⟨((hdoor d q).ends hRm).1, ((hdoor d q).ends hRm).2.1⟩
  have hst : ∀ j, j < mN 8 → mX10_stopsBy (mR 6 (3 + j)) (nI 0) = 0 := fun j hj => by
    obtain ⟨t, ht, t1, t2, t3⟩ := h.now.sp hj hD
    rw [t3]
    exact stopsBy_neg (by omega) (by omega) (fun c => by have := c.2.1; omega)
  obtain ⟨a1, a2, a3, a4, a5, a6, a7, a8⟩ := (hdoor k hk).ends hRm
  have p1 := partsBy_n (g := mR 6) (op := fun j => decide (j ≠ k)) (x1 := nI 0) (x3 := nI k) hD hRm hdoor (fun j hj => by
    rw [decide_eq_true_eq]
    exact ⟨fun q => ⟨fun c => q ((nI_eq (by omega) (by omega)).mp c), has0 j (by omega), hst j hj⟩, fun q c => q.1 (by rw [c])⟩)
  have p2 := partsBy_n (g := mR 6) (op := fun _ => true) (x1 := nI 0) (x3 := -1) hD hRm hdoor (fun j hj => ⟨fun _ => ⟨nI_m1 (by omega), has0 j (by omega), hst j hj⟩, fun _ => rfl⟩)
  have p3 := reach_n (op := fun j => decide (j ≠ k)) hD hRm hdoor (pset_n (mN 8) (by omega) k hk) a1
  unfold mX8_bridges_l17 mX10_narrow_l4
  rw [get_nat (by omega) (by omega), get_nat (by omega) (by omega), a6, a7, p1, p2, p3.1, inSet_n (by have := p3.2; omega) (by omega), onlyC (by omega), show nI 1 <<< (nI k &&& 31) = nI (2 ^ k) from only_n k (by omega)]
  have hc1 := cntB_le (isMin (mN 8) (fun j => decide (j ≠ k)) (eaN (mR 5)) (ebN (mR 5)) (mI 6).toNatClampNeg) (mI 6).toNatClampNeg
  have hc2 := cntB_le (isMin (mN 8) (fun _ => true) (eaN (mR 5)) (ebN (mR 5)) (mI 6).toNatClampNeg) (mI 6).toNatClampNeg
  have hbr := bridge_n hRm hE hk
  by_cases c : (cloN (mN 8) (fun j => decide (j ≠ k)) (eaN (mR 5)) (ebN (mR 5)) (mI 6).toNatClampNeg (eaN (mR 5) k)).testBit (ebN (mR 5) k) = true
  · rw [if_pos c, if_neg one_ne0, if_pos ((nI_leI (by omega) (by omega)).mpr (hbr.mpr c)), show nI 0 = (0 : Int32) from rfl, Int32.or_zero]
  · rw [if_neg c, if_pos rfl, if_neg (fun q => c (hbr.mp ((nI_leI (by omega) (by omega)).mp q)))]
