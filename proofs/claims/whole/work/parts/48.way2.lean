/-! pure: way -/
section Way2
variable {D P Rm : Nat} {f g dA dB dS dO dr : Nat → Int32}
theorem far_of (h : okNow D P Rm f g) (hD : D ≤ 10) (hR : Rm ≤ 8) (hd : ∀ d, d < D → okDoor Rm dA dB dS dO dr d) {i s t m : Nat} (hs : s < Rm) (ht : t < Rm) (hm : m < 8) (h1 : (ballN D (opN g (nI i)) (eaN dr) (ebN dr) m t).testBit s = true) (h2 : ∀ j, j < m → ¬ (ballN D (opN g (nI i)) (eaN dr) (ebN dr) j t).testBit s = true) : mX10_farBy D dr g (nI i) (nI s) (nI t) = nI m := by
  rcases farBy_n h hD hR hd (i := i) hs ht with ⟨n, n1, n2, n3, n4⟩ | ⟨n1, n2⟩
  · rw [n4]
    rcases Nat.lt_trichotomy n m with q | q | q
    · exact absurd (ball_sym _ _ _ n2) (h2 n q)
    · rw [q]
    · exact absurd (ball_sym _ _ _ h1) (n3 m q)
  · exact absurd (ball_sym _ _ _ h1) (n1 m hm)
theorem far_no (h : okNow D P Rm f g) (hD : D ≤ 10) (hR : Rm ≤ 8) (hd : ∀ d, d < D → okDoor Rm dA dB dS dO dr d) {i s t : Nat} (hs : s < Rm) (ht : t < Rm) (h2 : ∀ j, j < Rm → ¬ (ballN D (opN g (nI i)) (eaN dr) (ebN dr) j t).testBit s = true) : mX10_farBy D dr g (nI i) (nI s) (nI t) = -1 := by
  have hE : ∀ d, d < D → eaN dr d < Rm ∧ ebN dr d < Rm := fun d q => ⟨((hd d q).ends hR).1, ((hd d q).ends hR).2.1⟩
  rcases farBy_n h hD hR hd (i := i) hs ht with ⟨n, n1, n2, n3, n4⟩ | ⟨n1, n2⟩
  · exact absurd (ball_stop hE ht _ (ball_sym _ _ _ n2)) (h2 (Rm - 1) (by omega))
  · exact n2
theorem lstC_none {c : Nat → Bool} : ∀ n k, (∀ d, c d = false) → lstC c n k = -1
  | 0, _, _ => rfl
  | n + 1, k, h => by
    unfold lstC
    rw [h k, if_neg (by decide), lstC_none n (k + 1) h]
/-- the door of the first step: the class's test and the model's -/
theorem door_far (h : okNow D P Rm f g) (hD : D ≤ 10) (hR : Rm ≤ 8) (hd : ∀ d, d < D → okDoor Rm dA dB dS dO dr d) {i s o t m d : Nat} (hdd : d < D) (hs : s < Rm) (ho : o < Rm) (ht : t < Rm) (hm : m + 1 < Rm) (hop : opN g (nI i) d = true) (hso : (s = eaN dr d ∧ o = ebN dr d) ∨ (s = ebN dr d ∧ o = eaN dr d)) (h2 : ∀ j, j < m + 1 → ¬ (ballN D (opN g (nI i)) (eaN dr) (ebN dr) j t).testBit s = true) (hlt : ballN D (opN g (nI i)) (eaN dr) (ebN dr) m t < 256) :
    (¬ (dS d &&& nI (ballN D (opN g (nI i)) (eaN dr) (ebN dr) m t)) = 0) ↔ mX10_farBy D dr g (nI i) (nI o) (nI t) = nI m := by
  obtain ⟨a1, a2, a3, a4, a5, a6, a7, a8⟩ := (hd d hdd).ends hR
  have hand : ballN D (opN g (nI i)) (eaN dr) (ebN dr) m t &&& (2 ^ eaN dr d ||| 2 ^ ebN dr d) < 256 := Nat.lt_of_le_of_lt Nat.and_le_left hlt
  have hnb : nbN D (opN g (nI i)) (eaN dr) (ebN dr) o s := by
    refine Or.inr ⟨d, hdd, hop, ?_, ?_⟩
    · rcases hso with q | q
      · exact Or.inr q.2
      · exact Or.inl q.2
    · rcases hso with q | q
      · exact Or.inl q.1
      · exact Or.inr q.1
  have e1 : (¬ (dS d &&& nI (ballN D (opN g (nI i)) (eaN dr) (ebN dr) m t)) = 0) ↔ (ballN D (opN g (nI i)) (eaN dr) (ebN dr) m t).testBit o = true := by
    rw [a8, nI_and, Nat.and_comm, nz_n (by omega), and_two, Classical.not_not]
    constructor
    · intro q
      rcases hso with ⟨q1, q2⟩ | ⟨q1, q2⟩
      · rw [q2]
        exact q.resolve_left (by rw [← q1]; exact h2 m (by omega))
      · rw [q2]
        exact q.resolve_right (by rw [← q1]; exact h2 m (by omega))
    · intro q
      rcases hso with ⟨q1, q2⟩ | ⟨q1, q2⟩
      · rw [← q2]; exact Or.inr q
      · rw [← q2]; exact Or.inl q
  rw [e1]
  constructor
  · intro q
    refine far_of h hD hR hd ho ht (by omega) q (fun j hj z => ?_)
    exact h2 (j + 1) (by omega) ((ball_back _ _ _).mpr ⟨o, z, hnb⟩)
  · intro q
    rcases farBy_n h hD hR hd (i := i) ho ht with ⟨n, n1, n2, n3, n4⟩ | ⟨n1, n2⟩
    · rw [n4] at q
      have := (nI_eq (by omega) (by omega)).mp q
      rw [← this]
      exact ball_sym _ _ _ n2
    · rw [n2] at q
      exact absurd q.symm (nI_m1 (by omega))
theorem ball_lt (hR : Rm ≤ 8) (hd : ∀ d, d < D → okDoor Rm dA dB dS dO dr d) {op : Nat → Bool} {t : Nat} (ht : t < Rm) : ∀ n, ballN D op (eaN dr) (ebN dr) n t < 256 := by
  have hE : ∀ d, d < D → eaN dr d < Rm ∧ ebN dr d < Rm := fun d q => ⟨((hd d q).ends hR).1, ((hd d q).ends hR).2.1⟩
  intro n
  refine sub256 _ (fun k q => ?_)
  have := clo_room (op := op) hR hE ht (show (cloN D op (eaN dr) (ebN dr) Rm t).testBit k = true from ball_stop hE ht k q)
  omega
end Way2
theorem st_way {cI : Nat → Int32} {cR : Nat → Nat → Int32} {mN : Nat → Nat} {mI : Nat → Int32} {mR : Nat → Nat → Int32} (h : Rel cI cR mN mI mR) (x1 x2 x3 : Int32) : (mX9_way (cI 0) (cI 2) (cI 3) (cR 3) (cR 5) x1 x2 x3) = (mX10_way (mI 6) (mN 8) (mN 9) (mR 5) (mR 6) x1 x2 x3) := by
  obtain ⟨⟨e0, e1, hRm, e2, hRn, e3, hD, e4, hP, hz⟩, hrain, hdoor⟩ := h.house
  have hdoor : ∀ d, d < mN 8 → okDoor (mI 6).toNatClampNeg (cR 1) (cR 2) (cR 3) (cR 4) (mR 5) d := hdoor
  have hw : mX9_within x3 0 1 = mX10_in x3 (nI 0) (nI 1) := rfl
  have hc := room_cases (D := (mI 6).toNatClampNeg) (by omega) x2
  rw [← e1] at hc
  unfold mX9_way mX10_way
  rw [e0, e3, e4, hw]
  rcases person_cases (D := mN 9) (by omega) x1 with ⟨p, hp, rfl, h1, h2⟩ | ⟨h1, h2⟩
  · rw [h1, h2, if_neg one_ne0, if_neg one_ne0]
    rcases hc with ⟨t, ht, rfl, h3, h4⟩ | ⟨h3, h4⟩
    · rw [h3, h4, if_neg one_ne0, if_neg one_ne0, clamp_nI (by omega)]
      obtain ⟨i, hi, i1, i2⟩ := h.now.ill hp hP
      obtain ⟨s, hs, k1, k2, k3⟩ := h.now.pl hp hP
      rw [i2, k3]
      have hsh := fun x => shortest_n (x3 := x) h.now hD hRm hdoor (by omega : i ≤ 1000) hs ht k1 i1
      rw [← e1] at hsh
      rcases in_cases x3 (A := 0) (B := 1) (by omega) (by omega) with ⟨j, j1, j2, rfl, hj⟩ | hj
      · rw [hj, if_neg one_ne0, if_neg one_ne0]
        by_cases q : j = 0
        · rw [q, if_neg (show ¬ nI 0 = 1 by decide), if_pos (show nI 0 = 0 from rfl), if_pos (show nI 0 = 0 from rfl)]
          rcases hsh 0 with ⟨m, m1, m2, m3, m4⟩ | ⟨m1, m2⟩
          · rw [m4, if_pos rfl, far_of h.now hD hRm hdoor hs ht (by omega) m2 m3]
          · rw [m2, far_no h.now hD hRm hdoor hs ht m1]
        · have q : j = 1 := by omega
          rw [q, if_pos (show nI 1 = 1 from rfl), if_neg (show ¬ nI 1 = 0 by decide), if_neg (show ¬ nI 1 = 0 by decide)]
          rcases hsh 1 with ⟨m, m1, m2, m3, m4⟩ | ⟨m1, m2⟩
          · rw [m4, if_neg one_ne0, far_of h.now hD hRm hdoor hs ht (by omega) m2 m3]
            unfold mX8_leastDoor
            rw [clamp_nI (by omega), leastDoor_n hD _ _ (by omega)]
            rcases Nat.eq_zero_or_pos m with z | z
            · have zn : ¬ (0 : Int32) < nI m := by rw [z]; decide
              rw [if_neg zn]
              refine lstC_none _ _ (fun d => ?_)
              rw [if_pos z, show nI 0 = (0 : Int32) from rfl, Int32.and_zero]
              simp
            · have zp : (0 : Int32) < nI m := by rw [show (0 : Int32) = nI 0 from rfl]; exact nI_lt (by omega) (by omega)
              have zne : ¬ m = 0 := by omega
              rw [if_pos zp, if_neg zne]
              rw [lstC_down (c := fun d => decide (¬ mX10_isAt (mR 5) (mR 6) p d = 0 ∧ mX10_stopsIn (mR 6) p d = 0 ∧ mX10_farBy (mN 8) (mR 5) (mR 6) (nI i) (mR 5 (4 * d) + mR 5 (4 * d + 1) - nI s) (nI t) = nI m - nI 1)) (D := mN 8) ?_ (mN 8) (Nat.le_refl _), Nat.sub_self]
              · refine lstC_congr _ _ (fun d _ hd2 => ?_)
                have hdd : d < mN 8 := by omega
                obtain ⟨a1, a2, a3, a4, a5, a6, a7, a8⟩ := (hdoor d hdd).ends hRm
                have hat := at_n h.now hD hP hRm hp hdd (hdoor d hdd)
                unfold mX1_isAtDoor at hat
                rw [get_nat (by omega) (by omega), k1] at hat
                have hst : mX10_stopsIn (mR 6) p d = mX10_stopsBy (mR 6 (3 + d)) (nI i) := by unfold mX10_stopsIn; rw [i2]
                refine decide_eq_decide.mpr ?_
                rw [hat, pass_op h.now hD (by omega) d hdd, hst]
                by_cases c1 : mX10_stopsBy (mR 6 (3 + d)) (nI i) = 0
                · have hop : opN (mR 6) (nI i) d = true := decide_eq_true c1
                  rw [if_pos hop]
                  by_cases c2 : mX10_isAt (mR 5) (mR 6) p d = 0
                  · exact ⟨fun z => absurd c2 z.2.1, fun z => absurd c2 z.1⟩
                  · have hso : (s = eaN (mR 5) d ∨ s = ebN (mR 5) d) := by
                      unfold mX10_isAt at c2
                      rw [a4, a5, k3] at c2
                      by_cases z1 : nI (eaN (mR 5) d) = nI s
                      · exact Or.inl ((nI_eq (by omega) (by omega)).mp z1).symm
                      · by_cases z2 : nI (ebN (mR 5) d) = nI s
                        · exact Or.inr ((nI_eq (by omega) (by omega)).mp z2).symm
                        · rw [if_neg z1, if_neg z2] at c2; exact absurd rfl c2
                    have hpm : nI m - nI 1 = nI (m - 1) := pk_sub (by omega)
                    have hbl := ball_lt (op := opN (mR 6) (nI i)) hRm hdoor ht (m - 1)
                    have hm3 : ∀ j, j < m - 1 + 1 → ¬ (ballN (mN 8) (opN (mR 6) (nI i)) (eaN (mR 5)) (ebN (mR 5)) j t).testBit s = true := fun j q => m3 j (by omega)
                    rw [a4, a5, hpm]
                    rcases hso with z | z
                    · have := door_far h.now hD hRm hdoor (m := m - 1) (o := ebN (mR 5) d) hdd hs a2 ht (by omega) hop (Or.inl ⟨z, rfl⟩) hm3 hbl
                      rw [this, ← z, Int32.add_comm, Int32.add_sub_cancel]
                      exact ⟨fun w => ⟨w.2.1, c1, w.2.2⟩, fun w => ⟨one_ne0, w.1, w.2.2⟩⟩
                    · have := door_far h.now hD hRm hdoor (m := m - 1) (o := eaN (mR 5) d) hdd hs a1 ht (by omega) hop (Or.inr ⟨z, rfl⟩) hm3 hbl
                      rw [this, ← z, Int32.add_sub_cancel]
                      exact ⟨fun w => ⟨w.2.1, c1, w.2.2⟩, fun w => ⟨one_ne0, w.1, w.2.2⟩⟩
                · have hop : ¬ opN (mR 6) (nI i) d = true := fun z => c1 (of_decide_eq_true z)
                  rw [if_neg hop]
                  exact ⟨fun z => absurd rfl z.1, fun z => absurd z.2.1 c1⟩
              · intro k hk y
                unfold mX10_way_l90
                rw [clamp_nI (by omega), i2, k3, far_of h.now hD hRm hdoor hs ht (by omega) m2 m3]
                by_cases c1 : mX10_isAt (mR 5) (mR 6) p (mN 8 - k - 1) = 0
                · rw [if_pos c1, if_neg (by simp [c1])]
                · by_cases c2 : mX10_stopsIn (mR 6) p (mN 8 - k - 1) = 0
                  · by_cases c3 : mX10_farBy (mN 8) (mR 5) (mR 6) (nI i) (mR 5 (4 * (mN 8 - k - 1)) + mR 5 (4 * (mN 8 - k - 1) + 1) - nI s) (nI t) = nI m - nI 1
                    · rw [if_neg c1, if_pos c2, if_pos c3, if_pos (decide_eq_true ⟨c1, c2, c3⟩)]
                    · rw [if_neg c1, if_pos c2, if_neg c3, if_neg (by simp [c3])]
                  · rw [if_neg c1, if_neg c2, if_neg (by simp [c2])]
          · rw [m2, far_no h.now hD hRm hdoor hs ht m1, if_neg (by decide)]
      · rw [hj, if_pos rfl, if_pos rfl]
    · rw [h3, h4, if_pos rfl, if_pos rfl]
  · rw [h1, h2, if_pos rfl, if_pos rfl]
