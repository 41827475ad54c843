/-! pure: the shortest way -/
def lstC (c : Nat → Bool) : Nat → Nat → Int32
  | 0, _ => -1
  | n + 1, k => if c k then nI k else lstC c n (k + 1)
theorem lstC_congr {c e : Nat → Bool} : ∀ n k, (∀ d, k ≤ d → d < k + n → c d = e d) → lstC c n k = lstC e n k
  | 0, _, _ => rfl
  | n + 1, k, h => by
    unfold lstC
    rw [h k (by omega) (by omega), lstC_congr n (k + 1) (fun d a b => h d (by omega) (by omega))]
theorem lstC_down {D : Nat} {c : Nat → Bool} {f : Nat → Int32 → Int32} (hf : ∀ k, k < D → ∀ y, f k y = if c (D - k - 1) then nI (D - k - 1) else y) : ∀ n, n ≤ D → iter f n (-1) = lstC c n (D - n) := by
  intro n
  induction n with
  | zero => intro _; rfl
  | succ n ih =>
    intro hn
    show f n (iter f n (-1)) = if c (D - (n + 1)) then nI (D - (n + 1)) else lstC c n (D - (n + 1) + 1)
    rw [ih (by omega), hf n (by omega), show D - (n + 1) + 1 = D - n by omega, show D - (n + 1) = D - n - 1 by omega]
section Way
variable {D P Rm : Nat} {f g dA dB dS dO dr : Nat → Int32}
theorem farBy_n (h : okNow D P Rm f g) (hD : D ≤ 10) (hR : Rm ≤ 8) (hd : ∀ d, d < D → okDoor Rm dA dB dS dO dr d) {i s t : Nat} (hs : s < Rm) (ht : t < Rm) :
    (∃ m, m < 8 ∧ (ballN D (opN g (nI i)) (eaN dr) (ebN dr) m s).testBit t = true ∧ (∀ j, j < m → ¬ (ballN D (opN g (nI i)) (eaN dr) (ebN dr) j s).testBit t = true) ∧ mX10_farBy D dr g (nI i) (nI s) (nI t) = nI m) ∨
    ((∀ j, j < 8 → ¬ (ballN D (opN g (nI i)) (eaN dr) (ebN dr) j s).testBit t = true) ∧ mX10_farBy D dr g (nI i) (nI s) (nI t) = -1) := by
  unfold mX10_farBy
  rw [show nI 1 <<< (nI s &&& 31) = nI (2 ^ s) from only_n s (by omega)]
  have : ∀ n k y, k + n = 8 → y = ballN D (opN g (nI i)) (eaN dr) (ebN dr) k s → y < 256 → (∀ j, j < k → ¬ (ballN D (opN g (nI i)) (eaN dr) (ebN dr) j s).testBit t = true) →
      ((∃ m, m < 8 ∧ (ballN D (opN g (nI i)) (eaN dr) (ebN dr) m s).testBit t = true ∧ (∀ j, j < m → ¬ (ballN D (opN g (nI i)) (eaN dr) (ebN dr) j s).testBit t = true) ∧ mX10_farBy_l8 D dr g (nI i) (nI t) n k (nI y) = nI m) ∨
      ((∀ j, j < 8 → ¬ (ballN D (opN g (nI i)) (eaN dr) (ebN dr) j s).testBit t = true) ∧ mX10_farBy_l8 D dr g (nI i) (nI t) n k (nI y) = -1)) := by
    intro n
    induction n with
    | zero => intro k y hk _ _ hj; exact Or.inr ⟨fun j q => hj j (by omega), rfl⟩
    | succ n ih =>
      intro k y hk hy hlt hj
      have hr : iter (mX10_farBy_l34 dr g (nI i) (nI y)) D (nI y) = nI (rcN D (opN g (nI i)) (eaN dr) (ebN dr) y) ∧ rcN D (opN g (nI i)) (eaN dr) (ebN dr) y < 256 := by
        unfold rcN
        refine iter_rel (fun _ s t => s = nI t ∧ t < 256) ⟨rfl, hlt⟩ ?_
        rintro d hdd u z ⟨e, hz⟩
        subst e
        obtain ⟨a1, a2, a3, a4, a5, a6, a7, a8⟩ := (hd d hdd).ends hR
        refine ⟨?_, jw_lt (by omega) (by omega) hz⟩
        have h3 : y &&& (2 ^ eaN dr d ||| 2 ^ ebN dr d) < 256 := Nat.lt_of_le_of_lt Nat.and_le_left hlt
        unfold mX10_farBy_l34 jw opN
        rw [a4, a5, show nI 1 <<< (nI (eaN dr d) &&& 31) = nI (2 ^ eaN dr d) from only_n _ (by omega), show nI 1 <<< (nI (ebN dr d) &&& 31) = nI (2 ^ ebN dr d) from only_n _ (by omega)]
        simp only [nI_or, nI_and, Nat.or_zero, decide_eq_true_eq]
        by_cases c : mX10_stopsBy (g (3 + d)) (nI i) = 0
        · rw [if_pos c]
          by_cases c2 : y &&& (2 ^ eaN dr d ||| 2 ^ ebN dr d) = 0
          · have hneg : ¬ (mX10_stopsBy (g (3 + d)) (nI i) = 0 ∧ (y.testBit (eaN dr d) = true ∨ y.testBit (ebN dr d) = true)) := fun q => (and_two _ _ _).mp c2 q.2
            rw [if_pos ((nz_n (by omega)).mpr c2), if_neg hneg]
          · rw [if_neg (fun q => c2 ((nz_n (by omega)).mp q)), if_pos ⟨c, Classical.byContradiction (fun q => c2 ((and_two _ _ _).mpr q))⟩]
        · have hneg : ¬ (mX10_stopsBy (g (3 + d)) (nI i) = 0 ∧ (y.testBit (eaN dr d) = true ∨ y.testBit (ebN dr d) = true)) := fun q => c q.1
          rw [if_neg c, if_neg hneg]
      unfold mX10_farBy_l8
      rw [has_inSet, inSet_n (by omega) (by omega), hr.1]
      by_cases c : y.testBit t = true
      · rw [if_pos c, if_neg one_ne0]
        exact Or.inl ⟨k, by omega, hy ▸ c, hj, rfl⟩
      · rw [if_neg c, if_pos rfl]
        refine ih (k + 1) _ (by omega) (by rw [hy]; rfl) hr.2 (fun j q => ?_)
        by_cases z : j = k
        · rw [z, ← hy]; exact c
        · exact hj j (by omega)
  exact this 8 0 (2 ^ s) (by omega) rfl (Nat.pow_lt_pow_right (n := 8) (by omega) (by omega)) (fun j q => absurd q (by omega))
theorem leastDoor_n (hD : D ≤ 10) {x1 x2 x3 : Int32} : ∀ n k, k + n ≤ D → mX8_leastDoor_l3 dS x1 x2 x3 n k = lstC (fun d => decide (¬ mX9_inSet x3 (nI d) = 0 ∧ ¬ mX9_inSet (dS d) x1 = 0 ∧ ¬ (dS d &&& x2) = 0)) n k := by
  intro n
  induction n with
  | zero => intro k _; rfl
  | succ n ih =>
    intro k hk
    unfold mX8_leastDoor_l3 lstC
    rw [get_nat (by omega) (by omega), ih (k + 1) (by omega)]
    by_cases c1 : mX9_inSet x3 (nI k) = 0
    · rw [if_pos c1, if_neg (by simp [c1])]
    · by_cases c2 : mX9_inSet (dS k) x1 = 0
      · rw [if_neg c1, if_pos c2, if_neg (by simp [c2])]
      · by_cases c3 : (dS k &&& x2) = 0
        · rw [if_neg c1, if_neg c2, if_pos c3, if_neg (by simp [c3])]
        · rw [if_neg c1, if_neg c2, if_neg c3, if_pos (decide_eq_true ⟨c1, c2, c3⟩)]
theorem shortest_n (h : okNow D P Rm f g) (hD : D ≤ 10) (hR : Rm ≤ 8) (hd : ∀ d, d < D → okDoor Rm dA dB dS dO dr d) {i s t : Nat} {x1 x3 : Int32} (hi : i ≤ 1000) (hs : s < Rm) (ht : t < Rm) (hpl : mX7_place f x1 = nI s) (hil : mX7_ill f x1 = nI i) :
    (∃ m, m < Rm ∧ (ballN D (opN g (nI i)) (eaN dr) (ebN dr) m t).testBit s = true ∧ (∀ j, j < m → ¬ (ballN D (opN g (nI i)) (eaN dr) (ebN dr) j t).testBit s = true) ∧ mX8_shortestWay (nI Rm) (nI D) dS f x1 (nI t) x3 = if x3 = 0 then nI m else mX8_leastDoor (nI D) dS (nI s) (nI (if m = 0 then 0 else ballN D (opN g (nI i)) (eaN dr) (ebN dr) (m - 1) t)) (mX1_passable (nI D) f (nI i))) ∨
    ((∀ j, j < Rm → ¬ (ballN D (opN g (nI i)) (eaN dr) (ebN dr) j t).testBit s = true) ∧ mX8_shortestWay (nI Rm) (nI D) dS f x1 (nI t) x3 = -1) := by
  unfold mX8_shortestWay
  rw [clamp_nI (by omega), onlyC (by omega)]
  have : ∀ n k z y, k + n = Rm → y = ballN D (opN g (nI i)) (eaN dr) (ebN dr) k t → z = (if k = 0 then 0 else ballN D (opN g (nI i)) (eaN dr) (ebN dr) (k - 1) t) → y < 256 → (∀ j, j < k → ¬ (ballN D (opN g (nI i)) (eaN dr) (ebN dr) j t).testBit s = true) →
      ((∃ m, m < Rm ∧ (ballN D (opN g (nI i)) (eaN dr) (ebN dr) m t).testBit s = true ∧ (∀ j, j < m → ¬ (ballN D (opN g (nI i)) (eaN dr) (ebN dr) j t).testBit s = true) ∧ mX8_shortestWay_l45 (nI D) dS f x1 x3 n k (nI z) (nI y) = if x3 = 0 then nI m else mX8_leastDoor (nI D) dS (nI s) (nI (if m = 0 then 0 else ballN D (opN g (nI i)) (eaN dr) (ebN dr) (m - 1) t)) (mX1_passable (nI D) f (nI i))) ∨
      ((∀ j, j < Rm → ¬ (ballN D (opN g (nI i)) (eaN dr) (ebN dr) j t).testBit s = true) ∧ mX8_shortestWay_l45 (nI D) dS f x1 x3 n k (nI z) (nI y) = -1)) := by
    intro n
    induction n with
    | zero => intro k z y hk _ _ _ hj; exact Or.inr ⟨fun j q => hj j (by omega), rfl⟩
    | succ n ih =>
      intro k z y hk hy hz hlt hj
      have hr := spread_n hD hR hd (pass_op h hD hi) hlt
      unfold mX8_shortestWay_l45
      rw [hpl, hil, inSet_n (by omega) (by omega), hr.1]
      by_cases c : y.testBit s = true
      · rw [if_pos c, if_neg one_ne0, hz]
        exact Or.inl ⟨k, by omega, hy ▸ c, hj, rfl⟩
      · rw [if_neg c, if_pos rfl]
        refine ih (k + 1) _ _ (by omega) (by rw [hy]; rfl) (by rw [if_neg (by omega)]; exact hy) hr.2 (fun j q => ?_)
        by_cases w : j = k
        · rw [w, ← hy]; exact c
        · exact hj j (by omega)
  exact this Rm 0 0 (2 ^ t) (by omega) rfl rfl (Nat.pow_lt_pow_right (n := 8) (by omega) (by omega)) (fun j q => absurd q (by omega))
end Way
