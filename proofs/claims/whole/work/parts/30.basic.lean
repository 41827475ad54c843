/-! pure: numbers, rows, small functions of class and model side by side -/
theorem get_nat {n j : Nat} {f : Nat → Int32} (hj : j < n) (hn : n < 2147483648) : mX6_get n f (nI j) = f j := by
  unfold mX6_get
  rw [if_neg (nI_pos (by omega)), if_neg (nI_ge hj (by omega)), nI_clamp (by omega)]
theorem set_nat {n j : Nat} {f : Nat → Int32} {v : Int32} (hj : j < n) (hn : n < 2147483648) : mX6_set n f (nI j) v = upd f j v := by
  unfold mX6_set
  rw [if_neg (nI_pos (by omega)), if_neg (nI_ge hj (by omega)), nI_clamp (by omega)]
theorem spoons_n {f : Nat → Int32} {j : Nat} (h : j < 35) : mX7_spoons f (nI j) = f j := by
  unfold mX7_spoons; rw [show (0 : Int32) = nI 0 from rfl, nI_add, Nat.zero_add]; exact get_nat h (by omega)
theorem crossings_n {f : Nat → Int32} {j : Nat} (h : j < 25) : mX7_crossings f (nI j) = f (10 + j) := by
  unfold mX7_crossings; rw [show (10 : Int32) = nI 10 from rfl, nI_add]; exact get_nat (by omega) (by omega)
theorem place_n {f : Nat → Int32} {j : Nat} (h : j < 15) : mX7_place f (nI j) = f (20 + j) := by
  unfold mX7_place; rw [show (20 : Int32) = nI 20 from rfl, nI_add]; exact get_nat (by omega) (by omega)
theorem wishOf_n {f : Nat → Int32} {j : Nat} (h : j < 9) : mX7_wishOf f (nI j) = f (26 + j) := by
  unfold mX7_wishOf; rw [show (26 : Int32) = nI 26 from rfl, nI_add]; exact get_nat (by omega) (by omega)
theorem hours_n (f : Nat → Int32) : mX7_hours f = f 32 := by
  unfold mX7_hours; rw [show (32 : Int32) = nI 32 from rfl]; exact get_nat (by omega) (by omega)
theorem store_n (f : Nat → Int32) : mX7_store f = f 33 := by
  unfold mX7_store; rw [show (33 : Int32) = nI 33 from rfl]; exact get_nat (by omega) (by omega)
theorem stopped_n (f : Nat → Int32) : mX7_stopped f = f 34 := by
  unfold mX7_stopped; rw [show (34 : Int32) = nI 34 from rfl]; exact get_nat (by omega) (by omega)
theorem setSpoons_n {f : Nat → Int32} {j : Nat} {v : Int32} (h : j < 35) : mX7_setSpoons f (nI j) v = upd f j v := by
  unfold mX7_setSpoons; rw [show (0 : Int32) = nI 0 from rfl, nI_add, Nat.zero_add]; exact set_nat h (by omega)
theorem setPlace_n {f : Nat → Int32} {j : Nat} {v : Int32} (h : j < 15) : mX7_setPlace f (nI j) v = upd f (20 + j) v := by
  unfold mX7_setPlace; rw [show (20 : Int32) = nI 20 from rfl, nI_add]; exact set_nat (by omega) (by omega)
theorem setWish_n {f : Nat → Int32} {j : Nat} {v : Int32} (h : j < 9) : mX7_setWish f (nI j) v = upd f (26 + j) v := by
  unfold mX7_setWish; rw [show (26 : Int32) = nI 26 from rfl, nI_add]; exact set_nat (by omega) (by omega)
theorem countCrossing_n {f : Nat → Int32} {j : Nat} (h : j < 25) : mX7_countCrossing f (nI j) = upd f (10 + j) (f (10 + j) + 1) := by
  unfold mX7_countCrossing; rw [crossings_n h, show (10 : Int32) = nI 10 from rfl, nI_add]; exact set_nat (by omega) (by omega)
theorem countHour_n (f : Nat → Int32) : mX7_countHour f = upd f 32 (f 32 + 1) := by
  unfold mX7_countHour; rw [hours_n, show (32 : Int32) = nI 32 from rfl]; exact set_nat (by omega) (by omega)
theorem setStore_n (f : Nat → Int32) (v : Int32) : mX7_setStore f v = upd f 33 v := by
  unfold mX7_setStore; rw [show (33 : Int32) = nI 33 from rfl]; exact set_nat (by omega) (by omega)
theorem countStopped_n (f : Nat → Int32) : mX7_countStopped f = upd f 34 (f 34 + 1) := by
  unfold mX7_countStopped; rw [stopped_n, show (34 : Int32) = nI 34 from rfl]; exact set_nat (by omega) (by omega)
theorem max_n {a b : Nat} (ha : a < 2147483648) (hb : b < 2147483648) : mJ9_max_7cf53 (nI a) (nI b) = nI (max a b) := by
  unfold mJ9_max_7cf53
  split
  · rename_i h; have := (nI_ltI ha hb).mp h; rw [Nat.max_eq_right (by omega)]
  · rename_i h; have : ¬ a < b := fun q => h ((nI_ltI ha hb).mpr q); rw [Nat.max_eq_left (by omega)]
theorem min_n {a b : Nat} (ha : a < 2147483648) (hb : b < 2147483648) : mJ9_min_7cf53 (nI a) (nI b) = nI (min a b) := by
  unfold mJ9_min_7cf53
  split
  · rename_i h; have := (nI_ltI hb ha).mp h; rw [Nat.min_eq_right (by omega)]
  · rename_i h; have : ¬ b < a := fun q => h ((nI_ltI hb ha).mpr q); rw [Nat.min_eq_left (by omega)]
/-- max(0, a - b), of the class, and lessBy of the model -/
theorem max0_sub {a b : Nat} (ha : a < 1073741824) (hb : b < 1073741824) : mJ9_max_7cf53 0 (nI a - nI b) = nI (a - b) := by
  rcases Nat.lt_or_ge a b with h | h
  · unfold mJ9_max_7cf53
    rw [if_neg (by rw [Int32.lt_iff_toInt_lt, pk_sub_toInt ha hb, Int32.toInt_zero]; omega), show a - b = 0 by omega]; rfl
  · rw [pk_sub h, show (0 : Int32) = nI 0 from rfl, max_n (by omega) (by omega), Nat.max_eq_right (by omega)]
theorem lessBy_n {a b : Nat} (ha : a < 1073741824) (hb : b < 1073741824) : mX10_lessBy (nI a) (nI b) = nI (a - b) := by
  unfold mX10_lessBy
  split
  · rename_i h; have := (nI_leI (by omega) (by omega)).mp h; rw [show a - b = 0 by omega]; rfl
  · rename_i h; have : ¬ a ≤ b := fun q => h ((nI_leI (by omega) (by omega)).mpr q); exact pk_sub (by omega)
theorem takeSpoons_n {f : Nat → Int32} {j a b : Nat} (h : j < 35) (hf : f j = nI a) (ha : a < 1073741824) (hb : b < 1073741824) : mX7_takeSpoons f (nI j) (nI b) = upd f j (nI (a - b)) := by
  unfold mX7_takeSpoons
  rw [spoons_n h, hf, max0_sub ha hb, setSpoons_n h]
theorem within_in (x a b : Int32) : mX9_within x a b = mX10_in x a b := rfl
theorem has_inSet (x k : Int32) : mX10_has x k = mX9_inSet x k := rfl
/-- a number in bounds, or not: class and model say the same -/
theorem door_cases {D : Nat} (hD : D ≤ 1000) (x : Int32) : (∃ j, j < D ∧ x = nI j ∧ mX1_hasDoor (nI D) x = 1 ∧ mX10_isDoor D x = 1) ∨ (mX1_hasDoor (nI D) x = 0 ∧ mX10_isDoor D x = 0) := by
  by_cases h : 0 ≤ x.toInt ∧ x.toInt < D
  · left
    refine ⟨x.toNatClampNeg, by rw [clampE]; omega, nn_nat h.1, ?_, ?_⟩
    · unfold mX1_hasDoor
      rw [if_neg (by rw [Int32.lt_iff_toInt_lt, Int32.toInt_zero]; omega), if_neg (by rw [Int32.le_iff_toInt_le, nI_toInt (by omega)]; omega)]
    · unfold mX10_isDoor mX10_in
      rw [if_neg (by rw [Int32.lt_iff_toInt_lt, nI0i]; omega), if_neg (by rw [Int32.lt_iff_toInt_lt, pk_sub_toInt (by omega) (by omega)]; omega)]
  · right
    constructor
    · unfold mX1_hasDoor
      by_cases h1 : x < 0
      · rw [if_pos h1]
      · rw [if_neg h1, if_pos]
        rw [Int32.lt_iff_toInt_lt, Int32.toInt_zero] at h1
        rw [Int32.le_iff_toInt_le, nI_toInt (by omega)]; omega
    · unfold mX10_isDoor mX10_in
      by_cases h1 : x < nI 0
      · rw [if_pos h1]
      · rw [if_neg h1, if_pos]
        rw [Int32.lt_iff_toInt_lt, nI0i] at h1
        rw [Int32.lt_iff_toInt_lt, pk_sub_toInt (by omega) (by omega)]; omega
theorem person_cases {D : Nat} (hD : D ≤ 1000) (x : Int32) : (∃ j, j < D ∧ x = nI j ∧ mX1_hasPerson (nI D) x = 1 ∧ mX10_isPerson D x = 1) ∨ (mX1_hasPerson (nI D) x = 0 ∧ mX10_isPerson D x = 0) := door_cases hD x
theorem room_cases {D : Nat} (hD : D ≤ 1000) (x : Int32) : (∃ j, j < D ∧ x = nI j ∧ mX1_hasRoom (nI D) x = 1 ∧ mX10_isRoom (nI D) x = 1) ∨ (mX1_hasRoom (nI D) x = 0 ∧ mX10_isRoom (nI D) x = 0) := door_cases hD x
theorem in_cases (x : Int32) {A B : Nat} (hA : A < 2147483648) (hB : B < 2147483648) : (∃ j, A ≤ j ∧ j ≤ B ∧ x = nI j ∧ mX10_in x (nI A) (nI B) = 1) ∨ mX10_in x (nI A) (nI B) = 0 := by
  by_cases h : mX10_in x (nI A) (nI B) = 0
  · exact Or.inr h
  · left
    have h1 := in_nat1 hA hB h
    refine ⟨x.toNatClampNeg, h1.1.1, h1.1.2, h1.2, ?_⟩
    unfold mX10_in at h ⊢
    split at h
    · exact absurd rfl h
    · rw [if_neg (by assumption)]
      split at h
      · exact absurd rfl h
      · rw [if_neg (by assumption)]
theorem one_ne0 : ¬ (1 : Int32) = 0 := by decide
/-- a line of s spoons stops one of ill i -/
def stp (s i : Nat) : Prop := 1 ≤ s ∧ 1 ≤ i ∧ 10 ≤ s + i
theorem holdsBack_pos {s i : Nat} (hs : s ≤ 1000) (hi : i ≤ 1000) (h : stp s i) : mX9_holdsBack (nI s) (nI i) = 1 := by
  unfold mX9_holdsBack stp at *
  rw [show (1 : Int32) = nI 1 from rfl, show (10 : Int32) = nI 10 from rfl, nI_add, if_neg (nI_nlt (by omega) (by omega)), if_neg (nI_nlt (by omega) (by omega)), if_neg (nI_nlt (by omega) (by omega))]
theorem holdsBack_neg {s i : Nat} (hs : s ≤ 1000) (hi : i ≤ 1000) (h : ¬ stp s i) : mX9_holdsBack (nI s) (nI i) = 0 := by
  unfold mX9_holdsBack stp at *
  rw [show (1 : Int32) = nI 1 from rfl, show (10 : Int32) = nI 10 from rfl, nI_add]
  by_cases h1 : s < 1
  · rw [if_pos (nI_lt h1 (by omega))]
  · rw [if_neg (nI_nlt (by omega) (by omega))]
    by_cases h2 : i < 1
    · rw [if_pos (nI_lt h2 (by omega))]
    · rw [if_neg (nI_nlt (by omega) (by omega)), if_pos (nI_lt (by omega) (by omega))]
theorem stopsBy_pos {s i : Nat} (hs : s ≤ 1000) (hi : i ≤ 1000) (h : stp s i) : mX10_stopsBy (nI s) (nI i) = 1 := by
  unfold mX10_stopsBy stp at *
  rw [show (10 : Int32) = nI 10 from rfl, nI_add, if_neg (nI_nle (by omega) (by omega)), if_neg (nI_nle (by omega) (by omega)), if_neg (nI_nlt (by omega) (by omega))]
theorem stopsBy_neg {s i : Nat} (hs : s ≤ 1000) (hi : i ≤ 1000) (h : ¬ stp s i) : mX10_stopsBy (nI s) (nI i) = 0 := by
  unfold mX10_stopsBy stp at *
  rw [show (10 : Int32) = nI 10 from rfl, nI_add]
  by_cases h1 : s < 1
  · rw [if_pos (show nI s ≤ 0 by rw [show (0 : Int32) = nI 0 from rfl]; exact nI_le (by omega) (by omega))]
  · rw [if_neg (nI_nle (by omega) (by omega))]
    by_cases h2 : i < 1
    · rw [if_pos (show nI i ≤ 0 by rw [show (0 : Int32) = nI 0 from rfl]; exact nI_le (by omega) (by omega))]
    · rw [if_neg (nI_nle (by omega) (by omega)), if_pos (nI_lt (by omega) (by omega))]
theorem hold_eq {s i : Nat} (hs : s ≤ 1000) (hi : i ≤ 1000) : mX9_holdsBack (nI s) (nI i) = mX10_stopsBy (nI s) (nI i) := by
  by_cases h : stp s i
  · rw [holdsBack_pos hs hi h, stopsBy_pos hs hi h]
  · rw [holdsBack_neg hs hi h, stopsBy_neg hs hi h]
/-- ill: of a wish w - 9 in the class, of w in the model -/
theorem illC {w : Nat} (h : w ≤ 18) : mX9_illOfWish (nI w - nI 9) = nI (9 - w) := by
  unfold mX9_illOfWish
  split
  · rename_i c
    rw [Int32.le_iff_toInt_le, Int32.toInt_zero, pk_sub_toInt (by omega) (by omega)] at c
    rw [show 9 - w = 0 by omega]; rfl
  · rename_i c
    rw [Int32.le_iff_toInt_le, Int32.toInt_zero, pk_sub_toInt (by omega) (by omega)] at c
    rw [Int32.neg_sub, pk_sub (by omega)]
theorem illM {w x : Nat} {g : Nat → Int32} (h : w ≤ 18) (hg : g (29 + x) = nI w) : mX10_illOf g x = nI (9 - w) := by
  unfold mX10_illOf
  rw [hg]
  split
  · rename_i c
    have := (nI_leI (by omega) (by omega)).mp c
    rw [show 9 - w = 0 by omega]
  · rename_i c
    have : ¬ 9 ≤ w := fun q => c ((nI_leI (by omega) (by omega)).mpr q)
    exact pk_sub (by omega)
theorem iter_congr {S : Type} {f g : Nat → S → S} : ∀ {n : Nat} {s : S}, (∀ k, k < n → ∀ t, f k t = g k t) → iter f n s = iter g n s := by
  intro n
  induction n with
  | zero => intro s _; rfl
  | succ n ih =>
    intro s h
    show f n (iter f n s) = g n (iter g n s)
    rw [ih (fun k hk t => h k (by omega) t), h n (by omega)]
theorem iter_rel {S T : Type} {f : Nat → S → S} {g : Nat → T → T} (R : Nat → S → T → Prop) : ∀ {n : Nat} {s : S} {t : T}, R 0 s t → (∀ k, k < n → ∀ s t, R k s t → R (k + 1) (f k s) (g k t)) → R n (iter f n s) (iter g n t) := by
  intro n
  induction n with
  | zero => intro s t h _; exact h
  | succ n ih =>
    intro s t h hs
    exact hs n (by omega) _ _ (ih h (fun k hk => hs k (by omega)))
theorem clamp_nI {n : Nat} (h : n < 2147483648) : (nI n).toNatClampNeg = n := nI_clamp h
section RowFacts
variable {D P Rm : Nat} {f g : Nat → Int32}
theorem okNow.ill (h : okNow D P Rm f g) {p : Nat} (hp : p < P) (hP : P ≤ 6) : ∃ i, i ≤ 9 ∧ mX7_ill f (nI p) = nI i ∧ mX10_illOf g p = nI i := by
  obtain ⟨w, hw, h1, h2⟩ := (h.2.2.2.2 p hp).2
  refine ⟨9 - w, by omega, ?_, illM hw h1⟩
  unfold mX7_ill
  rw [wishOf_n (by omega), h2, illC hw]
theorem okNow.sp (h : okNow D P Rm f g) {d : Nat} (hd : d < D) (hD : D ≤ 10) : ∃ t, t ≤ 9 ∧ mX7_spoons f (nI d) = nI t ∧ f d = nI t ∧ g (3 + d) = nI t := by
  obtain ⟨t, ht, h1, h2⟩ := (h.2.2.2.1 d hd).1
  exact ⟨t, ht, by rw [spoons_n (by omega)]; exact h2, h2, h1⟩
theorem okNow.pl (h : okNow D P Rm f g) {p : Nat} (hp : p < P) (hP : P ≤ 6) : ∃ a, a < Rm ∧ mX7_place f (nI p) = nI a ∧ f (20 + p) = nI a ∧ g (23 + p) = nI a := by
  obtain ⟨a, ha, h1, h2⟩ := (h.2.2.2.2 p hp).1
  exact ⟨a, ha, by rw [place_n (by omega)]; exact h2, h2, h1⟩
end RowFacts
