/-! pure: the rooms one comes to -/
def jw (op : Nat → Bool) (ea eb : Nat → Nat) (k T y : Nat) : Nat := if op k = true ∧ (T.testBit (ea k) = true ∨ T.testBit (eb k) = true) then y ||| (2 ^ ea k ||| 2 ^ eb k) else y
theorem two_bit (a b i : Nat) : (2 ^ a ||| 2 ^ b).testBit i = true ↔ (i = a ∨ i = b) := by
  rw [Nat.testBit_or, Nat.testBit_two_pow, Nat.testBit_two_pow]
  simp only [Bool.or_eq_true, decide_eq_true_eq]
  omega
theorem and_two (S a b : Nat) : S &&& (2 ^ a ||| 2 ^ b) = 0 ↔ ¬ (S.testBit a = true ∨ S.testBit b = true) := by
  constructor
  · intro h q
    rcases q with q | q
    · have : (S &&& (2 ^ a ||| 2 ^ b)).testBit a = true := by rw [Nat.testBit_and, q, (two_bit a b a).mpr (Or.inl rfl)]; rfl
      rw [h, Nat.zero_testBit] at this; exact absurd this (by decide)
    · have : (S &&& (2 ^ a ||| 2 ^ b)).testBit b = true := by rw [Nat.testBit_and, q, (two_bit a b b).mpr (Or.inr rfl)]; rfl
      rw [h, Nat.zero_testBit] at this; exact absurd this (by decide)
  · intro h
    refine Nat.eq_of_testBit_eq (fun i => ?_)
    rw [Nat.zero_testBit, Bool.eq_false_iff]
    intro q
    rw [Nat.testBit_and, Bool.and_eq_true] at q
    rcases (two_bit a b i).mp q.2 with e | e
    · exact h (Or.inl (e ▸ q.1))
    · exact h (Or.inr (e ▸ q.1))
section Join
variable {D : Nat} {op : Nat → Bool} {ea eb : Nat → Nat}
theorem jw_sub (k T y : Nat) : subN y (jw op ea eb k T y) := by
  intro i h
  unfold jw
  split
  · rw [Nat.testBit_or, h]; rfl
  · exact h
theorem jw_both {k T y : Nat} (hc : op k = true ∧ (T.testBit (ea k) = true ∨ T.testBit (eb k) = true)) : (jw op ea eb k T y).testBit (ea k) = true ∧ (jw op ea eb k T y).testBit (eb k) = true := by
  unfold jw
  rw [if_pos hc, Nat.testBit_or y, Nat.testBit_or y, (two_bit _ _ _).mpr (Or.inl rfl), (two_bit _ _ _).mpr (Or.inr rfl), Bool.or_true, Bool.or_true]
  exact ⟨rfl, rfl⟩
theorem good_jw (tk : Nat → Nat → Nat → Nat) (ht : ∀ S k y, tk S k y = y ∨ tk S k y = S) : goodN D op ea eb (fun S => iter (fun k y => jw op ea eb k (tk S k y) y) D S) := by
  intro S
  have h1 : ∀ n, subN S (iter (fun k y => jw op ea eb k (tk S k y) y) n S) := by
    intro n
    induction n with
    | zero => exact fun _ h => h
    | succ n ih => exact fun i h => jw_sub _ _ _ i (ih i h)
  have ht2 : ∀ n, subN S (tk S n (iter (fun k y => jw op ea eb k (tk S k y) y) n S)) := by
    intro n
    rcases ht S n (iter (fun k y => jw op ea eb k (tk S k y) y) n S) with e | e
    · rw [e]; exact h1 n
    · rw [e]; exact fun _ h => h
  refine ⟨h1 D, ?_, ?_⟩
  · have : ∀ n, ∀ d, d < n → op d = true → (S.testBit (ea d) = true ∨ S.testBit (eb d) = true) → (iter (fun k y => jw op ea eb k (tk S k y) y) n S).testBit (ea d) = true ∧ (iter (fun k y => jw op ea eb k (tk S k y) y) n S).testBit (eb d) = true := by
      intro n
      induction n with
      | zero => intro d hd; omega
      | succ n ih =>
        intro d hd ho hx
        by_cases q : d = n
        · subst q
          have hc : op d = true ∧ ((tk S d (iter (fun k y => jw op ea eb k (tk S k y) y) d S)).testBit (ea d) = true ∨ (tk S d (iter (fun k y => jw op ea eb k (tk S k y) y) d S)).testBit (eb d) = true) := ⟨ho, hx.imp (ht2 d _) (ht2 d _)⟩
          exact jw_both hc
        · have := ih d (by omega) ho hx
          exact ⟨jw_sub _ _ _ _ this.1, jw_sub _ _ _ _ this.2⟩
    exact this D
  · intro C hC hS
    have : ∀ n, n ≤ D → subN (iter (fun k y => jw op ea eb k (tk S k y) y) n S) C := by
      intro n
      induction n with
      | zero => intro _; exact hS
      | succ n ih =>
        intro hn i h
        have ih := ih (by omega)
        have hT : subN (tk S n (iter (fun k y => jw op ea eb k (tk S k y) y) n S)) C := by
          rcases ht S n (iter (fun k y => jw op ea eb k (tk S k y) y) n S) with e | e
          · rw [e]; exact ih
          · rw [e]; exact hS
        have h : (jw op ea eb n (tk S n (iter (fun k y => jw op ea eb k (tk S k y) y) n S)) (iter (fun k y => jw op ea eb k (tk S k y) y) n S)).testBit i = true := h
        generalize iter (fun k y => jw op ea eb k (tk S k y) y) n S = y at h ih hT
        generalize tk S n y = T at h hT
        unfold jw at h
        split at h
        · rename_i c
          have hb := hC n (by omega) c.1 (c.2.imp (hT _) (hT _))
          rw [Nat.testBit_or, Bool.or_eq_true] at h
          rcases h with h | h
          · exact ih i h
          · rcases (two_bit _ _ _).mp h with e | e
            · rw [e]; exact hb.1
            · rw [e]; exact hb.2
        · exact ih i h
    exact this D (Nat.le_refl _)
def rcN (D : Nat) (op : Nat → Bool) (ea eb : Nat → Nat) (S : Nat) : Nat := iter (fun k y => jw op ea eb k S y) D S
def rmN (D : Nat) (op : Nat → Bool) (ea eb : Nat → Nat) (S : Nat) : Nat := iter (fun k y => jw op ea eb k y y) D S
theorem good_rc : goodN D op ea eb (rcN D op ea eb) := good_jw (fun S _ _ => S) (fun _ _ _ => Or.inr rfl)
theorem good_rm : goodN D op ea eb (rmN D op ea eb) := good_jw (fun _ _ y => y) (fun _ _ _ => Or.inl rfl)
/-- the rooms of s's part -/
def cloN (D : Nat) (op : Nat → Bool) (ea eb : Nat → Nat) (Rm s : Nat) : Nat := iter (fun _ => rcN D op ea eb) (Rm - 1) (2 ^ s)
theorem jw_lt {k T y : Nat} (ha : ea k < 8) (hb : eb k < 8) (h : y < 256) : jw op ea eb k T y < 256 := by
  unfold jw
  have e1 : 2 ^ ea k < 2 ^ 8 := Nat.pow_lt_pow_right (by omega) ha
  have e2 : 2 ^ eb k < 2 ^ 8 := Nat.pow_lt_pow_right (by omega) hb
  split
  · exact Nat.or_lt_two_pow (n := 8) (by omega) (Nat.or_lt_two_pow e1 e2)
  · exact h
theorem sub256 (S : Nat) (h : ∀ k, S.testBit k = true → k < 8) : S < 256 := by
  refine Nat.lt_of_not_le (fun q => ?_)
  obtain ⟨i, hi, hb⟩ := Nat.exists_ge_and_testBit_of_ge_two_pow (n := 8) (by omega : 2 ^ 8 ≤ S)
  have := h i hb
  omega
variable {Rm : Nat} {dA dB dS dO dr now : Nat → Int32}
def eaN (dr : Nat → Int32) (d : Nat) : Nat := (dr (4 * d)).toNatClampNeg
def ebN (dr : Nat → Int32) (d : Nat) : Nat := (dr (4 * d + 1)).toNatClampNeg
theorem okDoor.ends {d : Nat} (h : okDoor Rm dA dB dS dO dr d) (hR : Rm ≤ 8) : eaN dr d < Rm ∧ ebN dr d < Rm ∧ eaN dr d ≠ ebN dr d ∧ dr (4 * d) = nI (eaN dr d) ∧ dr (4 * d + 1) = nI (ebN dr d) ∧ dA d = nI (eaN dr d) ∧ dB d = nI (ebN dr d) ∧ dS d = nI (2 ^ eaN dr d ||| 2 ^ ebN dr d) := by
  obtain ⟨a, b, o, ha, hb, hab, ho1, d1, d2, d3, d4, d5, d6, d7⟩ := h
  have e1 : eaN dr d = a := by unfold eaN; rw [d1, clamp_nI (by omega)]
  have e2 : ebN dr d = b := by unfold ebN; rw [d3, clamp_nI (by omega)]
  rw [e1, e2, d7, only_n a (by omega), only_n b (by omega), nI_or]
  exact ⟨ha, hb, hab, d1, d3, d2, d4, rfl⟩
theorem spread_n (hD : D ≤ 10) (hR : Rm ≤ 8) (hd : ∀ d, d < D → okDoor Rm dA dB dS dO dr d) {x2 : Int32} (ho : ∀ k, k < D → mX9_inSet x2 (nI k) = if op k then 1 else 0) {S : Nat} (hS : S < 256) :
    mX8_spread (nI D) dS (nI S) x2 = nI (rcN D op (eaN dr) (ebN dr) S) ∧ rcN D op (eaN dr) (ebN dr) S < 256 := by
  unfold mX8_spread rcN
  rw [clamp_nI (by omega)]
  refine iter_rel (fun _ s t => s = nI t ∧ t < 256) ⟨rfl, hS⟩ ?_
  intro k hk s t hst
  obtain ⟨e, ht⟩ := hst
  obtain ⟨a1, a2, a3, a4, a5, a6, a7, a8⟩ := (hd k hk).ends hR
  refine ⟨?_, jw_lt (by omega) (by omega) ht⟩
  have h2 : 2 ^ eaN dr k ||| 2 ^ ebN dr k < 256 := Nat.or_lt_two_pow (n := 8) (Nat.pow_lt_pow_right (by omega) (by omega)) (Nat.pow_lt_pow_right (by omega) (by omega))
  have h3 : S &&& (2 ^ eaN dr k ||| 2 ^ ebN dr k) < 256 := Nat.lt_of_le_of_lt Nat.and_le_left hS
  subst e
  unfold mX8_spread_l5 jw
  rw [ho k hk, get_nat (by omega) (by omega), a8, nI_and, nI_or]
  by_cases c : op k = true
  · rw [if_pos c, if_neg one_ne0]
    by_cases c2 : S &&& (2 ^ eaN dr k ||| 2 ^ ebN dr k) = 0
    · rw [if_pos ((nz_n (by omega)).mpr c2), if_neg (fun q => (and_two _ _ _).mp c2 q.2)]
    · rw [if_neg (fun q => c2 ((nz_n (by omega)).mp q)), if_pos ⟨c, Classical.byContradiction (fun q => c2 ((and_two _ _ _).mpr q))⟩]
  · rw [if_neg c, if_pos rfl, if_neg (fun q => c q.1)]
theorem reach_n (hD : D ≤ 10) (hR : Rm ≤ 8) (hd : ∀ d, d < D → okDoor Rm dA dB dS dO dr d) {x2 : Int32} (ho : ∀ k, k < D → mX9_inSet x2 (nI k) = if op k then 1 else 0) {s : Nat} (hs : s < Rm) :
    mX8_reach (nI Rm) (nI D) dS (nI s) x2 = nI (cloN D op (eaN dr) (ebN dr) Rm s) ∧ cloN D op (eaN dr) (ebN dr) Rm s < 256 := by
  unfold mX8_reach cloN
  rw [clamp_nI (by omega), onlyC (by omega)]
  refine iter_rel (fun _ s t => s = nI t ∧ t < 256) ⟨rfl, Nat.pow_lt_pow_right (n := 8) (by omega) (by omega)⟩ ?_
  intro k hk u t hst
  obtain ⟨e, ht⟩ := hst
  subst e
  exact spread_n hD hR hd ho ht
theorem comesBy_n (hD : D ≤ 10) (hR : Rm ≤ 8) (hd : ∀ d, d < D → okDoor Rm dA dB dS dO dr d) {x1 x3 x4 : Int32} (ho : ∀ k, k < D → (op k = true ↔ ¬ nI k = x3 ∧ mX10_has x4 (nI k) = 0 ∧ mX10_stopsBy (now (3 + k)) x1 = 0)) {s : Nat} (hs : s < Rm) :
    mX10_comesBy D dr now x1 (nI s) x3 x4 = nI (cloN D op (eaN dr) (ebN dr) Rm s) := by
  have hb : 2 ^ s < 256 := Nat.pow_lt_pow_right (n := 8) (by omega) (by omega)
  have h1 : mX10_comesBy D dr now x1 (nI s) x3 x4 = nI (iter (fun _ => rmN D op (eaN dr) (ebN dr)) 8 (2 ^ s)) := by
    unfold mX10_comesBy
    rw [show nI 1 <<< (nI s &&& 31) = nI (2 ^ s) from only_n s (by omega)]
    refine (iter_rel (fun _ s t => s = nI t ∧ t < 256) ⟨rfl, hb⟩ ?_).1
    intro _ _ u t hst
    obtain ⟨e, ht⟩ := hst
    subst e
    unfold mX10_comesBy_l8 rmN
    refine iter_rel (fun _ s t => s = nI t ∧ t < 256) ⟨rfl, ht⟩ ?_
    intro k hk u y hst
    obtain ⟨e, hy⟩ := hst
    subst e
    obtain ⟨a1, a2, a3, a4, a5, a6, a7, a8⟩ := (hd k hk).ends hR
    refine ⟨?_, jw_lt (by omega) (by omega) hy⟩
    have h3 : y &&& (2 ^ eaN dr k ||| 2 ^ ebN dr k) < 256 := Nat.lt_of_le_of_lt Nat.and_le_left hy
    unfold mX10_comesBy_l18 jw
    rw [a4, a5, show nI 1 <<< (nI (eaN dr k) &&& 31) = nI (2 ^ eaN dr k) from only_n _ (by omega), show nI 1 <<< (nI (ebN dr k) &&& 31) = nI (2 ^ ebN dr k) from only_n _ (by omega)]
    simp only [nI_or, nI_and, Nat.or_zero]
    by_cases c : op k = true
    · have hc := (ho k hk).mp c
      rw [if_neg hc.1, if_pos hc.2.1, if_pos hc.2.2]
      by_cases c2 : y &&& (2 ^ eaN dr k ||| 2 ^ ebN dr k) = 0
      · rw [if_pos ((nz_n (by omega)).mpr c2), if_neg (fun q => (and_two _ _ _).mp c2 q.2)]
      · rw [if_neg (fun q => c2 ((nz_n (by omega)).mp q)), if_pos ⟨c, Classical.byContradiction (fun q => c2 ((and_two _ _ _).mpr q))⟩]
    · have hneg : ¬ (op k = true ∧ (y.testBit (eaN dr k) = true ∨ y.testBit (ebN dr k) = true)) := fun q => c q.1
      have hc := fun q => c ((ho k hk).mpr q)
      by_cases q1 : nI k = x3
      · rw [if_pos q1, if_neg hneg]
      · by_cases q2 : mX10_has x4 (nI k) = 0
        · by_cases q3 : mX10_stopsBy (now (3 + k)) x1 = 0
          · exact absurd ⟨q1, q2, q3⟩ hc
          · rw [if_neg q1, if_pos q2, if_neg q3, if_neg hneg]
        · rw [if_neg q1, if_neg q2, if_neg hneg]
  rw [h1]
  unfold cloN
  congr 1
  refine iterN_uniq (Rm := Rm) good_rm good_rc ⟨s, hs, Nat.testBit_two_pow_self⟩ (fun d q => ?_) (by omega) (by omega)
  have := (hd d q).ends hR
  exact ⟨this.1, this.2.1⟩
end Join
