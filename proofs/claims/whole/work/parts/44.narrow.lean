/-! pure: the doors without which a part falls in two -/
def cntB (c : Nat → Bool) : Nat → Nat
  | 0 => 0
  | n + 1 => cntB c n + (if c n then 1 else 0)
theorem cntB_le (c : Nat → Bool) : ∀ n, cntB c n ≤ n
  | 0 => Nat.le_refl _
  | n + 1 => by have := cntB_le c n; unfold cntB; split <;> omega
theorem cntB_mono {c e : Nat → Bool} : ∀ n, (∀ k, k < n → c k = true → e k = true) → cntB c n ≤ cntB e n
  | 0, _ => Nat.le_refl _
  | n + 1, h => by
    have := cntB_mono n (fun k hk => h k (by omega))
    unfold cntB
    by_cases q : c n = true
    · rw [if_pos q, if_pos (h n (by omega) q)]; omega
    · rw [if_neg q]; split <;> omega
theorem cntB_lt {c e : Nat → Bool} {r : Nat} (h1 : ¬ c r = true) (h2 : e r = true) : ∀ n, (∀ k, k < n → c k = true → e k = true) → r < n → cntB c n < cntB e n
  | 0, _, q => absurd q (by omega)
  | n + 1, h, q => by
    have m := cntB_mono n (fun k hk => h k (by omega))
    unfold cntB
    by_cases z : r = n
    · subst z; rw [if_neg h1, if_pos h2]; omega
    · have := cntB_lt h1 h2 n (fun k hk => h k (by omega)) (by omega)
      by_cases q : c n = true
      · rw [if_pos q, if_pos (h n (by omega) q)]; omega
      · rw [if_neg q]; split <;> omega
theorem leastN {P : Nat → Prop} : ∀ n, P n → ∃ m, P m ∧ ∀ j, j < m → ¬ P j := by
  intro n
  induction n using Nat.strongRecOn with
  | ind n ih =>
    intro h
    by_cases q : ∃ j, j < n ∧ P j
    · obtain ⟨j, hj, hp⟩ := q
      exact ih j hj hp
    · exact ⟨n, h, fun j hj hp => q ⟨j, hj, hp⟩⟩
section Sym
variable {D Rm : Nat} {op : Nat → Bool} {ea eb : Nat → Nat}
theorem clo_lt (hR : Rm ≤ 8) (hE : ∀ d, d < D → ea d < Rm ∧ eb d < Rm) {s : Nat} (hs : s < Rm) : cloN D op ea eb Rm s < 256 := by
  unfold cloN
  have : ∀ n S, S < 256 → iter (fun _ => rcN D op ea eb) n S < 256 := by
    intro n S hS
    induction n with
    | zero => exact hS
    | succ n ih =>
      show rcN D op ea eb (iter (fun _ => rcN D op ea eb) n S) < 256
      generalize iter (fun _ => rcN D op ea eb) n S = T at ih
      unfold rcN
      have : ∀ m, m ≤ D → iter (fun k y => jw op ea eb k T y) m T < 256 := by
        intro m
        induction m with
        | zero => intro _; exact ih
        | succ m ihm =>
          intro hm
          have := hE m (by omega)
          exact jw_lt (by omega) (by omega) (ihm (by omega))
      exact this D (Nat.le_refl _)
  exact this _ _ (Nat.pow_lt_pow_right (n := 8) (by omega) (by omega))
theorem bit_lt8 {S i : Nat} (h : S < 256) (q : S.testBit i = true) : i < 8 := by
  refine Nat.lt_of_not_le (fun c => ?_)
  have : S < 2 ^ i := Nat.lt_of_lt_of_le h (Nat.pow_le_pow_right (n := 2) (by omega) c : 2 ^ 8 ≤ 2 ^ i)
  rw [Nat.testBit_lt_two_pow this] at q
  exact absurd q (by decide)
theorem clo_sym (hR : Rm ≤ 8) (hE : ∀ d, d < D → ea d < Rm ∧ eb d < Rm) {r s : Nat} (hr : r < Rm) (hs : s < Rm) (h : (cloN D op ea eb Rm s).testBit r = true) : (cloN D op ea eb Rm r).testBit s = true := by
  refine Classical.byContradiction (fun q => ?_)
  have cs := clo_closed (op := op) hE hs
  have cr := clo_closed (op := op) hE hr
  have hbit : ∀ i, i < 8 → ((setN (fun i => (cloN D op ea eb Rm s).testBit i && !(cloN D op ea eb Rm r).testBit i) 8).testBit i = true ↔ ((cloN D op ea eb Rm s).testBit i = true ∧ ¬ (cloN D op ea eb Rm r).testBit i = true)) := by
    intro i hi
    rw [setN_bit]
    simp [hi]
  have hT : closedN D op ea eb (setN (fun i => (cloN D op ea eb Rm s).testBit i && !(cloN D op ea eb Rm r).testBit i) 8) := by
    intro d hd ho hx
    have := hE d hd
    rw [hbit _ (by omega), hbit _ (by omega)] at *
    rcases hx with ⟨x1, x2⟩ | ⟨x1, x2⟩
    · have := cs d hd ho (Or.inl x1)
      exact ⟨⟨this.1, x2⟩, this.2, fun z => x2 (cr d hd ho (Or.inr z)).1⟩
    · have := cs d hd ho (Or.inr x1)
      exact ⟨⟨this.1, fun z => x2 (cr d hd ho (Or.inl z)).2⟩, this.2, x2⟩
  have h2 := clo_in (Rm := Rm) hT ((hbit s (by omega)).mpr ⟨clo_self s, q⟩) r h
  exact ((hbit r (by omega)).mp h2).2 (clo_self r)
/-- r is the least room of its part -/
def isMin (D : Nat) (op : Nat → Bool) (ea eb : Nat → Nat) (Rm r : Nat) : Bool := decide (∀ j, j < r → ¬ (cloN D op ea eb Rm j).testBit r = true)
end Sym
section Nar
variable {D P Rm : Nat} {f g dA dB dS dO dr : Nat → Int32}
theorem partsBy_n {op : Nat → Bool} (hD : D ≤ 10) (hR : Rm ≤ 8) (hd : ∀ d, d < D → okDoor Rm dA dB dS dO dr d) {x1 x3 : Int32} (ho : ∀ k, k < D → (op k = true ↔ ¬ nI k = x3 ∧ mX10_has (nI 0) (nI k) = 0 ∧ mX10_stopsBy (g (3 + k)) x1 = 0)) : mX10_partsBy (nI Rm) D dr g x1 x3 = nI (cntB (isMin D op (eaN dr) (ebN dr) Rm) Rm) := by
  unfold mX10_partsBy
  dsimp only
  rw [clamp_nI (by omega)]
  have hE : ∀ d, d < D → eaN dr d < Rm ∧ ebN dr d < Rm := fun d q => ⟨((hd d q).ends hR).1, ((hd d q).ends hR).2.1⟩
  have : ∀ n, n ≤ Rm → (iter (mX10_partsBy_l8 D dr g x1 x3) n (nI 0, nI 0)).1 = nI (cntB (isMin D op (eaN dr) (ebN dr) Rm) n) ∧ ∃ U, (iter (mX10_partsBy_l8 D dr g x1 x3) n (nI 0, nI 0)).2 = nI U ∧ U < 256 ∧ ∀ r, (U.testBit r = true ↔ ∃ j, j < n ∧ (cloN D op (eaN dr) (ebN dr) Rm j).testBit r = true) := by
    intro n
    induction n with
    | zero => intro _; exact ⟨rfl, 0, rfl, by omega, fun r => by rw [Nat.zero_testBit]; exact ⟨fun q => absurd q (by decide), fun ⟨j, q, _⟩ => absurd q (by omega)⟩⟩
    | succ n ih =>
      intro hn
      obtain ⟨h1, U, h2, h3, h4⟩ := ih (by omega)
      show (mX10_partsBy_l8 D dr g x1 x3 n (iter (mX10_partsBy_l8 D dr g x1 x3) n (nI 0, nI 0))).1 = nI (cntB (isMin D op (eaN dr) (ebN dr) Rm) n + if isMin D op (eaN dr) (ebN dr) Rm n then 1 else 0) ∧ ∃ U, (mX10_partsBy_l8 D dr g x1 x3 n (iter (mX10_partsBy_l8 D dr g x1 x3) n (nI 0, nI 0))).2 = nI U ∧ _
      generalize iter (mX10_partsBy_l8 D dr g x1 x3) n (nI 0, nI 0) = st at h1 h2
      have hm : isMin D op (eaN dr) (ebN dr) Rm n = true ↔ ¬ U.testBit n = true := by
        unfold isMin
        rw [decide_eq_true_eq, h4]
        exact ⟨fun q ⟨j, a, b⟩ => q j a b, fun q j a b => q ⟨j, a, b⟩⟩
      unfold mX10_partsBy_l8
      rw [comesBy_n hD hR hd ho (by omega), h1, h2, has_inSet, inSet_n (by omega) (by omega), nI_or]
      have hU : U ||| cloN D op (eaN dr) (ebN dr) Rm n < 256 := Nat.or_lt_two_pow (n := 8) h3 (clo_lt hR hE (by omega))
      have hb : ∀ r, ((U ||| cloN D op (eaN dr) (ebN dr) Rm n).testBit r = true ↔ ∃ j, j < n + 1 ∧ (cloN D op (eaN dr) (ebN dr) Rm j).testBit r = true) := by
        intro r
        rw [Nat.testBit_or, Bool.or_eq_true, h4]
        constructor
        · rintro (⟨j, a, b⟩ | b)
          · exact ⟨j, by omega, b⟩
          · exact ⟨n, by omega, b⟩
        · rintro ⟨j, a, b⟩
          by_cases z : j = n
          · subst z; exact Or.inr b
          · exact Or.inl ⟨j, by omega, b⟩
      by_cases c : U.testBit n = true
      · rw [if_pos c, if_neg one_ne0, if_neg (fun q => hm.mp q c)]
        exact ⟨by rw [nI_add], _, rfl, hU, hb⟩
      · rw [if_neg c, if_pos rfl, if_pos (hm.mpr c)]
        exact ⟨by rw [nI_add], _, rfl, hU, hb⟩
  exact (this Rm (Nat.le_refl _)).1
end Nar
