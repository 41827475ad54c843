/-! pure: how far rooms are -/
section Ball
variable {D Rm : Nat} {op : Nat → Bool} {ea eb : Nat → Nat}
def nbN (D : Nat) (op : Nat → Bool) (ea eb : Nat → Nat) (x r : Nat) : Prop := x = r ∨ ∃ d, d < D ∧ op d = true ∧ (x = ea d ∨ x = eb d) ∧ (r = ea d ∨ r = eb d)
theorem nbN_sym {x r : Nat} (h : nbN D op ea eb x r) : nbN D op ea eb r x := by
  rcases h with h | ⟨d, h1, h2, h3, h4⟩
  · exact Or.inl h.symm
  · exact Or.inr ⟨d, h1, h2, h4, h3⟩
theorem rc_bit (S r : Nat) : (rcN D op ea eb S).testBit r = true ↔ ∃ x, S.testBit x = true ∧ nbN D op ea eb x r := by
  have : ∀ n, n ≤ D → ((iter (fun k y => jw op ea eb k S y) n S).testBit r = true ↔ (S.testBit r = true ∨ ∃ d, d < n ∧ op d = true ∧ (S.testBit (ea d) = true ∨ S.testBit (eb d) = true) ∧ (r = ea d ∨ r = eb d))) := by
    intro n
    induction n with
    | zero => intro _; exact ⟨fun q => Or.inl q, fun q => q.elim id (fun ⟨d, a, _⟩ => absurd a (by omega))⟩
    | succ n ih =>
      intro hn
      have ih := ih (by omega)
      show (jw op ea eb n S (iter (fun k y => jw op ea eb k S y) n S)).testBit r = true ↔ _
      generalize iter (fun k y => jw op ea eb k S y) n S = y at ih
      unfold jw
      by_cases c : op n = true ∧ (S.testBit (ea n) = true ∨ S.testBit (eb n) = true)
      · rw [if_pos c, Nat.testBit_or, Bool.or_eq_true, ih, two_bit]
        constructor
        · rintro ((q | ⟨d, a, b⟩) | q)
          · exact Or.inl q
          · exact Or.inr ⟨d, by omega, b⟩
          · exact Or.inr ⟨n, by omega, c.1, c.2, q⟩
        · rintro (q | ⟨d, a, b1, b2, b3⟩)
          · exact Or.inl (Or.inl q)
          · by_cases z : d = n
            · subst z; exact Or.inr b3
            · exact Or.inl (Or.inr ⟨d, by omega, b1, b2, b3⟩)
      · rw [if_neg c, ih]
        constructor
        · rintro (q | ⟨d, a, b⟩)
          · exact Or.inl q
          · exact Or.inr ⟨d, by omega, b⟩
        · rintro (q | ⟨d, a, b1, b2, b3⟩)
          · exact Or.inl q
          · by_cases z : d = n
            · subst z; exact absurd ⟨b1, b2⟩ c
            · exact Or.inr ⟨d, by omega, b1, b2, b3⟩
  unfold rcN
  rw [this D (Nat.le_refl _)]
  constructor
  · rintro (q | ⟨d, a, b1, b2, b3⟩)
    · exact ⟨r, q, Or.inl rfl⟩
    · rcases b2 with q | q
      · exact ⟨_, q, Or.inr ⟨d, a, b1, Or.inl rfl, b3⟩⟩
      · exact ⟨_, q, Or.inr ⟨d, a, b1, Or.inr rfl, b3⟩⟩
  · rintro ⟨x, q, z⟩
    rcases z with z | ⟨d, a, b1, b2, b3⟩
    · exact Or.inl (z ▸ q)
    · refine Or.inr ⟨d, a, b1, ?_, b3⟩
      rcases b2 with e | e
      · exact Or.inl (e ▸ q)
      · exact Or.inr (e ▸ q)
/-- the rooms that are n doors or fewer from s -/
def ballN (D : Nat) (op : Nat → Bool) (ea eb : Nat → Nat) (n s : Nat) : Nat := iter (fun _ => rcN D op ea eb) n (2 ^ s)
theorem ball_0 (s r : Nat) : (ballN D op ea eb 0 s).testBit r = true ↔ s = r := by
  show (2 ^ s).testBit r = true ↔ _
  rw [Nat.testBit_two_pow, decide_eq_true_eq]
theorem ball_back (n s r : Nat) : (ballN D op ea eb (n + 1) s).testBit r = true ↔ ∃ x, (ballN D op ea eb n s).testBit x = true ∧ nbN D op ea eb x r := rc_bit _ r
theorem ball_front : ∀ n s r, (ballN D op ea eb (n + 1) s).testBit r = true ↔ ∃ x, nbN D op ea eb s x ∧ (ballN D op ea eb n x).testBit r = true := by
  intro n
  induction n with
  | zero =>
    intro s r
    rw [ball_back]
    constructor
    · rintro ⟨x, a, b⟩
      rw [ball_0] at a
      subst a
      exact ⟨r, b, (ball_0 _ _).mpr rfl⟩
    · rintro ⟨x, a, b⟩
      rw [ball_0] at b
      subst b
      exact ⟨s, (ball_0 _ _).mpr rfl, a⟩
  | succ n ih =>
    intro s r
    rw [ball_back]
    constructor
    · rintro ⟨x, a, b⟩
      obtain ⟨w, c, d⟩ := (ih s x).mp a
      exact ⟨w, c, (ball_back _ _ _).mpr ⟨x, d, b⟩⟩
    · rintro ⟨w, c, d⟩
      obtain ⟨x, a, b⟩ := (ball_back _ _ _).mp d
      exact ⟨x, (ih s x).mpr ⟨w, c, a⟩, b⟩
theorem ball_sym : ∀ n s r, (ballN D op ea eb n s).testBit r = true → (ballN D op ea eb n r).testBit s = true := by
  intro n
  induction n with
  | zero => intro s r h; rw [ball_0] at h ⊢; exact h.symm
  | succ n ih =>
    intro s r h
    obtain ⟨x, a, b⟩ := (ball_back _ _ _).mp h
    exact (ball_front _ _ _).mpr ⟨x, nbN_sym b, ih _ _ a⟩
theorem ball_mono (n s : Nat) : subN (ballN D op ea eb n s) (ballN D op ea eb (n + 1) s) := fun r h => (ball_back _ _ _).mpr ⟨r, h, Or.inl rfl⟩
theorem ball_le {n m s : Nat} (h : n ≤ m) : subN (ballN D op ea eb n s) (ballN D op ea eb m s) := by
  induction m with
  | zero => rw [show n = 0 by omega]; exact fun _ q => q
  | succ m ih =>
    by_cases z : n = m + 1
    · rw [z]; exact fun _ q => q
    · exact fun r q => ball_mono _ _ r (ih (by omega) r q)
/-- what is not near is out of reach -/
theorem ball_stop (hE : ∀ d, d < D → ea d < Rm ∧ eb d < Rm) {s n : Nat} (hs : s < Rm) : subN (ballN D op ea eb n s) (ballN D op ea eb (Rm - 1) s) := by
  have hc : closedN D op ea eb (ballN D op ea eb (Rm - 1) s) := clo_closed hE hs
  exact iterN_in good_rc hc (iterN_sub good_rc _ _) n
end Ball
