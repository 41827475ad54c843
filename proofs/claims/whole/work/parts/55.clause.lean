/-! pure: the clauses of the text -/
section Clause
variable {T tc : Nat → Int32} {L : Nat}
theorem clause_spec (hL : L ≤ 240) (ht : ∀ j, j < L → tc j = T j) (hT : ∀ j, j < L → ∃ t, t ≤ 255 ∧ T j = nI t) {pos : Nat} (hpos : pos ≤ L) (hq : blN T L pos < L) {fp fa fi np st : Int32} {Rm Rn D P : Nat} {rf dA dB dS dO now rr rd rp : Nat → Int32}
    (hRm : 0 < Rm ∧ Rm ≤ 8) (h : RD Rm Rn D P st rf dA dB dS dO now rr rd rp)
    {R : Int32 × Int32 × Int32 × Int32 × Int32 × Int32 × (Nat → Int32) × (Nat → Int32) × (Nat → Int32) × (Nat → Int32) × (Nat → Int32)}
    {M : Int32 × Nat × Nat × Int32 × Int32 × Nat × Int32 × Int32 × Int32 × Int32 × Nat × Nat × Nat × (Nat → Int32) × (Nat → Int32) × (Nat → Int32)}
    (hR : mX5_readClause (nI L) fp 0 (nI (blN T L pos)) np (nI Rm) (nI D) (nI P) tc dA dB dO dS now = R)
    (hM : mX10_isClause L (mX10_nextToken L pos T).1 (mX10_nextToken L pos T).2.1 (mX10_nextToken L pos T).2.2.1 (mX10_nextToken L pos T).2.2.2.1 (mX10_nextToken L pos T).2.2.2.2 fa fi (nI Rm) st Rn D P rd rp rr T = M) :
    (∃ F at' : Int32, ¬ F = 0 ∧ R.1 = at' ∧ R.2.1 = F ∧ M.1 = nI 0 ∧ M.2.2.2.2.2.2.1 = at' ∧ M.2.2.2.2.2.2.2.1 = F) ∨
    (∃ (m D' P' : Nat) (np' : Int32) (dA' dB' dO' dS' now' rd' rp' : Nat → Int32) (tA : Nat) (tk nu : Int32) (fg : Nat), R = (fp, 0, nI m, np', nI D', nI P', dA', dB', dO', dS', now') ∧ M = (nI 1, m, tA, tk, nu, fg, fa, fi, nI Rm, st, Rn, D', P', rd', rp', rr) ∧
      RD Rm Rn D' P' st rf dA' dB' dS' dO' now' rr rd' rp' ∧ blN T L pos < m ∧ m ≤ L) := by
  obtain ⟨b1, b2, b3⟩ := bl_spec (T := T) hpos
  have hlet := letter_n hL ht b2
  rw [if_pos hq] at hlet
  have hRm0 : ¬ nI Rm = (0 : Int32) := nI_ne0 (by omega) (by omega)
  have hRm1 : ¬ nI Rm ≤ (0 : Int32) := nI_nle (by omega) (by omega)
  obtain ⟨⟨hRn, hD, hP⟩, hrest⟩ := id h
  unfold mX5_readClause at hR
  rw [hlet] at hR
  unfold mX10_isClause at hM
  rcases tok_is (w := 104) hL hT hpos (by omega) (by decide) with ⟨h1, h2, h3⟩ | ⟨h1, h2, h3⟩
  · left
    rw [h3] at hM
    dsimp only at hM
    rw [if_pos rfl, if_neg hRm1] at hM
    rw [h2, if_neg (show ¬ nI 104 = (100 : Int32) by decide), if_neg (show ¬ nI 104 = (112 : Int32) by decide), if_pos (show nI 104 = (104 : Int32) from rfl)] at hR
    unfold mX5_mark at hR
    rw [if_pos rfl] at hR
    dsimp only at hR
    subst hR hM
    exact ⟨3, nI (blN T L pos), by decide, rfl, rfl, rfl, rfl, rfl⟩
  · rw [if_neg h2, if_neg hRm0] at hM
    have n104 : ¬ T (blN T L pos) = (104 : Int32) := fun z => h1 ⟨hq, z⟩
    rcases tok_is (w := 100) hL hT hpos (by omega) (by decide) with ⟨g1, g2, g3⟩ | ⟨g1, g2, g3⟩
    · rw [g3] at hM
      dsimp only at hM
      rw [if_pos rfl] at hM
      rw [g2, if_pos (show nI 100 = (100 : Int32) from rfl)] at hR
      by_cases c : D < 10
      · rw [if_neg (show ¬ (10 : Int32) ≤ nI D from nI_ge (b := 10) c (by omega))] at hR
        generalize hR2 : mX5_readDoor (nI L) fp 0 (nI (blN T L pos)) (nI Rm) (nI D) tc dA dB dO dS now = R2 at hR
        generalize hM2 : mX10_isDoorItem L (blN T L pos + 1) (blN T L pos) (nI 100) (nI 0) 0 fa fi (nI Rm) D rd T = M2 at hM
        rcases door_spec hL ht hT hq g2 hRm c hrest.2.1 hR2 hM2 with ⟨F, at', hF, k1, k2, k3, k4, k5⟩ | ⟨m, a, b, k, o, tA, tk, nu, fg, np', e1, e2, k1, k2, k3, k4, k5, k6, k7⟩
        · left
          subst hR hM
          exact ⟨F, at', hF, k1, k2, k3, k4, k5⟩
        · right
          subst e1 e2
          dsimp only at hR hM
          exact ⟨m, D + 1, P, np', _, _, _, _, _, _, _, tA, tk, nu, fg, hR.symm, hM.symm, h.addDoor c k3 k4 k5 k6 k7, k1, k2⟩
      · left
        have e10 : D = 10 := by omega
        rw [if_pos (show (10 : Int32) ≤ nI D from nI_le (a := 10) (by omega) (by omega)), if_neg (show ¬ nI 100 = (112 : Int32) by decide), if_neg (show ¬ nI 100 = (104 : Int32) by decide)] at hR
        unfold mX5_mark at hR
        rw [if_pos rfl] at hR
        dsimp only at hR
        rw [if_pos (show nI 100 = (100 : Int32) from rfl)] at hR
        unfold mX10_isDoorItem at hM
        rw [if_pos (congrArg nI e10)] at hM
        subst hR hM
        exact ⟨3, nI (blN T L pos), by decide, rfl, rfl, rfl, rfl, rfl⟩
    · rw [if_neg g2] at hM
      have n100 : ¬ T (blN T L pos) = (100 : Int32) := fun z => g1 ⟨hq, z⟩
      rw [if_neg n100] at hR
      rcases tok_is (w := 112) hL hT hpos (by omega) (by decide) with ⟨f1, f2, f3⟩ | ⟨f1, f2, f3⟩
      · rw [f3] at hM
        dsimp only at hM
        rw [if_pos rfl] at hM
        rw [f2, if_pos (show nI 112 = (112 : Int32) from rfl)] at hR
        by_cases c : P < 6
        · rw [if_neg (show ¬ (6 : Int32) ≤ nI P from nI_ge (b := 6) c (by omega))] at hR
          generalize hR2 : mX5_readPerson (nI L) fp 0 (nI (blN T L pos)) (nI Rm) (nI P) tc now = R2 at hR
          generalize hM2 : mX10_isPersonItem L (blN T L pos + 1) (blN T L pos) (nI 112) (nI 0) 0 fa fi (nI Rm) P rp T = M2 at hM
          rcases person_spec hL ht hT hq f2 hRm c hR2 hM2 with ⟨F, at', hF, k1, k2, k3, k4, k5⟩ | ⟨m, a, w, tA, tk, nu, fg, np', e1, e2, k1, k2, k3, k4⟩
          · left
            subst hR hM
            exact ⟨F, at', hF, k1, k2, k3, k4, k5⟩
          · right
            subst e1 e2
            dsimp only at hR hM
            exact ⟨m, D, P + 1, np', _, _, _, _, _, _, _, tA, tk, nu, fg, hR.symm, hM.symm, h.addPerson c k3 k4, k1, k2⟩
        · left
          have e6 : P = 6 := by omega
          rw [if_pos (show (6 : Int32) ≤ nI P from nI_le (a := 6) (by omega) (by omega)), if_neg (show ¬ nI 112 = (104 : Int32) by decide), if_neg (show ¬ nI 112 = (100 : Int32) by decide)] at hR
          unfold mX5_mark at hR
          rw [if_pos rfl] at hR
          dsimp only at hR
          rw [if_pos (show nI 112 = (112 : Int32) from rfl)] at hR
          unfold mX10_isPersonItem at hM
          rw [if_pos (congrArg nI e6)] at hM
          subst hR hM
          exact ⟨3, nI (blN T L pos), by decide, rfl, rfl, rfl, rfl, rfl⟩
      · left
        have n112 : ¬ T (blN T L pos) = (112 : Int32) := fun z => f1 ⟨hq, z⟩
        rw [if_neg f2] at hM
        rw [if_neg n112, if_neg n104, if_neg n100, if_neg n112] at hR
        unfold mX5_mark at hR
        rw [if_pos rfl] at hR
        unfold mX10_fails at hM
        dsimp only at hR hM
        rw [f3] at hM
        subst hR hM
        exact ⟨1, nI (blN T L pos), by decide, rfl, rfl, rfl, rfl, rfl⟩
theorem tok_m2 (hL : L ≤ 240) (hT : ∀ j, j < L → ∃ t, t ≤ 255 ∧ T j = nI t) {pos : Nat} (hpos : pos ≤ L) (hq : blN T L pos < L) : ¬ (mX10_nextToken L pos T).2.2.1 = (-2 : Int32) := by
  by_cases c : mX10_in (T (blN T L pos)) (nI 48) (nI 57) = 0
  · rw [tok_word hL rfl hq c]
    exact (lt_ne hT hq).2
  · rw [tok_num hL rfl hq c]
    show ¬ (-1 : Int32) = -2
    decide
theorem text_lp (hL : L ≤ 240) (ht : ∀ j, j < L → tc j = T j) (hT : ∀ j, j < L → ∃ t, t ≤ 255 ∧ T j = nI t) {fp fa fi st : Int32} {Rm Rn : Nat} {rf rr : Nat → Int32} (hRm : 0 < Rm ∧ Rm ≤ 8) :
    ∀ m1 m2 k pos np D P (dA dB dS dO now rd rp : Nat → Int32), pos ≤ L → L - blN T L pos ≤ m1 → L - blN T L pos < m2 → RD Rm Rn D P st rf dA dB dS dO now rr rd rp → ∀ R M,
    mX5_readText_l47 (nI L) tc (nI Rm) m1 k fp 0 (nI (blN T L pos)) np (nI D) (nI P) dA dB dO dS now = R →
    mX10_isRead_l34 L T m2 (mX10_nextToken L pos T).1 (mX10_nextToken L pos T).2.1 (mX10_nextToken L pos T).2.2.1 (mX10_nextToken L pos T).2.2.2.1 (mX10_nextToken L pos T).2.2.2.2 fa fi (nI Rm) st Rn D P rd rp rr = M →
    (∃ F at' : Int32, ¬ F = 0 ∧ R.1 = at' ∧ R.2.1 = F ∧ M.1 = nI 0 ∧ M.2.2.2.2.2.2.1 = at' ∧ M.2.2.2.2.2.2.2.1 = F) ∨
    (∃ (x : Int32) (D' P' : Nat) (np' : Int32) (dA' dB' dO' dS' now' rd' rp' : Nat → Int32) (p tA : Nat) (tk nu : Int32) (fg : Nat), R = (fp, 0, x, np', nI D', nI P', dA', dB', dO', dS', now') ∧ M = (nI 1, p, tA, tk, nu, fg, fa, fi, nI Rm, st, Rn, D', P', rd', rp', rr) ∧
      RD Rm Rn D' P' st rf dA' dB' dS' dO' now' rr rd' rp') := by
  intro m1
  induction m1 with
  | zero =>
    intro m2 k pos np D P dA dB dS dO now rd rp hpos hm1 hm2 h R M hR hM
    obtain ⟨b1, b2, b3⟩ := bl_spec (T := T) hpos
    have hq : blN T L pos = L := by omega
    obtain ⟨m, rfl⟩ : ∃ m, m2 = m + 1 := ⟨m2 - 1, by omega⟩
    unfold mX10_isRead_l34 at hM
    rw [tok_end hL hq] at hM
    dsimp only at hM
    rw [if_pos rfl] at hM
    right
    exact ⟨_, D, P, np, dA, dB, dO, dS, now, rd, rp, _, _, _, _, _, hR.symm, hM.symm, h⟩
  | succ m1 ih =>
    intro m2 k pos np D P dA dB dS dO now rd rp hpos hm1 hm2 h R M hR hM
    obtain ⟨b1, b2, b3⟩ := bl_spec (T := T) hpos
    obtain ⟨m, rfl⟩ : ∃ m, m2 = m + 1 := ⟨m2 - 1, by omega⟩
    unfold mX5_readText_l47 at hR
    unfold mX10_isRead_l34 at hM
    rw [if_pos rfl] at hR
    by_cases c : blN T L pos < L
    · rw [if_neg (nI_ge c (by omega))] at hR
      rw [if_neg (tok_m2 hL hT hpos c)] at hM
      generalize hR2 : mX5_readClause (nI L) fp 0 (nI (blN T L pos)) np (nI Rm) (nI D) (nI P) tc dA dB dO dS now = R2 at hR
      generalize hM2 : mX10_isClause L (mX10_nextToken L pos T).1 (mX10_nextToken L pos T).2.1 (mX10_nextToken L pos T).2.2.1 (mX10_nextToken L pos T).2.2.2.1 (mX10_nextToken L pos T).2.2.2.2 fa fi (nI Rm) st Rn D P rd rp rr T = M2 at hM
      rcases clause_spec hL ht hT hpos c hRm h hR2 hM2 with ⟨F, at', hF, k1, k2, k3, k4, k5⟩ | ⟨n, D', P', np', dA', dB', dO', dS', now', rd', rp', tA, tk, nu, fg, e1, e2, h', k1, k2⟩
      · left
        dsimp only at hM
        rw [if_pos (show M2.1 = (0 : Int32) from k3)] at hM
        dsimp only at hR
        rw [k1, k2] at hR
        have e : ∀ m k x y d p (a b c e f : Nat → Int32), mX5_readText_l47 (nI L) tc (nI Rm) m k at' F x y d p a b c e f = (at', F, x, y, d, p, a, b, c, e, f) := by
          intro m k x y d p a b c e f
          cases m with
          | zero => rfl
          | succ m =>
            unfold mX5_readText_l47
            rw [if_neg hF]
        rw [e] at hR
        subst hR hM
        exact ⟨F, at', hF, rfl, rfl, rfl, k4, k5⟩
      · subst e1 e2
        dsimp only at hR hM
        rw [skip_n hL ht k2] at hR
        rw [if_neg nI1n] at hM
        have b4 := (bl_spec (T := T) k2).1
        exact ih m (k + 1) n np' D' P' dA' dB' dS' dO' now' rd' rp' k2 (by omega) (by omega) h' R M hR hM
    · have hq : blN T L pos = L := by omega
      rw [if_pos (nI_le (by omega) (by omega))] at hR
      rw [tok_end hL hq] at hM
      dsimp only at hM
      rw [if_pos rfl] at hM
      right
      exact ⟨_, D, P, np, dA, dB, dO, dS, now, rd, rp, _, _, _, _, _, hR.symm, hM.symm, h⟩
end Clause
