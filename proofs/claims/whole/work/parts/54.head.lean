/-! pure: the head of the text -/
section Head
variable {T tc : Nat → Int32} {L : Nat}
theorem l44_keep {fp fn Li : Int32} (h : ¬ fn = 0) : ∀ j k x np rn (rf : Nat → Int32), ∃ x' np' rn' rf', mX5_readRooms_l44 Li tc j k fp fn x np rn rf = (fp, fn, x', np', rn', rf') := by
  intro j
  induction j with
  | zero => intro k x np rn rf; exact ⟨x, np, rn, rf, rfl⟩
  | succ j ih =>
    intro k x np rn rf
    unfold mX5_readRooms_l44
    by_cases c : mX5_letterAtNext Li x tc = 44
    · rw [if_pos c]
      obtain ⟨v2, nx2, np2, e2⟩ := num_keep (tc := tc) (x := x + 1) (fp := fp) (lo := 0) (hi := 3) (Li := Li) h
      rw [e2]
      dsimp only
      exact ih _ _ _ _ _
    · rw [if_neg c]
      exact ⟨_, _, _, _, rfl⟩
theorem head_end (hL : L ≤ 240) (ht : ∀ j, j < L → tc j = T j) (hT : ∀ j, j < L → ∃ t, t ≤ 255 ∧ T j = nI t) {pos r j : Nat} (hpos : pos ≤ L) {fp fa fi : Int32} {u1 u3 : Int32 × Nat × Nat × Int32 × Int32 × Nat × Int32 × Int32} {rr : Nat → Int32}
    (h44 : ¬ (mX10_nextToken L pos T).2.2.1 = nI 44) {R : Int32 × Int32 × Int32} {M : Int32 × Nat × Nat × Int32 × Int32 × Nat × Int32 × Int32 × Int32 × Int32 × Nat × (Nat → Int32)}
    (hR : mX5_readWord (nI L) fp 0 (nI (blN T L pos)) tc 59 = R) (hM : mX10_isHead_l45 L T u1 u3 (j + 1) (mX10_nextToken L pos T).1 (mX10_nextToken L pos T).2.1 (mX10_nextToken L pos T).2.2.1 (mX10_nextToken L pos T).2.2.2.1 (mX10_nextToken L pos T).2.2.2.2 fa fi r rr = M) :
    (∃ F at' : Int32, ¬ F = 0 ∧ R.1 = at' ∧ R.2.1 = F ∧ M.1 = nI 0 ∧ M.2.2.2.2.2.2.1 = at' ∧ M.2.2.2.2.2.2.2.1 = F) ∨
    (R = (fp, 0, nI (blN T L pos + 1)) ∧ M = (nI 1, blN T L pos + 1, blN T L pos, nI 59, nI 0, 0, fa, fi, u1.2.2.2.2.1, u3.2.2.2.2.1, r, rr) ∧ blN T L pos < L) := by
  obtain ⟨b1, b2, b3⟩ := bl_spec (T := T) hpos
  unfold mX10_isHead_l45 at hM
  rw [if_neg h44] at hM
  rcases tok_is (w := 59) hL hT hpos (by omega) (by decide) with ⟨h1, h2, h3⟩ | ⟨h1, h2, h3⟩
  · right
    rw [h3] at hM
    dsimp only at hM
    rw [if_pos rfl] at hM
    rw [wd_at hL ht h1 (w := 59) h2 (by decide)] at hR
    exact ⟨hR.symm, hM.symm, h1⟩
  · left
    rw [if_neg h2] at hM
    unfold mX10_fails at hM
    dsimp only at hM
    rw [if_pos nI0e, h3] at hM
    rw [wd_no (w := 59) hL ht b2 (by rw [bl_bl hpos]; exact h1) (by decide), bl_bl hpos] at hR
    subst hR hM
    exact ⟨1, nI (blN T L pos), by decide, rfl, rfl, rfl, rfl, rfl⟩
theorem head_lp (hL : L ≤ 240) (ht : ∀ j, j < L → tc j = T j) (hT : ∀ j, j < L → ∃ t, t ≤ 255 ∧ T j = nI t) {fp fa fi : Int32} {u1 u3 : Int32 × Nat × Nat × Int32 × Int32 × Nat × Int32 × Int32} :
    ∀ j r k pos np (rf rr : Nat → Int32), r + j = 12 → pos ≤ L → (∀ i, i < r → rf i = rr i ∧ ∃ t, t ≤ 3 ∧ rr i = nI t) → ∀ W R M, mX5_readRooms_l44 (nI L) tc j k fp 0 (nI (blN T L pos)) np (nI r) rf = W → mX5_readWord (nI L) W.1 W.2.1 W.2.2.1 tc 59 = R →
    mX10_isHead_l45 L T u1 u3 (j + 1) (mX10_nextToken L pos T).1 (mX10_nextToken L pos T).2.1 (mX10_nextToken L pos T).2.2.1 (mX10_nextToken L pos T).2.2.2.1 (mX10_nextToken L pos T).2.2.2.2 fa fi r rr = M →
    (∃ F at' : Int32, ¬ F = 0 ∧ R.1 = at' ∧ R.2.1 = F ∧ M.1 = nI 0 ∧ M.2.2.2.2.2.2.1 = at' ∧ M.2.2.2.2.2.2.2.1 = F) ∨
    (∃ (m Rn : Nat) (x np' : Int32) (rf' rr' : Nat → Int32) (tA : Nat) (tk nu : Int32) (fg : Nat), W = (fp, 0, x, np', nI Rn, rf') ∧ R = (fp, 0, nI m) ∧ M = (nI 1, m, tA, tk, nu, fg, fa, fi, u1.2.2.2.2.1, u3.2.2.2.2.1, Rn, rr') ∧ Rn ≤ 12 ∧ (∀ i, i < Rn → rf' i = rr' i ∧ ∃ t, t ≤ 3 ∧ rr' i = nI t) ∧ pos < m ∧ m ≤ L) := by
  intro j
  induction j with
  | zero =>
    intro r k pos np rf rr hr hpos hm W R M hW hR hM
    obtain ⟨b1, b2, b3⟩ := bl_spec (T := T) hpos
    have hW : (fp, (0 : Int32), nI (blN T L pos), np, nI r, rf) = W := hW
    subst hW
    dsimp only at hR
    rcases tok_is (w := 44) hL hT hpos (by omega) (by decide) with ⟨h1, h2, h3⟩ | ⟨h1, h2, h3⟩
    · left
      unfold mX10_isHead_l45 at hM
      rw [h3] at hM
      dsimp only at hM
      rw [if_pos rfl, if_pos (congrArg nI (show r = 12 by omega))] at hM
      rw [wd_no (w := 59) hL ht b2 (by rw [bl_bl hpos, h2]; exact fun z => absurd z.2 (by decide)) (by decide), bl_bl hpos] at hR
      subst hR hM
      exact ⟨1, nI (blN T L pos), by decide, rfl, rfl, rfl, rfl, rfl⟩
    · rcases head_end hL ht hT hpos h2 hR hM with h | ⟨g1, g2, g3⟩
      · exact Or.inl h
      · right
        exact ⟨_, r, _, np, rf, rr, _, _, _, _, rfl, g1, g2, by omega, hm, by omega, by omega⟩
  | succ j ih =>
    intro r k pos np rf rr hr hpos hm W R M hW hR hM
    obtain ⟨b1, b2, b3⟩ := bl_spec (T := T) hpos
    unfold mX5_readRooms_l44 at hW
    rw [letter_n hL ht b2] at hW
    rcases tok_is (w := 44) hL hT hpos (by omega) (by decide) with ⟨h1, h2, h3⟩ | ⟨h1, h2, h3⟩
    · rw [if_pos h1, h2, if_pos (show nI 44 = (44 : Int32) from rfl), show nI (blN T L pos) + (1 : Int32) = nI (blN T L pos + 1) from nI_add _ 1] at hW
      unfold mX10_isHead_l45 at hM
      rw [h3] at hM
      dsimp only at hM
      rw [if_pos rfl, if_neg (fun q => absurd ((nI_eq (by omega) (by omega)).mp q) (by omega))] at hM
      rcases num_spec hL ht hT (show blN T L pos + 1 ≤ L by omega) fp fa fi (nI 0) (nI 3) 0 3 rfl rfl with ⟨F, at', p, q, tk, nu, fg, v, nx, np, hF, eM, eR⟩ | ⟨q, m, v, fg, eM, eR, hlt, hle, hin⟩
      · left
        rw [eM] at hM
        dsimp only at hM
        rw [if_pos nI0e] at hM
        rw [eR] at hW
        dsimp only at hW
        obtain ⟨x', np', rn', rf', e2⟩ := l44_keep (tc := tc) (fp := at') (Li := nI L) hF j (k + 1) (mX5_skipBlanks (nI L) nx tc) np (mX1_addRain (nI r) rf v).1 (mX1_addRain (nI r) rf v).2
        rw [e2] at hW
        subst hW
        dsimp only at hR
        obtain ⟨nx6, e6⟩ := wd_keep (tc := tc) (x := x') (fp := at') (w := 59) (Li := nI L) hF
        rw [e6] at hR
        subst hR hM
        exact ⟨F, at', hF, rfl, rfl, rfl, rfl, rfl⟩
      · have hv := in_nat1 (by omega) (by omega) hin
        obtain ⟨a, hva, haR⟩ : ∃ a, v = nI a ∧ a ≤ 3 := ⟨v.toNatClampNeg, hv.2, hv.1.2⟩
        clear hv hin
        subst hva
        rw [eM] at hM
        dsimp only at hM
        rw [if_neg nI1n] at hM
        rw [eR] at hW
        unfold mX1_addRain at hW
        dsimp only at hW
        rw [set_nat (by omega) (by omega), show nI r + (1 : Int32) = nI (r + 1) from nI_add _ 1, skip_n hL ht hle] at hW
        have hm' : ∀ i, i < r + 1 → upd rf r (nI a) i = upd rr r (nI a) i ∧ ∃ t, t ≤ 3 ∧ upd rr r (nI a) i = nI t := by
          intro i hi
          by_cases z : i = r
          · subst z
            rw [pk_us, pk_us]
            exact ⟨rfl, a, haR, rfl⟩
          · rw [pk_un z, pk_un z]
            exact hm i (by omega)
        rcases ih (r + 1) (k + 1) m (nI q) (upd rf r (nI a)) (upd rr r (nI a)) (by omega) hle hm' W R M hW hR hM with h | ⟨m', Rn, x, np', rf', rr', tA, tk, nu, fg', g1, g2, g3, g4, g5, g6, g7⟩
        · exact Or.inl h
        · exact Or.inr ⟨m', Rn, x, np', rf', rr', tA, tk, nu, fg', g1, g2, g3, g4, g5, by omega, g7⟩
    · have hne : ¬ (if blN T L pos < L then T (blN T L pos) else -1) = (44 : Int32) := by
        by_cases c : blN T L pos < L
        · rw [if_pos c]; exact fun z => h1 ⟨c, z⟩
        · rw [if_neg c]; decide
      rw [if_neg hne] at hW
      subst hW
      dsimp only at hR
      rcases head_end hL ht hT hpos h2 hR hM with h | ⟨g1, g2, g3⟩
      · exact Or.inl h
      · right
        exact ⟨_, r, _, np, rf, rr, _, _, _, _, rfl, g1, g2, by omega, hm, by omega, by omega⟩
theorem head_spec (hL : L ≤ 240) (ht : ∀ j, j < L → tc j = T j) (hT : ∀ j, j < L → ∃ t, t ≤ 255 ∧ T j = nI t) {n : Nat} (hn : n < L) (hw : T n = nI 104) {fp fa fi : Int32} {rf now rr : Nat → Int32}
    {R : Int32 × Int32 × Int32 × Int32 × Int32 × Int32 × (Nat → Int32) × (Nat → Int32)} {M : Int32 × Nat × Nat × Int32 × Int32 × Nat × Int32 × Int32 × Int32 × Int32 × Nat × (Nat → Int32)}
    (hR : mX5_readRooms (nI L) fp 0 (nI n) (nI 0) tc rf now = R) (hM : mX10_isHead L (n + 1) fa fi (nI 0) (nI 0) 0 rr T = M) :
    (∃ F at' : Int32, ¬ F = 0 ∧ R.1 = at' ∧ R.2.1 = F ∧ M.1 = nI 0 ∧ M.2.2.2.2.2.2.1 = at' ∧ M.2.2.2.2.2.2.2.1 = F) ∨
    (∃ (m Rm st Rn : Nat) (np : Int32) (rf' rr' : Nat → Int32) (tA : Nat) (tk nu : Int32) (fg : Nat), R = (fp, 0, nI m, np, nI Rm, nI Rn, rf', upd now 33 (nI st)) ∧ M = (nI 1, m, tA, tk, nu, fg, fa, fi, nI Rm, nI st, Rn, rr') ∧ 2 ≤ Rm ∧ Rm ≤ 8 ∧ st ≤ 999 ∧ Rn ≤ 12 ∧ (∀ i, i < Rn → rf' i = rr' i ∧ ∃ t, t ≤ 3 ∧ rr' i = nI t) ∧ n < m ∧ m ≤ L) := by
  unfold mX5_readRooms at hR
  rw [wd_at hL ht hn (w := 104) hw (by decide)] at hR
  dsimp only at hR
  unfold mX10_isHead at hM
  rcases num_spec hL ht hT (show n + 1 ≤ L by omega) fp fa fi (nI 2) (nI 8) 2 8 rfl rfl with ⟨F, at', p, q, tk, nu, fg, v, nx, np, hF, eM, eR⟩ | ⟨q, m, v, fg, eM, eR, hlt, hle, hin⟩
  · left
    rw [eM] at hM
    dsimp only at hM
    rw [if_pos nI0e] at hM
    rw [eR] at hR
    dsimp only at hR
    obtain ⟨v2, nx2, np2, e2⟩ := num_keep (tc := tc) (x := nx) (fp := at') (lo := 0) (hi := 999) (Li := nI L) hF
    rw [e2] at hR
    dsimp only at hR
    obtain ⟨x', np', rn', rf', e3⟩ := l44_keep (tc := tc) (fp := at') (Li := nI L) hF 12 0 (mX5_skipBlanks (nI L) nx2 tc) np2 (nI 0) rf
    rw [e3] at hR
    dsimp only at hR
    obtain ⟨nx6, e6⟩ := wd_keep (tc := tc) (x := x') (fp := at') (w := 59) (Li := nI L) hF
    rw [e6] at hR
    dsimp only at hR
    subst hR hM
    exact ⟨F, at', hF, rfl, rfl, rfl, rfl, rfl⟩
  · have hv := in_nat1 (by omega) (by omega) hin
    obtain ⟨a, hva, ha1, ha2⟩ : ∃ a, v = nI a ∧ 2 ≤ a ∧ a ≤ 8 := ⟨v.toNatClampNeg, hv.2, hv.1.1, hv.1.2⟩
    clear hv hin
    subst hva
    rw [eM] at hM
    dsimp only at hM
    rw [if_neg nI1n] at hM
    rw [eR] at hR
    dsimp only at hR
    rcases num_spec hL ht hT hle fp fa fi (nI 0) (nI 999) 0 999 rfl rfl with ⟨F, at', p, q2, tk, nu, fg2, v2, nx2, np2, hF, eM2, eR2⟩ | ⟨q2, m2, v2, fg2, eM2, eR2, hlt2, hle2, hin2⟩
    · left
      rw [eM2] at hM
      dsimp only at hM
      rw [if_pos nI0e] at hM
      rw [eR2] at hR
      dsimp only at hR
      obtain ⟨x', np', rn', rf', e3⟩ := l44_keep (tc := tc) (fp := at') (Li := nI L) hF 12 0 (mX5_skipBlanks (nI L) nx2 tc) np2 (nI 0) rf
      rw [e3] at hR
      dsimp only at hR
      obtain ⟨nx6, e6⟩ := wd_keep (tc := tc) (x := x') (fp := at') (w := 59) (Li := nI L) hF
      rw [e6] at hR
      dsimp only at hR
      subst hR hM
      exact ⟨F, at', hF, rfl, rfl, rfl, rfl, rfl⟩
    · have hv2 := in_nat1 (by omega) (by omega) hin2
      obtain ⟨b, hvb, hbR⟩ : ∃ b, v2 = nI b ∧ b ≤ 999 := ⟨v2.toNatClampNeg, hv2.2, hv2.1.2⟩
      clear hv2 hin2
      subst hvb
      rw [eM2] at hM
      dsimp only at hM
      rw [if_neg nI1n] at hM
      rw [eR2] at hR
      dsimp only at hR
      rw [skip_n hL ht hle2] at hR
      generalize hW : mX5_readRooms_l44 (nI L) tc 12 0 fp 0 (nI (blN T L m2)) (nI q2) (nI 0) rf = W at hR
      generalize hR4 : mX5_readWord (nI L) W.1 W.2.1 W.2.2.1 tc 59 = R4 at hR
      rcases head_lp hL ht hT 12 0 0 m2 (nI q2) rf rr (by omega) hle2 (fun i hi => absurd hi (by omega)) W R4 M hW hR4 hM with ⟨F, at', hF, g1, g2, g3, g4, g5⟩ | ⟨m', Rn, x, np', rf', rr', tA, tk, nu, fg', g1, g2, g3, g4, g5, g6, g7⟩
      · left
        subst hR
        exact ⟨F, at', hF, g1, g2, g3, g4, g5⟩
      · right
        subst g1 g2 g3
        dsimp only at hR
        rw [setStore_n] at hR
        exact ⟨m', a, b, Rn, np', rf', rr', tA, tk, nu, fg', hR.symm, rfl, ha1, ha2, hbR, g4, g5, by omega, g7⟩
end Head
