/-! pure: the whole text -/
theorem fill_at {v : Int32} {g : Nat → Int32} : ∀ n k, (iter (mJ7_fill_53178_l5 v) n g) k = if k < n then v else g k := by
  intro n
  induction n with
  | zero => intro k; rw [if_neg (by omega)]; rfl
  | succ n ih =>
    intro k
    show upd (iter (mJ7_fill_53178_l5 v) n g) n v k = _
    by_cases c : k = n
    · subst c; rw [pk_us, if_pos (by omega)]
    · rw [pk_un c, ih k]
      by_cases q : k < n
      · rw [if_pos q, if_pos (by omega)]
      · rw [if_neg q, if_neg (by omega)]
theorem clear_n {g : Nat → Int32} {n k : Nat} (h : k < n) : mX6_clear n g k = 0 := by
  unfold mX6_clear mJ7_fill_53178
  rw [fill_at, if_pos h]
theorem l47_keep {Li ro F at' : Int32} {tc : Nat → Int32} (hF : ¬ F = 0) : ∀ m k x y d p (a b c e f : Nat → Int32), mX5_readText_l47 Li tc ro m k at' F x y d p a b c e f = (at', F, x, y, d, p, a, b, c, e, f) := by
  intro m k x y d p a b c e f
  cases m with
  | zero => rfl
  | succ m =>
    unfold mX5_readText_l47
    rw [if_neg hF]
section Text
variable {T tc : Nat → Int32} {L : Nat}
theorem read_spec (hL : L ≤ 240) (ht : ∀ j, j < L → tc j = T j) (hT : ∀ j, j < L → ∃ t, t ≤ 255 ∧ T j = nI t) {fa fi np0 : Int32} {rf dA dB dS dO now rr rd rp : Nat → Int32}
    {R : Int32 × Int32 × Int32 × Int32 × Int32 × Int32 × Int32 × Int32 × Int32 × Int32 × (Nat → Int32) × (Nat → Int32) × (Nat → Int32) × (Nat → Int32) × (Nat → Int32) × (Nat → Int32)}
    {M : Int32 × Nat × Nat × Int32 × Int32 × Nat × Int32 × Int32 × Int32 × Int32 × Nat × Nat × Nat × (Nat → Int32) × (Nat → Int32) × (Nat → Int32)}
    (hR : mX5_readText (nI L) np0 tc dA dB dO dS rf now = R) (hM : mX10_isRead L fa fi rd rp rr T = M) :
    (∃ F at' : Int32, ¬ F = 0 ∧ R.1 = F ∧ R.2.1 = 0 ∧ R.2.2.1 = at' ∧ M.1 = nI 0 ∧ M.2.2.2.2.2.2.1 = at' ∧ M.2.2.2.2.2.2.2.1 = F) ∨
    (∃ (x np' st : Int32) (Rm Rn D P : Nat) (rf' dA' dB' dO' dS' now' rr' rd' rp' : Nat → Int32) (p tA : Nat) (tk nu : Int32) (fg : Nat), R = (0, 0, -1, 0, x, np', nI Rm, nI Rn, nI D, nI P, dA', dB', dO', dS', rf', now') ∧ M = (nI 1, p, tA, tk, nu, fg, fa, fi, nI Rm, st, Rn, D, P, rd', rp', rr') ∧
      Rm ≤ 8 ∧ (Rm = 0 → D = 0 ∧ P = 0 ∧ Rn = 0) ∧ RD Rm Rn D P st rf' dA' dB' dS' dO' now' rr' rd' rp') := by
  obtain ⟨b1, b2, b3⟩ := bl_spec (T := T) (Nat.zero_le L)
  have hsk : mX5_skipBlanks (nI L) 0 tc = nI (blN T L 0) := skip_n hL ht (Nat.zero_le L)
  unfold mX5_readText mX1_clear at hR
  dsimp only at hR
  generalize hJ : mX5_readText_j41 (nI L) np0 tc rf ((0 : Int32), (0 : Int32), (0 : Int32), (0 : Int32), mX7_clear now) = J at hR
  unfold mX5_readText_j41 at hJ
  dsimp only at hJ
  rw [hsk] at hJ
  unfold mX10_isRead mX10_isRead_l34 at hM
  dsimp only at hM
  have hclr : ∀ k, k < 35 → mX7_clear now k = 0 := fun k hk => clear_n hk
  by_cases c : blN T L 0 < L
  · rw [if_neg (nI_ge c (by omega))] at hJ
    rw [if_neg (tok_m2 hL hT (Nat.zero_le L) c)] at hM
    generalize hR1 : mX5_readRooms (nI L) (-1) 0 (nI (blN T L 0)) 0 tc rf (mX7_clear now) = R1 at hJ
    unfold mX10_isClause at hM
    rcases tok_is (w := 104) hL hT (Nat.zero_le L) (by omega) (by decide) with ⟨h1, h2, h3⟩ | ⟨h1, h2, h3⟩
    · rw [h3] at hM
      dsimp only at hM
      rw [if_pos rfl, if_pos (show nI 0 ≤ (0 : Int32) by decide)] at hM
      generalize hM1 : mX10_isHead L (blN T L 0 + 1) fa fi (nI 0) (nI 0) 0 rr T = M1 at hM
      rcases head_spec hL ht hT c h2 hR1 hM1 with ⟨F, at', hF, k1, k2, k3, k4, k5⟩ | ⟨m, Rm, st, Rn, np, rf', rr', tA, tk, nu, fg, e1, e2, k1, k2, k3, k4, k5, k6, k7⟩
      · left
        dsimp only at hM
        rw [if_pos (show M1.1 = (0 : Int32) from k3)] at hM
        rw [← hJ] at hR
        dsimp only at hR
        rw [k1, k2, l47_keep hF] at hR
        subst hR hM
        exact ⟨F, at', hF, rfl, rfl, rfl, rfl, k4, k5⟩
      · subst e1 e2
        dsimp only at hM hJ
        rw [if_neg nI1n] at hM
        subst hJ
        dsimp only at hR
        rw [skip_n hL ht k7] at hR
        have b4 := (bl_spec (T := T) k7).1
        have hRD : RD Rm Rn 0 0 (nI st) rf' dA dB dS dO (upd (mX7_clear now) 33 (nI st)) rr' rd rp := by
          refine ⟨⟨k4, by omega, by omega⟩, k5, fun d hd => absurd hd (by omega), fun d hd => absurd hd (by omega), fun d hd => absurd hd (by omega), ⟨st, k3, rfl, pk_us⟩, ?_, ?_, ?_⟩
          · rw [pk_un (by omega)]; exact hclr _ (by omega)
          · rw [pk_un (by omega)]; exact hclr _ (by omega)
          · intro d hd
            rw [pk_un (by omega)]; exact hclr _ (by omega)
        generalize hW : mX5_readText_l47 (nI L) tc (nI Rm) 240 0 (-1) 0 (nI (blN T L m)) np 0 0 dA dB dO dS (upd (mX7_clear now) 33 (nI st)) = W at hR
        rcases text_lp hL ht hT (fp := -1) (fa := fa) (fi := fi) (st := nI st) (Rm := Rm) (Rn := Rn) (rf := rf') (rr := rr') ⟨by omega, k2⟩ 240 L 0 m np 0 0 dA dB dS dO (upd (mX7_clear now) 33 (nI st)) rd rp k7 (by omega) (by omega) hRD W M hW hM with ⟨F, at', hF, g1, g2, g3, g4, g5⟩ | ⟨x, D', P', np', dA', dB', dO', dS', now', rd', rp', p, tA', tk', nu', fg', e1, e2, hRD'⟩
        · left
          subst hR
          exact ⟨F, at', hF, g2, rfl, g1, g3, g4, g5⟩
        · right
          subst e1 e2
          dsimp only at hR
          exact ⟨x, np', nI st, Rm, Rn, D', P', rf', dA', dB', dO', dS', now', rr', rd', rp', p, tA', tk', nu', fg', hR.symm, rfl, k2, fun q => by omega, hRD'⟩
    · left
      rw [if_neg h2, if_pos nI0e] at hM
      unfold mX10_fails at hM
      dsimp only at hM
      rw [if_pos nI0e, h3] at hM
      have hF : ¬ (1 : Int32) = 0 := by decide
      unfold mX5_readRooms at hR1
      rw [wd_no (w := 104) hL ht b2 (by rw [bl_bl (Nat.zero_le L)]; exact h1) (by decide), bl_bl (Nat.zero_le L)] at hR1
      dsimp only at hR1
      obtain ⟨v1, nx1, np1, e1⟩ := num_keep (tc := tc) (x := nI (blN T L 0)) (fp := nI (blN T L 0)) (lo := 2) (hi := 8) (Li := nI L) hF
      rw [e1] at hR1
      dsimp only at hR1
      obtain ⟨v2, nx2, np2, e2⟩ := num_keep (tc := tc) (x := nx1) (fp := nI (blN T L 0)) (lo := 0) (hi := 999) (Li := nI L) hF
      rw [e2] at hR1
      dsimp only at hR1
      obtain ⟨x', np', rn', rf', e3⟩ := l44_keep (tc := tc) (fp := nI (blN T L 0)) (Li := nI L) hF 12 0 (mX5_skipBlanks (nI L) nx2 tc) np2 0 rf
      rw [e3] at hR1
      dsimp only at hR1
      obtain ⟨nx6, e6⟩ := wd_keep (tc := tc) (x := x') (fp := nI (blN T L 0)) (w := 59) (Li := nI L) hF
      rw [e6] at hR1
      dsimp only at hR1
      subst hR1
      dsimp only at hJ
      subst hJ
      dsimp only at hR
      rw [l47_keep hF] at hR
      subst hR hM
      exact ⟨1, nI (blN T L 0), hF, rfl, rfl, rfl, rfl, rfl, rfl⟩
  · have hq : blN T L 0 = L := by omega
    right
    rw [if_pos (nI_le (by omega) (by omega))] at hJ
    subst hJ
    dsimp only at hR
    rw [hq, skip_n hL ht (Nat.le_refl L), bl_fix (T := T) (Nat.le_refl L) (fun z => absurd z (by omega))] at hR
    have hW : mX5_readText_l47 (nI L) tc 0 240 0 (-1) 0 (nI L) np0 0 0 dA dB dO dS (mX7_clear now) = (-1, 0, nI L, np0, 0, 0, dA, dB, dO, dS, mX7_clear now) := by
      show mX5_readText_l47 (nI L) tc 0 (239 + 1) 0 (-1) 0 (nI L) np0 0 0 dA dB dO dS (mX7_clear now) = _
      unfold mX5_readText_l47
      rw [if_pos rfl, if_pos (nI_le (Nat.le_refl _) (by omega))]
    rw [hW] at hR
    dsimp only at hR
    rw [tok_end hL hq] at hM
    dsimp only at hM
    rw [if_pos rfl] at hM
    refine ⟨nI L, np0, nI 0, 0, 0, 0, 0, rf, dA, dB, dO, dS, mX7_clear now, rr, rd, rp, L, L, _, _, _, hR.symm, hM.symm, by omega, fun _ => ⟨rfl, rfl, rfl⟩, ⟨by omega, by omega, by omega⟩, fun d hd => absurd hd (by omega), fun d hd => absurd hd (by omega), fun d hd => absurd hd (by omega), fun d hd => absurd hd (by omega), ⟨0, by omega, rfl, hclr _ (by omega)⟩, hclr _ (by omega), hclr _ (by omega), fun d hd => hclr _ (by omega)⟩
end Text
