/-! pure: letters, words and numbers of the text -/
theorem nI0e : nI 0 = (0 : Int32) := rfl
theorem nI1n : ¬ nI 1 = (0 : Int32) := by decide
/-- the place behind the blanks -/
def blN (T : Nat → Int32) (L n : Nat) : Nat := mX10_nextToken_l0 T (L - n) n
section Tok
variable {T tc : Nat → Int32} {L n : Nat}
theorem bl_lp : ∀ m n, n + m = L → n ≤ mX10_nextToken_l0 T m n ∧ mX10_nextToken_l0 T m n ≤ L ∧ (mX10_nextToken_l0 T m n < L → ¬ T (mX10_nextToken_l0 T m n) = nI 32) := by
  intro m
  induction m with
  | zero =>
    intro n h
    show n ≤ n ∧ n ≤ L ∧ (n < L → _)
    exact ⟨Nat.le_refl _, by omega, fun q => by omega⟩
  | succ m ih =>
    intro n h
    unfold mX10_nextToken_l0
    by_cases c : T n = nI 32
    · rw [if_pos c]
      have := ih (n + 1) (by omega)
      exact ⟨by omega, this.2.1, this.2.2⟩
    · rw [if_neg c]
      exact ⟨Nat.le_refl _, by omega, fun _ => c⟩
theorem bl_spec (h : n ≤ L) : n ≤ blN T L n ∧ blN T L n ≤ L ∧ (blN T L n < L → ¬ T (blN T L n) = nI 32) := bl_lp (L - n) n (by omega)
theorem bl_fix (h : n ≤ L) (h2 : n < L → ¬ T n = nI 32) : blN T L n = n := by
  unfold blN
  by_cases c : n = L
  · rw [c, Nat.sub_self]; rfl
  · obtain ⟨m, e⟩ : ∃ m, L - n = m + 1 := ⟨L - n - 1, by omega⟩
    rw [e]
    unfold mX10_nextToken_l0
    rw [if_neg (h2 (by omega))]
theorem bl_bl (h : n ≤ L) : blN T L (blN T L n) = blN T L n := bl_fix (bl_spec h).2.1 (bl_spec h).2.2
theorem msr_n {a b : Nat} (ha : a < 2147483648) (hb : b < 2147483648) : msr (nI a) (nI b) = b - a := by
  unfold msr
  rw [nI_toInt ha, nI_toInt hb]
  omega
theorem skip_lp (hL : L ≤ 240) (ht : ∀ j, j < L → tc j = T j) : ∀ m n, n + m = L → mX5_skipBlanks_l0 tc m (nI n) = nI (mX10_nextToken_l0 T m n) := by
  intro m
  induction m with
  | zero => intro n h; rfl
  | succ m ih =>
    intro n h
    unfold mX5_skipBlanks_l0 mX10_nextToken_l0
    rw [get_nat (by omega) (by omega), ht n (by omega), show (32 : Int32) = nI 32 from rfl, show (1 : Int32) = nI 1 from rfl, nI_add, ih (n + 1) (by omega)]
    by_cases c : T n = nI 32
    · rw [if_pos c, if_pos c]
    · rw [if_neg c, if_neg c]
theorem skip_n (hL : L ≤ 240) (ht : ∀ j, j < L → tc j = T j) (h : n ≤ L) : mX5_skipBlanks (nI L) (nI n) tc = nI (blN T L n) := by
  unfold mX5_skipBlanks blN
  rw [msr_n (by omega) (by omega)]
  exact skip_lp hL ht _ _ (by omega)
theorem letter_n (hL : L ≤ 240) (ht : ∀ j, j < L → tc j = T j) (h : n ≤ L) : mX5_letterAtNext (nI L) (nI n) tc = if n < L then T n else -1 := by
  unfold mX5_letterAtNext
  by_cases c : n < L
  · rw [if_neg (nI_ge c (by omega)), if_pos c, get_nat (by omega) (by omega), ht n c]
  · rw [if_pos (nI_le (by omega) (by omega)), if_neg c]
theorem num_lp (hL : L ≤ 240) (ht : ∀ j, j < L → tc j = T j) {x : Int32} {b : Nat} (hb : mX5_skipBlanks (nI L) x tc = nI b) : ∀ m n y, n + m = L → b ≤ n →
    mX5_readNumber_l14 (nI L) x tc m y (nI n) = ((mX10_nextToken_l95 T m n y (n - b)).2.1, nI (mX10_nextToken_l95 T m n y (n - b)).1) ∧ (mX10_nextToken_l95 T m n y (n - b)).2.2 = (mX10_nextToken_l95 T m n y (n - b)).1 - b ∧ n ≤ (mX10_nextToken_l95 T m n y (n - b)).1 ∧ (mX10_nextToken_l95 T m n y (n - b)).1 ≤ L := by
  intro m
  induction m with
  | zero => intro n y h h2; exact ⟨rfl, rfl, Nat.le_refl _, by show n ≤ L; omega⟩
  | succ m ih =>
    intro n y h h2
    unfold mX5_readNumber_l14 mX10_nextToken_l95
    rw [get_nat (by omega) (by omega), ht n (by omega), hb, pk_sub h2, show (1 : Int32) = nI 1 from rfl, nI_add, show mX5_isFigure (T n) = mX10_in (T n) (nI 48) (nI 57) from rfl, show (3 : Int32) = nI 3 from rfl, show n - b + 1 = n + 1 - b by omega, Int32.mul_comm y, show (10 : Int32) = nI 10 from rfl, show (48 : Int32) = nI 48 from rfl]
    by_cases c : mX10_in (T n) (nI 48) (nI 57) = 0
    · rw [if_pos c, if_pos c]
      exact ⟨rfl, rfl, Nat.le_refl _, by show n ≤ L; omega⟩
    · rw [if_neg c, if_neg c]
      by_cases c2 : nI 3 ≤ nI (n - b)
      · rw [if_pos c2, if_pos c2]
        have := ih (n + 1) y (by omega) (by omega)
        exact ⟨this.1, this.2.1, by omega, this.2.2.2⟩
      · rw [if_neg c2, if_neg c2]
        have := ih (n + 1) (nI 10 * y + T n - nI 48) (by omega) (by omega)
        exact ⟨this.1, this.2.1, by omega, this.2.2.2⟩
theorem tok_end (hL : L ≤ 240) (hq : blN T L n = L) : mX10_nextToken L n T = (L, L, (-2 : Int32), nI 0, 0) := by
  unfold blN at hq
  unfold mX10_nextToken
  rw [hq]
  dsimp only
  rw [if_pos rfl]
theorem tok_word (hL : L ≤ 240) {q : Nat} (hq : blN T L n = q) (h1 : q < L) (h2 : mX10_in (T q) (nI 48) (nI 57) = 0) : mX10_nextToken L n T = (q + 1, q, T q, nI 0, 0) := by
  unfold blN at hq
  unfold mX10_nextToken
  rw [hq]
  dsimp only
  rw [if_neg (fun w => absurd ((nI_eq (by omega) (by omega)).mp w) (by omega)), if_pos h2]
theorem tok_num (hL : L ≤ 240) {q : Nat} (hq : blN T L n = q) (h1 : q < L) (h2 : ¬ mX10_in (T q) (nI 48) (nI 57) = 0) : mX10_nextToken L n T = ((mX10_nextToken_l95 T (L - q) q (nI 0) 0).1, q, (-1 : Int32), (mX10_nextToken_l95 T (L - q) q (nI 0) 0).2.1, (mX10_nextToken_l95 T (L - q) q (nI 0) 0).2.2) := by
  unfold blN at hq
  unfold mX10_nextToken
  rw [hq]
  dsimp only
  rw [if_neg (fun w => absurd ((nI_eq (by omega) (by omega)).mp w) (by omega)), if_neg h2]
theorem num_keep {x fp fn lo hi Li : Int32} (h : ¬ fn = 0) : ∃ v nx np, mX5_readNumber Li fp fn x tc lo hi = (v, fp, fn, nx, np) := by
  unfold mX5_readNumber mX5_mark
  dsimp only
  rw [if_neg h]
  generalize mX5_readNumber_l14 Li x tc (msr (mX5_skipBlanks Li x tc) Li) 0 (mX5_skipBlanks Li x tc) = w
  repeat' split
  all_goals exact ⟨_, _, _, rfl⟩
theorem wd_keep {x fp fn w Li : Int32} (h : ¬ fn = 0) : ∃ nx, mX5_readWord Li fp fn x tc w = (fp, fn, nx) := by
  unfold mX5_readWord mX5_mark
  dsimp only
  rw [if_neg h]
  split
  · exact ⟨_, rfl⟩
  · exact ⟨_, rfl⟩
theorem lt_ne {q : Nat} (hT : ∀ j, j < L → ∃ t, t ≤ 255 ∧ T j = nI t) (h : q < L) : ¬ T q = (-1 : Int32) ∧ ¬ T q = (-2 : Int32) := by
  obtain ⟨t, h1, h2⟩ := hT q h
  rw [h2]
  refine ⟨nI_m1 (by omega), fun w => ?_⟩
  have := congrArg Int32.toInt w
  rw [nI_toInt (by omega)] at this
  have e : (-2 : Int32).toInt = -2 := rfl
  omega
theorem num_spec (hL : L ≤ 240) (ht : ∀ j, j < L → tc j = T j) (hT : ∀ j, j < L → ∃ t, t ≤ 255 ∧ T j = nI t) (hn : n ≤ L) (fp fa fi lo hi lo' hi' : Int32) (e1 : lo' = lo) (e2 : hi' = hi) :
    (∃ (F at' : Int32) (p q : Nat) (tk nu : Int32) (fg : Nat) (v nx np : Int32), ¬ F = 0 ∧ mX10_isNumber L n fa fi T lo hi = (nI 0, p, q, tk, nu, fg, at', F) ∧ mX5_readNumber (nI L) fp 0 (nI n) tc lo' hi' = (v, at', F, nx, np)) ∨
    (∃ (q m : Nat) (v : Int32) (fg : Nat), mX10_isNumber L n fa fi T lo hi = (nI 1, m, q, (-1 : Int32), v, fg, fa, fi) ∧ mX5_readNumber (nI L) fp 0 (nI n) tc lo' hi' = (v, fp, 0, nI m, nI q) ∧ n < m ∧ m ≤ L ∧ ¬ mX10_in v lo hi = 0) := by
  subst e1 e2
  obtain ⟨b1, b2, b3⟩ := bl_spec (T := T) hn
  have hsk := skip_n hL ht hn
  generalize hq : blN T L n = q at b1 b2 b3 hsk
  have hlp := num_lp hL ht hsk (L - q) q 0 (by omega) (Nat.le_refl _)
  rw [Nat.sub_self] at hlp
  have hR : mX5_readNumber (nI L) fp 0 (nI n) tc lo' hi' = (fun (w_14 : Int32 × Int32) => (if (w_14.2 - nI q) = 0 then (w_14.1, w_14.2, 1, w_14.2, nI q) else (if ((3 : Int32)) < (w_14.2 - nI q) then (w_14.1, nI q, 2, w_14.2, nI q) else (if ((mX9_within w_14.1 lo' hi')) = 0 then (w_14.1, nI q, 2, w_14.2, nI q) else (w_14.1, fp, 0, w_14.2, nI q))))) (mX5_readNumber_l14 (nI L) (nI n) tc (L - q) 0 (nI q)) := by
    unfold mX5_readNumber mX5_mark
    rw [hsk, msr_n (by omega) (by omega), if_pos rfl]
    rfl
  rw [hR, hlp.1]
  dsimp only
  by_cases c1 : q = L
  · left
    subst c1
    rw [Nat.sub_self]
    refine ⟨1, nI q, q, q, (-2 : Int32), nI 0, 0, 0, nI q, nI q, by decide, ?_, ?_⟩
    · unfold mX10_isNumber
      rw [tok_end hL hq]
      dsimp only
      rw [if_neg (by decide)]
      rfl
    · show (if nI q - nI q = 0 then _ else _) = _
      rw [if_pos (by rw [Int32.sub_self])]
      rfl
  · by_cases c2 : mX10_in (T q) (nI 48) (nI 57) = 0
    · left
      have e0 : mX10_nextToken_l95 T (L - q) q 0 0 = (q, 0, 0) := by
        obtain ⟨m, e⟩ : ∃ m, L - q = m + 1 := ⟨L - q - 1, by omega⟩
        rw [e]
        unfold mX10_nextToken_l95
        rw [if_pos c2]
      rw [e0]
      refine ⟨1, nI q, q + 1, q, T q, nI 0, 0, 0, nI q, nI q, by decide, ?_, ?_⟩
      · unfold mX10_isNumber
        rw [tok_word hL hq (by omega) c2]
        dsimp only
        rw [if_neg (lt_ne hT (by omega)).1]
        rfl
      · dsimp only
        rw [if_pos (by rw [Int32.sub_self])]
    · have e0 : q + 1 ≤ (mX10_nextToken_l95 T (L - q) q 0 0).1 := by
        obtain ⟨m, e⟩ : ∃ m, L - q = m + 1 := ⟨L - q - 1, by omega⟩
        have hs := num_lp hL ht hsk m (q + 1) (nI 10 * 0 + T q - nI 48) (by omega) (by omega)
        rw [e]
        unfold mX10_nextToken_l95
        rw [if_neg c2, if_neg (by decide)]
        rw [show q + 1 - q = 0 + 1 by omega] at hs
        exact hs.2.2.1
      have hM : mX10_isNumber L n fa fi T lo' hi' = (fun (r : Nat × Int32 × Nat) => (if (nI 4) ≤ (nI r.2.2) then (nI 0, r.1, q, (-1 : Int32), r.2.1, r.2.2, nI q, nI 2) else (if mX10_in r.2.1 lo' hi' = 0 then (nI 0, r.1, q, (-1 : Int32), r.2.1, r.2.2, nI q, nI 2) else (nI 1, r.1, q, (-1 : Int32), r.2.1, r.2.2, fa, fi)))) (mX10_nextToken_l95 T (L - q) q 0 0) := by
        unfold mX10_isNumber
        rw [tok_num hL hq (by omega) c2]
        dsimp only
        rw [if_pos rfl]
        rfl
      rw [hM]
      generalize mX10_nextToken_l95 T (L - q) q 0 0 = r at hlp e0
      obtain ⟨r1, r2, r3⟩ := r
      obtain ⟨-, l2, l3, l4⟩ := hlp
      have l2 : r3 = r1 - q := l2
      have l4 : r1 ≤ L := l4
      have e0 : q + 1 ≤ r1 := e0
      dsimp only
      rw [pk_sub (by omega), ← l2, if_neg (nI_ne0 (by omega) (by omega))]
      by_cases c3 : 4 ≤ r3
      · left
        rw [if_pos (nI_le c3 (by omega)), if_pos (show (3 : Int32) < nI r3 from nI_lt (a := 3) (by omega) (by omega))]
        exact ⟨2, nI q, r1, q, -1, r2, r3, r2, nI r1, nI q, by decide, rfl, rfl⟩
      · rw [if_neg (nI_ge (by omega) (by omega)), if_neg (show ¬ (3 : Int32) < nI r3 from nI_nlt (b := r3) (a := 3) (by omega) (by omega)), within_in]
        by_cases c4 : mX10_in r2 lo' hi' = 0
        · left
          rw [if_pos c4, if_pos c4]
          exact ⟨2, nI q, r1, q, -1, r2, r3, r2, nI r1, nI q, by decide, rfl, rfl⟩
        · right
          rw [if_neg c4, if_neg c4]
          exact ⟨q, r1, r2, r3, rfl, rfl, by omega, l4, c4⟩
theorem wd_at (hL : L ≤ 240) (ht : ∀ j, j < L → tc j = T j) (hn : n < L) {w : Int32} (hw : T n = w) (hb : ¬ w = nI 32) (fp fn : Int32) : mX5_readWord (nI L) fp fn (nI n) tc w = (fp, fn, nI (n + 1)) := by
  unfold mX5_readWord
  rw [skip_n hL ht (by omega), bl_fix (T := T) (by omega) (fun _ => by rw [hw]; exact hb), letter_n hL ht (by omega), if_pos hn, if_pos hw, show (1 : Int32) = nI 1 from rfl, nI_add]
theorem wd_no (hL : L ≤ 240) (ht : ∀ j, j < L → tc j = T j) (hn : n ≤ L) {w : Int32} (hw : ¬ (blN T L n < L ∧ T (blN T L n) = w)) (hw1 : ¬ w = -1) (fp : Int32) : mX5_readWord (nI L) fp 0 (nI n) tc w = (nI (blN T L n), 1, nI (blN T L n)) := by
  have h2 := (bl_spec (T := T) hn).2.1
  unfold mX5_readWord mX5_mark
  rw [skip_n hL ht hn, letter_n hL ht h2, if_pos rfl]
  by_cases c : blN T L n < L
  · rw [if_pos c, if_neg (fun q => hw ⟨c, q⟩)]
  · rw [if_neg c, if_neg (fun q => hw1 q.symm)]
/-- the token is the word w just where the letter behind the blanks is -/
theorem tok_is (hL : L ≤ 240) (hT : ∀ j, j < L → ∃ t, t ≤ 255 ∧ T j = nI t) (hn : n ≤ L) {w : Nat} (hw : w ≤ 255) (hd : mX10_in (nI w) (nI 48) (nI 57) = 0) :
    (blN T L n < L ∧ T (blN T L n) = nI w ∧ mX10_nextToken L n T = (blN T L n + 1, blN T L n, nI w, nI 0, 0)) ∨ (¬ (blN T L n < L ∧ T (blN T L n) = nI w) ∧ ¬ (mX10_nextToken L n T).2.2.1 = nI w ∧ (mX10_nextToken L n T).2.1 = blN T L n) := by
  have hw2 : ¬ nI w = (-2 : Int32) := fun z => by
    have := congrArg Int32.toInt z
    rw [nI_toInt (by omega)] at this
    have e : (-2 : Int32).toInt = -2 := rfl
    omega
  have h2 := (bl_spec (T := T) hn).2.1
  generalize hq : blN T L n = q at h2
  by_cases c1 : q = L
  · right
    subst c1
    rw [tok_end hL hq]
    exact ⟨fun z => absurd z.1 (by omega), fun z => hw2 z.symm, rfl⟩
  · by_cases c2 : mX10_in (T q) (nI 48) (nI 57) = 0
    · rw [tok_word hL hq (by omega) c2]
      by_cases c3 : T q = nI w
      · left
        rw [c3]
        exact ⟨by omega, rfl, rfl⟩
      · right
        exact ⟨fun z => c3 z.2, c3, rfl⟩
    · right
      rw [tok_num hL hq (by omega) c2]
      refine ⟨fun z => c2 (by rw [z.2]; exact hd), fun z => nI_m1 (by omega) z.symm, rfl⟩
theorem end_spec (hL : L ≤ 240) (ht : ∀ j, j < L → tc j = T j) (hT : ∀ j, j < L → ∃ t, t ≤ 255 ∧ T j = nI t) (hn : n ≤ L) (fp fa fi : Int32) :
    (∃ (F at' : Int32) (p q : Nat) (tk nu : Int32) (fg : Nat) (nx : Int32), ¬ F = 0 ∧ mX10_isEnd L n fa fi T = (nI 0, p, q, tk, nu, fg, at', F) ∧ mX5_readWord (nI L) fp 0 (nI n) tc 59 = (at', F, nx)) ∨
    (∃ (q m : Nat) (tk nu : Int32) (fg : Nat), mX10_isEnd L n fa fi T = (nI 1, m, q, tk, nu, fg, fa, fi) ∧ mX5_readWord (nI L) fp 0 (nI n) tc 59 = (fp, 0, nI m) ∧ n < m ∧ m ≤ L) := by
  obtain ⟨b1, b2, b3⟩ := bl_spec (T := T) hn
  rcases tok_is (w := 59) hL hT hn (by omega) (by decide) with ⟨h1, h2, h3⟩ | ⟨h1, h2, h3⟩
  · right
    refine ⟨blN T L n, blN T L n + 1, nI 59, nI 0, 0, ?_, ?_, by omega, by omega⟩
    · unfold mX10_isEnd
      rw [h3]
      dsimp only
      rw [if_pos rfl]
    · have := wd_at hL ht h1 h2 (by decide) fp 0
      have e : mX5_readWord (nI L) fp 0 (nI n) tc 59 = mX5_readWord (nI L) fp 0 (nI (blN T L n)) tc 59 := by
        unfold mX5_readWord
        rw [skip_n hL ht hn, skip_n hL ht b2, bl_bl hn]
      rw [e]
      exact this
  · left
    have hw := wd_no (w := 59) hL ht hn h1 (by decide) fp
    generalize hk : mX10_nextToken L n T = tok at h2 h3
    obtain ⟨t1, t2, t3, t4, t5⟩ := tok
    have h2 : ¬ t3 = nI 59 := h2
    have h3 : t2 = blN T L n := h3
    refine ⟨1, nI (blN T L n), t1, t2, t3, t4, t5, nI (blN T L n), by decide, ?_, hw⟩
    unfold mX10_isEnd mX10_fails
    rw [hk]
    dsimp only
    rw [if_neg h2, if_pos nI0e, h3]
    rfl
end Tok
