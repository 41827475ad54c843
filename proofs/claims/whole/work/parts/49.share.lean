/-! pure: spoons shared among the lines -/
def smN (c : Nat → Nat) : Nat → Nat
  | 0 => 0
  | n + 1 => smN c n + c n
theorem smN_congr {c e : Nat → Nat} : ∀ n, (∀ k, k < n → c k = e k) → smN c n = smN e n
  | 0, _ => rfl
  | n + 1, h => by
    show smN c n + c n = smN e n + e n
    rw [smN_congr n (fun k hk => h k (by omega)), h n (by omega)]
theorem smN_le {c e : Nat → Nat} : ∀ n, (∀ k, k < n → c k ≤ e k) → smN c n ≤ smN e n
  | 0, _ => Nat.le_refl _
  | n + 1, h => by
    show smN c n + c n ≤ smN e n + e n
    have := smN_le n (fun k hk => h k (by omega))
    have := h n (by omega)
    omega
theorem smN_lt {c e : Nat → Nat} {j : Nat} (hj : c j < e j) : ∀ n, (∀ k, k < n → c k ≤ e k) → j < n → smN c n < smN e n
  | 0, _, q => absurd q (by omega)
  | n + 1, h, q => by
    show smN c n + c n < smN e n + e n
    have h1 := h n (by omega)
    by_cases z : j = n
    · subst z
      have := smN_le j (fun k hk => h k (by omega))
      omega
    · have := smN_lt hj n (fun k hk => h k (by omega)) (by omega)
      omega
theorem smN_add1 {c e : Nat → Nat} {j : Nat} (hj : e j = c j + 1) : ∀ n, (∀ k, k < n → k ≠ j → e k = c k) → j < n → smN e n = smN c n + 1
  | 0, _, q => absurd q (by omega)
  | n + 1, h, q => by
    show smN e n + e n = smN c n + c n + 1
    by_cases z : j = n
    · subst z
      rw [smN_congr j (fun k hk => h k (by omega) (by omega))]
      omega
    · have := smN_add1 hj n (fun k hk => h k (by omega)) (by omega)
      have := h n (by omega) (by omega)
      omega
theorem smN_bd {c : Nat → Nat} {B : Nat} : ∀ n, (∀ k, k < n → c k ≤ B) → smN c n ≤ B * n
  | 0, _ => Nat.zero_le _
  | n + 1, h => by
    show smN c n + c n ≤ B * (n + 1)
    have := smN_bd n (fun k hk => h k (by omega))
    have := h n (by omega)
    rw [Nat.mul_succ]
    omega
/-- what is laid behind r rounds and k doors more -/
def shL (c : Nat → Nat) (D r k : Nat) : Nat := smN (fun e => min (c e) (if e < k then r + 1 else r)) D
section Shr
variable {c : Nat → Nat} {D x r k left : Nat} {a : Nat → Nat}
theorem shL_up (hk : k < D) (h : r < c k) : shL c D r (k + 1) = shL c D r k + 1 := by
  unfold shL
  refine smN_add1 (j := k) ?_ D ?_ hk
  · show min (c k) (if k < k + 1 then r + 1 else r) = min (c k) (if k < k then r + 1 else r) + 1
    rw [if_pos (by omega), if_neg (by omega)]; omega
  · intro e _ hne
    show min (c e) (if e < k + 1 then r + 1 else r) = min (c e) (if e < k then r + 1 else r)
    by_cases q : e < k
    · rw [if_pos q, if_pos (by omega)]
    · rw [if_neg q, if_neg (by omega)]
theorem shL_same (h : c k ≤ r) : shL c D r (k + 1) = shL c D r k := by
  unfold shL
  refine smN_congr D ?_
  intro e _
  show min (c e) (if e < k + 1 then r + 1 else r) = min (c e) (if e < k then r + 1 else r)
  by_cases q : e < k
  · rw [if_pos q, if_pos (by omega)]
  · rw [if_neg q]
    by_cases z : e = k
    · subst z; rw [if_pos (by omega)]; omega
    · rw [if_neg (by omega)]
theorem shL_round : shL c D r D = shL c D (r + 1) 0 := by
  unfold shL
  refine smN_congr D ?_
  intro e he
  show min (c e) (if e < D then r + 1 else r) = min (c e) (if e < 0 then r + 1 + 1 else r + 1)
  rw [if_pos he, if_neg (by omega)]
theorem shL_top : shL c D r k ≤ smN c D := smN_le D (fun e _ => Nat.min_le_left _ _)
theorem shL_all (h : ∀ d, d < D → c d ≤ r) : shL c D r 0 = smN c D := by
  unfold shL
  refine smN_congr D (fun e he => ?_)
  show min (c e) (if e < 0 then r + 1 else r) = c e
  have := h e he
  rw [if_neg (by omega)]; omega
/-- a line that is not filled by round r is filled behind more than these r rounds -/
theorem shL_late {d : Nat} (hd : d < D) (h : r < c d) : shL c D r 0 < shL c D (c d - 1) (d + 1) := by
  unfold shL
  refine smN_lt (j := d) ?_ D ?_ hd
  · show min (c d) (if d < 0 then r + 1 else r) < min (c d) (if d < d + 1 then c d - 1 + 1 else c d - 1)
    rw [if_neg (by omega), if_pos (by omega)]; omega
  · intro e _
    show min (c e) (if e < 0 then r + 1 else r) ≤ min (c e) (if e < d + 1 then c d - 1 + 1 else c d - 1)
    rw [if_neg (by omega)]
    split <;> omega
/-- how it stands behind r rounds and k doors more: left are x less what is laid, a d is what line d has got -/
def shI (c : Nat → Nat) (D x r k left : Nat) (a : Nat → Nat) : Prop :=
  left = x - shL c D r k ∧ ∀ d, d < D → a d ≤ c d ∧ (a d = c d ↔ (c d = 0 ∨ (c d ≤ (if d < k then r + 1 else r) ∧ shL c D (c d - 1) (d + 1) ≤ x))) ∧ (shL c D r k ≤ x → a d = min (c d) (if d < k then r + 1 else r))
theorem shI_lay (h : shI c D x r k left a) (hk : k < D) (hl : 0 < left) (ha : a k < c k) : shI c D x r (k + 1) (left - 1) (updN a k (a k + 1)) := by
  obtain ⟨h1, h2⟩ := h
  have hx : shL c D r k < x := by omega
  obtain ⟨k1, k2, k3⟩ := h2 k hk
  have k3 := k3 (by omega)
  rw [if_neg (by omega)] at k3
  have hr : r < c k := by omega
  have hu := shL_up hk hr
  refine ⟨by omega, fun d hd => ?_⟩
  obtain ⟨d1, d2, d3⟩ := h2 d hd
  by_cases z : d = k
  · subst z
    have e : updN a d (a d + 1) d = r + 1 := by unfold updN; rw [if_pos rfl]; omega
    rw [e, if_pos (by omega)]
    refine ⟨by omega, ⟨fun q => ?_, fun q => by omega⟩, fun _ => by omega⟩
    right
    refine ⟨by omega, ?_⟩
    rw [← q, show r + 1 - 1 = r by omega]
    omega
  · have e : updN a k (a k + 1) d = a d := by unfold updN; rw [if_neg z]
    have e2 : (if d < k + 1 then r + 1 else r) = (if d < k then r + 1 else r) := by
      by_cases q : d < k
      · rw [if_pos q, if_pos (by omega)]
      · rw [if_neg q, if_neg (by omega)]
    rw [e, e2]
    exact ⟨d1, d2, fun _ => d3 (by omega)⟩
theorem shI_pass (h : shI c D x r k left a) (hk : k < D) (ha : left = 0 ∨ ¬ a k < c k) : shI c D x r (k + 1) left a ∧ (0 < left → c k ≤ r) := by
  obtain ⟨h1, h2⟩ := h
  obtain ⟨k1, k2, k3⟩ := h2 k hk
  rw [if_neg (by omega)] at k2 k3
  have hcr : 0 < left → c k ≤ r := fun q => by
    have := k3 (by omega)
    rcases ha with z | z
    · omega
    · omega
  refine ⟨?_, hcr⟩
  have hL : shL c D r (k + 1) = shL c D r k ∨ (r < c k ∧ shL c D r (k + 1) = shL c D r k + 1) := by
    by_cases q : c k ≤ r
    · exact Or.inl (shL_same q)
    · exact Or.inr ⟨by omega, shL_up hk (by omega)⟩
  refine ⟨?_, fun d hd => ?_⟩
  · rcases hL with q | ⟨q1, q⟩
    · omega
    · by_cases z : 0 < left
      · have := hcr z; omega
      · omega
  · obtain ⟨d1, d2, d3⟩ := h2 d hd
    by_cases z : d = k
    · subst z
      rw [if_pos (by omega)]
      refine ⟨d1, ?_, fun q => ?_⟩
      · rw [k2]
        constructor
        · rintro (w | ⟨w1, w2⟩)
          · exact Or.inl w
          · exact Or.inr ⟨by omega, w2⟩
        · rintro (w | ⟨w1, w2⟩)
          · exact Or.inl w
          · by_cases v : c d ≤ r
            · exact Or.inr ⟨v, w2⟩
            · exfalso
              have v2 : c d - 1 = r := by omega
              rw [v2] at w2
              rcases hL with q | ⟨q1, q⟩
              · have := shL_up hd (show r < c d by omega); omega
              · by_cases u : 0 < left
                · have := hcr u; omega
                · omega
      · rcases hL with w | ⟨w1, w⟩
        · have e := k3 (by omega)
          by_cases u : c d ≤ r
          · omega
          · have := shL_up hd (show r < c d by omega); omega
        · by_cases u : 0 < left
          · have := hcr u; omega
          · omega
    · have e2 : (if d < k + 1 then r + 1 else r) = (if d < k then r + 1 else r) := by
        by_cases q : d < k
        · rw [if_pos q, if_pos (by omega)]
        · rw [if_neg q, if_neg (by omega)]
      rw [e2]
      refine ⟨d1, d2, fun q => d3 ?_⟩
      rcases hL with w | ⟨w1, w⟩ <;> omega
theorem shI_round (h : shI c D x r D left a) : shI c D x (r + 1) 0 left a := by
  obtain ⟨h1, h2⟩ := h
  rw [shL_round] at h1
  refine ⟨h1, fun d hd => ?_⟩
  have := h2 d hd
  rw [if_pos hd, shL_round] at this
  rw [if_neg (by omega)]
  exact this
theorem shI_start (hx : a = fun _ => 0) : shI c D x 0 0 x a := by
  have e : shL c D 0 0 = 0 := by
    have := smN_bd (c := fun e => min (c e) (if e < 0 then 0 + 1 else 0)) (B := 0) D (fun k _ => by
      show min (c k) (if k < 0 then 0 + 1 else 0) ≤ 0
      rw [if_neg (by omega)]; omega)
    unfold shL
    omega
  refine ⟨by omega, fun d hd => ?_⟩
  subst hx
  rw [if_neg (by omega)]
  show 0 ≤ c d ∧ (0 = c d ↔ (c d = 0 ∨ (c d ≤ 0 ∧ shL c D (c d - 1) (d + 1) ≤ x))) ∧ (shL c D 0 0 ≤ x → 0 = min (c d) 0)
  exact ⟨Nat.zero_le _, ⟨fun q => Or.inl (by omega), fun q => by omega⟩, fun _ => by omega⟩
/-- how it ends -/
theorem shI_end (h : shI c D x r 0 left a) (he : left = 0 ∨ ∀ d, d < D → c d ≤ r) : left = x - smN c D ∧ ∀ d, d < D → (a d = c d ↔ (c d = 0 ∨ shL c D (c d - 1) (d + 1) ≤ x)) := by
  obtain ⟨h1, h2⟩ := h
  refine ⟨?_, fun d hd => ?_⟩
  · rcases he with e | e
    · have := shL_top (c := c) (D := D) (r := r) (k := 0); omega
    · rw [h1, shL_all e]
  · obtain ⟨d1, d2, d3⟩ := h2 d hd
    rw [if_neg (by omega)] at d2
    rw [d2]
    constructor
    · rintro (w | ⟨w1, w2⟩)
      · exact Or.inl w
      · exact Or.inr w2
    · rintro (w | w)
      · exact Or.inl w
      · refine Or.inr ⟨?_, w⟩
        rcases he with e | e
        · refine Nat.le_of_not_lt (fun q => ?_)
          have := shL_late hd q
          omega
        · exact e d hd
end Shr
section ShM
variable {D x : Nat} {sp : Nat → Nat}
theorem share_rd (hD : D ≤ 10) (hsp : ∀ d, d < D → sp d ≤ 9) (hx : x ≤ 999) {r left : Nat} {a : Nat → Nat} {tr : Nat → Int32} (h : shI (fun d => 9 - sp d) D x r 0 left a) (ht : ∀ d, d < D → tr (3 + d) = nI (sp d + a d)) : ∀ n, n ≤ D →
    ∃ left' a', (iter mX10_share_l54 n (nI left, nI 0, tr)).1 = nI left' ∧ left' ≤ left ∧ shI (fun d => 9 - sp d) D x r n left' a' ∧ (∀ d, d < D → (iter mX10_share_l54 n (nI left, nI 0, tr)).2.2 (3 + d) = nI (sp d + a' d)) ∧
      (((iter mX10_share_l54 n (nI left, nI 0, tr)).2.1 = nI 0 ∧ (left' = 0 ∨ ∀ d, d < n → 9 - sp d ≤ r)) ∨ ((iter mX10_share_l54 n (nI left, nI 0, tr)).2.1 = nI 1 ∧ left' < left)) := by
  intro n
  induction n with
  | zero => intro _; exact ⟨left, a, rfl, Nat.le_refl _, h, ht, Or.inl ⟨rfl, Or.inr (fun d q => absurd q (by omega))⟩⟩
  | succ n ih =>
    intro hn
    obtain ⟨l1, a1, g1, g2, g3, g4, g5⟩ := ih (by omega)
    have hl : left ≤ 999 := by have := h.1; omega
    show ∃ left' a', (mX10_share_l54 n (iter mX10_share_l54 n (nI left, nI 0, tr))).1 = nI left' ∧ left' ≤ left ∧ shI (fun d => 9 - sp d) D x r (n + 1) left' a' ∧ (∀ d, d < D → (mX10_share_l54 n (iter mX10_share_l54 n (nI left, nI 0, tr))).2.2 (3 + d) = nI (sp d + a' d)) ∧
      (((mX10_share_l54 n (iter mX10_share_l54 n (nI left, nI 0, tr))).2.1 = nI 0 ∧ (left' = 0 ∨ ∀ d, d < n + 1 → 9 - sp d ≤ r)) ∨ ((mX10_share_l54 n (iter mX10_share_l54 n (nI left, nI 0, tr))).2.1 = nI 1 ∧ left' < left))
    generalize iter mX10_share_l54 n (nI left, nI 0, tr) = st at g1 g4 g5
    obtain ⟨s1, s2, s3⟩ := st
    have g1 : s1 = nI l1 := g1
    have g4 : ∀ d, d < D → s3 (3 + d) = nI (sp d + a1 d) := g4
    have g5 : (s2 = nI 0 ∧ (l1 = 0 ∨ ∀ d, d < n → 9 - sp d ≤ r)) ∨ (s2 = nI 1 ∧ l1 < left) := g5
    have hs := hsp n (by omega)
    have ha1 := (g3.2 n (by omega)).1
    have ha1 : a1 n ≤ 9 - sp n := ha1
    have hn4 := g4 n (by omega)
    by_cases c1 : l1 = 0
    · have hp := (shI_pass g3 (by omega) (Or.inl c1)).1
      have hst : mX10_share_l54 n (s1, s2, s3) = (s1, s2, s3) := by
        unfold mX10_share_l54
        rw [if_pos (show (s1, s2, s3).1 ≤ 0 by show s1 ≤ 0; rw [g1, c1]; decide)]
      rw [hst]
      refine ⟨l1, a1, g1, g2, hp, g4, ?_⟩
      rcases g5 with ⟨q1, q2⟩ | ⟨q1, q2⟩
      · exact Or.inl ⟨q1, Or.inl c1⟩
      · exact Or.inr ⟨q1, q2⟩
    · have hn0 : ¬ (s1, s2, s3).1 ≤ 0 := by show ¬ s1 ≤ 0; rw [g1]; exact nI_nle (by omega) (by omega)
      by_cases c2 : a1 n < 9 - sp n
      · have hp := shI_lay g3 (by omega) (by omega) c2
        have hst : mX10_share_l54 n (s1, s2, s3) = (s1 + (-1), nI 1, upd s3 (3 + n) (s3 (3 + n) + nI 1)) := by
          unfold mX10_share_l54
          rw [if_neg hn0, if_neg (show ¬ nI 9 ≤ (s1, s2, s3).2.2 (3 + n) by show ¬ nI 9 ≤ s3 (3 + n); rw [hn4]; exact nI_ge (by omega) (by omega))]
        rw [hst]
        refine ⟨l1 - 1, updN a1 n (a1 n + 1), ?_, by omega, hp, ?_, Or.inr ⟨rfl, by omega⟩⟩
        · obtain ⟨m, rfl⟩ : ∃ m, l1 = m + 1 := ⟨l1 - 1, by omega⟩
          show s1 + (-1) = _
          rw [g1]
          exact pk_m1 m
        · intro d hd
          show upd s3 (3 + n) (s3 (3 + n) + nI 1) (3 + d) = _
          by_cases z : d = n
          · subst z
            rw [pk_us, hn4, nI_add]
            unfold updN
            rw [if_pos rfl, Nat.add_assoc]
          · rw [pk_un (by omega), g4 d hd]
            unfold updN
            rw [if_neg z]
      · have hp := shI_pass g3 (by omega) (Or.inr c2)
        have hst : mX10_share_l54 n (s1, s2, s3) = (s1, s2, s3) := by
          unfold mX10_share_l54
          rw [if_neg hn0, if_pos (show nI 9 ≤ (s1, s2, s3).2.2 (3 + n) by show nI 9 ≤ s3 (3 + n); rw [hn4]; exact nI_le (by omega) (by omega))]
        rw [hst]
        refine ⟨l1, a1, g1, g2, hp.1, g4, ?_⟩
        rcases g5 with ⟨q1, q2⟩ | ⟨q1, q2⟩
        · refine Or.inl ⟨q1, Or.inr (fun d hd => ?_)⟩
          rcases q2 with q2 | q2
          · omega
          · by_cases z : d = n
            · subst z; exact hp.2 (Nat.pos_of_ne_zero c1)
            · exact q2 d (by omega)
        · exact Or.inr ⟨q1, q2⟩
theorem share_lp (hD : D ≤ 10) (hsp : ∀ d, d < D → sp d ≤ 9) (hx : x ≤ 999) : ∀ n r left (a : Nat → Nat) (tr : Nat → Int32), left + 1 ≤ n → shI (fun d => 9 - sp d) D x r 0 left a → (∀ d, d < D → tr (3 + d) = nI (sp d + a d)) →
    ∃ r' left' a', (mX10_share_l43 D n (nI left) (nI 1) tr).1 = nI left' ∧ shI (fun d => 9 - sp d) D x r' 0 left' a' ∧ (left' = 0 ∨ ∀ d, d < D → 9 - sp d ≤ r') ∧ (∀ d, d < D → (mX10_share_l43 D n (nI left) (nI 1) tr).2.2 (3 + d) = nI (sp d + a' d)) := by
  intro n
  induction n with
  | zero => intro r left a tr hn; omega
  | succ n ih =>
    intro r left a tr hn h ht
    obtain ⟨l1, a1, g1, g2, g3, g4, g5⟩ := share_rd hD hsp hx h ht D (Nat.le_refl _)
    have hstep : mX10_share_l43 D (n + 1) (nI left) (nI 1) tr = mX10_share_l43 D n (iter mX10_share_l54 D (nI left, nI 0, tr)).1 (iter mX10_share_l54 D (nI left, nI 0, tr)).2.1 (iter mX10_share_l54 D (nI left, nI 0, tr)).2.2 := by
      show (if nI 1 = 0 then _ else _) = _
      rw [if_neg (by decide)]
    rw [hstep]
    generalize iter mX10_share_l54 D (nI left, nI 0, tr) = st at g1 g4 g5
    obtain ⟨s1, s2, s3⟩ := st
    have g1 : s1 = nI l1 := g1
    have g4 : ∀ d, d < D → s3 (3 + d) = nI (sp d + a1 d) := g4
    have g5 : (s2 = nI 0 ∧ (l1 = 0 ∨ ∀ d, d < D → 9 - sp d ≤ r)) ∨ (s2 = nI 1 ∧ l1 < left) := g5
    dsimp only
    rw [g1]
    rcases g5 with ⟨q1, q2⟩ | ⟨q1, q2⟩
    · rw [q1]
      have e : mX10_share_l43 D n (nI l1) (nI 0) s3 = (nI l1, nI 0, s3) := by
        cases n with
        | zero => rfl
        | succ n =>
          show (if nI 0 = 0 then _ else _) = _
          rw [if_pos (by decide)]
      rw [e]
      refine ⟨r + 1, l1, a1, rfl, shI_round g3, ?_, g4⟩
      rcases q2 with q2 | q2
      · exact Or.inl q2
      · exact Or.inr (fun d hd => by have := q2 d hd; omega)
    · rw [q1]
      exact ih (r + 1) l1 a1 s3 (by omega) (shI_round g3) g4
end ShM
section ShC
variable {D P Rm : Nat} {f g : Nat → Int32}
theorem space_n (h : okNow D P Rm f g) (hD : D ≤ 10) {d : Nat} (hd : d < D) : mX8_space f (nI d) = nI (9 - (f d).toNatClampNeg) := by
  obtain ⟨t, ht, k1, k2, k3⟩ := h.sp hd hD
  unfold mX8_space
  rw [k1, k2, clamp_nI (by omega), show (9 : Int32) = nI 9 from rfl, pk_sub ht]
theorem until_n (h : okNow D P Rm f g) (hD : D ≤ 10) {d : Nat} (hd : d < D) (h0 : 0 < 9 - (f d).toNatClampNeg) : mX8_sharedUntilFull (nI D) f (nI d) = nI (shL (fun e => 9 - (f e).toNatClampNeg) D (9 - (f d).toNatClampNeg - 1) (d + 1)) := by
  unfold mX8_sharedUntilFull shL
  rw [clamp_nI (by omega)]
  have : ∀ n, n ≤ D → iter (mX8_sharedUntilFull_l4 f (nI d)) n 0 = nI (smN (fun e => min (9 - (f e).toNatClampNeg) (if e < d + 1 then 9 - (f d).toNatClampNeg - 1 + 1 else 9 - (f d).toNatClampNeg - 1)) n) := by
    intro n
    induction n with
    | zero => intro _; rfl
    | succ n ih =>
      intro hn
      show mX8_sharedUntilFull_l4 f (nI d) n (iter (mX8_sharedUntilFull_l4 f (nI d)) n 0) = nI (smN _ n + min (9 - (f n).toNatClampNeg) (if n < d + 1 then 9 - (f d).toNatClampNeg - 1 + 1 else 9 - (f d).toNatClampNeg - 1))
      rw [ih (by omega)]
      unfold mX8_sharedUntilFull_l4
      rw [space_n h hD hd, space_n h hD (show n < D by omega), show (1 : Int32) = nI 1 from rfl, pk_sub (by omega), min_n (by omega) (by omega), min_n (by omega) (by omega), nI_add, nI_add]
      by_cases c : d < n
      · rw [if_pos (nI_lt c (by omega)), if_neg (by omega)]
      · rw [if_neg (nI_nlt (by omega) (by omega)), if_pos (by omega), show 9 - (f d).toNatClampNeg - 1 + 1 = 9 - (f d).toNatClampNeg by omega]
  exact this D (Nat.le_refl _)
theorem left_n (h : okNow D P Rm f g) (hD : D ≤ 10) {x : Nat} (hx : x ≤ 999) : mX8_leftIfShared (nI D) f (nI x) = nI (x - smN (fun e => 9 - (f e).toNatClampNeg) D) := by
  unfold mX8_leftIfShared
  rw [clamp_nI (by omega)]
  have : ∀ n, n ≤ D → iter (mX8_leftIfShared_l4 f) n (nI x) = nI x - nI (smN (fun e => 9 - (f e).toNatClampNeg) n) := by
    intro n
    induction n with
    | zero =>
      intro _
      show nI x = nI x - nI 0
      rw [show nI 0 = (0 : Int32) from rfl, Int32.sub_zero]
    | succ n ih =>
      intro hn
      show mX8_leftIfShared_l4 f n (iter (mX8_leftIfShared_l4 f) n (nI x)) = nI x - nI (smN (fun e => 9 - (f e).toNatClampNeg) n + (9 - (f n).toNatClampNeg))
      rw [ih (by omega)]
      unfold mX8_leftIfShared_l4
      rw [space_n h hD (show n < D by omega), ← nI_add, Int32.sub_eq_add_neg, Int32.sub_eq_add_neg, Int32.sub_eq_add_neg, Int32.neg_add, Int32.sub_eq_add_neg, Int32.add_assoc]
  rw [this D (Nat.le_refl _)]
  have := smN_bd (c := fun e => 9 - (f e).toNatClampNeg) (B := 9) D (fun k _ => by show 9 - (f k).toNatClampNeg ≤ 9; omega)
  exact max0_sub (by omega) (by omega)
end ShC
theorem st_share {cI : Nat → Int32} {cR : Nat → Nat → Int32} {mN : Nat → Nat} {mI : Nat → Int32} {mR : Nat → Nat → Int32} (h : Rel cI cR mN mI mR) (x1 x2 : Int32) : (mX9_share (cI 2) (cR 5) x1 x2) = ((mX10_share (mN 8) (mR 6) (mR 7) x1 x2)).1 ∧ Rel cI cR mN mI (updF mR 7 (((mX10_share (mN 8) (mR 6) (mR 7) x1 x2)).2)) := by
  obtain ⟨⟨e0, e1, hRm, e2, hRn, e3, hD, e4, hP, hz⟩, hrain, hdoor⟩ := h.house
  have hrel : ∀ y, Rel cI cR mN mI (updF mR 7 y) := fun y => h
  refine ⟨?_, hrel _⟩
  have hw : mX9_within x1 0 999 = mX10_in x1 (nI 0) (nI 999) := rfl
  have hw2 : mX9_within x2 0 1 = mX10_in x2 (nI 0) (nI 1) := rfl
  unfold mX9_share mX10_share
  rw [e3, hw, hw2]
  rcases in_cases x1 (A := 0) (B := 999) (by omega) (by omega) with ⟨x, q1, q2, rfl, hj⟩ | hj
  · rcases in_cases x2 (A := 0) (B := 1) (by omega) (by omega) with ⟨y, y1, y2, rfl, hy⟩ | hy
    · rw [hj, hy, if_neg one_ne0, if_neg one_ne0, if_neg one_ne0, if_neg one_ne0, clamp_nI (by omega)]
      have hn := h.now
      have hsp : ∀ d, d < mN 8 → (cR 5 d).toNatClampNeg ≤ 9 := fun d hd => by
        obtain ⟨t, ht, k1, k2, k3⟩ := hn.sp hd hD
        rw [k2, clamp_nI (by omega)]; exact ht
      obtain ⟨r', l', a', g1, g2, g3, g4⟩ := share_lp (x := x) hD hsp q2 (x + 1) 0 x (fun _ => 0) (mX10_bring (mR 6) (mR 7) 0 0 35) (Nat.le_refl _) (shI_start rfl) (fun d hd => by
        obtain ⟨t, ht, k1, k2, k3⟩ := hn.sp hd hD
        rw [bring_n, if_pos (by omega), show 0 + (3 + d - 0) = 3 + d by omega, k3, k2, clamp_nI (by omega), Nat.add_zero])
      have hend := shI_end g2 g3
      dsimp only
      generalize mX10_share_l43 (mN 8) (x + 1) (nI x) (nI 1) (mX10_bring (mR 6) (mR 7) 0 0 35) = st at g1 g4
      by_cases c : nI y = 0
      · rw [if_pos c, if_pos c]
        show mX8_fullIfShared (nI (mN 8)) (cR 5) (nI x) = iter (mX10_share_l115 st.2.2) (mN 8) (nI 0)
        unfold mX8_fullIfShared
        rw [clamp_nI (by omega)]
        refine iter_congr (fun k hk z => ?_)
        have hk9 := hsp k hk
        have ha := (g2.2 k hk).1
        have ha : a' k ≤ 9 - (cR 5 k).toNatClampNeg := ha
        have hek := hend.2 k hk
        have hek : a' k = 9 - (cR 5 k).toNatClampNeg ↔ (9 - (cR 5 k).toNatClampNeg = 0 ∨ shL (fun d => 9 - (cR 5 d).toNatClampNeg) (mN 8) (9 - (cR 5 k).toNatClampNeg - 1) (k + 1) ≤ x) := hek
        unfold mX8_fullIfShared_l4 mX10_share_l115
        rw [space_n hn hD hk, g4 k hk]
        have e9 : (nI ((cR 5 k).toNatClampNeg + a' k) = nI 9) ↔ a' k = 9 - (cR 5 k).toNatClampNeg := by
          rw [nI_eq (by omega) (by omega)]; omega
        by_cases c1 : 9 - (cR 5 k).toNatClampNeg = 0
        · rw [if_pos ((nz_n (by omega)).mpr c1), if_pos (e9.mpr (hek.mpr (Or.inl c1)))]
          rfl
        · rw [if_neg (fun q => c1 ((nz_n (by omega)).mp q)), until_n hn hD hk (by omega)]
          have hb : shL (fun e => 9 - (cR 5 e).toNatClampNeg) (mN 8) (9 - (cR 5 k).toNatClampNeg - 1) (k + 1) ≤ 9 * mN 8 := smN_bd _ (fun e _ => by
            refine Nat.le_trans (Nat.min_le_left _ _) ?_
            show 9 - (cR 5 e).toNatClampNeg ≤ 9
            omega)
          by_cases c2 : shL (fun d => 9 - (cR 5 d).toNatClampNeg) (mN 8) (9 - (cR 5 k).toNatClampNeg - 1) (k + 1) ≤ x
          · rw [if_neg (nI_nlt c2 (by omega)), if_pos (e9.mpr (hek.mpr (Or.inr c2)))]
            rfl
          · rw [if_pos (nI_lt (by omega) (by omega)), if_neg (fun q => (hek.mp (e9.mp q)).elim c1 c2), show nI 0 = (0 : Int32) from rfl, Int32.add_zero]
      · rw [if_neg c, if_neg c]
        show mX8_leftIfShared (nI (mN 8)) (cR 5) (nI x) = st.1
        rw [left_n hn hD q2, g1, hend.1]
    · rw [hj, hy, if_neg one_ne0, if_neg one_ne0, if_pos rfl, if_pos rfl]
  · rw [hj, if_pos rfl, if_pos rfl]
