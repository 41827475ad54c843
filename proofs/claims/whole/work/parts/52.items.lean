/-! pure: doors and persons of the text -/
/-- the draft of the class, and what the model has read -/
def RD (Rm Rn D P : Nat) (st : Int32) (rf dA dB dS dO now rr rd rp : Nat → Int32) : Prop :=
  (Rn ≤ 12 ∧ D ≤ 10 ∧ P ≤ 6) ∧ (∀ j, j < Rn → rf j = rr j ∧ ∃ t, t ≤ 3 ∧ rr j = nI t) ∧ (∀ d, d < D → okDoor Rm dA dB dS dO rd d) ∧
  (∀ d, d < D → ∃ t, t ≤ 9 ∧ rd (4 * d + 2) = nI t ∧ now d = nI t) ∧
  (∀ p, p < P → (∃ a, a < Rm ∧ rp (2 * p) = nI a ∧ now (20 + p) = nI a) ∧ (∃ w, w ≤ 18 ∧ rp (2 * p + 1) = nI w ∧ now (26 + p) = nI w - nI 9)) ∧
  (∃ t, t ≤ 999 ∧ st = nI t ∧ now 33 = nI t) ∧ now 32 = 0 ∧ now 34 = 0 ∧ ∀ d, d < 10 → now (10 + d) = 0
section RDs
variable {Rm Rn D P : Nat} {st : Int32} {rf dA dB dS dO now rr rd rp : Nat → Int32}
theorem RD.addDoor (h : RD Rm Rn D P st rf dA dB dS dO now rr rd rp) (hD : D < 10) {a b k o : Nat} (ha : a < Rm) (hb : b < Rm) (hab : a ≠ b) (hk : k ≤ 9) (ho : o ≤ 1) :
    RD Rm Rn (D + 1) P st rf (upd dA D (nI a)) (upd dB D (nI b)) (upd dS D ((1 <<< (nI a &&& 31)) ||| (1 <<< (nI b &&& 31)))) (upd dO D (nI o)) (upd now D (nI k)) rr (upd (upd (upd (upd rd (4 * D) (nI a)) (4 * D + 1) (nI b)) (4 * D + 2) (nI k)) (4 * D + 3) (nI o)) rp := by
  obtain ⟨⟨h1, h2, h3⟩, h4, h5, h6, h7, h8, h9, h10, h11⟩ := h
  refine ⟨⟨h1, by omega, h3⟩, h4, fun d hd => ?_, fun d hd => ?_, fun p hp => ?_, ?_, ?_, ?_, ?_⟩
  · by_cases z : d = D
    · subst z
      exact ⟨a, b, o, ha, hb, hab, ho, by rw [pk_un (by omega), pk_un (by omega), pk_un (by omega), pk_us], pk_us, by rw [pk_un (by omega), pk_un (by omega), pk_us], pk_us, pk_us, pk_us, pk_us⟩
    · obtain ⟨a', b', o', q1, q2, q3, q4, q5, q6, q7, q8, q9, q10, q11⟩ := h5 d (by omega)
      refine ⟨a', b', o', q1, q2, q3, q4, ?_, ?_, ?_, ?_, ?_, ?_, ?_⟩
      · rw [pk_un (by omega), pk_un (by omega), pk_un (by omega), pk_un (by omega)]; exact q5
      · rw [pk_un (by omega)]; exact q6
      · rw [pk_un (by omega), pk_un (by omega), pk_un (by omega), pk_un (by omega)]; exact q7
      · rw [pk_un (by omega)]; exact q8
      · rw [pk_un (by omega), pk_un (by omega), pk_un (by omega), pk_un (by omega)]; exact q9
      · rw [pk_un (by omega)]; exact q10
      · rw [pk_un (by omega)]; exact q11
  · by_cases z : d = D
    · subst z
      exact ⟨k, hk, by rw [pk_un (by omega), pk_us], pk_us⟩
    · obtain ⟨t, q1, q2, q3⟩ := h6 d (by omega)
      exact ⟨t, q1, by rw [pk_un (by omega), pk_un (by omega), pk_un (by omega), pk_un (by omega)]; exact q2, by rw [pk_un (by omega)]; exact q3⟩
  · obtain ⟨⟨a', q1, q2, q3⟩, w, w1, w2, w3⟩ := h7 p hp
    exact ⟨⟨a', q1, q2, by rw [pk_un (by omega)]; exact q3⟩, w, w1, w2, by rw [pk_un (by omega)]; exact w3⟩
  · obtain ⟨t, q1, q2, q3⟩ := h8
    exact ⟨t, q1, q2, by rw [pk_un (by omega)]; exact q3⟩
  · rw [pk_un (by omega)]; exact h9
  · rw [pk_un (by omega)]; exact h10
  · intro d hd
    rw [pk_un (by omega)]; exact h11 d hd
theorem RD.addPerson (h : RD Rm Rn D P st rf dA dB dS dO now rr rd rp) (hP : P < 6) {a w : Nat} (ha : a < Rm) (hw : w ≤ 18) :
    RD Rm Rn D (P + 1) st rf dA dB dS dO (upd (upd now (20 + P) (nI a)) (26 + P) (nI w - nI 9)) rr rd (upd (upd rp (2 * P) (nI a)) (2 * P + 1) (nI w)) := by
  obtain ⟨⟨h1, h2, h3⟩, h4, h5, h6, h7, h8, h9, h10, h11⟩ := h
  refine ⟨⟨h1, h2, by omega⟩, h4, h5, fun d hd => ?_, fun p hp => ?_, ?_, ?_, ?_, ?_⟩
  · obtain ⟨t, q1, q2, q3⟩ := h6 d hd
    exact ⟨t, q1, q2, by rw [pk_un (by omega), pk_un (by omega)]; exact q3⟩
  · by_cases z : p = P
    · subst z
      exact ⟨⟨a, ha, by rw [pk_un (by omega), pk_us], by rw [pk_un (by omega), pk_us]⟩, w, hw, pk_us, pk_us⟩
    · obtain ⟨⟨a', q1, q2, q3⟩, w', w1, w2, w3⟩ := h7 p (by omega)
      exact ⟨⟨a', q1, by rw [pk_un (by omega), pk_un (by omega)]; exact q2, by rw [pk_un (by omega), pk_un (by omega)]; exact q3⟩, w', w1, by rw [pk_un (by omega), pk_un (by omega)]; exact w2, by rw [pk_un (by omega), pk_un (by omega)]; exact w3⟩
  · obtain ⟨t, q1, q2, q3⟩ := h8
    exact ⟨t, q1, q2, by rw [pk_un (by omega), pk_un (by omega)]; exact q3⟩
  · rw [pk_un (by omega), pk_un (by omega)]; exact h9
  · rw [pk_un (by omega), pk_un (by omega)]; exact h10
  · intro d hd
    rw [pk_un (by omega), pk_un (by omega)]; exact h11 d hd
end RDs
section Items
variable {T tc : Nat → Int32} {L n : Nat}
theorem person_spec (hL : L ≤ 240) (ht : ∀ j, j < L → tc j = T j) (hT : ∀ j, j < L → ∃ t, t ≤ 255 ∧ T j = nI t) (hn : n < L) (hw : T n = nI 112) {fp fa fi tk0 nu0 : Int32} {ta0 fg0 Rm P : Nat} (hRm : 0 < Rm ∧ Rm ≤ 8) (hP : P < 6) {now rp : Nat → Int32}
    {R : Int32 × Int32 × Int32 × Int32 × Int32 × (Nat → Int32)} {M : Int32 × Nat × Nat × Int32 × Int32 × Nat × Int32 × Int32 × Nat × (Nat → Int32)}
    (hR : mX5_readPerson (nI L) fp 0 (nI n) (nI Rm) (nI P) tc now = R) (hM : mX10_isPersonItem L (n + 1) ta0 tk0 nu0 fg0 fa fi (nI Rm) P rp T = M) :
    (∃ F at' : Int32, ¬ F = 0 ∧ R.1 = at' ∧ R.2.1 = F ∧ M.1 = nI 0 ∧ M.2.2.2.2.2.2.1 = at' ∧ M.2.2.2.2.2.2.2.1 = F) ∨
    (∃ (m a w tA : Nat) (tk nu : Int32) (fg : Nat) (np : Int32), R = (fp, 0, nI m, np, nI (P + 1), upd (upd now (20 + P) (nI a)) (26 + P) (nI w - nI 9)) ∧ M = (nI 1, m, tA, tk, nu, fg, fa, fi, P + 1, upd (upd rp (2 * P) (nI a)) (2 * P + 1) (nI w)) ∧ n < m ∧ m ≤ L ∧ a < Rm ∧ w ≤ 18) := by
  unfold mX5_readPerson at hR
  rw [wd_at hL ht hn (w := 112) hw (by decide)] at hR
  dsimp only at hR
  unfold mX10_isPersonItem at hM
  rw [if_neg (fun q => absurd ((nI_eq (by omega) (by omega)).mp q) (by omega))] at hM
  rcases num_spec hL ht hT (show n + 1 ≤ L by omega) fp fa fi (nI 0) (nI Rm - nI 1) 0 (nI Rm - 1) rfl rfl with ⟨F, at', p, q, tk, nu, fg, v, nx, np, hF, eM, eR⟩ | ⟨q, m, v, fg, eM, eR, hlt, hle, hin⟩
  · left
    rw [eM] at hM
    dsimp only at hM
    rw [if_pos nI0e] at hM
    rw [eR] at hR
    dsimp only at hR
    obtain ⟨v2, nx2, np2, e2⟩ := num_keep (tc := tc) (x := nx) (fp := at') (lo := 0) (hi := 18) (Li := nI L) hF
    rw [e2] at hR
    dsimp only at hR
    obtain ⟨nx3, e3⟩ := wd_keep (tc := tc) (x := nx2) (fp := at') (w := 59) (Li := nI L) hF
    rw [e3] at hR
    dsimp only at hR
    subst hR hM
    exact ⟨F, at', hF, rfl, rfl, rfl, rfl, rfl⟩
  · rw [pk_sub (by omega)] at hin
    have hv := in_nat1 (by omega) (by omega) hin
    obtain ⟨a, hva, haR⟩ : ∃ a, v = nI a ∧ a < Rm := ⟨v.toNatClampNeg, hv.2, by omega⟩
    clear hv hin
    subst hva
    rw [eM] at hM
    dsimp only at hM
    rw [if_neg nI1n] at hM
    rw [eR] at hR
    dsimp only at hR
    rcases num_spec hL ht hT hle fp fa fi (nI 0) (nI 18) 0 18 rfl rfl with ⟨F, at', p, q2, tk, nu, fg2, v2, nx, np, hF, eM2, eR2⟩ | ⟨q2, m2, v2, fg2, eM2, eR2, hlt2, hle2, hin2⟩
    · left
      rw [eM2] at hM
      dsimp only at hM
      rw [if_pos nI0e] at hM
      rw [eR2] at hR
      dsimp only at hR
      obtain ⟨nx3, e3⟩ := wd_keep (tc := tc) (x := nx) (fp := at') (w := 59) (Li := nI L) hF
      rw [e3] at hR
      dsimp only at hR
      subst hR hM
      exact ⟨F, at', hF, rfl, rfl, rfl, rfl, rfl⟩
    · have hv2 := in_nat1 (by omega) (by omega) hin2
      obtain ⟨b, hvb, hbR⟩ : ∃ b, v2 = nI b ∧ b ≤ 18 := ⟨v2.toNatClampNeg, hv2.2, hv2.1.2⟩
      clear hv2 hin2
      subst hvb
      rw [eM2] at hM
      dsimp only at hM
      rw [if_neg nI1n] at hM
      rw [eR2] at hR
      dsimp only at hR
      rcases end_spec hL ht hT hle2 fp fa fi with ⟨F, at', p, q3, tk, nu, fg3, nx, hF, eM3, eR3⟩ | ⟨q3, m3, tk3, nu3, fg3, eM3, eR3, hlt3, hle3⟩
      · left
        rw [eM3] at hM
        rw [eR3] at hR
        subst hR hM
        exact ⟨F, at', hF, rfl, rfl, rfl, rfl, rfl⟩
      · right
        rw [eM3] at hM
        rw [eR3] at hR
        dsimp only at hM hR
        unfold mX1_addPerson at hR
        rw [setPlace_n (by omega), setWish_n (by omega), show (1 : Int32) = nI 1 from rfl, nI_add, show (9 : Int32) = nI 9 from rfl] at hR
        exact ⟨m3, a, b, q3, tk3, nu3, fg3, nI q2, hR.symm, hM.symm, by omega, hle3, haR, hbR⟩
theorem ends_eq {a b c e : Nat} (h1 : a ≠ b) (h2 : c ≠ e) : (2 ^ a ||| 2 ^ b = 2 ^ c ||| 2 ^ e) ↔ ((a = c ∧ b = e) ∨ (a = e ∧ b = c)) := by
  constructor
  · intro h
    have q1 := (two_bit c e a).mp (by rw [← h]; exact (two_bit a b a).mpr (Or.inl rfl))
    have q2 := (two_bit c e b).mp (by rw [← h]; exact (two_bit a b b).mpr (Or.inr rfl))
    omega
  · rintro (⟨rfl, rfl⟩ | ⟨rfl, rfl⟩)
    · rfl
    · rw [Nat.or_comm]
theorem joined_lp {D a b : Nat} {dS : Nat → Int32} (hD : D ≤ 10) (ha : a < 8) (hb : b < 8) : ∀ m k, k + m = D → (¬ mX1_isJoined_l2 dS (nI a) (nI b) m k = 0 ↔ ∃ d, k ≤ d ∧ d < D ∧ dS d = nI (2 ^ a ||| 2 ^ b)) := by
  intro m
  induction m with
  | zero =>
    intro k hk
    exact ⟨fun q => absurd rfl q, fun ⟨d, q1, q2, _⟩ => by omega⟩
  | succ m ih =>
    intro k hk
    unfold mX1_isJoined_l2
    rw [get_nat (by omega) (by omega), onlyC (by omega), onlyC (by omega), nI_or]
    by_cases c : dS k = nI (2 ^ a ||| 2 ^ b)
    · rw [if_pos c]
      exact ⟨fun _ => ⟨k, Nat.le_refl _, by omega, c⟩, fun _ => one_ne0⟩
    · rw [if_neg c, ih (k + 1) (by omega)]
      constructor
      · rintro ⟨d, q1, q2, q3⟩
        exact ⟨d, by omega, q2, q3⟩
      · rintro ⟨d, q1, q2, q3⟩
        refine ⟨d, ?_, q2, q3⟩
        have : d ≠ k := fun z => c (z ▸ q3)
        omega
/-- a door between a and b was told -/
def toldN (rd : Nat → Int32) (a b k : Nat) : Prop := (rd (4 * k) = nI a ∧ rd (4 * k + 1) = nI b) ∨ (rd (4 * k) = nI b ∧ rd (4 * k + 1) = nI a)
theorem joined_n {Rm D a b : Nat} {dA dB dS dO rd : Nat → Int32} (hD : D ≤ 10) (hR : Rm ≤ 8) (hd : ∀ d, d < D → okDoor Rm dA dB dS dO rd d) (ha : a < Rm) (hb : b < Rm) (hab : a ≠ b) : ¬ mX1_isJoined (nI D) dS (nI a) (nI b) = 0 ↔ ∃ d, d < D ∧ toldN rd a b d := by
  unfold mX1_isJoined
  rw [clamp_nI (by omega), joined_lp hD (by omega) (by omega) D 0 (by omega)]
  have hk : ∀ d, d < D → (dS d = nI (2 ^ a ||| 2 ^ b) ↔ toldN rd a b d) := by
    intro d hdd
    obtain ⟨a1, a2, a3, a4, a5, a6, a7, a8⟩ := (hd d hdd).ends hR
    have l1 : 2 ^ eaN rd d ||| 2 ^ ebN rd d < 256 := Nat.or_lt_two_pow (n := 8) (Nat.pow_lt_pow_right (by omega) (by omega)) (Nat.pow_lt_pow_right (by omega) (by omega))
    have l2 : 2 ^ a ||| 2 ^ b < 256 := Nat.or_lt_two_pow (n := 8) (Nat.pow_lt_pow_right (by omega) (by omega)) (Nat.pow_lt_pow_right (by omega) (by omega))
    unfold toldN
    rw [a8, nI_eq (by omega) (by omega), ends_eq a3 hab, a4, a5, nI_eq (by omega) (by omega), nI_eq (by omega) (by omega), nI_eq (by omega) (by omega), nI_eq (by omega) (by omega)]
  constructor
  · rintro ⟨d, q1, q2, q3⟩
    exact ⟨d, q2, (hk d q2).mp q3⟩
  · rintro ⟨d, q2, q3⟩
    exact ⟨d, by omega, q2, (hk d q2).mpr q3⟩
theorem same_l {D a b k : Nat} {rd : Nat → Int32} {u2 u4 : Int32 × Nat × Nat × Int32 × Int32 × Nat × Int32 × Int32} (h2 : u2.2.2.2.2.1 = nI a) (h4 : u4.2.2.2.2.1 = nI b) (hk : k < D) (y : Int32) : (toldN rd a b k → mX10_isDoorItem_l101 D rd u2 u4 k y = 0) ∧ (¬ toldN rd a b k → (mX10_isDoorItem_l101 D rd u2 u4 k y = 0 ↔ y = 0)) := by
  have e0 : upd (upd rd (4 * D) (nI a)) (4 * D + 1) (nI b) (4 * k) = rd (4 * k) := by rw [pk_un (by omega), pk_un (by omega)]
  have e1 : upd (upd rd (4 * D) (nI a)) (4 * D + 1) (nI b) (4 * k + 1) = rd (4 * k + 1) := by rw [pk_un (by omega), pk_un (by omega)]
  have e2 : upd (upd rd (4 * D) (nI a)) (4 * D + 1) (nI b) (4 * D) = nI a := by rw [pk_un (by omega), pk_us]
  have e3 : upd (upd rd (4 * D) (nI a)) (4 * D + 1) (nI b) (4 * D + 1) = nI b := pk_us
  unfold mX10_isDoorItem_l101
  rw [h2, h4, e0, e1, e2, e3]
  unfold toldN
  generalize rd (4 * k) = x
  generalize rd (4 * k + 1) = z
  have hy : (if y = 0 then nI 0 else nI 0) = (0 : Int32) := by split <;> rfl
  have hy1 : (if y = 0 then nI 0 else nI 1) = (0 : Int32) ↔ y = 0 := by
    by_cases c : y = 0
    · rw [if_pos c]; exact ⟨fun _ => c, fun _ => rfl⟩
    · rw [if_neg c]; exact ⟨fun q => absurd q nI1n, fun q => absurd q c⟩
  by_cases c1 : x = nI a
  · by_cases c2 : z = nI b
    · refine ⟨fun _ => ?_, fun q => absurd (Or.inl ⟨c1, c2⟩) q⟩
      rw [if_pos c1, if_pos c2, hy]
      split
      · split <;> rfl
      · rfl
    · rw [if_pos c1, if_neg c2]
      by_cases c3 : x = nI b
      · by_cases c4 : z = nI a
        · refine ⟨fun _ => ?_, fun q => absurd (Or.inr ⟨c3, c4⟩) q⟩
          rw [if_pos c3, if_pos c4, hy]
        · refine ⟨fun q => ?_, fun _ => ?_⟩
          · rcases q with q | q
            · exact absurd q.2 c2
            · exact absurd q.2 c4
          · rw [if_pos c3, if_neg c4]; exact hy1
      · refine ⟨fun q => ?_, fun _ => ?_⟩
        · rcases q with q | q
          · exact absurd q.2 c2
          · exact absurd q.1 c3
        · rw [if_neg c3]; exact hy1
  · rw [if_neg c1]
    by_cases c3 : x = nI b
    · by_cases c4 : z = nI a
      · refine ⟨fun _ => ?_, fun q => absurd (Or.inr ⟨c3, c4⟩) q⟩
        rw [if_pos c3, if_pos c4, hy]
      · refine ⟨fun q => ?_, fun _ => ?_⟩
        · rcases q with q | q
          · exact absurd q.1 c1
          · exact absurd q.2 c4
        · rw [if_pos c3, if_neg c4]; exact hy1
    · refine ⟨fun q => ?_, fun _ => ?_⟩
      · rcases q with q | q
        · exact absurd q.1 c1
        · exact absurd q.1 c3
      · rw [if_neg c3]; exact hy1
theorem same_n {D a b : Nat} {rd : Nat → Int32} {u2 u4 : Int32 × Nat × Nat × Int32 × Int32 × Nat × Int32 × Int32} (h2 : u2.2.2.2.2.1 = nI a) (h4 : u4.2.2.2.2.1 = nI b) (ha : a < 8) (hb : b < 8) : iter (mX10_isDoorItem_l101 D rd u2 u4) D (mX10_isDoorItem_j99 D rd u2 u4) = 0 ↔ (a = b ∨ ∃ d, d < D ∧ toldN rd a b d) := by
  have hj : mX10_isDoorItem_j99 D rd u2 u4 = 0 ↔ a = b := by
    unfold mX10_isDoorItem_j99
    rw [h2, h4, show upd (upd rd (4 * D) (nI a)) (4 * D + 1) (nI b) (4 * D) = nI a by rw [pk_un (by omega), pk_us], pk_us]
    by_cases c : a = b
    · rw [if_pos (congrArg nI c)]; exact ⟨fun _ => c, fun _ => rfl⟩
    · rw [if_neg (fun q => c ((nI_eq (by omega) (by omega)).mp q))]; exact ⟨fun q => absurd q nI1n, fun q => absurd q c⟩
  have : ∀ n, n ≤ D → (iter (mX10_isDoorItem_l101 D rd u2 u4) n (mX10_isDoorItem_j99 D rd u2 u4) = 0 ↔ (a = b ∨ ∃ d, d < n ∧ toldN rd a b d)) := by
    intro n
    induction n with
    | zero =>
      intro _
      show mX10_isDoorItem_j99 D rd u2 u4 = 0 ↔ _
      rw [hj]
      exact ⟨fun q => Or.inl q, fun q => q.elim id (fun ⟨d, q, _⟩ => by omega)⟩
    | succ n ih =>
      intro hn
      show mX10_isDoorItem_l101 D rd u2 u4 n (iter (mX10_isDoorItem_l101 D rd u2 u4) n (mX10_isDoorItem_j99 D rd u2 u4)) = 0 ↔ _
      have ih := ih (by omega)
      obtain ⟨s1, s2⟩ := same_l (rd := rd) h2 h4 (show n < D by omega) (iter (mX10_isDoorItem_l101 D rd u2 u4) n (mX10_isDoorItem_j99 D rd u2 u4))
      by_cases c : toldN rd a b n
      · exact ⟨fun _ => Or.inr ⟨n, by omega, c⟩, fun _ => s1 c⟩
      · rw [s2 c, ih]
        constructor
        · rintro (q | ⟨d, q1, q2⟩)
          · exact Or.inl q
          · exact Or.inr ⟨d, by omega, q2⟩
        · rintro (q | ⟨d, q1, q2⟩)
          · exact Or.inl q
          · refine Or.inr ⟨d, ?_, q2⟩
            have : d ≠ n := fun z => c (z ▸ q2)
            omega
  exact this D (Nat.le_refl _)
end Items
