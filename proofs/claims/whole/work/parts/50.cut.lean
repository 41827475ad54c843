/-! pure: the least salt that keeps one out -/
def lxN (cost : Nat → Nat) (a b : Nat) : Prop := cost a < cost b ∨ (cost a = cost b ∧ a ≤ b)
theorem lxN_anti {cost : Nat → Nat} {a b : Nat} (h1 : lxN cost a b) (h2 : lxN cost b a) : a = b := by
  unfold lxN at *; omega
theorem lxN_trans {cost : Nat → Nat} {a b c : Nat} (h1 : lxN cost a b) (h2 : lxN cost b c) : lxN cost a c := by
  unfold lxN at *; omega
theorem lex_lp {N : Nat} {C : Nat → Prop} {cost : Nat → Nat} {F : Nat → Int32 × Int32 → Int32 × Int32} (hc : ∀ k, cost k ≤ 1000) (hN : N ≤ 100000)
    (hF1 : ∀ k s, k < N → ¬ C k → F k s = s) (hF2 : ∀ k s, k < N → C k → F k s = if s.2 ≤ nI (cost k) then s else (nI k, nI (cost k))) :
    ∀ n, n ≤ N → ((iter F n (-1, nI 9999) = (-1, nI 9999) ∧ ∀ k, k < n → ¬ C k) ∨ ∃ b, b < n ∧ C b ∧ iter F n (-1, nI 9999) = (nI b, nI (cost b)) ∧ ∀ k, k < n → C k → lxN cost b k) := by
  intro n
  induction n with
  | zero => intro _; exact Or.inl ⟨rfl, fun k q => absurd q (by omega)⟩
  | succ n ih =>
    intro hn
    have hcn := hc n
    have es : iter F (n + 1) (-1, nI 9999) = F n (iter F n (-1, nI 9999)) := rfl
    rw [es]
    by_cases c : C n
    · rcases ih (by omega) with ⟨e, hno⟩ | ⟨b, hb, hCb, e, hmin⟩
      · right
        rw [e, hF2 n _ (by omega) c]
        dsimp only
        rw [if_neg (nI_ge (by omega) (by omega))]
        refine ⟨n, by omega, c, rfl, fun k hk hk2 => ?_⟩
        by_cases z : k = n
        · subst z; exact Or.inr ⟨rfl, Nat.le_refl _⟩
        · exact absurd hk2 (hno k (by omega))
      · right
        have hcb := hc b
        rw [e, hF2 n _ (by omega) c]
        dsimp only
        by_cases q : cost b ≤ cost n
        · rw [if_pos (nI_le q (by omega))]
          refine ⟨b, by omega, hCb, rfl, fun k hk hk2 => ?_⟩
          by_cases z : k = n
          · subst z; unfold lxN; omega
          · exact hmin k (by omega) hk2
        · rw [if_neg (nI_ge (by omega) (by omega))]
          refine ⟨n, by omega, c, rfl, fun k hk hk2 => ?_⟩
          by_cases z : k = n
          · subst z; exact Or.inr ⟨rfl, Nat.le_refl _⟩
          · have := hmin k (by omega) hk2
            unfold lxN at *; omega
    · rw [hF1 n _ (by omega) c]
      rcases ih (by omega) with ⟨e, hno⟩ | ⟨b, hb, hCb, e, hmin⟩
      · refine Or.inl ⟨e, fun k hk => ?_⟩
        by_cases z : k = n
        · subst z; exact c
        · exact hno k (by omega)
      · refine Or.inr ⟨b, by omega, hCb, e, fun k hk hk2 => ?_⟩
        by_cases z : k = n
        · subst z; exact absurd hk2 c
        · exact hmin k (by omega) hk2
theorem lex_lpC {N : Nat} {A : Nat → Prop} {cost cut : Nat → Nat} {F : Nat → Int32 × Int32 → Int32 × Int32} (hc : ∀ k, cost k ≤ 90) (hcut : ∀ k, cut k < 100000)
    (hF1 : ∀ k s, k < N → ¬ A k → F k s = s) (hF2 : ∀ k s, k < N → A k → F k s = if nI (cost (cut k)) < s.1 then (nI (cost (cut k)), nI (cut k)) else (if nI (cost (cut k)) = s.1 then (if s.2 ≤ nI (cut k) then s else (nI (cost (cut k)), nI (cut k))) else s)) :
    ∀ n, n ≤ N → ((iter F n (91, 0) = (91, 0) ∧ ∀ k, k < n → ¬ A k) ∨ ∃ b, b < n ∧ A b ∧ iter F n (91, 0) = (nI (cost (cut b)), nI (cut b)) ∧ ∀ k, k < n → A k → lxN cost (cut b) (cut k)) := by
  intro n
  induction n with
  | zero => intro _; exact Or.inl ⟨rfl, fun k q => absurd q (by omega)⟩
  | succ n ih =>
    intro hn
    have hcn := hc (cut n)
    have hun := hcut n
    have es : iter F (n + 1) (91, 0) = F n (iter F n (91, 0)) := rfl
    rw [es]
    by_cases c : A n
    · rcases ih (by omega) with ⟨e, hno⟩ | ⟨b, hb, hCb, e, hmin⟩
      · right
        rw [e, hF2 n _ (by omega) c]
        dsimp only
        rw [if_pos (show nI (cost (cut n)) < 91 from nI_lt (b := 91) (by omega) (by omega))]
        refine ⟨n, by omega, c, rfl, fun k hk hk2 => ?_⟩
        by_cases z : k = n
        · subst z; exact Or.inr ⟨rfl, Nat.le_refl _⟩
        · exact absurd hk2 (hno k (by omega))
      · right
        have hcb := hc (cut b)
        have hub := hcut b
        rw [e, hF2 n _ (by omega) c]
        dsimp only
        by_cases q : cost (cut n) < cost (cut b)
        · rw [if_pos (nI_lt q (by omega))]
          refine ⟨n, by omega, c, rfl, fun k hk hk2 => ?_⟩
          by_cases z : k = n
          · subst z; exact Or.inr ⟨rfl, Nat.le_refl _⟩
          · have := hmin k (by omega) hk2
            unfold lxN at *; omega
        · rw [if_neg (nI_nlt (by omega) (by omega))]
          by_cases q2 : cost (cut n) = cost (cut b)
          · rw [if_pos (congrArg nI q2)]
            by_cases q3 : cut b ≤ cut n
            · rw [if_pos (nI_le q3 (by omega))]
              refine ⟨b, by omega, hCb, rfl, fun k hk hk2 => ?_⟩
              by_cases z : k = n
              · subst z; unfold lxN; omega
              · exact hmin k (by omega) hk2
            · rw [if_neg (nI_ge (by omega) (by omega))]
              refine ⟨n, by omega, c, rfl, fun k hk hk2 => ?_⟩
              by_cases z : k = n
              · subst z; exact Or.inr ⟨rfl, Nat.le_refl _⟩
              · have := hmin k (by omega) hk2
                unfold lxN at *; omega
          · rw [if_neg (fun w => q2 ((nI_eq (by omega) (by omega)).mp w))]
            refine ⟨b, by omega, hCb, rfl, fun k hk hk2 => ?_⟩
            by_cases z : k = n
            · subst z; unfold lxN; omega
            · exact hmin k (by omega) hk2
    · rw [hF1 n _ (by omega) c]
      rcases ih (by omega) with ⟨e, hno⟩ | ⟨b, hb, hCb, e, hmin⟩
      · refine Or.inl ⟨e, fun k hk => ?_⟩
        by_cases z : k = n
        · subst z; exact c
        · exact hno k (by omega)
      · refine Or.inr ⟨b, by omega, hCb, e, fun k hk hk2 => ?_⟩
        by_cases z : k = n
        · subst z; exact absurd hk2 c
        · exact hmin k (by omega) hk2
theorem and_two_all (S a b : Nat) : (2 ^ a ||| 2 ^ b) &&& S = 2 ^ a ||| 2 ^ b ↔ (S.testBit a = true ∧ S.testBit b = true) := by
  constructor
  · intro h
    have h1 : ((2 ^ a ||| 2 ^ b) &&& S).testBit a = true := by rw [h]; exact (two_bit a b a).mpr (Or.inl rfl)
    have h2 : ((2 ^ a ||| 2 ^ b) &&& S).testBit b = true := by rw [h]; exact (two_bit a b b).mpr (Or.inr rfl)
    rw [Nat.testBit_and, Bool.and_eq_true] at h1 h2
    exact ⟨h1.2, h2.2⟩
  · intro h
    refine Nat.eq_of_testBit_eq (fun i => ?_)
    rw [Nat.testBit_and]
    by_cases q : (2 ^ a ||| 2 ^ b).testBit i = true
    · rw [q]
      rcases (two_bit a b i).mp q with e | e
      · rw [e, h.1]; rfl
      · rw [e, h.2]; rfl
    · rw [Bool.not_eq_true] at q
      rw [q]; rfl
theorem sub_leN {S T : Nat} (h : subN S T) : S ≤ T := by
  have := or_sub h
  rw [← this]
  exact Nat.right_le_or
/-- what it costs to lay the lines of Z -/
def csN (w : Nat → Nat) (Z n : Nat) : Nat := smN (fun d => if Z.testBit d then w d else 0) n
theorem csN_sub {w : Nat → Nat} {Z Y : Nat} (h : subN Z Y) (n : Nat) : csN w Z n ≤ csN w Y n := by
  unfold csN
  refine smN_le n (fun k _ => ?_)
  show (if Z.testBit k then w k else 0) ≤ (if Y.testBit k then w k else 0)
  by_cases q : Z.testBit k = true
  · rw [if_pos q, if_pos (h k q)]; exact Nat.le_refl _
  · rw [if_neg q]; exact Nat.zero_le _
theorem csN_0 (w : Nat → Nat) (n : Nat) : csN w 0 n = 0 := by
  have := smN_bd (c := fun d => if (0 : Nat).testBit d then w d else 0) (B := 0) n (fun k _ => by
    show (if (0 : Nat).testBit k then w k else 0) ≤ 0
    rw [Nat.zero_testBit, if_neg (by decide)]; exact Nat.le_refl _)
  unfold csN; omega
section Cut
variable {D P Rm : Nat} {f g dA dB dS dO dr : Nat → Int32}
/-- doors with one end in X and one not -/
def acN (dr : Nat → Int32) (X k : Nat) : Bool := X.testBit (eaN dr k) != X.testBit (ebN dr k)
theorem across_n (hD : D ≤ 10) (hR : Rm ≤ 8) (hd : ∀ d, d < D → okDoor Rm dA dB dS dO dr d) {X : Nat} (hX : X < 256) : mX8_doorsAcross (nI D) dS (nI X) = nI (setN (acN dr X) D) := by
  unfold mX8_doorsAcross
  rw [clamp_nI (by omega)]
  refine iter_set (fun k hk y => ?_)
  obtain ⟨a1, a2, a3, a4, a5, a6, a7, a8⟩ := (hd k hk).ends hR
  have h2 : 2 ^ eaN dr k ||| 2 ^ ebN dr k < 256 := Nat.or_lt_two_pow (n := 8) (Nat.pow_lt_pow_right (by omega) (by omega)) (Nat.pow_lt_pow_right (by omega) (by omega))
  have h3 : (2 ^ eaN dr k ||| 2 ^ ebN dr k) &&& X < 256 := Nat.lt_of_le_of_lt Nat.and_le_left h2
  unfold mX8_doorsAcross_l4 acN
  rw [get_nat (by omega) (by omega), a8, nI_and, onlyC (by omega)]
  have hz : (2 ^ eaN dr k ||| 2 ^ ebN dr k) &&& X = 0 ↔ ¬ (X.testBit (eaN dr k) = true ∨ X.testBit (ebN dr k) = true) := by
    rw [Nat.and_comm]; exact and_two _ _ _
  have ha := and_two_all X (eaN dr k) (ebN dr k)
  by_cases c1 : (2 ^ eaN dr k ||| 2 ^ ebN dr k) &&& X = 0
  · rw [if_pos ((nz_n (by omega)).mpr c1)]
    have := hz.mp c1
    have q1 : X.testBit (eaN dr k) = false := by rw [← Bool.not_eq_true]; exact fun z => this (Or.inl z)
    have q2 : X.testBit (ebN dr k) = false := by rw [← Bool.not_eq_true]; exact fun z => this (Or.inr z)
    rw [q1, q2, if_neg (by decide)]
  · rw [if_neg (fun q => c1 ((nz_n (by omega)).mp q))]
    by_cases c2 : (2 ^ eaN dr k ||| 2 ^ ebN dr k) &&& X = 2 ^ eaN dr k ||| 2 ^ ebN dr k
    · rw [if_pos (congrArg nI c2)]
      have := ha.mp c2
      rw [this.1, this.2, if_neg (by decide)]
    · rw [if_neg (fun q => c2 ((nI_eq (by omega) (by omega)).mp q))]
      have q1 : ¬ (X.testBit (eaN dr k) = true ∧ X.testBit (ebN dr k) = true) := fun z => c2 (ha.mpr z)
      have q2 : X.testBit (eaN dr k) = true ∨ X.testBit (ebN dr k) = true := Classical.byContradiction (fun z => c1 (hz.mpr z))
      rw [if_pos]
      rcases q2 with q | q
      · have : X.testBit (ebN dr k) = false := by rw [← Bool.not_eq_true]; exact fun z => q1 ⟨q, z⟩
        rw [q, this]; decide
      · have : X.testBit (eaN dr k) = false := by rw [← Bool.not_eq_true]; exact fun z => q1 ⟨z, q⟩
        rw [q, this]; decide
/-- spoons that a line still needs to stop one of ill i -/
def wN (f : Nat → Int32) (i d : Nat) : Nat := 10 - i - (f d).toNatClampNeg
theorem op_small (h : okNow D P Rm f g) (hD : D ≤ 10) {i d : Nat} (hd : d < D) (hi : i ≤ 9) (h0 : 0 < i) (ho : opN g (nI i) d = true) : (f d).toNatClampNeg ≤ 10 - i := by
  obtain ⟨t, ht, k1, k2, k3⟩ := h.sp hd hD
  unfold opN at ho
  rw [decide_eq_true_eq, k3] at ho
  rw [k2, clamp_nI (by omega)]
  by_cases q : stp t i
  · rw [stopsBy_pos (by omega) (by omega) q] at ho
    exact absurd ho one_ne0
  · unfold stp at q; omega
theorem toStop_n (h : okNow D P Rm f g) (hD : D ≤ 10) {i Z : Nat} (hi : i ≤ 9) (h0 : 0 < i) (hZ : Z < 2147483648) (ho : ∀ d, d < D → Z.testBit d = true → opN g (nI i) d = true) : mX8_spoonsToStop (nI D) f (nI Z) (nI i) = nI (csN (wN f i) Z D) := by
  unfold mX8_spoonsToStop csN
  rw [clamp_nI (by omega)]
  have : ∀ n, n ≤ D → iter (mX8_spoonsToStop_l5 f (nI Z) (nI i)) n 0 = nI (smN (fun d => if Z.testBit d then wN f i d else 0) n) := by
    intro n
    induction n with
    | zero => intro _; rfl
    | succ n ih =>
      intro hn
      show mX8_spoonsToStop_l5 f (nI Z) (nI i) n (iter (mX8_spoonsToStop_l5 f (nI Z) (nI i)) n 0) = nI (smN (fun d => if Z.testBit d then wN f i d else 0) n + (if Z.testBit n then wN f i n else 0))
      rw [ih (by omega)]
      unfold mX8_spoonsToStop_l5
      rw [inSet_n hZ (by omega)]
      by_cases c : Z.testBit n = true
      · have hs := op_small h hD (show n < D by omega) hi h0 (ho n (by omega) c)
        obtain ⟨t, ht, k1, k2, k3⟩ := h.sp (show n < D by omega) hD
        rw [k2, clamp_nI (by omega)] at hs
        unfold wN
        rw [if_pos c, if_neg one_ne0, if_pos c, k1, k2, clamp_nI (by omega), show (10 : Int32) = nI 10 from rfl, pk_sub (by omega), pk_sub hs, nI_add]
      · rw [if_neg c, if_pos rfl, if_neg c, Nat.add_zero]
  exact this D (Nat.le_refl _)
theorem toStopM_n (h : okNow D P Rm f g) (hD : D ≤ 10) {i Z p : Nat} (hi : i ≤ 9) (hil : mX10_illOf g p = nI i) (hp : p < 2147483648) (hZ : Z < 2147483648) : iter (mX10_keepOut_l69 g (nI p) Z) D (nI 0) = nI (csN (wN f i) Z D) := by
  unfold csN
  have : ∀ n, n ≤ D → iter (mX10_keepOut_l69 g (nI p) Z) n (nI 0) = nI (smN (fun d => if Z.testBit d then wN f i d else 0) n) := by
    intro n
    induction n with
    | zero => intro _; rfl
    | succ n ih =>
      intro hn
      show mX10_keepOut_l69 g (nI p) Z n (iter (mX10_keepOut_l69 g (nI p) Z) n (nI 0)) = nI (smN (fun d => if Z.testBit d then wN f i d else 0) n + (if Z.testBit n then wN f i n else 0))
      rw [ih (by omega)]
      obtain ⟨t, ht, k1, k2, k3⟩ := h.sp (show n < D by omega) hD
      unfold mX10_keepOut_l69
      rw [has_inSet, inSet_n hZ (by omega), clamp_nI hp, hil, k3, pk_sub (by omega), lessBy_n (by omega) (by omega)]
      by_cases c : Z.testBit n = true
      · unfold wN
        rw [if_pos c, if_neg one_ne0, if_pos c, k2, clamp_nI (by omega), nI_add]
      · rw [if_neg c, if_pos rfl, if_neg c, Nat.add_zero, nI_add, Nat.add_zero]
  exact this D (Nat.le_refl _)
/-- doors that let one of ill i through and are not in Z -/
def opZ (g : Nat → Int32) (i Z k : Nat) : Bool := opN g (nI i) k && !Z.testBit k
theorem comesZ_n (hD : D ≤ 10) (hR : Rm ≤ 8) (hd : ∀ d, d < D → okDoor Rm dA dB dS dO dr d) {i Z s : Nat} (hZ : Z < 2147483648) (hs : s < Rm) : mX10_comesBy D dr g (nI i) (nI s) (-1) (nI Z) = nI (cloN D (opZ g i Z) (eaN dr) (ebN dr) Rm s) := by
  refine comesBy_n hD hR hd (fun k hk => ?_) hs
  unfold opZ opN
  rw [Bool.and_eq_true, decide_eq_true_eq, has_inSet, inSet_n hZ (by omega)]
  by_cases c : Z.testBit k = true
  · rw [c]
    exact ⟨fun q => absurd q.2 (by decide), fun q => absurd q.2.1 one_ne0⟩
  · rw [Bool.not_eq_true] at c
    rw [c]
    exact ⟨fun q => ⟨nI_m1 (by omega), rfl, q.1⟩, fun q => ⟨q.2.2, rfl⟩⟩
theorem opZ_0 (g : Nat → Int32) (i : Nat) : opZ g i 0 = opN g (nI i) := by
  funext k
  unfold opZ
  rw [Nat.zero_testBit]
  simp
/-- the cut of a set of rooms -/
def ctN (D : Nat) (dr g : Nat → Int32) (i X : Nat) : Nat := setN (fun k => opN g (nI i) k && acN dr X k) D
theorem cut_cuts {i X s t : Nat} (h1 : X.testBit s = true) (h2 : ¬ X.testBit t = true) : ¬ (cloN D (opZ g i (ctN D dr g i X)) (eaN dr) (ebN dr) Rm s).testBit t = true := by
  intro q
  refine h2 (clo_in (Rm := Rm) ?_ h1 t q)
  intro d hd ho hx
  unfold opZ ctN at ho
  rw [setN_bit, Bool.and_eq_true] at ho
  have he : X.testBit (eaN dr d) = X.testBit (ebN dr d) := by
    have h3 := ho.2
    rw [ho.1] at h3
    simp only [hd, decide_true, Bool.true_and] at h3
    unfold acN at h3
    simpa using h3
  rw [he] at hx ⊢
  have : X.testBit (ebN dr d) = true := hx.elim id id
  exact ⟨this, this⟩
theorem cut_sub (hR : Rm ≤ 8) (hd : ∀ d, d < D → okDoor Rm dA dB dS dO dr d) {i Z s : Nat} (hs : s < Rm) : subN (ctN D dr g i (cloN D (opZ g i Z) (eaN dr) (ebN dr) Rm s)) Z := by
  have hE : ∀ d, d < D → eaN dr d < Rm ∧ ebN dr d < Rm := fun d q => ⟨((hd d q).ends hR).1, ((hd d q).ends hR).2.1⟩
  intro k hk
  unfold ctN at hk
  rw [setN_bit, Bool.and_eq_true, Bool.and_eq_true, decide_eq_true_eq] at hk
  refine Classical.byContradiction (fun q => ?_)
  rw [Bool.not_eq_true] at q
  have hc := clo_closed (op := opZ g i Z) hE hs k hk.1 (by unfold opZ; rw [hk.2.1, q]; rfl)
  have ha := hk.2.2
  unfold acN at ha
  generalize cloN D (opZ g i Z) (eaN dr) (ebN dr) Rm s = X at hc ha
  cases h1 : X.testBit (eaN dr k)
  · cases h2 : X.testBit (ebN dr k)
    · rw [h1, h2] at ha; exact absurd ha (by decide)
    · have := (hc (Or.inr h2)).1
      rw [h1] at this; exact absurd this (by decide)
  · have := (hc (Or.inl h1)).2
    rw [h1, this] at ha; exact absurd ha (by decide)
theorem clo_ltRm (hR : Rm ≤ 8) (hE : ∀ d, d < D → eaN dr d < Rm ∧ ebN dr d < Rm) {op : Nat → Bool} {s : Nat} (hs : s < Rm) : cloN D op (eaN dr) (ebN dr) Rm s < 2 ^ Rm := by
  refine Nat.lt_of_not_le (fun q => ?_)
  obtain ⟨i, hi, hb⟩ := Nat.exists_ge_and_testBit_of_ge_two_pow q
  have := clo_room hR hE hs hb
  omega
end Cut
section Keep
variable {D P Rm : Nat} {f g dA dB dS dO dr : Nat → Int32}
theorem keepOut_eq (h : okNow D P Rm f g) (hD : D ≤ 10) (hP : P ≤ 6) (hR : Rm ≤ 8) (hd : ∀ d, d < D → okDoor Rm dA dB dS dO dr d) {p t y : Nat} (hp : p < P) (ht : t < Rm) (hy : y ≤ 1) :
    mX8_cheapestCut (nI Rm) (nI D) dS f (nI p) (nI t) (nI y) = (fun (w : Int32 × Int32) => if w.1 = (-1 : Int32) then (-1 : Int32) else (if nI y = 0 then w.2 else w.1)) (iter (mX10_keepOut_l52 D dr g (nI p) (nI t)) (2 ^ D) ((-1 : Int32), nI 9999)) := by
  obtain ⟨i, hi, i1, i2⟩ := h.ill hp hP
  obtain ⟨s, hs, s1, s2, s3⟩ := h.pl hp hP
  have hE : ∀ d, d < D → eaN dr d < Rm ∧ ebN dr d < Rm := fun d q => ⟨((hd d q).ends hR).1, ((hd d q).ends hR).2.1⟩
  have hcost : ∀ k, csN (wN f i) k D ≤ 1000 := fun k => by
    have := smN_bd (c := fun d => if k.testBit d then wN f i d else 0) (B := 10) D (fun d _ => by
      show (if k.testBit d then wN f i d else 0) ≤ 10
      unfold wN
      split <;> omega)
    unfold csN; omega
  have h2D : 2 ^ D ≤ 1024 := Nat.pow_le_pow_right (n := 2) (by omega) (by omega : D ≤ 10)
  have h2R : 2 ^ Rm ≤ 256 := Nat.pow_le_pow_right (n := 2) (by omega) (by omega : Rm ≤ 8)
  -- the model's loop
  have hC : ∀ Z, Z < 2 ^ D → mX10_has (mX10_comesBy D dr g (mX10_illOf g (nI p).toNatClampNeg) (g (23 + (nI p).toNatClampNeg)) (-1) (nI Z)) (nI t) = if (cloN D (opZ g i Z) (eaN dr) (ebN dr) Rm s).testBit t then 1 else 0 := by
    intro Z hZ
    have hlt := clo_lt (op := opZ g i Z) hR hE hs
    rw [clamp_nI (by omega), i2, s3, comesZ_n hD hR hd (by omega) hs, has_inSet, inSet_n (by omega) (by omega)]
  have hM := lex_lp (N := 2 ^ D) (C := fun k => (k = 0 ∨ 0 < i) ∧ ¬ (cloN D (opZ g i k) (eaN dr) (ebN dr) Rm s).testBit t = true) (cost := fun k => csN (wN f i) k D) (F := mX10_keepOut_l52 D dr g (nI p) (nI t)) hcost (by omega) (by
    rintro k ⟨u1, u2⟩ hk hc
    unfold mX10_keepOut_l52
    rw [hC k hk]
    by_cases z : k = 0
    · rw [if_pos (by rw [z]; rfl)]
      have : (cloN D (opZ g i k) (eaN dr) (ebN dr) Rm s).testBit t = true := Classical.byContradiction (fun w => hc ⟨Or.inl z, w⟩)
      rw [this]
      dsimp only
      split
      · rfl
      · rw [if_pos rfl, if_neg one_ne0]
    · rw [if_neg (nI_ne0 (by omega) (by omega)), clamp_nI (by omega), i2]
      by_cases z2 : 0 < i
      · rw [if_neg (nI_nle z2 (by omega))]
        have : (cloN D (opZ g i k) (eaN dr) (ebN dr) Rm s).testBit t = true := Classical.byContradiction (fun w => hc ⟨Or.inr z2, w⟩)
        rw [this]
        dsimp only
        split
        · rfl
        · rw [if_pos rfl, if_neg one_ne0]
      · rw [if_pos (by rw [show i = 0 by omega]; decide)]) (by
    rintro k ⟨u1, u2⟩ hk ⟨hc1, hc2⟩
    rw [Bool.not_eq_true] at hc2
    unfold mX10_keepOut_l52
    rw [hC k hk, hc2, toStopM_n h hD hi i2 (by omega) (by omega)]
    dsimp only
    rw [if_neg (show ¬ false = true by decide), if_pos rfl]
    by_cases z : k = 0
    · rw [if_pos (by rw [z]; rfl)]
    · rw [if_neg (nI_ne0 (by omega) (by omega)), clamp_nI (by omega), i2, if_neg (nI_nle (by omega) (by omega))]) (2 ^ D) (Nat.le_refl _)
  have hroom : mX9_inSet (mX8_roomsOf (nI Rm) (nI D) dS f (nI p)) (nI t) = if (cloN D (opZ g i 0) (eaN dr) (ebN dr) Rm s).testBit t then 1 else 0 := by
    rw [(rooms_eq h hD hP hR hd hp).1, ← has_inSet]
    have := hC 0 (Nat.two_pow_pos D)
    rw [clamp_nI (by omega)] at this
    exact this
  unfold mX8_cheapestCut
  rw [hroom, s1, i1]
  generalize iter (mX10_keepOut_l52 D dr g (nI p) (nI t)) (2 ^ D) ((-1 : Int32), nI 9999) = st at hM
  have hb1 : ∀ b, b < 2 ^ D → ¬ nI b = (-1 : Int32) := fun b hb q => by
    have := congrArg Int32.toInt q
    rw [nI_toInt (by omega)] at this
    have e : (-1 : Int32).toInt = -1 := rfl
    omega
  by_cases c0 : (cloN D (opZ g i 0) (eaN dr) (ebN dr) Rm s).testBit t = true
  · rw [if_pos c0, if_neg one_ne0]
    by_cases c1 : s = t
    · rw [if_pos (congrArg nI c1)]
      rcases hM with ⟨e, hno⟩ | ⟨b, hb, ⟨hCb1, hCb2⟩, e, hmin⟩
      · rw [e]; rfl
      · exact absurd (c1 ▸ clo_self s) hCb2
    · rw [if_neg (fun q => c1 ((nI_eq (by omega) (by omega)).mp q))]
      by_cases c2 : i = 0
      · rw [if_pos (by rw [c2]; rfl)]
        rcases hM with ⟨e, hno⟩ | ⟨b, hb, ⟨hCb1, hCb2⟩, e, hmin⟩
        · rw [e]; rfl
        · rcases hCb1 with q | q
          · subst q; exact absurd c0 hCb2
          · omega
      · rw [if_neg (nI_ne0 (by omega) (by omega))]
        -- the class's loop
        have hct : ∀ X, ctN D dr g i X < 2 ^ D := fun X => setN_lt _ _
        have hcost9 : ∀ k, csN (wN f i) k D ≤ 90 := fun k => by
          have := smN_bd (c := fun d => if k.testBit d then wN f i d else 0) (B := 9) D (fun d _ => by
            show (if k.testBit d then wN f i d else 0) ≤ 9
            unfold wN
            split <;> omega)
          unfold csN; omega
        have hK := lex_lpC (N := 2 ^ Rm) (A := fun k => k.testBit s = true ∧ ¬ k.testBit t = true) (cost := fun k => csN (wN f i) k D) (cut := ctN D dr g i) (F := mX8_cheapestCut_l74 (nI D) dS f (nI p) (nI t)) hcost9 (fun k => by have := hct k; omega) (by
          rintro k ⟨u1, u2⟩ hk hc
          unfold mX8_cheapestCut_l74
          rw [s1, inSet_n (by omega) (by omega), inSet_n (by omega) (by omega)]
          by_cases w1 : k.testBit s = true
          · rw [if_pos w1, if_neg one_ne0]
            have w2 : k.testBit t = true := Classical.byContradiction (fun w => hc ⟨w1, w⟩)
            rw [if_pos w2, if_neg one_ne0]
          · rw [if_neg w1, if_pos rfl]) (by
          rintro k ⟨u1, u2⟩ hk ⟨w1, w2⟩
          have e1 : nI (setN (opN g (nI i)) D) &&& nI (setN (acN dr k) D) = nI (ctN D dr g i k) := by
            rw [nI_and, setN_and]; rfl
          have e2 := toStop_n h hD (i := i) (Z := ctN D dr g i k) hi (by omega) (by have := hct k; omega) (fun d hd2 hb => by
            unfold ctN at hb
            rw [setN_bit, Bool.and_eq_true, Bool.and_eq_true] at hb
            exact hb.2.1)
          unfold mX8_cheapestCut_l74
          rw [s1, i1, inSet_n (by omega) (by omega), inSet_n (by omega) (by omega), if_pos w1, if_neg one_ne0, if_neg w2, if_pos rfl, passable_n h hD (by omega), across_n hD hR hd (by omega), e1, e2]) (2 ^ Rm) (Nat.le_refl _)
        rw [onlyC (by omega), clamp_nI (by omega)]
        generalize iter (mX8_cheapestCut_l74 (nI D) dS f (nI p) (nI t)) (2 ^ Rm) ((91 : Int32), (0 : Int32)) = sc at hK
        rcases hK with ⟨e, hno⟩ | ⟨X, hX, ⟨hX1, hX2⟩, eK, hminK⟩
        · exact absurd ⟨Nat.testBit_two_pow_self, by rw [Nat.testBit_two_pow_of_ne c1]; decide⟩ (hno (2 ^ s) (Nat.pow_lt_pow_right (by omega) hs))
        · have hcutX := cut_cuts (D := D) (Rm := Rm) (g := g) (dr := dr) (i := i) hX1 hX2
          rcases hM with ⟨e, hno⟩ | ⟨b, hb, ⟨hCb1, hCb2⟩, eM, hminM⟩
          · exact absurd ⟨Or.inr (by omega), hcutX⟩ (hno _ (hct X))
          · have m1 : lxN (fun k => csN (wN f i) k D) b (ctN D dr g i X) := hminM _ (hct X) ⟨Or.inr (by omega), hcutX⟩
            have hsub := cut_sub (D := D) (g := g) hR hd (i := i) (Z := b) hs
            have m2 := hminK (cloN D (opZ g i b) (eaN dr) (ebN dr) Rm s) (clo_ltRm hR hE hs) ⟨clo_self s, hCb2⟩
            have m3 : lxN (fun k => csN (wN f i) k D) (ctN D dr g i (cloN D (opZ g i b) (eaN dr) (ebN dr) Rm s)) b := by
              have q1 := csN_sub (w := wN f i) hsub D
              have q2 := sub_leN hsub
              show _ < _ ∨ _ ∧ _
              dsimp only
              omega
            have hbe := lxN_anti m1 (lxN_trans m2 m3)
            rw [eK, eM, ← hbe]
            dsimp only
            rw [if_neg (hb1 b hb)]
  · rw [if_neg c0, if_pos rfl]
    rcases hM with ⟨e, hno⟩ | ⟨b, hb, ⟨hCb1, hCb2⟩, e, hmin⟩
    · exact absurd ⟨Or.inl rfl, c0⟩ (hno 0 (Nat.two_pow_pos D))
    · have := hmin 0 (Nat.two_pow_pos D) ⟨Or.inl rfl, c0⟩
      have this : csN (wN f i) b D < csN (wN f i) 0 D ∨ (csN (wN f i) b D = csN (wN f i) 0 D ∧ b ≤ 0) := this
      have e0 := csN_0 (wN f i) D
      have hb0 : b = 0 := by omega
      subst hb0
      rw [e]
      dsimp only
      rw [if_neg (by decide), e0]
      split <;> rfl
end Keep
theorem st_keepOut {cI : Nat → Int32} {cR : Nat → Nat → Int32} {mN : Nat → Nat} {mI : Nat → Int32} {mR : Nat → Nat → Int32} (h : Rel cI cR mN mI mR) (x1 x2 x3 : Int32) : (mX9_keepOut (cI 0) (cI 2) (cI 3) (cR 3) (cR 5) x1 x2 x3) = (mX10_keepOut (mI 6) (mN 8) (mN 9) (mR 5) (mR 6) x1 x2 x3) := by
  obtain ⟨⟨e0, e1, hRm, e2, hRn, e3, hD, e4, hP, hz⟩, hrain, hdoor⟩ := h.house
  have hw : mX9_within x3 0 1 = mX10_in x3 (nI 0) (nI 1) := rfl
  unfold mX9_keepOut mX10_keepOut
  have hc := room_cases (D := (mI 6).toNatClampNeg) (by omega) x2
  rw [← e1] at hc
  rw [e0, e3, e4, hw]
  rcases person_cases (D := mN 9) (by omega) x1 with ⟨p, hp, rfl, h1, h2⟩ | ⟨h1, h2⟩
  · rw [h1, h2, if_neg one_ne0, if_neg one_ne0]
    rcases hc with ⟨r, hr, rfl, h3, h4⟩ | ⟨h3, h4⟩
    · rw [h3, h4, if_neg one_ne0, if_neg one_ne0]
      rcases in_cases x3 (A := 0) (B := 1) (by omega) (by omega) with ⟨y, y1, y2, rfl, hy⟩ | hy
      · rw [hy, if_neg one_ne0, if_neg one_ne0]
        have h2D : 2 ^ mN 8 ≤ 1024 := Nat.pow_le_pow_right (n := 2) (by omega) (by omega : mN 8 ≤ 10)
        have hk := keepOut_eq h.now hD hP hRm hdoor hp hr y2
        rw [← e1] at hk
        rw [show nI 1 <<< (nI (mN 8) &&& 31) = nI (2 ^ mN 8) from only_n _ (by omega), clamp_nI (by omega), ← hk]
        rcases Nat.lt_or_ge y 1 with c | c
        · have : y = 0 := by omega
          subst this
          rw [if_neg (by decide)]
          rfl
        · have : y = 1 := by omega
          subst this
          rw [if_pos (show nI 1 = (1 : Int32) from rfl)]
          rfl
      · rw [hy, if_pos rfl, if_pos rfl]
    · rw [h3, h4, if_pos rfl, if_pos rfl]
  · rw [h1, h2, if_pos rfl, if_pos rfl]
