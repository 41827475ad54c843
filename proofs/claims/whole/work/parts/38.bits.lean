/-! pure: sets as numbers -/
theorem nI_or (a b : Nat) : nI a ||| nI b = nI (a ||| b) := by
  apply Int32.toBitVec_inj.mp
  rw [Int32.toBitVec_or]
  exact (BitVec.ofNat_or ..).symm
theorem nI_and (a b : Nat) : nI a &&& nI b = nI (a &&& b) := by
  apply Int32.toBitVec_inj.mp
  rw [Int32.toBitVec_and]
  exact (BitVec.ofNat_and ..).symm
theorem only_n : ∀ k, k < 31 → (1 : Int32) <<< (nI k &&& 31) = nI (2 ^ k) := by decide +kernel
theorem amt_n : ∀ k, k < 31 → (nI k &&& (31 : Int32)) = nI k := by decide +kernel
theorem smod_n : ∀ k, k < 31 → ((nI k &&& (31 : Int32)).toBitVec.smod 32).toNat = k := by decide +kernel
theorem onlyC {k : Nat} (h : k < 31) : mX9_only (nI k) = nI (2 ^ k) := only_n k h
theorem pow31 {k : Nat} (h : k < 31) : 2 ^ k < 2147483648 := by
  have : 2 ^ k ≤ 2 ^ 30 := Nat.pow_le_pow_right (by omega) (by omega)
  omega
theorem bit_and1 (n k : Nat) : (n >>> k) &&& 1 = if n.testBit k then 1 else 0 := by
  unfold Nat.testBit
  rw [Nat.and_comm]
  have : 1 &&& (n >>> k) = (n >>> k) % 2 := by rw [Nat.and_comm]; exact Nat.and_one_is_mod _
  rw [this]
  rcases Nat.mod_two_eq_zero_or_one (n >>> k) with e | e
  · rw [e]; rfl
  · rw [e]; rfl
theorem inSet_n {n k : Nat} (hn : n < 2147483648) (hk : k < 31) : mX9_inSet (nI n) (nI k) = if n.testBit k then 1 else 0 := by
  unfold mX9_inSet
  have e : (nI n >>> (nI k &&& 31)) &&& (1 : Int32) = if n.testBit k then 1 else 0 := by
    rw [pk_shrN (by omega) _ k (smod_n k hk), ← Nat.shiftRight_eq_div_pow, show (1 : Int32) = nI 1 from rfl, nI_and, bit_and1]
    split <;> rfl
  rw [e]
  split <;> rfl
theorem nz_n {n : Nat} (hn : n < 2147483648) : nI n = 0 ↔ n = 0 := ⟨fun h => by
    rcases Nat.eq_zero_or_pos n with q | q
    · exact q
    · exact absurd h (nI_ne0 q hn), fun h => by rw [h]; rfl⟩
/-- the set of the numbers below n with c -/
def setN (c : Nat → Bool) : Nat → Nat
  | 0 => 0
  | n + 1 => if c n then setN c n ||| 2 ^ n else setN c n
theorem setN_bit (c : Nat → Bool) : ∀ n k, (setN c n).testBit k = (decide (k < n) && c k)
  | 0, k => by
    show (0 : Nat).testBit k = _
    rw [Nat.zero_testBit]; simp
  | n + 1, k => by
    have ih := setN_bit c n k
    unfold setN
    by_cases q : k = n
    · subst q
      split
      · rename_i h; rw [Nat.testBit_or, Nat.testBit_two_pow_self, h]; simp
      · rename_i h
        rw [ih]
        have h : c k = false := by simpa using h
        rw [h]; simp
    · have e : decide (k < n + 1) = decide (k < n) := decide_eq_decide.mpr (by omega)
      split
      · rw [Nat.testBit_or, ih, Nat.testBit_two_pow_of_ne (by omega), e]; simp
      · rw [ih, e]
theorem setN_lt (c : Nat → Bool) : ∀ n, setN c n < 2 ^ n
  | 0 => by show 0 < 1; omega
  | n + 1 => by
    have ih := setN_lt c n
    have : (2 : Nat) ^ n < 2 ^ (n + 1) := Nat.pow_lt_pow_right (by omega) (by omega)
    unfold setN
    split
    · exact Nat.or_lt_two_pow (by omega) this
    · omega
theorem setN_lt31 (c : Nat → Bool) {n : Nat} (h : n < 31) : setN c n < 2147483648 := Nat.lt_trans (setN_lt c n) (pow31 h)
theorem iter_set {f : Nat → Int32 → Int32} {c : Nat → Bool} : ∀ {n : Nat}, (∀ k, k < n → ∀ y, f k y = if c k then y ||| nI (2 ^ k) else y) → iter f n (nI 0) = nI (setN c n)
  | 0, _ => rfl
  | n + 1, hf => by
    show f n (iter f n (nI 0)) = nI (if c n then setN c n ||| 2 ^ n else setN c n)
    rw [iter_set (n := n) (fun k hk => hf k (by omega)), hf n (by omega)]
    split
    · rw [nI_or]
    · rfl
/-! rooms that are joined -/
section Clo
variable (D : Nat) (op : Nat → Bool) (ea eb : Nat → Nat)
def closedN (C : Nat) : Prop := ∀ d, d < D → op d = true → (C.testBit (ea d) = true ∨ C.testBit (eb d) = true) → C.testBit (ea d) = true ∧ C.testBit (eb d) = true
def subN (S T : Nat) : Prop := ∀ k, S.testBit k = true → T.testBit k = true
def goodN (F : Nat → Nat) : Prop := ∀ S, subN S (F S) ∧ (∀ d, d < D → op d = true → (S.testBit (ea d) = true ∨ S.testBit (eb d) = true) → (F S).testBit (ea d) = true ∧ (F S).testBit (eb d) = true) ∧ (∀ C, closedN D op ea eb C → subN S C → subN (F S) C)
def cntN : Nat → Nat → Nat
  | 0, _ => 0
  | n + 1, S => cntN n S + (if S.testBit n then 1 else 0)
theorem cntN_le : ∀ n S, cntN n S ≤ n
  | 0, _ => Nat.le_refl _
  | n + 1, S => by have := cntN_le n S; unfold cntN; split <;> omega
theorem cntN_mono {S T : Nat} (h : subN S T) : ∀ n, cntN n S ≤ cntN n T
  | 0 => Nat.le_refl _
  | n + 1 => by
    have := cntN_mono h n
    unfold cntN
    by_cases q : S.testBit n = true
    · rw [if_pos q, if_pos (h n q)]; omega
    · rw [if_neg q]; split <;> omega
theorem cntN_lt {S T : Nat} (h : subN S T) {k : Nat} (h1 : ¬ S.testBit k = true) (h2 : T.testBit k = true) : ∀ n, k < n → cntN n S < cntN n T
  | 0, q => absurd q (by omega)
  | n + 1, q => by
    have m := cntN_mono h n
    unfold cntN
    by_cases e : k = n
    · subst e; rw [if_neg h1, if_pos h2]; omega
    · have := cntN_lt h h1 h2 n (by omega)
      by_cases q : S.testBit n = true
      · rw [if_pos q, if_pos (h n q)]; omega
      · rw [if_neg q]; split <;> omega
theorem cntN_full {S : Nat} : ∀ n, cntN n S = n → ∀ k, k < n → S.testBit k = true
  | 0, _, k, q => absurd q (by omega)
  | n + 1, e, k, q => by
    have := cntN_le n S
    unfold cntN at e
    by_cases c : S.testBit n = true
    · rw [if_pos c] at e
      by_cases z : k = n
      · rw [z]; exact c
      · exact cntN_full n (by omega) k (by omega)
    · rw [if_neg c] at e; omega
theorem cntN_pos {S k : Nat} (h : S.testBit k = true) {n : Nat} (q : k < n) : 1 ≤ cntN n S := by
  have := cntN_lt (S := 0) (T := S) (fun j hj => by rw [Nat.zero_testBit] at hj; exact absurd hj (by decide)) (by rw [Nat.zero_testBit]; decide) h n q
  omega
variable {D op ea eb}
theorem iterN_sub {F : Nat → Nat} (hF : goodN D op ea eb F) (S : Nat) : ∀ n, subN S (iter (fun _ => F) n S)
  | 0 => fun _ h => h
  | n + 1 => fun k h => (hF _).1 k (iterN_sub hF S n k h)
theorem iterN_in {F : Nat → Nat} (hF : goodN D op ea eb F) {S C : Nat} (hC : closedN D op ea eb C) (h : subN S C) : ∀ n, subN (iter (fun _ => F) n S) C
  | 0 => h
  | n + 1 => (hF _).2.2 C hC (iterN_in hF hC h n)
theorem iterN_closed {F : Nat → Nat} (hF : goodN D op ea eb F) {S Rm : Nat} (hS : ∃ k, k < Rm ∧ S.testBit k = true) (hE : ∀ d, d < D → ea d < Rm ∧ eb d < Rm) : ∀ n, closedN D op ea eb (iter (fun _ => F) n S) ∨ n + 1 ≤ cntN Rm (iter (fun _ => F) n S)
  | 0 => by
    obtain ⟨k, h1, h2⟩ := hS
    exact Or.inr (cntN_pos h2 h1)
  | n + 1 => by
    rcases iterN_closed hF hS hE n with h | h
    · left
      intro d hd ho hx
      have hs := (hF (iter (fun _ => F) n S)).2.2 _ h (fun _ q => q)
      have hb := h d hd ho (hx.imp (hs _) (hs _))
      exact ⟨(hF _).1 _ hb.1, (hF _).1 _ hb.2⟩
    · by_cases c : closedN D op ea eb (iter (fun _ => F) n S)
      · left
        intro d hd ho hx
        have hs := (hF (iter (fun _ => F) n S)).2.2 _ c (fun _ q => q)
        have hb := c d hd ho (hx.imp (hs _) (hs _))
        exact ⟨(hF _).1 _ hb.1, (hF _).1 _ hb.2⟩
      · right
        have : ∃ d, d < D ∧ op d = true ∧ ((iter (fun _ => F) n S).testBit (ea d) = true ∨ (iter (fun _ => F) n S).testBit (eb d) = true) ∧ ¬ ((iter (fun _ => F) n S).testBit (ea d) = true ∧ (iter (fun _ => F) n S).testBit (eb d) = true) := by
          refine Classical.byContradiction (fun q => c ?_)
          intro d hd ho hx
          refine Classical.byContradiction (fun q2 => q ⟨d, hd, ho, hx, q2⟩)
        obtain ⟨d, hd, ho, hx, hy⟩ := this
        obtain ⟨g1, g2, -⟩ := hF (iter (fun _ => F) n S)
        have g2 := g2 d hd ho hx
        have := hE d hd
        show n + 1 + 1 ≤ cntN Rm (F (iter (fun _ => F) n S))
        by_cases q : (iter (fun _ => F) n S).testBit (ea d) = true
        · have hz := cntN_lt g1 (fun z => hy ⟨q, z⟩) g2.2 Rm this.2
          omega
        · have hz := cntN_lt g1 q g2.1 Rm this.1
          omega
theorem iterN_done {F : Nat → Nat} (hF : goodN D op ea eb F) {S Rm n : Nat} (hS : ∃ k, k < Rm ∧ S.testBit k = true) (hE : ∀ d, d < D → ea d < Rm ∧ eb d < Rm) (hn : Rm ≤ n + 1) : closedN D op ea eb (iter (fun _ => F) n S) := by
  rcases iterN_closed hF hS hE n with h | h
  · exact h
  · have := cntN_le Rm (iter (fun _ => F) n S)
    intro d hd _ _
    have hf := cntN_full Rm (by omega : cntN Rm (iter (fun _ => F) n S) = Rm)
    exact ⟨hf _ (hE d hd).1, hf _ (hE d hd).2⟩
theorem iterN_uniq {F G : Nat → Nat} (hF : goodN D op ea eb F) (hG : goodN D op ea eb G) {S Rm n m : Nat} (hS : ∃ k, k < Rm ∧ S.testBit k = true) (hE : ∀ d, d < D → ea d < Rm ∧ eb d < Rm) (hn : Rm ≤ n + 1) (hm : Rm ≤ m + 1) : iter (fun _ => F) n S = iter (fun _ => G) m S := by
  refine Nat.eq_of_testBit_eq (fun k => ?_)
  have h1 := iterN_in hF (iterN_done hG hS hE hm) (iterN_sub hG S m) n k
  have h2 := iterN_in hG (iterN_done hF hS hE hn) (iterN_sub hF S n) m k
  rw [Bool.eq_iff_iff]
  exact ⟨h1, h2⟩
end Clo
