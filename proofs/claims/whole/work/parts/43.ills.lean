/-! pure: the ills that fit what was seen -/
set_option maxRecDepth 100000 in
theorem compl10 : ∀ S, S < 1024 → nI 1023 &&& (nI S ^^^ (-1 : Int32)) = nI (2 ^ 10 - (S + 1)) := by decide +kernel
set_option maxRecDepth 100000 in
theorem bitCount_n : ∀ S, S < 1024 → mJ6_bitCount_0f7a4 (nI S) = nI (cntN 10 S) := by decide +kernel
def allN (c : Nat → Bool) : Nat → Bool
  | 0 => true
  | n + 1 => allN c n && c n
def stopN (t : Int32) (k : Nat) : Bool := decide (¬ mX10_stopsBy t (nI k) = 0)
def fitN (si : Nat → Int32) (j k : Nat) : Bool := if si (2 * j + 1) = 1 then stopN (si (2 * j)) k else !stopN (si (2 * j)) k
theorem stopsBy_01 {s i : Nat} (hs : s ≤ 1000) (hi : i ≤ 1000) : mX10_stopsBy (nI s) (nI i) = 0 ∨ mX10_stopsBy (nI s) (nI i) = 1 := by
  by_cases c : stp s i
  · exact Or.inr (stopsBy_pos hs hi c)
  · exact Or.inl (stopsBy_neg hs hi c)
theorem stoppedIlls_n {t : Nat} (ht : t ≤ 9) : mX3_stoppedIlls (nI t) = nI (setN (stopN (nI t)) 10) := by
  unfold mX3_stoppedIlls
  refine iter_set (fun k hk y => ?_)
  unfold mX3_stoppedIlls_l4 stopN
  rw [hold_eq (by omega) (by omega), onlyC (by omega)]
  by_cases c : mX10_stopsBy (nI t) (nI k) = 0
  · rw [if_pos c, if_neg (by simpa using c)]
  · rw [if_neg c, if_pos (by simpa using c)]
theorem setN_and (c e : Nat → Bool) (n : Nat) : setN c n &&& setN e n = setN (fun k => c k && e k) n := by
  refine Nat.eq_of_testBit_eq (fun i => ?_)
  rw [Nat.testBit_and, setN_bit, setN_bit, setN_bit]
  by_cases q : i < n
  · simp [q]
  · simp [q]
theorem setN_congr {c e : Nat → Bool} {n : Nat} (h : ∀ k, k < n → c k = e k) : setN c n = setN e n := by
  refine Nat.eq_of_testBit_eq (fun i => ?_)
  rw [setN_bit, setN_bit]
  by_cases q : i < n
  · rw [h i q]
  · simp [q]
theorem setN_andc (c e : Nat → Bool) : nI (setN c 10) &&& (nI (setN e 10) ^^^ (-1 : Int32)) = nI (setN (fun k => c k && !e k) 10) := by
  have h1 : setN c 10 &&& 1023 = setN c 10 := by
    have := Nat.and_two_pow_sub_one_eq_mod (setN c 10) 10
    rw [show (2 : Nat) ^ 10 - 1 = 1023 from rfl] at this
    rw [this, Nat.mod_eq_of_lt (setN_lt c 10)]
  have h2 : nI (setN c 10) = nI (setN c 10) &&& nI 1023 := by rw [nI_and, h1]
  rw [h2, Int32.and_assoc, compl10 _ (setN_lt e 10), nI_and, setN_compl e (fun k => !e k) 10 (fun _ => rfl), setN_and]
section Ills
variable {S : Nat} {ss st si : Nat → Int32}
def illsN (S : Nat) (si : Nat → Int32) : Nat := setN (fun k => allN (fun j => fitN si j k) S) 10
theorem fitting_n (hS : S ≤ 6) (h : ∀ k, k < S → (∃ t, t ≤ 9 ∧ si (2 * k) = nI t) ∧ ss k = si (2 * k) ∧ st k = si (2 * k + 1) ∧ (si (2 * k + 1) = 0 ∨ si (2 * k + 1) = 1)) : mX3_fittingIlls (nI S) ss st = nI (illsN S si) := by
  unfold mX3_fittingIlls illsN
  rw [clamp_nI (by omega)]
  have : ∀ n, n ≤ S → iter (mX3_fittingIlls_l10 ss st) n (mX9_only 10 - 1) = nI (setN (fun k => allN (fun j => fitN si j k) n) 10) := by
    intro n
    induction n with
    | zero => intro _; exact (by decide +kernel : mX9_only 10 - 1 = nI (setN (fun _ => true) 10))
    | succ n ih =>
      intro hn
      show mX3_fittingIlls_l10 ss st n (iter (mX3_fittingIlls_l10 ss st) n (mX9_only 10 - 1)) = _
      rw [ih (by omega)]
      obtain ⟨⟨t, ht, t1⟩, t2, t3, t4⟩ := h n (by omega)
      unfold mX3_fittingIlls_l10
      rw [get_nat (by omega) (by omega), get_nat (by omega) (by omega), t2, t3, t1, stoppedIlls_n ht]
      by_cases c : si (2 * n + 1) = 1
      · rw [if_pos c, nI_and, setN_and]
        congr 1
        refine setN_congr (fun k _ => ?_)
        show _ = (allN (fun j => fitN si j k) n && fitN si n k)
        unfold fitN
        rw [if_pos c, t1]
      · rw [if_neg c, setN_andc]
        congr 1
        refine setN_congr (fun k _ => ?_)
        show _ = (allN (fun j => fitN si j k) n && fitN si n k)
        have e : fitN si n k = !stopN (si (2 * n)) k := by unfold fitN; rw [if_neg c]
        rw [e, t1]
  exact this S (Nat.le_refl _)
theorem ills_n (hS : S ≤ 6) (h : ∀ k, k < S → (∃ t, t ≤ 9 ∧ si (2 * k) = nI t) ∧ ss k = si (2 * k) ∧ st k = si (2 * k + 1) ∧ (si (2 * k + 1) = 0 ∨ si (2 * k + 1) = 1)) : mX10_ills S si = nI (illsN S si) := by
  unfold mX10_ills illsN
  refine iter_set (fun k hk y => ?_)
  have : ∀ n, n ≤ S → iter (mX10_ills_l15 si k) n (nI 1) = if allN (fun j => fitN si j k) n then nI 1 else nI 0 := by
    intro n
    induction n with
    | zero => intro _; rfl
    | succ n ih =>
      intro hn
      show mX10_ills_l15 si k n (iter (mX10_ills_l15 si k) n (nI 1)) = if (allN (fun j => fitN si j k) n && fitN si n k) then nI 1 else nI 0
      rw [ih (by omega)]
      obtain ⟨⟨t, ht, t1⟩, t2, t3, t4⟩ := h n (by omega)
      by_cases c : allN (fun j => fitN si j k) n = true
      · rw [if_pos c, c, Bool.true_and]
        unfold mX10_ills_l15 fitN stopN
        rw [if_neg (show ¬ nI 1 = 0 from one_ne0), t1]
        rcases stopsBy_01 (s := t) (i := k) (by omega) (by omega) with q | q
        · rw [q]
          by_cases c2 : si (2 * n + 1) = 1
          · rw [if_pos (show si (2 * n + 1) = nI 1 from c2), if_pos c2]; rfl
          · rw [if_neg (show ¬ si (2 * n + 1) = nI 1 from c2), if_neg c2]; rfl
        · rw [q]
          by_cases c2 : si (2 * n + 1) = 1
          · rw [if_pos (show si (2 * n + 1) = nI 1 from c2), if_pos c2]; rfl
          · rw [if_neg (show ¬ si (2 * n + 1) = nI 1 from c2), if_neg c2]; rfl
      · rw [if_neg c]
        rw [Bool.not_eq_true] at c
        rw [c, Bool.false_and]
        rfl
  unfold mX10_ills_l4
  rw [this S (Nat.le_refl _), show nI 1 <<< (nI k &&& 31) = nI (2 ^ k) from only_n k (by omega)]
  by_cases c : allN (fun j => fitN si j k) S = true
  · rw [if_pos c, if_pos c, if_neg (show ¬ nI 1 = 0 from one_ne0)]
  · rw [if_neg c, if_neg c, if_pos (show nI 0 = 0 from rfl), show nI 0 = (0 : Int32) from rfl, Int32.or_zero]
end Ills
theorem st_ills {cI : Nat → Int32} {cR : Nat → Nat → Int32} {mN : Nat → Nat} {mI : Nat → Int32} {mR : Nat → Nat → Int32} (h : Rel cI cR mN mI mR) : (mX9_ills (cI 15) (cR 14) (cR 15)) = (mX10_ills (mN 11) (mR 12)) := by
  obtain ⟨⟨n1, n2, n3, n4⟩, n5, n6⟩ := h.notes
  unfold mX9_ills
  rw [n1, fitting_n n2 n5, ills_n n2 n5]
theorem iter_cnt {f : Nat → Int32 → Int32} {S : Nat} : ∀ {n : Nat}, (∀ k, k < n → ∀ y, f k y = if S.testBit k then y + nI 1 else y) → iter f n (nI 0) = nI (cntN n S)
  | 0, _ => rfl
  | n + 1, hf => by
    show f n (iter f n (nI 0)) = nI (cntN n S + if S.testBit n then 1 else 0)
    rw [iter_cnt (n := n) (fun k hk => hf k (by omega)), hf n (by omega)]
    split
    · rw [nI_add]
    · rfl
theorem st_lookAt {cI : Nat → Int32} {cR : Nat → Nat → Int32} {mN : Nat → Nat} {mI : Nat → Int32} {mR : Nat → Nat → Int32} (h : Rel cI cR mN mI mR) : (mX9_lookAt (cI 15) (cR 14) (cR 15)) = (mX10_lookAt (mN 11) (mR 12)) := by
  obtain ⟨⟨n1, n2, n3, n4⟩, n5, n6⟩ := h.notes
  have hlt : illsN (mN 11) (mR 12) < 1024 := setN_lt _ 10
  unfold mX9_lookAt mX3_bestLook mX10_lookAt
  dsimp only
  have ht : iter (mX10_lookAt_l9 (mN 11) (mR 12)) 10 (nI 0) = nI (cntN 10 (illsN (mN 11) (mR 12))) := by
    refine iter_cnt (fun k hk y => ?_)
    unfold mX10_lookAt_l9
    rw [ills_n n2 n5, pk_shrN (by omega) _ k (smod_n k (by omega)), ← Nat.shiftRight_eq_div_pow, nI_and, bit_and1]
    split
    · rfl
    · rw [show nI 0 = (0 : Int32) from rfl, Int32.add_zero]
  rw [n1, fitting_n n2 n5, bitCount_n _ hlt, ht]
  rw [iter_congr (f := mX3_bestLook_l18 (nI (mN 11)) (cR 14) (cR 15)) (g := mX10_lookAt_l37 (mN 11) (mR 12))]
  intro k hk s
  have hlt2 : illsN (mN 11) (mR 12) &&& setN (stopN (nI k)) 10 < 1024 := Nat.lt_of_le_of_lt Nat.and_le_left hlt
  have hc : iter (mX10_lookAt_l50 (mN 11) (mR 12) k) 10 (nI 0) = nI (cntN 10 (illsN (mN 11) (mR 12) &&& setN (stopN (nI k)) 10)) := by
    refine iter_cnt (fun i hi y => ?_)
    unfold mX10_lookAt_l50
    rw [ills_n n2 n5, has_inSet, inSet_n (by omega) (by omega), Nat.testBit_and, setN_bit]
    simp only [hi, decide_true, Bool.true_and]
    have z : y + nI 0 = y := by rw [show nI 0 = (0 : Int32) from rfl, Int32.add_zero]
    rw [z]
    by_cases c : (illsN (mN 11) (mR 12)).testBit i = true
    · rw [c, if_pos rfl, if_neg one_ne0, Bool.true_and]
      unfold stopN
      by_cases c2 : mX10_stopsBy (nI k) (nI i) = 0
      · rw [if_pos c2, if_neg (by simpa using c2)]
      · rw [if_neg c2, if_pos (by simpa using c2)]
    · rw [if_neg c, if_pos rfl]
      rw [Bool.not_eq_true] at c
      rw [c, Bool.false_and, if_neg (by decide)]
  have hle : cntN 10 (illsN (mN 11) (mR 12) &&& setN (stopN (nI k)) 10) ≤ cntN 10 (illsN (mN 11) (mR 12)) := cntN_mono (fun i q => by
    rw [Nat.testBit_and, Bool.and_eq_true] at q; exact q.1) 10
  have h10 := cntN_le 10 (illsN (mN 11) (mR 12))
  unfold mX3_bestLook_l18 mX10_lookAt_l37
  rw [fitting_n n2 n5, stoppedIlls_n (by omega), nI_and, bitCount_n _ hlt, bitCount_n _ hlt2, hc, ht]
  generalize cntN 10 (illsN (mN 11) (mR 12) &&& setN (stopN (nI k)) 10) = a at hle
  generalize cntN 10 (illsN (mN 11) (mR 12)) = b at hle h10
  rw [pk_sub hle, max_n (by omega) (by omega)]
  by_cases c : a ≤ b - a
  · rw [if_pos ((nI_leI (by omega) (by omega)).mpr c), Nat.max_eq_right c]
    split
    · rfl
    · rfl
  · rw [if_neg (fun q => c ((nI_leI (by omega) (by omega)).mp q)), Nat.max_eq_left (by omega)]
    split
    · rfl
    · rfl
