def updF (f : Nat → Nat → Int32) (k : Nat) (g : Nat → Int32) : Nat → Nat → Int32 := fun j => if j = k then g else f j
def updN (f : Nat → Nat) (k : Nat) (v : Nat) : Nat → Nat := fun j => if j = k then v else f j

def LW (cA cZ : ClassId) (q0 : Nat) (u : List Nat) (q1 : Nat) (v : List Nat) (cI : Nat → Int32) (cR : Nat → Nat → Int32) (mN : Nat → Nat) (mI : Nat → Int32) (mR : Nat → Nat → Int32) : va_W := [(q0, .inr (9, [.ref (u.getD 0 0), .ref (u.getD 14 0), .ref (u.getD 15 0), .ref (u.getD 32 0), .ref (u.getD 35 0), .ref (u.getD 44 0), .ref (u.getD 45 0)])), ((u.getD 0 0), .inr (1, [.ref (u.getD 1 0), .ref (u.getD 3 0), .ref (u.getD 5 0), .ref (u.getD 7 0), .ref (u.getD 9 0), .ref (u.getD 11 0), .int (cI 0), .int (cI 1), .int (cI 2), .int (cI 3)])), ((u.getD 1 0), .inr (6, [.ref (u.getD 2 0)])), ((u.getD 2 0), .inl (cA, 12, .inl (cR 0))), ((u.getD 3 0), .inr (6, [.ref (u.getD 4 0)])), ((u.getD 4 0), .inl (cA, 10, .inl (cR 1))), ((u.getD 5 0), .inr (6, [.ref (u.getD 6 0)])), ((u.getD 6 0), .inl (cA, 10, .inl (cR 2))), ((u.getD 7 0), .inr (6, [.ref (u.getD 8 0)])), ((u.getD 8 0), .inl (cA, 10, .inl (cR 3))), ((u.getD 9 0), .inr (6, [.ref (u.getD 10 0)])), ((u.getD 10 0), .inl (cA, 10, .inl (cR 4))), ((u.getD 11 0), .inr (7, [.ref (u.getD 12 0)])), ((u.getD 12 0), .inr (6, [.ref (u.getD 13 0)])), ((u.getD 13 0), .inl (cA, 35, .inl (cR 5))), ((u.getD 14 0), .inr (8, [.ref (u.getD 0 0)])), ((u.getD 15 0), .inr (5, [.ref (u.getD 16 0), .int (cI 4), .int (cI 5), .ref (u.getD 30 0), .int (cI 6), .int (cI 7), .int (cI 8)])), ((u.getD 16 0), .inr (1, [.ref (u.getD 17 0), .ref (u.getD 19 0), .ref (u.getD 21 0), .ref (u.getD 23 0), .ref (u.getD 25 0), .ref (u.getD 27 0), .int (cI 9), .int (cI 10), .int (cI 11), .int (cI 12)])), ((u.getD 17 0), .inr (6, [.ref (u.getD 18 0)])), ((u.getD 18 0), .inl (cA, 12, .inl (cR 6))), ((u.getD 19 0), .inr (6, [.ref (u.getD 20 0)])), ((u.getD 20 0), .inl (cA, 10, .inl (cR 7))), ((u.getD 21 0), .inr (6, [.ref (u.getD 22 0)])), ((u.getD 22 0), .inl (cA, 10, .inl (cR 8))), ((u.getD 23 0), .inr (6, [.ref (u.getD 24 0)])), ((u.getD 24 0), .inl (cA, 10, .inl (cR 9))), ((u.getD 25 0), .inr (6, [.ref (u.getD 26 0)])), ((u.getD 26 0), .inl (cA, 10, .inl (cR 10))), ((u.getD 27 0), .inr (7, [.ref (u.getD 28 0)])), ((u.getD 28 0), .inr (6, [.ref (u.getD 29 0)])), ((u.getD 29 0), .inl (cA, 35, .inl (cR 11))), ((u.getD 30 0), .inr (6, [.ref (u.getD 31 0)])), ((u.getD 31 0), .inl (cA, 240, .inl (cR 12))), ((u.getD 32 0), .inr (4, [.ref (u.getD 33 0), .int (cI 13), .int (cI 14)])), ((u.getD 33 0), .inr (6, [.ref (u.getD 34 0)])), ((u.getD 34 0), .inl (cA, 1050, .inl (cR 13))), ((u.getD 35 0), .inr (3, [.ref (u.getD 36 0), .ref (u.getD 38 0), .ref (u.getD 40 0), .ref (u.getD 42 0), .int (cI 15), .int (cI 16)])), ((u.getD 36 0), .inr (6, [.ref (u.getD 37 0)])), ((u.getD 37 0), .inl (cA, 6, .inl (cR 14))), ((u.getD 38 0), .inr (6, [.ref (u.getD 39 0)])), ((u.getD 39 0), .inl (cA, 6, .inl (cR 15))), ((u.getD 40 0), .inr (6, [.ref (u.getD 41 0)])), ((u.getD 41 0), .inl (cA, 20, .inl (cR 16))), ((u.getD 42 0), .inr (6, [.ref (u.getD 43 0)])), ((u.getD 43 0), .inl (cA, 20, .inl (cR 17))), ((u.getD 44 0), .inr (0, [.int (cI 17)])), ((u.getD 45 0), .inr (2, [.ref (u.getD 46 0), .ref (u.getD 48 0), .ref (u.getD 50 0)])), ((u.getD 46 0), .inr (6, [.ref (u.getD 47 0)])), ((u.getD 47 0), .inl (cA, 70, .inl (cR 18))), ((u.getD 48 0), .inr (6, [.ref (u.getD 49 0)])), ((u.getD 49 0), .inl (cA, 2, .inl (cR 19))), ((u.getD 50 0), .inr (6, [.ref (u.getD 51 0)])), ((u.getD 51 0), .inl (cA, 2, .inl (cR 20))), (q1, .inr (10, [.int (nI (mN 0)), .ref (v.getD 0 0), .int (nI (mN 1)), .int (nI (mN 2)), .int (mI 0), .int (mI 1), .int (nI (mN 3)), .int (mI 2), .int (mI 3), .int (mI 4), .int (mI 5), .int (nI (mN 4)), .int (nI (mN 5)), .int (nI (mN 6)), .ref (v.getD 1 0), .ref (v.getD 2 0), .ref (v.getD 3 0), .int (mI 6), .int (nI (mN 7)), .int (nI (mN 8)), .int (nI (mN 9)), .ref (v.getD 4 0), .ref (v.getD 5 0), .ref (v.getD 6 0), .ref (v.getD 7 0), .ref (v.getD 8 0), .int (nI (mN 10)), .ref (v.getD 9 0), .ref (v.getD 10 0), .ref (v.getD 11 0), .int (mI 7), .int (nI (mN 11)), .ref (v.getD 12 0), .int (nI (mN 12)), .ref (v.getD 13 0)])), ((v.getD 0 0), .inl (cA, 240, .inl (mR 0))), ((v.getD 1 0), .inl (cA, 12, .inl (mR 1))), ((v.getD 2 0), .inl (cA, 40, .inl (mR 2))), ((v.getD 3 0), .inl (cA, 12, .inl (mR 3))), ((v.getD 4 0), .inl (cA, 12, .inl (mR 4))), ((v.getD 5 0), .inl (cA, 40, .inl (mR 5))), ((v.getD 6 0), .inl (cA, 35, .inl (mR 6))), ((v.getD 7 0), .inl (cA, 35, .inl (mR 7))), ((v.getD 8 0), .inl (cA, 1050, .inl (mR 8))), ((v.getD 9 0), .inl (cA, 70, .inl (mR 9))), ((v.getD 10 0), .inl (cA, 2, .inl (mR 10))), ((v.getD 11 0), .inl (cZ, 2, .inl (mR 11))), ((v.getD 12 0), .inl (cA, 12, .inl (mR 12))), ((v.getD 13 0), .inl (cA, 40, .inl (mR 13)))]
/-! the relation between the class's state and the model's -/
/-- a row of the class (35 cells) and a row of the model tell the same: D doors, P persons, Rm rooms -/
def okNow (D P Rm : Nat) (f g : Nat → Int32) : Prop :=
  (∃ h, h ≤ 90030 ∧ g 1 = nI h ∧ f 32 = nI h) ∧ (∃ t, t ≤ 999 ∧ g 0 = nI t ∧ f 33 = nI t) ∧ f 34 = g 2 ∧
  (∀ d, d < D → (∃ t, t ≤ 9 ∧ g (3 + d) = nI t ∧ f d = nI t) ∧ f (10 + d) = g (13 + d)) ∧
  (∀ p, p < P → (∃ a, a < Rm ∧ g (23 + p) = nI a ∧ f (20 + p) = nI a) ∧ (∃ w, w ≤ 18 ∧ g (29 + p) = nI w ∧ f (26 + p) = nI w - nI 9))
def RText (lc : Int32) (tc : Nat → Int32) (L : Nat) (tm : Nat → Int32) : Prop := lc = nI L ∧ L ≤ 240 ∧ ∀ j, j < L → tc j = tm j ∧ ∃ t, t ≤ 255 ∧ tm j = nI t
def RHouse (ro rn dn pn : Int32) (rf dA dB dS dO : Nat → Int32) (rm : Int32) (Rn D P : Nat) (ra dr : Nat → Int32) : Prop :=
  (ro = rm ∧ rm = nI rm.toNatClampNeg ∧ rm.toNatClampNeg ≤ 8 ∧ rn = nI Rn ∧ Rn ≤ 12 ∧ dn = nI D ∧ D ≤ 10 ∧ pn = nI P ∧ P ≤ 6 ∧ (rm.toNatClampNeg = 0 → D = 0 ∧ P = 0 ∧ Rn = 0)) ∧
  (∀ j, j < Rn → rf j = ra j ∧ ∃ t, t ≤ 3 ∧ ra j = nI t) ∧
  (∀ d, d < D → ∃ a b o, a < rm.toNatClampNeg ∧ b < rm.toNatClampNeg ∧ a ≠ b ∧ o ≤ 1 ∧ dr (4 * d) = nI a ∧ dA d = nI a ∧ dr (4 * d + 1) = nI b ∧ dB d = nI b ∧ dr (4 * d + 3) = nI o ∧ dO d = nI o ∧ dS d = (1 <<< (nI a &&& 31)) ||| (1 <<< (nI b &&& 31)))
def RPast (D P Rm : Nat) (nx ct : Int32) (sh : Nat → Int32) (B : Nat) (bo : Nat → Int32) : Prop :=
  (ct = nI B ∧ B ≤ 30 ∧ nx = nI nx.toNatClampNeg ∧ nx.toNatClampNeg < 30) ∧ ∀ k, k < B → okNow D P Rm (fun j => sh (35 * ((nx.toNatClampNeg + 29 - k) % 30) + j)) (fun j => bo (35 * (B - 1 - k) + j))
def RImg (D P Rm : Nat) (sc kc shc : Nat → Int32) (im sm km : Nat → Int32) : Prop :=
  ∀ i, i < 2 → kc i = km i ∧ (km i = 0 ∨ km i = 1) ∧ (km i = 1 → sc i = sm i ∧ sm i = nI (sm i).toNatClampNeg ∧ okNow D P Rm (fun j => shc (35 * i + j)) (fun j => im (35 * i + j)))
def RNotes (D : Nat) (sc ec : Int32) (ss st bd bs : Nat → Int32) (S E : Nat) (si en : Nat → Int32) : Prop :=
  (sc = nI S ∧ S ≤ 6 ∧ ec = nI E ∧ E ≤ 20) ∧ (∀ k, k < S → (∃ t, t ≤ 9 ∧ si (2 * k) = nI t) ∧ ss k = si (2 * k) ∧ st k = si (2 * k + 1) ∧ (si (2 * k + 1) = 0 ∨ si (2 * k + 1) = 1)) ∧
  (∀ k, k < E → (∃ t, t < D ∧ en (2 * k) = nI t) ∧ bd k = en (2 * k) ∧ bs k = en (2 * k + 1))
def Rel (cI : Nat → Int32) (cR : Nat → Nat → Int32) (mN : Nat → Nat) (mI : Nat → Int32) (mR : Nat → Nat → Int32) : Prop :=
  RText (cI 4) (cR 12) (mN 0) (mR 0) ∧ cI 5 = mI 2 ∧
  RHouse (cI 0) (cI 1) (cI 2) (cI 3) (cR 0) (cR 1) (cR 2) (cR 3) (cR 4) (mI 6) (mN 7) (mN 8) (mN 9) (mR 4) (mR 5) ∧
  okNow (mN 8) (mN 9) (mI 6).toNatClampNeg (cR 5) (mR 6) ∧
  RPast (mN 8) (mN 9) (mI 6).toNatClampNeg (cI 13) (cI 14) (cR 13) (mN 10) (mR 8) ∧
  RImg (mN 8) (mN 9) (mI 6).toNatClampNeg (cR 19) (cR 20) (cR 18) (mR 9) (mR 10) (mR 11) ∧
  RNotes (mN 8) (cI 15) (cI 16) (cR 14) (cR 15) (cR 16) (cR 17) (mN 11) (mN 12) (mR 12) (mR 13) ∧
  (cI 17 = mI 7 ∧ mI 7 = nI (mI 7).toNatClampNeg)
section RelAcc
variable {cI : Nat → Int32} {cR : Nat → Nat → Int32} {mN : Nat → Nat} {mI : Nat → Int32} {mR : Nat → Nat → Int32}
theorem Rel.text (h : Rel cI cR mN mI mR) : RText (cI 4) (cR 12) (mN 0) (mR 0) := h.1
theorem Rel.fault (h : Rel cI cR mN mI mR) : cI 5 = mI 2 := h.2.1
theorem Rel.house (h : Rel cI cR mN mI mR) : RHouse (cI 0) (cI 1) (cI 2) (cI 3) (cR 0) (cR 1) (cR 2) (cR 3) (cR 4) (mI 6) (mN 7) (mN 8) (mN 9) (mR 4) (mR 5) := h.2.2.1
theorem Rel.now (h : Rel cI cR mN mI mR) : okNow (mN 8) (mN 9) (mI 6).toNatClampNeg (cR 5) (mR 6) := h.2.2.2.1
theorem Rel.past (h : Rel cI cR mN mI mR) : RPast (mN 8) (mN 9) (mI 6).toNatClampNeg (cI 13) (cI 14) (cR 13) (mN 10) (mR 8) := h.2.2.2.2.1
theorem Rel.img (h : Rel cI cR mN mI mR) : RImg (mN 8) (mN 9) (mI 6).toNatClampNeg (cR 19) (cR 20) (cR 18) (mR 9) (mR 10) (mR 11) := h.2.2.2.2.2.1
theorem Rel.notes (h : Rel cI cR mN mI mR) : RNotes (mN 8) (cI 15) (cI 16) (cR 14) (cR 15) (cR 16) (cR 17) (mN 11) (mN 12) (mR 12) (mR 13) := h.2.2.2.2.2.2.1
theorem Rel.seed (h : Rel cI cR mN mI mR) : cI 17 = mI 7 ∧ mI 7 = nI (mI 7).toNatClampNeg := h.2.2.2.2.2.2.2
theorem Rel.hL (h : Rel cI cR mN mI mR) : mN 0 ≤ 240 := h.text.2.1
theorem Rel.hD (h : Rel cI cR mN mI mR) : mN 8 ≤ 10 := h.house.1.2.2.2.2.2.2.1
theorem Rel.hPn (h : Rel cI cR mN mI mR) : mN 9 ≤ 6 := h.house.1.2.2.2.2.2.2.2.2.1
theorem Rel.hRn (h : Rel cI cR mN mI mR) : mN 7 ≤ 12 := h.house.1.2.2.2.2.1
theorem Rel.hB (h : Rel cI cR mN mI mR) : mN 10 ≤ 30 := h.past.1.2.1
theorem Rel.hH (h : Rel cI cR mN mI mR) : hoursOK (mR 6) 100000 := by
  obtain ⟨t, h1, h2, -⟩ := h.now.1
  unfold hoursOK
  rw [h2, nI_clamp (by omega)]
  exact ⟨rfl, by omega⟩
theorem Rel.hSeen (h : Rel cI cR mN mI mR) : mN 11 ≤ 6 := h.notes.1.2.1
theorem Rel.hEnt (h : Rel cI cR mN mI mR) : mN 12 ≤ 20 := h.notes.1.2.2.2
theorem Rel.hSeed (h : Rel cI cR mN mI mR) : mI 7 = nI (mI 7).toNatClampNeg := h.seed.2
theorem Rel.hE (h : Rel cI cR mN mI mR) : ∀ k, k < mN 12 → mR 13 (2 * k) = nI (mR 13 (2 * k)).toNatClampNeg ∧ (mR 13 (2 * k)).toNatClampNeg < 10 := by
  intro k hk
  obtain ⟨⟨t, h1, h2⟩, -⟩ := h.notes.2.2 k hk
  have := h.hD
  rw [h2, nI_clamp (by omega)]
  exact ⟨rfl, by omega⟩
end RelAcc
def cI0 : Nat → Int32 := fun j => if j = 5 then -1 else 0
def cR0 : Nat → Nat → Int32 := fun _ _ => 0
def mN0 : Nat → Nat := fun _ => 0
def mI0 : Nat → Int32 := fun j => if j = 2 then -1 else 0
theorem rel0 : Rel cI0 cR0 mN0 mI0 cR0 := by
  have e0 : (mI0 6).toNatClampNeg = 0 := rfl
  refine ⟨⟨rfl, Nat.zero_le _, fun j h => absurd h (Nat.not_lt_zero _)⟩, rfl, ⟨⟨rfl, rfl, by rw [e0]; omega, rfl, Nat.zero_le _, rfl, Nat.zero_le _, rfl, Nat.zero_le _, fun _ => ⟨rfl, rfl, rfl⟩⟩, fun j h => absurd h (Nat.not_lt_zero _), fun j h => absurd h (Nat.not_lt_zero _)⟩, ⟨⟨0, Nat.zero_le _, rfl, rfl⟩, ⟨0, Nat.zero_le _, rfl, rfl⟩, rfl, fun j h => absurd h (Nat.not_lt_zero _), fun j h => absurd h (Nat.not_lt_zero _)⟩, ⟨⟨rfl, Nat.zero_le _, rfl, Nat.lt_of_sub_eq_succ rfl⟩, fun j h => absurd h (Nat.not_lt_zero _)⟩, fun i _ => ⟨rfl, Or.inl rfl, fun h => absurd (show (0 : Int32) = 1 from h) (by decide)⟩, ⟨⟨rfl, Nat.zero_le _, rfl, Nat.zero_le _⟩, fun j h => absurd h (Nat.not_lt_zero _), fun j h => absurd h (Nat.not_lt_zero _)⟩, rfl, rfl⟩
theorem nv_sld {p : Program} {l : Launch} {e : Env} {R : Room} {s : State} {m : MethodId} {args : Array Value} {below : List Frame} {meth : Method} {c : Code} {H : Heap} {locs : List Loc} {cells slots : Nat} {Q : State → Prop} {pc : Nat} {ls : Array Slot} {rest : List Value} {A : Nat → Prop} {cc : ByteArray} {H0 : Heap} {b L : Nat} {xs : Nat → Int32} {i : Nat} (hexec : p.tables.exec = Jvm.exec) (hb : c.code = cc) (hX : va_X b L xs s H0) (hbl : b < H0.size) (hbA : ¬ A b) (hS : va_S A H0 H locs) (hi : i < L) (hL : L < 2147483648) (hdg : decode cc pc = .ok (.iaload, 1))
    (kk : W p l e R s m args below meth c H locs cells slots Q (F0 m (pc + 1) ls (.int (xs i) :: rest))) : W p l e R s m args below meth c H locs cells slots Q (F0 m pc ls (.int (nI i) :: .ref b :: rest)) := va_sld hexec hb hX hbl hbA hS (vp_in_nI hi hL) hdg (by rw [nI_clamp (by omega)]; exact kk)
theorem lw_gt {L j : Nat} (hL : L ≤ 2048) (hj : j ≤ 4096) : (Int32.ofNat L - nI 4 < nI j) ↔ L < j + 4 := by
  show (nI L - nI 4 < nI j) ↔ _
  rw [Int32.lt_iff_toInt_lt, pk_sub_toInt (by omega) (by omega), nI_toInt (by omega)]
  omega
