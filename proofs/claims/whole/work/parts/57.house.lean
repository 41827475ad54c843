/-! pure: the text becomes the house -/
theorem copyFrom_n {n k : Nat} {src dst : Nat → Int32} (hn : n < 1000000) (h : k < n) : mX6_copyFrom n n src dst k = src k := by
  unfold mX6_copyFrom mX6_copyCells
  rw [clamp_nI (by omega), show (0 : Int32) = nI 0 from rfl, copyCells_at n (by omega) (by omega) hn hn, if_pos (by omega), show 0 + (k - 0) = k by omega]
theorem l91_at {g : Nat → Int32} : ∀ n k, (iter mX10_house_l91 n g) k = if k < n then 0 else g k := by
  intro n
  induction n with
  | zero => intro k; rw [if_neg (by omega)]; rfl
  | succ n ih =>
    intro k
    show upd (iter mX10_house_l91 n g) n (nI 0) k = _
    by_cases c : k = n
    · subst c; rw [pk_us, if_pos (by omega)]; rfl
    · rw [pk_un c, ih k]
      by_cases q : k < n
      · rw [if_pos q, if_pos (by omega)]
      · rw [if_neg q, if_neg (by omega)]
section Hs
variable {u : Int32 × Nat × Nat × Int32 × Int32 × Nat × Int32 × Int32 × Int32 × Int32 × Nat × Nat × Nat × (Nat → Int32) × (Nat → Int32) × (Nat → Int32)} {rd rp door g : Nat → Int32}
theorem l122_at (hu : u.2.2.2.2.2.2.2.2.2.2.2.2.2.1 = rd) : ∀ n k, n ≤ 10 → (iter (mX10_house_l122 door u) n g) k = if 3 ≤ k ∧ k < 3 + n then rd (4 * (k - 3) + 2) else g k := by
  intro n
  induction n with
  | zero => intro k _; rw [if_neg (by omega)]; rfl
  | succ n ih =>
    intro k hn
    show upd (iter (mX10_house_l122 door u) n g) (3 + n) (mX10_bring u.2.2.2.2.2.2.2.2.2.2.2.2.2.1 door 0 0 40 (4 * n + 2)) k = _
    by_cases c : k = 3 + n
    · subst c
      rw [pk_us, if_pos (by omega), bring_n, if_pos (by omega), hu, show 0 + (4 * n + 2 - 0) = 4 * (3 + n - 3) + 2 by omega]
    · rw [pk_un c, ih k (by omega)]
      by_cases q : 3 ≤ k ∧ k < 3 + n
      · rw [if_pos q, if_pos (by omega)]
      · rw [if_neg q, if_neg (by omega)]
theorem l156_at (hu : u.2.2.2.2.2.2.2.2.2.2.2.2.2.2.1 = rp) : ∀ n k, n ≤ 6 → (iter (mX10_house_l156 u) n g) k = if 23 ≤ k ∧ k < 23 + n then rp (2 * (k - 23)) else (if 29 ≤ k ∧ k < 29 + n then rp (2 * (k - 29) + 1) else g k) := by
  intro n
  induction n with
  | zero => intro k _; rw [if_neg (by omega), if_neg (by omega)]; rfl
  | succ n ih =>
    intro k hn
    show upd (upd (iter (mX10_house_l156 u) n g) (23 + n) (u.2.2.2.2.2.2.2.2.2.2.2.2.2.2.1 (2 * n))) (29 + n) (u.2.2.2.2.2.2.2.2.2.2.2.2.2.2.1 (2 * n + 1)) k = _
    by_cases c : k = 29 + n
    · subst c
      rw [pk_us, if_neg (by omega), if_pos (by omega), hu, show 29 + n - 29 = n by omega]
    · rw [pk_un c]
      by_cases c2 : k = 23 + n
      · subst c2
        rw [pk_us, if_pos (by omega), hu, show 23 + n - 23 = n by omega]
      · rw [pk_un c2, ih k (by omega)]
        by_cases q : 23 ≤ k ∧ k < 23 + n
        · rw [if_pos q, if_pos (by omega)]
        · have q' : ¬ (23 ≤ k ∧ k < 23 + (n + 1)) := by omega
          rw [if_neg q, if_neg q']
          by_cases q2 : 29 ≤ k ∧ k < 29 + n
          · have q3 : 29 ≤ k ∧ k < 29 + (n + 1) := by omega
            rw [if_pos q2, if_pos q3]
          · have q3 : ¬ (29 ≤ k ∧ k < 29 + (n + 1)) := by omega
            rw [if_neg q2, if_neg q3]
theorem RD.now_ok {Rm Rn D P : Nat} {st : Int32} {rf dA dB dS dO now rr v0 f0 : Nat → Int32} (h : RD Rm Rn D P st rf dA dB dS dO now rr rd rp) (hu1 : u.2.2.2.2.2.2.2.2.2.2.2.2.2.1 = rd) (hu2 : u.2.2.2.2.2.2.2.2.2.2.2.2.2.2.1 = rp) :
    okNow D P Rm (mX7_copyFrom now f0) (iter (mX10_house_l156 u) P (iter (mX10_house_l122 door u) D (upd (iter mX10_house_l91 35 v0) 0 st))) := by
  obtain ⟨⟨h1, h2, h3⟩, h4, h5, h6, h7, ⟨t, ht, t1, t2⟩, h9, h10, h11⟩ := h
  have hc : ∀ k, k < 35 → mX7_copyFrom now f0 k = now k := fun k hk => copyFrom_n (by omega) hk
  refine ⟨⟨0, by omega, ?_, ?_⟩, ⟨t, ht, ?_, ?_⟩, ?_, fun d hd => ⟨?_, ?_⟩, fun p hp => ⟨?_, ?_⟩⟩
  · rw [l156_at hu2 _ _ h3, if_neg (by omega), if_neg (by omega), l122_at hu1 _ _ h2, if_neg (by omega), pk_un (by omega), l91_at, if_pos (by omega)]; rfl
  · rw [hc _ (by omega), h9]; rfl
  · rw [l156_at hu2 _ _ h3, if_neg (by omega), if_neg (by omega), l122_at hu1 _ _ h2, if_neg (by omega), pk_us, t1]
  · rw [hc _ (by omega), t2]
  · rw [hc _ (by omega), h10, l156_at hu2 _ _ h3, if_neg (by omega), if_neg (by omega), l122_at hu1 _ _ h2, if_neg (by omega), pk_un (by omega), l91_at, if_pos (by omega)]
  · obtain ⟨s, hs, s1, s2⟩ := h6 d hd
    refine ⟨s, hs, ?_, by rw [hc _ (by omega), s2]⟩
    rw [l156_at hu2 _ _ h3, if_neg (by omega), if_neg (by omega), l122_at hu1 _ _ h2, if_pos (by omega), show 4 * (3 + d - 3) + 2 = 4 * d + 2 by omega, s1]
  · rw [hc _ (by omega), h11 d (by omega), l156_at hu2 _ _ h3, if_neg (by omega), if_neg (by omega), l122_at hu1 _ _ h2, if_neg (by omega), pk_un (by omega), l91_at, if_pos (by omega)]
  · obtain ⟨⟨a, ha, a1, a2⟩, w, hw, w1, w2⟩ := h7 p hp
    refine ⟨a, ha, ?_, by rw [hc _ (by omega), a2]⟩
    rw [l156_at hu2 _ _ h3, if_pos (by omega), show 23 + p - 23 = p by omega, a1]
  · obtain ⟨⟨a, ha, a1, a2⟩, w, hw, w1, w2⟩ := h7 p hp
    refine ⟨w, hw, ?_, by rw [hc _ (by omega), w2]⟩
    rw [l156_at hu2 _ _ h3, if_neg (by omega), if_pos (by omega), show 29 + p - 29 = p by omega, w1]
end Hs
theorem RD.house_ok {Rm Rn D P : Nat} {st : Int32} {rf dA dB dS dO now rr rd rp rf0 dA0 dB0 dS0 dO0 ra0 dr0 : Nat → Int32} (h : RD Rm Rn D P st rf dA dB dS dO now rr rd rp) (hR : Rm ≤ 8) (hz : Rm = 0 → D = 0 ∧ P = 0 ∧ Rn = 0) :
    RHouse (nI Rm) (nI Rn) (nI D) (nI P) (mX6_copyFrom 12 12 rf rf0) (mX6_copyFrom 10 10 dA dA0) (mX6_copyFrom 10 10 dB dB0) (mX6_copyFrom 10 10 dS dS0) (mX6_copyFrom 10 10 dO dO0) (nI Rm) Rn D P (mX10_bring rr ra0 0 0 12) (mX10_bring rd dr0 0 0 40) := by
  obtain ⟨⟨h1, h2, h3⟩, h4, h5, h6, h7, h8, h9, h10, h11⟩ := h
  have e : (nI Rm).toNatClampNeg = Rm := clamp_nI (by omega)
  unfold RHouse
  rw [e]
  refine ⟨⟨rfl, rfl, hR, rfl, h1, rfl, h2, rfl, h3, hz⟩, fun j hj => ?_, fun d hd => ?_⟩
  · rw [copyFrom_n (by omega) (by omega), bring_n, if_pos (by omega), show 0 + (j - 0) = j by omega]
    exact h4 j hj
  · obtain ⟨a, b, o, q1, q2, q3, q4, q5, q6, q7, q8, q9, q10, q11⟩ := h5 d hd
    refine ⟨a, b, o, q1, q2, q3, q4, ?_, ?_, ?_, ?_, ?_, ?_, ?_⟩
    · rw [bring_n, if_pos (by omega), show 0 + (4 * d - 0) = 4 * d by omega]; exact q5
    · rw [copyFrom_n (by omega) (by omega)]; exact q6
    · rw [bring_n, if_pos (by omega), show 0 + (4 * d + 1 - 0) = 4 * d + 1 by omega]; exact q7
    · rw [copyFrom_n (by omega) (by omega)]; exact q8
    · rw [bring_n, if_pos (by omega), show 0 + (4 * d + 3 - 0) = 4 * d + 3 by omega]; exact q9
    · rw [copyFrom_n (by omega) (by omega)]; exact q10
    · rw [copyFrom_n (by omega) (by omega)]; exact q11
theorem st_house {cI : Nat → Int32} {cR : Nat → Nat → Int32} {mN : Nat → Nat} {mI : Nat → Int32} {mR : Nat → Nat → Int32} (h : Rel cI cR mN mI mR) : ((mX9_house (cI 0) (cI 1) (cI 2) (cI 3) (cI 15) (cI 16) (cI 13) (cI 14) (cI 4) (cI 8) (cR 1) (cR 2) (cR 4) (cR 3) (cR 0) (cR 20) (cR 12) (cR 5) (cR 7) (cR 8) (cR 10) (cR 9) (cR 6) (cR 11))).1 = ((mX10_house (mN 0) (mI 2) (mI 3) (mI 6) (mN 7) (mN 8) (mN 9) (mN 10) (mN 11) (mN 12) (mR 5) (mR 11) (mR 6) (mR 4) (mR 2) (mR 3) (mR 1) (mR 0))).1 ∧ Rel (upd (upd (upd (upd (upd (upd (upd (upd (upd (upd (upd (upd (upd (upd (upd (upd (upd cI 0 (((mX9_house (cI 0) (cI 1) (cI 2) (cI 3) (cI 15) (cI 16) (cI 13) (cI 14) (cI 4) (cI 8) (cR 1) (cR 2) (cR 4) (cR 3) (cR 0) (cR 20) (cR 12) (cR 5) (cR 7) (cR 8) (cR 10) (cR 9) (cR 6) (cR 11))).2.1)) 1 (((mX9_house (cI 0) (cI 1) (cI 2) (cI 3) (cI 15) (cI 16) (cI 13) (cI 14) (cI 4) (cI 8) (cR 1) (cR 2) (cR 4) (cR 3) (cR 0) (cR 20) (cR 12) (cR 5) (cR 7) (cR 8) (cR 10) (cR 9) (cR 6) (cR 11))).2.2.1)) 2 (((mX9_house (cI 0) (cI 1) (cI 2) (cI 3) (cI 15) (cI 16) (cI 13) (cI 14) (cI 4) (cI 8) (cR 1) (cR 2) (cR 4) (cR 3) (cR 0) (cR 20) (cR 12) (cR 5) (cR 7) (cR 8) (cR 10) (cR 9) (cR 6) (cR 11))).2.2.2.1)) 3 (((mX9_house (cI 0) (cI 1) (cI 2) (cI 3) (cI 15) (cI 16) (cI 13) (cI 14) (cI 4) (cI 8) (cR 1) (cR 2) (cR 4) (cR 3) (cR 0) (cR 20) (cR 12) (cR 5) (cR 7) (cR 8) (cR 10) (cR 9) (cR 6) (cR 11))).2.2.2.2.1)) 4 (((mX9_house (cI 0) (cI 1) (cI 2) (cI 3) (cI 15) (cI 16) (cI 13) (cI 14) (cI 4) (cI 8) (cR 1) (cR 2) (cR 4) (cR 3) (cR 0) (cR 20) (cR 12) (cR 5) (cR 7) (cR 8) (cR 10) (cR 9) (cR 6) (cR 11))).2.2.2.2.2.2.2.2.2.1)) 5 (((mX9_house (cI 0) (cI 1) (cI 2) (cI 3) (cI 15) (cI 16) (cI 13) (cI 14) (cI 4) (cI 8) (cR 1) (cR 2) (cR 4) (cR 3) (cR 0) (cR 20) (cR 12) (cR 5) (cR 7) (cR 8) (cR 10) (cR 9) (cR 6) (cR 11))).2.2.2.2.2.2.2.2.2.2.1)) 6 (((mX9_house (cI 0) (cI 1) (cI 2) (cI 3) (cI 15) (cI 16) (cI 13) (cI 14) (cI 4) (cI 8) (cR 1) (cR 2) (cR 4) (cR 3) (cR 0) (cR 20) (cR 12) (cR 5) (cR 7) (cR 8) (cR 10) (cR 9) (cR 6) (cR 11))).2.2.2.2.2.2.2.2.2.2.2.1)) 7 (((mX9_house (cI 0) (cI 1) (cI 2) (cI 3) (cI 15) (cI 16) (cI 13) (cI 14) (cI 4) (cI 8) (cR 1) (cR 2) (cR 4) (cR 3) (cR 0) (cR 20) (cR 12) (cR 5) (cR 7) (cR 8) (cR 10) (cR 9) (cR 6) (cR 11))).2.2.2.2.2.2.2.2.2.2.2.2.1)) 8 (((mX9_house (cI 0) (cI 1) (cI 2) (cI 3) (cI 15) (cI 16) (cI 13) (cI 14) (cI 4) (cI 8) (cR 1) (cR 2) (cR 4) (cR 3) (cR 0) (cR 20) (cR 12) (cR 5) (cR 7) (cR 8) (cR 10) (cR 9) (cR 6) (cR 11))).2.2.2.2.2.2.2.2.2.2.2.2.2.1)) 9 (((mX9_house (cI 0) (cI 1) (cI 2) (cI 3) (cI 15) (cI 16) (cI 13) (cI 14) (cI 4) (cI 8) (cR 1) (cR 2) (cR 4) (cR 3) (cR 0) (cR 20) (cR 12) (cR 5) (cR 7) (cR 8) (cR 10) (cR 9) (cR 6) (cR 11))).2.2.2.2.2.2.2.2.2.2.2.2.2.2.1)) 10 (((mX9_house (cI 0) (cI 1) (cI 2) (cI 3) (cI 15) (cI 16) (cI 13) (cI 14) (cI 4) (cI 8) (cR 1) (cR 2) (cR 4) (cR 3) (cR 0) (cR 20) (cR 12) (cR 5) (cR 7) (cR 8) (cR 10) (cR 9) (cR 6) (cR 11))).2.2.2.2.2.2.2.2.2.2.2.2.2.2.2.1)) 11 (((mX9_house (cI 0) (cI 1) (cI 2) (cI 3) (cI 15) (cI 16) (cI 13) (cI 14) (cI 4) (cI 8) (cR 1) (cR 2) (cR 4) (cR 3) (cR 0) (cR 20) (cR 12) (cR 5) (cR 7) (cR 8) (cR 10) (cR 9) (cR 6) (cR 11))).2.2.2.2.2.2.2.2.2.2.2.2.2.2.2.2.1)) 12 (((mX9_house (cI 0) (cI 1) (cI 2) (cI 3) (cI 15) (cI 16) (cI 13) (cI 14) (cI 4) (cI 8) (cR 1) (cR 2) (cR 4) (cR 3) (cR 0) (cR 20) (cR 12) (cR 5) (cR 7) (cR 8) (cR 10) (cR 9) (cR 6) (cR 11))).2.2.2.2.2.2.2.2.2.2.2.2.2.2.2.2.2.1)) 13 (((mX9_house (cI 0) (cI 1) (cI 2) (cI 3) (cI 15) (cI 16) (cI 13) (cI 14) (cI 4) (cI 8) (cR 1) (cR 2) (cR 4) (cR 3) (cR 0) (cR 20) (cR 12) (cR 5) (cR 7) (cR 8) (cR 10) (cR 9) (cR 6) (cR 11))).2.2.2.2.2.2.2.1)) 14 (((mX9_house (cI 0) (cI 1) (cI 2) (cI 3) (cI 15) (cI 16) (cI 13) (cI 14) (cI 4) (cI 8) (cR 1) (cR 2) (cR 4) (cR 3) (cR 0) (cR 20) (cR 12) (cR 5) (cR 7) (cR 8) (cR 10) (cR 9) (cR 6) (cR 11))).2.2.2.2.2.2.2.2.1)) 15 (((mX9_house (cI 0) (cI 1) (cI 2) (cI 3) (cI 15) (cI 16) (cI 13) (cI 14) (cI 4) (cI 8) (cR 1) (cR 2) (cR 4) (cR 3) (cR 0) (cR 20) (cR 12) (cR 5) (cR 7) (cR 8) (cR 10) (cR 9) (cR 6) (cR 11))).2.2.2.2.2.1)) 16 (((mX9_house (cI 0) (cI 1) (cI 2) (cI 3) (cI 15) (cI 16) (cI 13) (cI 14) (cI 4) (cI 8) (cR 1) (cR 2) (cR 4) (cR 3) (cR 0) (cR 20) (cR 12) (cR 5) (cR 7) (cR 8) (cR 10) (cR 9) (cR 6) (cR 11))).2.2.2.2.2.2.1)) (updF (updF (updF (updF (updF (updF (updF (updF (updF (updF (updF (updF (updF cR 0 (((mX9_house (cI 0) (cI 1) (cI 2) (cI 3) (cI 15) (cI 16) (cI 13) (cI 14) (cI 4) (cI 8) (cR 1) (cR 2) (cR 4) (cR 3) (cR 0) (cR 20) (cR 12) (cR 5) (cR 7) (cR 8) (cR 10) (cR 9) (cR 6) (cR 11))).2.2.2.2.2.2.2.2.2.2.2.2.2.2.2.2.2.2.2.2.2.2.1)) 1 (((mX9_house (cI 0) (cI 1) (cI 2) (cI 3) (cI 15) (cI 16) (cI 13) (cI 14) (cI 4) (cI 8) (cR 1) (cR 2) (cR 4) (cR 3) (cR 0) (cR 20) (cR 12) (cR 5) (cR 7) (cR 8) (cR 10) (cR 9) (cR 6) (cR 11))).2.2.2.2.2.2.2.2.2.2.2.2.2.2.2.2.2.2.1)) 2 (((mX9_house (cI 0) (cI 1) (cI 2) (cI 3) (cI 15) (cI 16) (cI 13) (cI 14) (cI 4) (cI 8) (cR 1) (cR 2) (cR 4) (cR 3) (cR 0) (cR 20) (cR 12) (cR 5) (cR 7) (cR 8) (cR 10) (cR 9) (cR 6) (cR 11))).2.2.2.2.2.2.2.2.2.2.2.2.2.2.2.2.2.2.2.1)) 3 (((mX9_house (cI 0) (cI 1) (cI 2) (cI 3) (cI 15) (cI 16) (cI 13) (cI 14) (cI 4) (cI 8) (cR 1) (cR 2) (cR 4) (cR 3) (cR 0) (cR 20) (cR 12) (cR 5) (cR 7) (cR 8) (cR 10) (cR 9) (cR 6) (cR 11))).2.2.2.2.2.2.2.2.2.2.2.2.2.2.2.2.2.2.2.2.2.1)) 4 (((mX9_house (cI 0) (cI 1) (cI 2) (cI 3) (cI 15) (cI 16) (cI 13) (cI 14) (cI 4) (cI 8) (cR 1) (cR 2) (cR 4) (cR 3) (cR 0) (cR 20) (cR 12) (cR 5) (cR 7) (cR 8) (cR 10) (cR 9) (cR 6) (cR 11))).2.2.2.2.2.2.2.2.2.2.2.2.2.2.2.2.2.2.2.2.1)) 5 (((mX9_house (cI 0) (cI 1) (cI 2) (cI 3) (cI 15) (cI 16) (cI 13) (cI 14) (cI 4) (cI 8) (cR 1) (cR 2) (cR 4) (cR 3) (cR 0) (cR 20) (cR 12) (cR 5) (cR 7) (cR 8) (cR 10) (cR 9) (cR 6) (cR 11))).2.2.2.2.2.2.2.2.2.2.2.2.2.2.2.2.2.2.2.2.2.2.2.2.1)) 6 (((mX9_house (cI 0) (cI 1) (cI 2) (cI 3) (cI 15) (cI 16) (cI 13) (cI 14) (cI 4) (cI 8) (cR 1) (cR 2) (cR 4) (cR 3) (cR 0) (cR 20) (cR 12) (cR 5) (cR 7) (cR 8) (cR 10) (cR 9) (cR 6) (cR 11))).2.2.2.2.2.2.2.2.2.2.2.2.2.2.2.2.2.2.2.2.2.2.2.2.2.2.2.2.2.1)) 7 (((mX9_house (cI 0) (cI 1) (cI 2) (cI 3) (cI 15) (cI 16) (cI 13) (cI 14) (cI 4) (cI 8) (cR 1) (cR 2) (cR 4) (cR 3) (cR 0) (cR 20) (cR 12) (cR 5) (cR 7) (cR 8) (cR 10) (cR 9) (cR 6) (cR 11))).2.2.2.2.2.2.2.2.2.2.2.2.2.2.2.2.2.2.2.2.2.2.2.2.2.1)) 8 (((mX9_house (cI 0) (cI 1) (cI 2) (cI 3) (cI 15) (cI 16) (cI 13) (cI 14) (cI 4) (cI 8) (cR 1) (cR 2) (cR 4) (cR 3) (cR 0) (cR 20) (cR 12) (cR 5) (cR 7) (cR 8) (cR 10) (cR 9) (cR 6) (cR 11))).2.2.2.2.2.2.2.2.2.2.2.2.2.2.2.2.2.2.2.2.2.2.2.2.2.2.1)) 9 (((mX9_house (cI 0) (cI 1) (cI 2) (cI 3) (cI 15) (cI 16) (cI 13) (cI 14) (cI 4) (cI 8) (cR 1) (cR 2) (cR 4) (cR 3) (cR 0) (cR 20) (cR 12) (cR 5) (cR 7) (cR 8) (cR 10) (cR 9) (cR 6) (cR 11))).2.2.2.2.2.2.2.2.2.2.2.2.2.2.2.2.2.2.2.2.2.2.2.2.2.2.2.2.1)) 10 (((mX9_house (cI 0) (cI 1) (cI 2) (cI 3) (cI 15) (cI 16) (cI 13) (cI 14) (cI 4) (cI 8) (cR 1) (cR 2) (cR 4) (cR 3) (cR 0) (cR 20) (cR 12) (cR 5) (cR 7) (cR 8) (cR 10) (cR 9) (cR 6) (cR 11))).2.2.2.2.2.2.2.2.2.2.2.2.2.2.2.2.2.2.2.2.2.2.2.2.2.2.2.1)) 11 (((mX9_house (cI 0) (cI 1) (cI 2) (cI 3) (cI 15) (cI 16) (cI 13) (cI 14) (cI 4) (cI 8) (cR 1) (cR 2) (cR 4) (cR 3) (cR 0) (cR 20) (cR 12) (cR 5) (cR 7) (cR 8) (cR 10) (cR 9) (cR 6) (cR 11))).2.2.2.2.2.2.2.2.2.2.2.2.2.2.2.2.2.2.2.2.2.2.2.2.2.2.2.2.2.2)) 20 (((mX9_house (cI 0) (cI 1) (cI 2) (cI 3) (cI 15) (cI 16) (cI 13) (cI 14) (cI 4) (cI 8) (cR 1) (cR 2) (cR 4) (cR 3) (cR 0) (cR 20) (cR 12) (cR 5) (cR 7) (cR 8) (cR 10) (cR 9) (cR 6) (cR 11))).2.2.2.2.2.2.2.2.2.2.2.2.2.2.2.2.2.2.2.2.2.2.2.1)) (updN (updN (updN (updN (updN (updN (updN (updN (updN (updN (updN (updN (updN mN 0 (((mX10_house (mN 0) (mI 2) (mI 3) (mI 6) (mN 7) (mN 8) (mN 9) (mN 10) (mN 11) (mN 12) (mR 5) (mR 11) (mR 6) (mR 4) (mR 2) (mR 3) (mR 1) (mR 0))).2.1)) 1 (((mX10_house (mN 0) (mI 2) (mI 3) (mI 6) (mN 7) (mN 8) (mN 9) (mN 10) (mN 11) (mN 12) (mR 5) (mR 11) (mR 6) (mR 4) (mR 2) (mR 3) (mR 1) (mR 0))).2.2.1)) 2 (((mX10_house (mN 0) (mI 2) (mI 3) (mI 6) (mN 7) (mN 8) (mN 9) (mN 10) (mN 11) (mN 12) (mR 5) (mR 11) (mR 6) (mR 4) (mR 2) (mR 3) (mR 1) (mR 0))).2.2.2.1)) 3 (((mX10_house (mN 0) (mI 2) (mI 3) (mI 6) (mN 7) (mN 8) (mN 9) (mN 10) (mN 11) (mN 12) (mR 5) (mR 11) (mR 6) (mR 4) (mR 2) (mR 3) (mR 1) (mR 0))).2.2.2.2.2.2.1)) 4 (((mX10_house (mN 0) (mI 2) (mI 3) (mI 6) (mN 7) (mN 8) (mN 9) (mN 10) (mN 11) (mN 12) (mR 5) (mR 11) (mR 6) (mR 4) (mR 2) (mR 3) (mR 1) (mR 0))).2.2.2.2.2.2.2.2.2.2.2.1)) 5 (((mX10_house (mN 0) (mI 2) (mI 3) (mI 6) (mN 7) (mN 8) (mN 9) (mN 10) (mN 11) (mN 12) (mR 5) (mR 11) (mR 6) (mR 4) (mR 2) (mR 3) (mR 1) (mR 0))).2.2.2.2.2.2.2.2.2.2.2.2.1)) 6 (((mX10_house (mN 0) (mI 2) (mI 3) (mI 6) (mN 7) (mN 8) (mN 9) (mN 10) (mN 11) (mN 12) (mR 5) (mR 11) (mR 6) (mR 4) (mR 2) (mR 3) (mR 1) (mR 0))).2.2.2.2.2.2.2.2.2.2.2.2.2.1)) 7 (((mX10_house (mN 0) (mI 2) (mI 3) (mI 6) (mN 7) (mN 8) (mN 9) (mN 10) (mN 11) (mN 12) (mR 5) (mR 11) (mR 6) (mR 4) (mR 2) (mR 3) (mR 1) (mR 0))).2.2.2.2.2.2.2.2.2.2.2.2.2.2.2.1)) 8 (((mX10_house (mN 0) (mI 2) (mI 3) (mI 6) (mN 7) (mN 8) (mN 9) (mN 10) (mN 11) (mN 12) (mR 5) (mR 11) (mR 6) (mR 4) (mR 2) (mR 3) (mR 1) (mR 0))).2.2.2.2.2.2.2.2.2.2.2.2.2.2.2.2.1)) 9 (((mX10_house (mN 0) (mI 2) (mI 3) (mI 6) (mN 7) (mN 8) (mN 9) (mN 10) (mN 11) (mN 12) (mR 5) (mR 11) (mR 6) (mR 4) (mR 2) (mR 3) (mR 1) (mR 0))).2.2.2.2.2.2.2.2.2.2.2.2.2.2.2.2.2.1)) 10 (((mX10_house (mN 0) (mI 2) (mI 3) (mI 6) (mN 7) (mN 8) (mN 9) (mN 10) (mN 11) (mN 12) (mR 5) (mR 11) (mR 6) (mR 4) (mR 2) (mR 3) (mR 1) (mR 0))).2.2.2.2.2.2.2.2.2.2.2.2.2.2.2.2.2.2.1)) 11 (((mX10_house (mN 0) (mI 2) (mI 3) (mI 6) (mN 7) (mN 8) (mN 9) (mN 10) (mN 11) (mN 12) (mR 5) (mR 11) (mR 6) (mR 4) (mR 2) (mR 3) (mR 1) (mR 0))).2.2.2.2.2.2.2.2.2.2.2.2.2.2.2.2.2.2.2.1)) 12 (((mX10_house (mN 0) (mI 2) (mI 3) (mI 6) (mN 7) (mN 8) (mN 9) (mN 10) (mN 11) (mN 12) (mR 5) (mR 11) (mR 6) (mR 4) (mR 2) (mR 3) (mR 1) (mR 0))).2.2.2.2.2.2.2.2.2.2.2.2.2.2.2.2.2.2.2.2.1)) (upd (upd (upd (upd (upd (upd (upd mI 0 (((mX10_house (mN 0) (mI 2) (mI 3) (mI 6) (mN 7) (mN 8) (mN 9) (mN 10) (mN 11) (mN 12) (mR 5) (mR 11) (mR 6) (mR 4) (mR 2) (mR 3) (mR 1) (mR 0))).2.2.2.2.1)) 1 (((mX10_house (mN 0) (mI 2) (mI 3) (mI 6) (mN 7) (mN 8) (mN 9) (mN 10) (mN 11) (mN 12) (mR 5) (mR 11) (mR 6) (mR 4) (mR 2) (mR 3) (mR 1) (mR 0))).2.2.2.2.2.1)) 2 (((mX10_house (mN 0) (mI 2) (mI 3) (mI 6) (mN 7) (mN 8) (mN 9) (mN 10) (mN 11) (mN 12) (mR 5) (mR 11) (mR 6) (mR 4) (mR 2) (mR 3) (mR 1) (mR 0))).2.2.2.2.2.2.2.1)) 3 (((mX10_house (mN 0) (mI 2) (mI 3) (mI 6) (mN 7) (mN 8) (mN 9) (mN 10) (mN 11) (mN 12) (mR 5) (mR 11) (mR 6) (mR 4) (mR 2) (mR 3) (mR 1) (mR 0))).2.2.2.2.2.2.2.2.1)) 4 (((mX10_house (mN 0) (mI 2) (mI 3) (mI 6) (mN 7) (mN 8) (mN 9) (mN 10) (mN 11) (mN 12) (mR 5) (mR 11) (mR 6) (mR 4) (mR 2) (mR 3) (mR 1) (mR 0))).2.2.2.2.2.2.2.2.2.1)) 5 (((mX10_house (mN 0) (mI 2) (mI 3) (mI 6) (mN 7) (mN 8) (mN 9) (mN 10) (mN 11) (mN 12) (mR 5) (mR 11) (mR 6) (mR 4) (mR 2) (mR 3) (mR 1) (mR 0))).2.2.2.2.2.2.2.2.2.2.1)) 6 (((mX10_house (mN 0) (mI 2) (mI 3) (mI 6) (mN 7) (mN 8) (mN 9) (mN 10) (mN 11) (mN 12) (mR 5) (mR 11) (mR 6) (mR 4) (mR 2) (mR 3) (mR 1) (mR 0))).2.2.2.2.2.2.2.2.2.2.2.2.2.2.1)) (updF (updF (updF (updF (updF (updF (updF mR 1 (((mX10_house (mN 0) (mI 2) (mI 3) (mI 6) (mN 7) (mN 8) (mN 9) (mN 10) (mN 11) (mN 12) (mR 5) (mR 11) (mR 6) (mR 4) (mR 2) (mR 3) (mR 1) (mR 0))).2.2.2.2.2.2.2.2.2.2.2.2.2.2.2.2.2.2.2.2.2.2.2.2.2.2.2)) 2 (((mX10_house (mN 0) (mI 2) (mI 3) (mI 6) (mN 7) (mN 8) (mN 9) (mN 10) (mN 11) (mN 12) (mR 5) (mR 11) (mR 6) (mR 4) (mR 2) (mR 3) (mR 1) (mR 0))).2.2.2.2.2.2.2.2.2.2.2.2.2.2.2.2.2.2.2.2.2.2.2.2.2.1)) 3 (((mX10_house (mN 0) (mI 2) (mI 3) (mI 6) (mN 7) (mN 8) (mN 9) (mN 10) (mN 11) (mN 12) (mR 5) (mR 11) (mR 6) (mR 4) (mR 2) (mR 3) (mR 1) (mR 0))).2.2.2.2.2.2.2.2.2.2.2.2.2.2.2.2.2.2.2.2.2.2.2.2.2.2.1)) 4 (((mX10_house (mN 0) (mI 2) (mI 3) (mI 6) (mN 7) (mN 8) (mN 9) (mN 10) (mN 11) (mN 12) (mR 5) (mR 11) (mR 6) (mR 4) (mR 2) (mR 3) (mR 1) (mR 0))).2.2.2.2.2.2.2.2.2.2.2.2.2.2.2.2.2.2.2.2.2.2.2.2.1)) 5 (((mX10_house (mN 0) (mI 2) (mI 3) (mI 6) (mN 7) (mN 8) (mN 9) (mN 10) (mN 11) (mN 12) (mR 5) (mR 11) (mR 6) (mR 4) (mR 2) (mR 3) (mR 1) (mR 0))).2.2.2.2.2.2.2.2.2.2.2.2.2.2.2.2.2.2.2.2.2.1)) 6 (((mX10_house (mN 0) (mI 2) (mI 3) (mI 6) (mN 7) (mN 8) (mN 9) (mN 10) (mN 11) (mN 12) (mR 5) (mR 11) (mR 6) (mR 4) (mR 2) (mR 3) (mR 1) (mR 0))).2.2.2.2.2.2.2.2.2.2.2.2.2.2.2.2.2.2.2.2.2.2.2.1)) 11 (((mX10_house (mN 0) (mI 2) (mI 3) (mI 6) (mN 7) (mN 8) (mN 9) (mN 10) (mN 11) (mN 12) (mR 5) (mR 11) (mR 6) (mR 4) (mR 2) (mR 3) (mR 1) (mR 0))).2.2.2.2.2.2.2.2.2.2.2.2.2.2.2.2.2.2.2.2.2.2.1)) := by
  obtain ⟨hl, hL, htt⟩ := h.text
  have ht : ∀ j, j < mN 0 → cR 12 j = mR 0 j := fun j hj => (htt j hj).1
  have hT : ∀ j, j < mN 0 → ∃ t, t ≤ 255 ∧ mR 0 j = nI t := fun j hj => (htt j hj).2
  generalize hH : mX9_house (cI 0) (cI 1) (cI 2) (cI 3) (cI 15) (cI 16) (cI 13) (cI 14) (cI 4) (cI 8) (cR 1) (cR 2) (cR 4) (cR 3) (cR 0) (cR 20) (cR 12) (cR 5) (cR 7) (cR 8) (cR 10) (cR 9) (cR 6) (cR 11) = H
  generalize hK : mX10_house (mN 0) (mI 2) (mI 3) (mI 6) (mN 7) (mN 8) (mN 9) (mN 10) (mN 11) (mN 12) (mR 5) (mR 11) (mR 6) (mR 4) (mR 2) (mR 3) (mR 1) (mR 0) = K
  unfold mX9_house at hH
  rw [hl] at hH
  generalize hR : mX5_readText (nI (mN 0)) (cI 8) (cR 12) (cR 7) (cR 8) (cR 10) (cR 9) (cR 6) (cR 11) = R at hH
  unfold mX10_house at hK
  generalize hM : mX10_isRead (mN 0) (mI 2) (mI 3) (mR 2) (mR 3) (mR 1) (mR 0) = M at hK
  rcases read_spec hL ht hT hR hM with ⟨F, at', hF, k1, k2, k3, k4, k5, k6⟩ | ⟨x, np', st, Rm, Rn, D, P, rf', dA', dB', dO', dS', now', rr', rd', rp', p, tA, tk, nu, fg, e1, e2, hRm, hz, hRD⟩
  · dsimp only at hH hK
    rw [if_neg (by rw [k1]; exact hF)] at hH
    rw [if_pos (show M.1 = (0 : Int32) from k4)] at hK
    subst hH hK
    refine ⟨by show (-10 : Int32) - R.1 = -10 - M.2.2.2.2.2.2.2.1; rw [k1, k6], ?_, ?_, h.house, h.now, h.past, h.img, h.notes, h.seed⟩
    · show RText R.2.1 (cR 12) 0 (mR 0)
      rw [k2]
      exact ⟨rfl, by omega, fun j hj => absurd hj (by omega)⟩
    · show R.2.2.1 = M.2.2.2.2.2.2.1
      rw [k3, k5]
  · subst e1 e2
    dsimp only at hH hK
    rw [if_pos rfl] at hH
    rw [if_neg nI1n] at hK
    unfold mX1_copyFrom at hH
    dsimp only at hH
    have e : (nI Rm).toNatClampNeg = Rm := clamp_nI (by omega)
    subst hH hK
    refine ⟨rfl, ?_, rfl, ?_, ?_, ?_, ?_, ?_, h.seed⟩
    · exact ⟨rfl, Nat.zero_le _, fun j hj => absurd hj (Nat.not_lt_zero _)⟩
    · exact hRD.house_ok hRm hz
    · show okNow D P (nI Rm).toNatClampNeg (mX7_copyFrom now' (cR 5)) _
      rw [e]
      exact hRD.now_ok rfl rfl
    · exact ⟨⟨rfl, Nat.zero_le _, rfl, Nat.lt_of_sub_eq_succ rfl⟩, fun j hj => absurd hj (Nat.not_lt_zero _)⟩
    · intro i hi
      have e1 : mX2_forget (cR 20) i = 0 := clear_n hi
      have e2 : upd (upd (mR 11) 0 (nI 0)) 1 (nI 0) i = 0 := by
        by_cases c : i = 1
        · subst c; rw [pk_us]; rfl
        · rw [pk_un c, show i = 0 by omega, pk_us]; rfl
      show mX2_forget (cR 20) i = upd (upd (mR 11) 0 (nI 0)) 1 (nI 0) i ∧ (upd (upd (mR 11) 0 (nI 0)) 1 (nI 0) i = 0 ∨ upd (upd (mR 11) 0 (nI 0)) 1 (nI 0) i = 1) ∧ (upd (upd (mR 11) 0 (nI 0)) 1 (nI 0) i = 1 → _)
      rw [e1, e2]
      exact ⟨rfl, Or.inl rfl, fun z => absurd z.symm one_ne0⟩
    · exact ⟨⟨rfl, Nat.zero_le _, rfl, Nat.zero_le _⟩, fun j hj => absurd hj (Nat.not_lt_zero _), fun j hj => absurd hj (Nat.not_lt_zero _)⟩
