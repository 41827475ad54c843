/-! pure: copies of rows, what can be undone, images, the plain deeds -/
theorem bring_at {a b : Nat → Int32} {i j : Nat} : ∀ n k, (iter (mX10_bring_l3 a i j) n b) k = if j ≤ k ∧ k < j + n then a (i + (k - j)) else b k := by
  intro n
  induction n with
  | zero => intro k; rw [if_neg (by omega)]; rfl
  | succ n ih =>
    intro k
    show upd (iter (mX10_bring_l3 a i j) n b) (j + n) (a (i + n)) k = _
    by_cases q : k = j + n
    · subst q
      rw [pk_us, if_pos (by omega), show j + n - j = n by omega]
    · rw [pk_un q, ih]
      by_cases c : j ≤ k ∧ k < j + n
      · rw [if_pos c, if_pos (by omega)]
      · rw [if_neg c, if_neg (by omega)]
theorem bring_n {a b : Nat → Int32} {i j n k : Nat} : mX10_bring a b i j n k = if j ≤ k ∧ k < j + n then a (i + (k - j)) else b k := bring_at n k
theorem bringS_at {a : Nat → Int32} {i : Nat} (hi : 0 < i) : ∀ n k, (iter (mX10_bringS_l3 i 0) n a) k = if k < n then a (i + k) else a k := by
  intro n
  induction n with
  | zero => intro k; rw [if_neg (by omega)]; rfl
  | succ n ih =>
    intro k
    show upd (iter (mX10_bringS_l3 i 0) n a) (0 + n) (iter (mX10_bringS_l3 i 0) n a (i + n)) k = _
    rw [Nat.zero_add, ih (i + n), if_neg (by omega)]
    by_cases q : k = n
    · subst q
      rw [pk_us, if_pos (by omega)]
    · rw [pk_un q, ih]
      by_cases c : k < n
      · rw [if_pos c, if_pos (by omega)]
      · rw [if_neg c, if_neg (by omega)]
theorem copyCells_at {ns nd : Nat} {src dst : Nat → Int32} {t f : Nat} : ∀ n, t + n ≤ nd → f + n ≤ ns → nd < 1000000 → ns < 1000000 → ∀ k, (iter (mX6_copyCells_l3 ns nd src (nI t) (nI f)) n dst) k = if t ≤ k ∧ k < t + n then src (f + (k - t)) else dst k := by
  intro n
  induction n with
  | zero => intro _ _ _ _ k; rw [if_neg (by omega)]; rfl
  | succ n ih =>
    intro h1 h2 h3 h4 k
    have ih := ih (by omega) (by omega) h3 h4
    show mX6_copyCells_l3 ns nd src (nI t) (nI f) n (iter (mX6_copyCells_l3 ns nd src (nI t) (nI f)) n dst) k = _
    unfold mX6_copyCells_l3
    rw [nI_add, nI_add, get_nat (by omega) (by omega), set_nat (by omega) (by omega)]
    by_cases q : k = t + n
    · subst q
      rw [pk_us, if_pos (by omega), show t + n - t = n by omega]
    · rw [pk_un q]
      have e := ih k
      unfold mX6_copyCells_l3 at e
      rw [e]
      by_cases c : t ≤ k ∧ k < t + n
      · rw [if_pos c, if_pos (by omega)]
      · rw [if_neg c, if_neg (by omega)]
theorem writeTo_n {n s k : Nat} {sh now : Nat → Int32} (h : 35 * s + 35 ≤ n) (hn : n < 1000000) : mX7_writeTo n sh now (nI s) k = if 35 * s ≤ k ∧ k < 35 * s + 35 then now (k - 35 * s) else sh k := by
  unfold mX7_writeTo mX6_copyCells
  rw [show (35 : Int32) = nI 35 from rfl, show (0 : Int32) = nI 0 from rfl, pk_mul, clamp_nI (by omega), Nat.mul_comm s 35, copyCells_at 35 (by omega) (by omega) hn (by omega)]
  by_cases c : 35 * s ≤ k ∧ k < 35 * s + 35
  · rw [if_pos c, if_pos c, Nat.zero_add]
  · rw [if_neg c, if_neg c]
theorem readFrom_n {n s k : Nat} {sh now : Nat → Int32} (h : 35 * s + 35 ≤ n) (hn : n < 1000000) : mX7_readFrom n sh now (nI s) k = if k < 35 then sh (35 * s + k) else now k := by
  unfold mX7_readFrom mX6_copyCells
  rw [show (35 : Int32) = nI 35 from rfl, show (0 : Int32) = nI 0 from rfl, pk_mul, clamp_nI (by omega), Nat.mul_comm s 35, copyCells_at 35 (by omega) (by omega) (by omega) hn]
  by_cases c : k < 35
  · rw [if_pos c, if_pos (by omega), Nat.sub_zero]
  · rw [if_neg c, if_neg (by omega)]
theorem okNow.congr {D P Rm : Nat} {f g f' g' : Nat → Int32} (h : okNow D P Rm f g) (hD : D ≤ 10) (hP : P ≤ 6) (hf : ∀ j, j < 35 → f' j = f j) (hg : ∀ j, j < 35 → g' j = g j) : okNow D P Rm f' g' := by
  obtain ⟨h1, h2, h3, h4, h5⟩ := h
  refine ⟨?_, ?_, ?_, fun d hd => ?_, fun p hp => ?_⟩
  · rw [hf 32 (by omega), hg 1 (by omega)]; exact h1
  · rw [hf 33 (by omega), hg 0 (by omega)]; exact h2
  · rw [hf 34 (by omega), hg 2 (by omega)]; exact h3
  · rw [hf d (by omega), hg (3 + d) (by omega), hf (10 + d) (by omega), hg (13 + d) (by omega)]; exact h4 d hd
  · rw [hf (20 + p) (by omega), hg (23 + p) (by omega), hf (26 + p) (by omega), hg (29 + p) (by omega)]; exact h5 p hp
/-- what is remembered before a deed -/
theorem past_note {D P Rm B : Nat} {nx ct : Int32} {sh bo f g : Nat → Int32} (hD : D ≤ 10) (hP : P ≤ 6) (h : RPast D P Rm nx ct sh B bo) (hn : okNow D P Rm f g) :
    RPast D P Rm (mX4_remember nx ct f sh).1 (mX4_remember nx ct f sh).2.1 (mX4_remember nx ct f sh).2.2 (mX10_note B bo g).1 (mX10_note B bo g).2 := by
  obtain ⟨⟨h1, h2, h3, h4⟩, h5⟩ := h
  obtain ⟨a, ha⟩ : ∃ a, a = nx.toNatClampNeg := ⟨_, rfl⟩
  rw [← ha] at h3 h4 h5
  have e1 : (mX4_remember nx ct f sh).1 = nI ((a + 1) % 30) := by
    show (nx + 1) - (nx + 1) / 30 * 30 = _
    rw [h3, nI_1, show (30 : Int32) = nI 30 from rfl, pk_rem (by omega) (by omega) (by omega)]
  have e2 : (mX4_remember nx ct f sh).2.1 = nI (min 30 (B + 1)) := by
    show mJ9_min_7cf53 30 (ct + 1) = _
    rw [h1, nI_1, show (30 : Int32) = nI 30 from rfl, min_n (by omega) (by omega)]
  have e3 : ∀ k, (mX4_remember nx ct f sh).2.2 k = if 35 * a ≤ k ∧ k < 35 * a + 35 then f (k - 35 * a) else sh k := by
    intro k
    show mX7_writeTo 1050 sh f nx k = _
    rw [h3, writeTo_n (by omega) (by omega)]
  have e4 : (mX10_note B bo g).1 = min 30 (B + 1) := by
    unfold mX10_note
    split
    · rename_i c; have := (nI_eq (by omega) (by omega)).mp c; show B - 1 + 1 = _; omega
    · rename_i c; have := ne_nI c; show B + 1 = _; omega
  have e5 : ∀ k j, j < 35 → k < min 30 (B + 1) → (mX10_note B bo g).2 (35 * (min 30 (B + 1) - 1 - k) + j) = if k = 0 then g j else bo (35 * (B - 1 - (k - 1)) + j) := by
    intro k j hj hk
    unfold mX10_note
    split
    · rename_i c
      have c := (nI_eq (by omega) (by omega)).mp c
      subst c
      show mX10_bring g (mX10_bringS bo 35 0 1015) 0 (35 * (30 - 1)) 35 _ = _
      rw [bring_n]
      by_cases q : k = 0
      · rw [if_pos q, if_pos (by omega), show 0 + (35 * (min 30 (30 + 1) - 1 - k) + j - 35 * (30 - 1)) = j by omega]
      · rw [if_neg q, if_neg (by omega)]
        unfold mX10_bringS
        rw [bringS_at (by omega), if_pos (by omega), show 35 + (35 * (min 30 (30 + 1) - 1 - k) + j) = 35 * (30 - 1 - (k - 1)) + j by omega]
    · rename_i c
      have c := ne_nI c
      show mX10_bring g bo 0 (35 * B) 35 _ = _
      rw [bring_n]
      by_cases q : k = 0
      · rw [if_pos q, if_pos (by omega), show 0 + (35 * (min 30 (B + 1) - 1 - k) + j - 35 * B) = j by omega]
      · rw [if_neg q, if_neg (by omega), show 35 * (min 30 (B + 1) - 1 - k) + j = 35 * (B - 1 - (k - 1)) + j by omega]
  refine ⟨⟨by rw [e2, e4], by rw [e4]; omega, ?_, ?_⟩, ?_⟩
  · rw [e1, clamp_nI (by omega)]
  · rw [e1, clamp_nI (by omega)]; omega
  · rw [e1, clamp_nI (by omega), e4]
    intro k hk
    by_cases q : k = 0
    · subst q
      refine hn.congr hD hP (fun j hj => ?_) (fun j hj => ?_)
      · show (mX4_remember nx ct f sh).2.2 _ = _
        rw [e3, show ((a + 1) % 30 + 29 - 0) % 30 = a by omega, if_pos (by omega), show 35 * a + j - 35 * a = j by omega]
      · show (mX10_note B bo g).2 _ = _
        rw [e5 0 j hj hk, if_pos rfl]
    · refine (h5 (k - 1) (by omega)).congr hD hP (fun j hj => ?_) (fun j hj => ?_)
      · show (mX4_remember nx ct f sh).2.2 _ = sh _
        have hs : ((a + 1) % 30 + 29 - k) % 30 = (a + 29 - (k - 1)) % 30 := by omega
        rw [e3, hs, if_neg (by omega)]
      · show (mX10_note B bo g).2 _ = bo _
        rw [e5 k j hj hk, if_neg q]
/-- a deed: what was is remembered, the rows of now are new -/
theorem Rel.deed {cI : Nat → Int32} {cR : Nat → Nat → Int32} {mN : Nat → Nat} {mI : Nat → Int32} {mR : Nat → Nat → Int32} (h : Rel cI cR mN mI mR) {f g : Nat → Int32} (hn : okNow (mN 8) (mN 9) (mI 6).toNatClampNeg f g) :
    Rel (upd (upd cI 13 (mX4_remember (cI 13) (cI 14) (cR 5) (cR 13)).1) 14 (mX4_remember (cI 13) (cI 14) (cR 5) (cR 13)).2.1) (updF (updF cR 5 f) 13 (mX4_remember (cI 13) (cI 14) (cR 5) (cR 13)).2.2) (updN mN 10 (mX10_note (mN 10) (mR 8) (mR 6)).1) mI (updF (updF mR 6 g) 8 (mX10_note (mN 10) (mR 8) (mR 6)).2) :=
  ⟨h.text, h.fault, h.house, hn, past_note h.hD h.hPn h.past h.now, h.img, h.notes, h.seed⟩
section NowUpd
variable {D P Rm : Nat} {f g : Nat → Int32}
theorem okNow.setStore (h : okNow D P Rm f g) (hD : D ≤ 10) (hP : P ≤ 6) {t : Nat} (ht : t ≤ 999) : okNow D P Rm (upd f 33 (nI t)) (upd g 0 (nI t)) := by
  obtain ⟨h1, h2, h3, h4, h5⟩ := h
  refine ⟨?_, ?_, ?_, fun d hd => ?_, fun p hp => ?_⟩
  · rw [pk_un (by omega), pk_un (by omega)]; exact h1
  · rw [pk_us, pk_us]; exact ⟨t, ht, rfl, rfl⟩
  · rw [pk_un (by omega), pk_un (by omega)]; exact h3
  · rw [pk_un (by omega), pk_un (by omega), pk_un (by omega), pk_un (by omega)]; exact h4 d hd
  · rw [pk_un (by omega), pk_un (by omega), pk_un (by omega), pk_un (by omega)]; exact h5 p hp
theorem okNow.setSp (h : okNow D P Rm f g) (hD : D ≤ 10) (hP : P ≤ 6) {d0 t : Nat} (hd0 : d0 < D) (ht : t ≤ 9) : okNow D P Rm (upd f d0 (nI t)) (upd g (3 + d0) (nI t)) := by
  obtain ⟨h1, h2, h3, h4, h5⟩ := h
  refine ⟨?_, ?_, ?_, fun d hd => ?_, fun p hp => ?_⟩
  · rw [pk_un (by omega), pk_un (by omega)]; exact h1
  · rw [pk_un (by omega), pk_un (by omega)]; exact h2
  · rw [pk_un (by omega), pk_un (by omega)]; exact h3
  · rw [pk_un (j := 10 + d) (by omega), pk_un (j := 13 + d) (by omega)]
    by_cases q : d = d0
    · subst q
      rw [pk_us, pk_us]
      exact ⟨⟨t, ht, rfl, rfl⟩, (h4 d hd).2⟩
    · rw [pk_un (by omega), pk_un q]; exact h4 d hd
  · rw [pk_un (by omega), pk_un (by omega), pk_un (by omega), pk_un (by omega)]; exact h5 p hp
theorem okNow.setCr (h : okNow D P Rm f g) (hD : D ≤ 10) (hP : P ≤ 6) {d0 : Nat} {v : Int32} (hd0 : d0 < D) : okNow D P Rm (upd f (10 + d0) v) (upd g (13 + d0) v) := by
  obtain ⟨h1, h2, h3, h4, h5⟩ := h
  refine ⟨?_, ?_, ?_, fun d hd => ?_, fun p hp => ?_⟩
  · rw [pk_un (by omega), pk_un (by omega)]; exact h1
  · rw [pk_un (by omega), pk_un (by omega)]; exact h2
  · rw [pk_un (by omega), pk_un (by omega)]; exact h3
  · rw [pk_un (j := d) (by omega), pk_un (j := 3 + d) (by omega)]
    by_cases q : d = d0
    · subst q
      rw [pk_us, pk_us]
      exact ⟨(h4 d hd).1, rfl⟩
    · rw [pk_un (by omega), pk_un (by omega)]; exact h4 d hd
  · rw [pk_un (by omega), pk_un (by omega), pk_un (by omega), pk_un (by omega)]; exact h5 p hp
theorem okNow.setStopped (h : okNow D P Rm f g) (hD : D ≤ 10) (hP : P ≤ 6) {v : Int32} : okNow D P Rm (upd f 34 v) (upd g 2 v) := by
  obtain ⟨h1, h2, h3, h4, h5⟩ := h
  refine ⟨?_, ?_, ?_, fun d hd => ?_, fun p hp => ?_⟩
  · rw [pk_un (by omega), pk_un (by omega)]; exact h1
  · rw [pk_un (by omega), pk_un (by omega)]; exact h2
  · rw [pk_us, pk_us]
  · rw [pk_un (by omega), pk_un (by omega), pk_un (by omega), pk_un (by omega)]; exact h4 d hd
  · rw [pk_un (by omega), pk_un (by omega), pk_un (by omega), pk_un (by omega)]; exact h5 p hp
theorem okNow.setHour (h : okNow D P Rm f g) (hD : D ≤ 10) (hP : P ≤ 6) {t : Nat} (ht : t ≤ 90030) : okNow D P Rm (upd f 32 (nI t)) (upd g 1 (nI t)) := by
  obtain ⟨h1, h2, h3, h4, h5⟩ := h
  refine ⟨?_, ?_, ?_, fun d hd => ?_, fun p hp => ?_⟩
  · rw [pk_us, pk_us]; exact ⟨t, ht, rfl, rfl⟩
  · rw [pk_un (by omega), pk_un (by omega)]; exact h2
  · rw [pk_un (by omega), pk_un (by omega)]; exact h3
  · rw [pk_un (by omega), pk_un (by omega), pk_un (by omega), pk_un (by omega)]; exact h4 d hd
  · rw [pk_un (by omega), pk_un (by omega), pk_un (by omega), pk_un (by omega)]; exact h5 p hp
theorem okNow.setPl (h : okNow D P Rm f g) (hD : D ≤ 10) (hP : P ≤ 6) {p0 a : Nat} (hp0 : p0 < P) (ha : a < Rm) : okNow D P Rm (upd f (20 + p0) (nI a)) (upd g (23 + p0) (nI a)) := by
  obtain ⟨h1, h2, h3, h4, h5⟩ := h
  refine ⟨?_, ?_, ?_, fun d hd => ?_, fun p hp => ?_⟩
  · rw [pk_un (by omega), pk_un (by omega)]; exact h1
  · rw [pk_un (by omega), pk_un (by omega)]; exact h2
  · rw [pk_un (by omega), pk_un (by omega)]; exact h3
  · rw [pk_un (by omega), pk_un (by omega), pk_un (by omega), pk_un (by omega)]; exact h4 d hd
  · rw [pk_un (j := 26 + p) (by omega), pk_un (j := 29 + p) (by omega)]
    by_cases q : p = p0
    · subst q
      rw [pk_us, pk_us]
      exact ⟨⟨a, ha, rfl, rfl⟩, (h5 p hp).2⟩
    · rw [pk_un (by omega), pk_un (by omega)]; exact h5 p hp
theorem okNow.setWi (h : okNow D P Rm f g) (hD : D ≤ 10) (hP : P ≤ 6) {p0 w : Nat} (hp0 : p0 < P) (hw : w ≤ 18) : okNow D P Rm (upd f (26 + p0) (nI w - nI 9)) (upd g (29 + p0) (nI w)) := by
  obtain ⟨h1, h2, h3, h4, h5⟩ := h
  refine ⟨?_, ?_, ?_, fun d hd => ?_, fun p hp => ?_⟩
  · rw [pk_un (by omega), pk_un (by omega)]; exact h1
  · rw [pk_un (by omega), pk_un (by omega)]; exact h2
  · rw [pk_un (by omega), pk_un (by omega)]; exact h3
  · rw [pk_un (by omega), pk_un (by omega), pk_un (by omega), pk_un (by omega)]; exact h4 d hd
  · rw [pk_un (j := 20 + p) (by omega), pk_un (j := 23 + p) (by omega)]
    by_cases q : p = p0
    · subst q
      rw [pk_us, pk_us]
      exact ⟨(h5 p hp).1, w, hw, rfl, rfl⟩
    · rw [pk_un (by omega), pk_un (by omega)]; exact h5 p hp
end NowUpd
theorem capped_n {a : Nat} (h : a < 1000000) : mX10_capped (nI a) = nI (min 999 a) := by
  unfold mX10_capped
  rw [show (999 : Int32) = nI 999 from rfl]
  split
  · rename_i c; have := (nI_leI (by omega) (by omega)).mp c; rw [Nat.min_eq_right (by omega)]
  · rename_i c; have : ¬ a ≤ 999 := fun q => c ((nI_leI (by omega) (by omega)).mpr q); rw [Nat.min_eq_left (by omega)]
