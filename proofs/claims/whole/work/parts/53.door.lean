/-! pure: a door of the text -/
theorem j62_keep {d : Int32} {dS : Nat → Int32} {u2 u3 : Int32 × Int32 × Int32 × Int32 × Int32} (h : ¬ u3.2.2.1 = 0) : mX5_readDoor_j62 d dS u2 u3 = (u3.2.1, u3.2.2.1) := by
  unfold mX5_readDoor_j62 mX5_mark
  dsimp only
  rw [if_neg h]
  repeat' split
  all_goals rfl
theorem mX5_readDoor_ex (v_letters : Int32) (v_faultPlace : Int32) (v_faultNumber : Int32) (v_next : Int32) (v_draft_rooms : Int32) (v_draft_doors : Int32) (v_text : Nat → Int32) (v_draft_doorA : Nat → Int32) (v_draft_doorB : Nat → Int32) (v_draft_doorOpen : Nat → Int32) (v_draft_doorSides : Nat → Int32) (v_draft_now : Nat → Int32) : ∃ (u_1 : Int32 × Int32 × Int32) (u_2 : Int32 × Int32 × Int32 × Int32 × Int32) (u_3 : Int32 × Int32 × Int32 × Int32 × Int32) (w_j62 : Int32 × Int32) (u_4 : Int32 × Int32 × Int32 × Int32 × Int32) (u_5 : Int32 × Int32 × Int32 × Int32 × Int32) (u_6 : Int32 × Int32 × Int32) (u_7 : Int32 × (Nat → Int32) × (Nat → Int32) × (Nat → Int32) × (Nat → Int32) × (Nat → Int32)), (mX5_readWord v_letters v_faultPlace v_faultNumber v_next v_text ((100 : Int32))) = u_1 ∧ (mX5_readNumber v_letters u_1.1 u_1.2.1 u_1.2.2 v_text ((0 : Int32)) (v_draft_rooms - ((1 : Int32)))) = u_2 ∧ (mX5_readNumber v_letters u_2.2.1 u_2.2.2.1 u_2.2.2.2.1 v_text ((0 : Int32)) (v_draft_rooms - ((1 : Int32)))) = u_3 ∧ (mX5_readDoor_j62 v_draft_doors v_draft_doorSides u_2 u_3) = w_j62 ∧ (mX5_readNumber v_letters w_j62.1 w_j62.2 u_3.2.2.2.1 v_text ((0 : Int32)) ((9 : Int32))) = u_4 ∧ (mX5_readNumber v_letters u_4.2.1 u_4.2.2.1 u_4.2.2.2.1 v_text ((0 : Int32)) ((1 : Int32))) = u_5 ∧ (mX5_readWord v_letters u_5.2.1 u_5.2.2.1 u_5.2.2.2.1 v_text ((59 : Int32))) = u_6 ∧ (mX1_addDoor v_draft_doors v_draft_doorA v_draft_doorB v_draft_doorOpen v_draft_doorSides v_draft_now u_2.1 u_3.1 u_4.1 u_5.1) = u_7 ∧ mX5_readDoor v_letters v_faultPlace v_faultNumber v_next v_draft_rooms v_draft_doors v_text v_draft_doorA v_draft_doorB v_draft_doorOpen v_draft_doorSides v_draft_now = (((((((((u_6.1, u_6.2.1, u_6.2.2, u_5.2.2.2.2, u_7.1, u_7.2.1, u_7.2.2.1, u_7.2.2.2.1, u_7.2.2.2.2.1, u_7.2.2.2.2.2))))))))) := ⟨_, _, _, _, _, _, _, _, rfl, rfl, rfl, rfl, rfl, rfl, rfl, rfl, rfl⟩
theorem mX10_isDoorItem_ex (v_letters : Nat) (v_position : Nat) (v_tokenAt : Nat) (v_token : Int32) (v_number : Int32) (v_figures : Nat) (v_faultAt : Int32) (v_faultIs : Int32) (v_readRooms : Int32) (v_readDoors : Nat) (v_readDoor : Nat → Int32) (v_text : Nat → Int32) : ∃ (u_48 : Int32 × Int32 × Int32) (u_2 : Int32 × Nat × Nat × Int32 × Int32 × Nat × Int32 × Int32) (u_4 : Int32 × Nat × Nat × Int32 × Int32 × Nat × Int32 × Int32) (y2_j99 : Int32) (u_46 : Int32 × Int32 × Int32) (u_41 : Int32 × Nat × Nat × Int32 × Int32 × Nat × Int32 × Int32) (u_43 : Int32 × Nat × Nat × Int32 × Int32 × Nat × Int32 × Int32) (u_45 : Int32 × Nat × Nat × Int32 × Int32 × Nat × Int32 × Int32), (mX10_fails v_tokenAt (nI 3)) = u_48 ∧ (mX10_isNumber v_letters v_position v_faultAt v_faultIs v_text (nI 0) (v_readRooms - (nI 1))) = u_2 ∧ (mX10_isNumber v_letters u_2.2.1 u_2.2.2.2.2.2.2.1 u_2.2.2.2.2.2.2.2 v_text (nI 0) (v_readRooms - (nI 1))) = u_4 ∧ (mX10_isDoorItem_j99 v_readDoors v_readDoor u_2 u_4) = y2_j99 ∧ (mX10_fails u_4.2.2.1 (nI 4)) = u_46 ∧ (mX10_isNumber v_letters u_4.2.1 u_4.2.2.2.2.2.2.1 u_4.2.2.2.2.2.2.2 v_text (nI 0) (nI 9)) = u_41 ∧ (mX10_isNumber v_letters u_41.2.1 u_41.2.2.2.2.2.2.1 u_41.2.2.2.2.2.2.2 v_text (nI 0) (nI 1)) = u_43 ∧ (mX10_isEnd v_letters u_43.2.1 u_43.2.2.2.2.2.2.1 u_43.2.2.2.2.2.2.2 v_text) = u_45 ∧ mX10_isDoorItem v_letters v_position v_tokenAt v_token v_number v_figures v_faultAt v_faultIs v_readRooms v_readDoors v_readDoor v_text = (if (nI v_readDoors) = (nI 10) then ((u_48.1, v_position, v_tokenAt, v_token, v_number, v_figures, u_48.2.1, u_48.2.2, v_readDoors, v_readDoor)) else ((if u_2.1 = 0 then (nI 0, u_2.2.1, u_2.2.2.1, u_2.2.2.2.1, u_2.2.2.2.2.1, u_2.2.2.2.2.2.1, u_2.2.2.2.2.2.2.1, u_2.2.2.2.2.2.2.2, v_readDoors, v_readDoor) else ((if u_4.1 = 0 then (nI 0, u_4.2.1, u_4.2.2.1, u_4.2.2.2.1, u_4.2.2.2.2.1, u_4.2.2.2.2.2.1, u_4.2.2.2.2.2.2.1, u_4.2.2.2.2.2.2.2, v_readDoors, upd v_readDoor (4 * v_readDoors) u_2.2.2.2.2.1) else ((if ((iter (mX10_isDoorItem_l101 v_readDoors v_readDoor u_2 u_4) v_readDoors y2_j99)) = 0 then ((u_46.1, u_4.2.1, u_4.2.2.1, u_4.2.2.2.1, u_4.2.2.2.2.1, u_4.2.2.2.2.2.1, u_46.2.1, u_46.2.2, v_readDoors, upd (upd v_readDoor (4 * v_readDoors) u_2.2.2.2.2.1) (4 * v_readDoors + 1) u_4.2.2.2.2.1)) else ((if u_41.1 = 0 then (nI 0, u_41.2.1, u_41.2.2.1, u_41.2.2.2.1, u_41.2.2.2.2.1, u_41.2.2.2.2.2.1, u_41.2.2.2.2.2.2.1, u_41.2.2.2.2.2.2.2, v_readDoors, upd (upd v_readDoor (4 * v_readDoors) u_2.2.2.2.2.1) (4 * v_readDoors + 1) u_4.2.2.2.2.1) else ((if u_43.1 = 0 then (nI 0, u_43.2.1, u_43.2.2.1, u_43.2.2.2.1, u_43.2.2.2.2.1, u_43.2.2.2.2.2.1, u_43.2.2.2.2.2.2.1, u_43.2.2.2.2.2.2.2, v_readDoors, upd (upd (upd v_readDoor (4 * v_readDoors) u_2.2.2.2.2.1) (4 * v_readDoors + 1) u_4.2.2.2.2.1) (4 * v_readDoors + 2) u_41.2.2.2.2.1) else ((u_45.1, u_45.2.1, u_45.2.2.1, u_45.2.2.2.1, u_45.2.2.2.2.1, u_45.2.2.2.2.2.1, u_45.2.2.2.2.2.2.1, u_45.2.2.2.2.2.2.2, v_readDoors + 1, upd (upd (upd (upd v_readDoor (4 * v_readDoors) u_2.2.2.2.2.1) (4 * v_readDoors + 1) u_4.2.2.2.2.1) (4 * v_readDoors + 2) u_41.2.2.2.2.1) (4 * v_readDoors + 3) u_43.2.2.2.2.1))))))))))))) := ⟨_, _, _, _, _, _, _, _, rfl, rfl, rfl, rfl, rfl, rfl, rfl, rfl, rfl⟩
section Door
variable {T tc : Nat → Int32} {L n : Nat}
theorem j62_n {Rm D a b : Nat} {dA dB dS dO rd : Nat → Int32} (hD : D ≤ 10) (hR : Rm ≤ 8) (hd : ∀ d, d < D → okDoor Rm dA dB dS dO rd d) (ha : a < Rm) (hb : b < Rm) {f2 g2 x2 y2 fp nx np : Int32} :
    ((a = b ∨ ∃ d, d < D ∧ toldN rd a b d) → mX5_readDoor_j62 (nI D) dS (nI a, f2, g2, x2, y2) (nI b, fp, 0, nx, np) = (np, 4)) ∧ (¬ (a = b ∨ ∃ d, d < D ∧ toldN rd a b d) → mX5_readDoor_j62 (nI D) dS (nI a, f2, g2, x2, y2) (nI b, fp, 0, nx, np) = (fp, 0)) := by
  unfold mX5_readDoor_j62 mX5_mark
  dsimp only
  rw [if_pos rfl]
  by_cases c : a = b
  · rw [if_pos (congrArg nI c)]
    exact ⟨fun _ => rfl, fun q => absurd (Or.inl c) q⟩
  · rw [if_neg (fun q => c ((nI_eq (by omega) (by omega)).mp q))]
    have hj := joined_n hD hR hd ha hb c
    by_cases c2 : mX1_isJoined (nI D) dS (nI a) (nI b) = 0
    · rw [if_pos c2]
      exact ⟨fun q => q.elim (fun z => absurd z c) (fun z => absurd c2 (hj.mpr z)), fun _ => rfl⟩
    · rw [if_neg c2]
      exact ⟨fun _ => rfl, fun q => absurd (Or.inr (hj.mp c2)) q⟩
theorem door_spec (hL : L ≤ 240) (ht : ∀ j, j < L → tc j = T j) (hT : ∀ j, j < L → ∃ t, t ≤ 255 ∧ T j = nI t) (hn : n < L) (hw : T n = nI 100) {fp fa fi tk0 nu0 : Int32} {ta0 fg0 Rm D : Nat} (hRm : 0 < Rm ∧ Rm ≤ 8) (hD : D < 10) {dA dB dS dO now rd : Nat → Int32}
    (hd : ∀ d, d < D → okDoor Rm dA dB dS dO rd d)
    {R : Int32 × Int32 × Int32 × Int32 × Int32 × (Nat → Int32) × (Nat → Int32) × (Nat → Int32) × (Nat → Int32) × (Nat → Int32)} {M : Int32 × Nat × Nat × Int32 × Int32 × Nat × Int32 × Int32 × Nat × (Nat → Int32)}
    (hR : mX5_readDoor (nI L) fp 0 (nI n) (nI Rm) (nI D) tc dA dB dO dS now = R) (hM : mX10_isDoorItem L (n + 1) ta0 tk0 nu0 fg0 fa fi (nI Rm) D rd T = M) :
    (∃ F at' : Int32, ¬ F = 0 ∧ R.1 = at' ∧ R.2.1 = F ∧ M.1 = nI 0 ∧ M.2.2.2.2.2.2.1 = at' ∧ M.2.2.2.2.2.2.2.1 = F) ∨
    (∃ (m a b k o tA : Nat) (tk nu : Int32) (fg : Nat) (np : Int32), R = (fp, (0 : Int32), nI m, np, nI (D + 1), upd dA D (nI a), upd dB D (nI b), upd dO D (nI o), upd dS D (((1 : Int32) <<< (nI a &&& 31)) ||| ((1 : Int32) <<< (nI b &&& 31))), upd now D (nI k)) ∧
      M = (nI 1, m, tA, tk, nu, fg, fa, fi, D + 1, upd (upd (upd (upd rd (4 * D) (nI a)) (4 * D + 1) (nI b)) (4 * D + 2) (nI k)) (4 * D + 3) (nI o)) ∧ n < m ∧ m ≤ L ∧ a < Rm ∧ b < Rm ∧ a ≠ b ∧ k ≤ 9 ∧ o ≤ 1) := by
  obtain ⟨u1, u2, u3, uj, u4, u5, u6, u7, h1, h2, h3, hj, h4, h5, h6, h7, eqR⟩ := mX5_readDoor_ex (nI L) fp 0 (nI n) (nI Rm) (nI D) tc dA dB dO dS now
  obtain ⟨w48, w2, w4, wj, w46, w41, w43, w45, g48, g2, g4, gj, g46, g41, g43, g45, eqM⟩ := mX10_isDoorItem_ex L (n + 1) ta0 tk0 nu0 fg0 fa fi (nI Rm) D rd T
  rw [eqR] at hR
  rw [eqM, if_neg (fun q => absurd ((nI_eq (by omega) (by omega)).mp q) (by omega))] at hM
  clear eqR eqM
  replace h1 := (wd_at hL ht hn (w := 100) hw (by decide) fp 0).symm.trans h1
  subst h1
  rcases num_spec hL ht hT (show n + 1 ≤ L by omega) fp fa fi (nI 0) (nI Rm - nI 1) 0 (nI Rm - 1) rfl rfl with ⟨F, at', p, q, tk, nu, fg, v, nx, np, hF, eM, eR⟩ | ⟨q, m, v, fg, eM, eR, hlt, hle, hin⟩
  · left
    replace g2 := eM.symm.trans g2
    subst g2
    rw [if_pos (show (nI 0, p, q, tk, nu, fg, at', F).1 = (0 : Int32) from rfl)] at hM
    replace h2 := eR.symm.trans h2
    subst h2
    obtain ⟨v2, nx2, np2, e2⟩ := num_keep (tc := tc) (x := nx) (fp := at') (lo := 0) (hi := nI Rm - 1) (Li := nI L) hF
    replace h3 := e2.symm.trans h3
    subst h3
    replace hj := (j62_keep (u3 := (v2, at', F, nx2, np2)) hF).symm.trans hj
    subst hj
    obtain ⟨v4, nx4, np4, e4⟩ := num_keep (tc := tc) (x := nx2) (fp := at') (lo := 0) (hi := 9) (Li := nI L) hF
    replace h4 := e4.symm.trans h4
    subst h4
    obtain ⟨v5, nx5, np5, e5⟩ := num_keep (tc := tc) (x := nx4) (fp := at') (lo := 0) (hi := 1) (Li := nI L) hF
    replace h5 := e5.symm.trans h5
    subst h5
    obtain ⟨nx6, e6⟩ := wd_keep (tc := tc) (x := nx5) (fp := at') (w := 59) (Li := nI L) hF
    replace h6 := e6.symm.trans h6
    subst h6
    subst hR hM
    exact ⟨F, at', hF, rfl, rfl, rfl, rfl, rfl⟩
  · rw [pk_sub (by omega)] at hin
    have hv := in_nat1 (by omega) (by omega) hin
    obtain ⟨a, hva, haR⟩ : ∃ a, v = nI a ∧ a < Rm := ⟨v.toNatClampNeg, hv.2, by omega⟩
    clear hv hin
    subst hva
    replace g2 := eM.symm.trans g2
    subst g2
    rw [if_neg (show ¬ (nI 1, m, q, (-1 : Int32), nI a, fg, fa, fi).1 = (0 : Int32) from nI1n)] at hM
    replace h2 := eR.symm.trans h2
    subst h2
    rcases num_spec hL ht hT hle fp fa fi (nI 0) (nI Rm - nI 1) 0 (nI Rm - 1) rfl rfl with ⟨F, at', p, q2, tk, nu, fg2, v2, nx2, np2, hF, eM2, eR2⟩ | ⟨q2, m2, v2, fg2, eM2, eR2, hlt2, hle2, hin2⟩
    · left
      replace g4 := eM2.symm.trans g4
      subst g4
      rw [if_pos (show (nI 0, p, q2, tk, nu, fg2, at', F).1 = (0 : Int32) from rfl)] at hM
      replace h3 := eR2.symm.trans h3
      subst h3
      replace hj := (j62_keep (u3 := (v2, at', F, nx2, np2)) hF).symm.trans hj
      subst hj
      obtain ⟨v4, nx4, np4, e4⟩ := num_keep (tc := tc) (x := nx2) (fp := at') (lo := 0) (hi := 9) (Li := nI L) hF
      replace h4 := e4.symm.trans h4
      subst h4
      obtain ⟨v5, nx5, np5, e5⟩ := num_keep (tc := tc) (x := nx4) (fp := at') (lo := 0) (hi := 1) (Li := nI L) hF
      replace h5 := e5.symm.trans h5
      subst h5
      obtain ⟨nx6, e6⟩ := wd_keep (tc := tc) (x := nx5) (fp := at') (w := 59) (Li := nI L) hF
      replace h6 := e6.symm.trans h6
      subst h6
      subst hR hM
      exact ⟨F, at', hF, rfl, rfl, rfl, rfl, rfl⟩
    · rw [pk_sub (by omega)] at hin2
      have hv2 := in_nat1 (by omega) (by omega) hin2
      obtain ⟨b, hvb, hbR⟩ : ∃ b, v2 = nI b ∧ b < Rm := ⟨v2.toNatClampNeg, hv2.2, by omega⟩
      clear hv2 hin2
      subst hvb
      replace g4 := eM2.symm.trans g4
      subst g4
      rw [if_neg (show ¬ (nI 1, m2, q2, (-1 : Int32), nI b, fg2, fa, fi).1 = (0 : Int32) from nI1n)] at hM
      replace h3 := eR2.symm.trans h3
      subst h3
      have hjj := j62_n (D := D) (by omega) hRm.2 hd haR hbR (f2 := fp) (g2 := 0) (x2 := nI m) (y2 := nI q) (fp := fp) (nx := nI m2) (np := nI q2)
      have hsm := same_n (D := D) (rd := rd) (u2 := (nI 1, m, q, (-1 : Int32), nI a, fg, fa, fi)) (u4 := (nI 1, m2, q2, (-1 : Int32), nI b, fg2, fa, fi)) rfl rfl (show a < 8 by omega) (show b < 8 by omega)
      rw [gj] at hsm
      by_cases c : a = b ∨ ∃ d, d < D ∧ toldN rd a b d
      · left
        replace hj := (hjj.1 c).symm.trans hj
        subst hj
        have hF : ¬ (4 : Int32) = 0 := by decide
        obtain ⟨v4, nx4, np4, e4⟩ := num_keep (tc := tc) (x := nI m2) (fp := nI q2) (lo := 0) (hi := 9) (Li := nI L) hF
        replace h4 := e4.symm.trans h4
        subst h4
        obtain ⟨v5, nx5, np5, e5⟩ := num_keep (tc := tc) (x := nx4) (fp := nI q2) (lo := 0) (hi := 1) (Li := nI L) hF
        replace h5 := e5.symm.trans h5
        subst h5
        obtain ⟨nx6, e6⟩ := wd_keep (tc := tc) (x := nx5) (fp := nI q2) (w := 59) (Li := nI L) hF
        replace h6 := e6.symm.trans h6
        subst h6
        rw [if_pos (hsm.mpr c)] at hM
        subst g46
        subst hR hM
        exact ⟨4, nI q2, hF, rfl, rfl, rfl, rfl, rfl⟩
      · replace hj := (hjj.2 c).symm.trans hj
        subst hj
        rw [if_neg (fun z => c (hsm.mp z))] at hM
        clear hjj hsm
        rcases num_spec hL ht hT hle2 fp fa fi (nI 0) (nI 9) 0 9 rfl rfl with ⟨F, at', p, q4, tk, nu, fg4, v4, nx4, np4, hF, eM4, eR4⟩ | ⟨q4, m4, v4, fg4, eM4, eR4, hlt4, hle4, hin4⟩
        · left
          replace g41 := eM4.symm.trans g41
          subst g41
          rw [if_pos (show (nI 0, p, q4, tk, nu, fg4, at', F).1 = (0 : Int32) from rfl)] at hM
          replace h4 := eR4.symm.trans h4
          subst h4
          obtain ⟨v5, nx5, np5, e5⟩ := num_keep (tc := tc) (x := nx4) (fp := at') (lo := 0) (hi := 1) (Li := nI L) hF
          replace h5 := e5.symm.trans h5
          subst h5
          obtain ⟨nx6, e6⟩ := wd_keep (tc := tc) (x := nx5) (fp := at') (w := 59) (Li := nI L) hF
          replace h6 := e6.symm.trans h6
          subst h6
          subst hR hM
          exact ⟨F, at', hF, rfl, rfl, rfl, rfl, rfl⟩
        · have hv4 := in_nat1 (by omega) (by omega) hin4
          obtain ⟨k, hvk, hkR⟩ : ∃ k, v4 = nI k ∧ k ≤ 9 := ⟨v4.toNatClampNeg, hv4.2, hv4.1.2⟩
          clear hv4 hin4
          subst hvk
          replace g41 := eM4.symm.trans g41
          subst g41
          rw [if_neg (show ¬ (nI 1, m4, q4, (-1 : Int32), nI k, fg4, fa, fi).1 = (0 : Int32) from nI1n)] at hM
          replace h4 := eR4.symm.trans h4
          subst h4
          rcases num_spec hL ht hT hle4 fp fa fi (nI 0) (nI 1) 0 1 rfl rfl with ⟨F, at', p, q5, tk, nu, fg5, v5, nx5, np5, hF, eM5, eR5⟩ | ⟨q5, m5, v5, fg5, eM5, eR5, hlt5, hle5, hin5⟩
          · left
            replace g43 := eM5.symm.trans g43
            subst g43
            rw [if_pos (show (nI 0, p, q5, tk, nu, fg5, at', F).1 = (0 : Int32) from rfl)] at hM
            replace h5 := eR5.symm.trans h5
            subst h5
            obtain ⟨nx6, e6⟩ := wd_keep (tc := tc) (x := nx5) (fp := at') (w := 59) (Li := nI L) hF
            replace h6 := e6.symm.trans h6
            subst h6
            subst hR hM
            exact ⟨F, at', hF, rfl, rfl, rfl, rfl, rfl⟩
          · have hv5 := in_nat1 (by omega) (by omega) hin5
            obtain ⟨o, hvo, hoR⟩ : ∃ o, v5 = nI o ∧ o ≤ 1 := ⟨v5.toNatClampNeg, hv5.2, hv5.1.2⟩
            clear hv5 hin5
            subst hvo
            replace g43 := eM5.symm.trans g43
            subst g43
            rw [if_neg (show ¬ (nI 1, m5, q5, (-1 : Int32), nI o, fg5, fa, fi).1 = (0 : Int32) from nI1n)] at hM
            replace h5 := eR5.symm.trans h5
            subst h5
            rcases end_spec hL ht hT hle5 fp fa fi with ⟨F, at', p, q6, tk, nu, fg6, nx6, hF, eM6, eR6⟩ | ⟨q6, m6, tk6, nu6, fg6, eM6, eR6, hlt6, hle6⟩
            · left
              replace g45 := eM6.symm.trans g45
              subst g45
              replace h6 := eR6.symm.trans h6
              subst h6
              subst hR hM
              exact ⟨F, at', hF, rfl, rfl, rfl, rfl, rfl⟩
            · right
              replace g45 := eM6.symm.trans g45
              subst g45
              replace h6 := eR6.symm.trans h6
              subst h6
              unfold mX1_addDoor at h7
              dsimp only at h7
              rw [set_nat (by omega) (by omega), set_nat (by omega) (by omega), set_nat (by omega) (by omega), set_nat (by omega) (by omega), setSpoons_n (by omega), show nI D + (1 : Int32) = nI (D + 1) from nI_add D 1] at h7
              subst h7
              dsimp only at hM hR
              exact ⟨m6, a, b, k, o, q6, tk6, nu6, fg6, nI q5, hR.symm, hM.symm, by omega, hle6, haR, hbR, fun z => c (Or.inl z), hkR, hoR⟩
end Door
