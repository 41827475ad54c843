theorem dX8_spread_0 : decode cX8_spread 0 = .ok (.iload_n 1, 1) := by decide +kernel
theorem dX8_spread_1 : decode cX8_spread 1 = .ok (.istore_n 3, 1) := by decide +kernel
theorem dX8_spread_2 : decode cX8_spread 2 = .ok (.iconst 0, 1) := by decide +kernel
theorem dX8_spread_3 : decode cX8_spread 3 = .ok (.istore 4, 2) := by decide +kernel
theorem dX8_spread_5 : decode cX8_spread 5 = .ok (.iload 4, 2) := by decide +kernel
theorem dX8_spread_7 : decode cX8_spread 7 = .ok (.aload_n 0, 1) := by decide +kernel
theorem dX8_spread_8 : decode cX8_spread 8 = .ok (.getfield 9, 3) := by decide +kernel
theorem dX8_spread_11 : decode cX8_spread 11 = .ok (.getfield 15, 3) := by decide +kernel
theorem dX8_spread_14 : decode cX8_spread 14 = .ok (.if_icmp .ge 44, 3) := by decide +kernel
theorem dX8_spread_17 : decode cX8_spread 17 = .ok (.aload_n 0, 1) := by decide +kernel
theorem dX8_spread_18 : decode cX8_spread 18 = .ok (.getfield 9, 3) := by decide +kernel
theorem dX8_spread_21 : decode cX8_spread 21 = .ok (.getfield 21, 3) := by decide +kernel
theorem dX8_spread_24 : decode cX8_spread 24 = .ok (.iload 4, 2) := by decide +kernel
theorem dX8_spread_26 : decode cX8_spread 26 = .ok (.invokevirtual 25, 3) := by decide +kernel
theorem dX8_spread_29 : decode cX8_spread 29 = .ok (.istore 5, 2) := by decide +kernel
theorem dX8_spread_31 : decode cX8_spread 31 = .ok (.iload_n 2, 1) := by decide +kernel
theorem dX8_spread_32 : decode cX8_spread 32 = .ok (.iload 4, 2) := by decide +kernel
theorem dX8_spread_34 : decode cX8_spread 34 = .ok (.invokestatic 31, 3) := by decide +kernel
theorem dX8_spread_37 : decode cX8_spread 37 = .ok (.ifCond .eq 15, 3) := by decide +kernel
theorem dX8_spread_40 : decode cX8_spread 40 = .ok (.iload_n 1, 1) := by decide +kernel
theorem dX8_spread_41 : decode cX8_spread 41 = .ok (.iload 5, 2) := by decide +kernel
theorem dX8_spread_43 : decode cX8_spread 43 = .ok (.iand, 1) := by decide +kernel
theorem dX8_spread_44 : decode cX8_spread 44 = .ok (.ifCond .eq 8, 3) := by decide +kernel
theorem dX8_spread_47 : decode cX8_spread 47 = .ok (.iload_n 3, 1) := by decide +kernel
theorem dX8_spread_48 : decode cX8_spread 48 = .ok (.iload 5, 2) := by decide +kernel
theorem dX8_spread_50 : decode cX8_spread 50 = .ok (.ior, 1) := by decide +kernel
theorem dX8_spread_51 : decode cX8_spread 51 = .ok (.istore_n 3, 1) := by decide +kernel
theorem dX8_spread_52 : decode cX8_spread 52 = .ok (.iinc 4 1, 3) := by decide +kernel
theorem dX8_spread_55 : decode cX8_spread 55 = .ok (.goto (-50), 3) := by decide +kernel
theorem dX8_spread_58 : decode cX8_spread 58 = .ok (.iload_n 3, 1) := by decide +kernel
theorem dX8_spread_59 : decode cX8_spread 59 = .ok (.ireturn, 1) := by decide +kernel
theorem h_X8_spread : yX8_spread.cls ≠ "java/lang/invoke/MethodHandle" ∧ yX8_spread.cls ≠ "java/lang/invoke/VarHandle" ∧ (parseMethodDescriptor yX8_spread.desc).map (fun d => d.parameters.length) = some 2 := by decide +kernel
def mX8_spread_l5 (v_home_doorSides : Nat → Int32) (x1 : Int32) (x2 : Int32) (k_5 : Nat) (y3_5 : Int32) : Int32 := (if ((mX9_inSet x2 (nI k_5))) = 0 then y3_5 else (if (x1 &&& ((mX6_get 10 v_home_doorSides (nI k_5)))) = 0 then y3_5 else y3_5 ||| ((mX6_get 10 v_home_doorSides (nI k_5)))))
def mX8_spread (v_home_doors : Int32) (v_home_doorSides : Nat → Int32) (x1 : Int32) (x2 : Int32) : Int32 := (iter (mX8_spread_l5 v_home_doorSides x1 x2) v_home_doors.toNatClampNeg x1)
set_option maxHeartbeats 4000000 in
set_option maxRecDepth 100000 in
theorem kX8_spread (l : Launch) (dC : Nat → ClassId) (dI : Nat → Nat → Nat) (cA cZ : ClassId) (a_this a_this_home a_this_home_rainfall a_this_home_doorA a_this_home_doorB a_this_home_doorSides a_this_home_doorOpen a_this_home_now a_this_home_doorSides_cells : Nat) (v_home_rooms : Int32) (v_home_rains : Int32) (v_home_doors : Int32) (v_home_persons : Int32) (v_home_doorSides : Nat → Int32) (x1 : Int32) (x2 : Int32) : Met l yX8_spread (Cond.code yX8_spread cX8_spread 6 (some .int) :: wt) ({ frames := 1, cells := 0, slots := 0, locals := 21 } : Room) (va_Pc [.ref a_this, .int x1, .int x2] (PreP (dC, dI) [(cA, .int), (cZ, .boolean)] [(a_this, .inr (8, [.ref a_this_home])), (a_this_home, .inr (1, [.ref a_this_home_rainfall, .ref a_this_home_doorA, .ref a_this_home_doorB, .ref a_this_home_doorSides, .ref a_this_home_doorOpen, .ref a_this_home_now, .int v_home_rooms, .int v_home_rains, .int v_home_doors, .int v_home_persons])), (a_this_home_doorSides, .inr (6, [.ref a_this_home_doorSides_cells])), (a_this_home_doorSides_cells, .inl (cA, 10, .inl v_home_doorSides))])) (vp_Si (fun r => r = (mX8_spread v_home_doors v_home_doorSides x1 x2))) 0 0 (fun _ => False) := by
  refine Met.ofW (cc := cX8_spread) (maxL := 6) (ret := (some .int)) (by decide) rfl ?_
  intro p e s m args below meth c s₁ B hml hv
  obtain ⟨ha, hP, hK⟩ := hv
  have hx := B.exec
  have hb := B.bytes
  have hr := B.returns
  have ht : ∀ w ∈ wt, w.before args s = true := fun w h => atoms_spec (ws := (Cond.code yX8_spread cX8_spread 6 (some .int) :: wt)) B.pre w (List.mem_cons_of_mem _ h)
  have hown : s.vm.findClass RX8 = some m.cls := findClass_of_methodNamed B.named
  have hlocks := B.notSynchronized
  have hl := lv_entry ([.ref a_this, .int x1, .int x2]) (n := 6) (Nat.le_of_ble_eq_true rfl)
  rw [show entryFrame m args 6 = _ from (congrArg (fun a => entryFrame m a 6) ha).trans (lg_entry_eq m [.ref a_this, .int x1, .int x2] 6)]
  generalize (lg_sl ([.ref a_this, .int x1, .int x2]) ++ List.replicate (6 - (lg_sl ([.ref a_this, .int x1, .int x2])).length) Slot.unset).toArray = ls at hl ⊢
  have hl : lv_has ls 6 [(0, .ref a_this), (1, .int x1), (2, .int x2)] := hl
  have hm : (mX8_spread v_home_doors v_home_doorSides x1 x2) = (mX8_spread v_home_doors v_home_doorSides x1 x2) := rfl
  refine lv_iload_n hx hb dX8_spread_0 rfl (lv_at hl 1 rfl) ?_
  refine lv_istore_n (lv' := [(3, .int x1), (0, .ref a_this), (1, .int x1), (2, .int x2)]) hx hb dX8_spread_1 rfl hl (by decide) rfl (fun ls hl => ?_)
  refine lv_iconst (v := (0 : Int32)) hx hb dX8_spread_2 (by decide) ?_
  refine lv_istore (lv' := [(4, .int ((0 : Int32))), (3, .int x1), (0, .ref a_this), (1, .int x1), (2, .int x2)]) hx hb dX8_spread_3 hl (by decide) rfl (fun ls hl => ?_)
  have L_5 : ∀ (n_5 k_5 : Nat), k_5 + n_5 = v_home_doors.toNatClampNeg → ∀ (y3_5 : Int32), y3_5 = (iter (mX8_spread_l5 v_home_doorSides x1 x2) k_5 x1) → ∀ (ls : Array Slot), lv_has ls 6 [(4, .int (nI k_5)), (3, .int y3_5), (0, .ref a_this), (1, .int x1), (2, .int x2)] → W p l e (headSpec (Cond.code yX8_spread cX8_spread 6 (some .int) :: wt) ({ frames := 1, cells := 0, slots := 0, locals := 21 } : Room)).room s m args below meth c s.heap [] 0 0 (MQ below (vp_Si (fun r => r = (mX8_spread v_home_doors v_home_doorSides x1 x2))) args s 0 0 (fun _ => False)) (F0 m 5 ls []) := by
    intro n_5
    induction n_5 with
    | zero =>
      intro k_5 hk y3_5 ex0_5 ls hl
      obtain rfl : v_home_doors.toNatClampNeg = k_5 := by omega
      subst ex0_5
      refine lv_iload hx hb dX8_spread_5 (lv_at hl 0 rfl) ?_
      refine lv_aload_n hx hb dX8_spread_7 rfl (lv_at hl 2 rfl) ?_
      refine va_get (D := (dC, dI)) (ci := 8) (v := .ref a_this_home) (C := RX8) (T := TX8) (N := 1) hx hb ht iX8 hown hK.1 hP 0 rfl rfl 0 (by decide) (ht _ w_1_113) (fun _ h9 => h9) rfl dX8_spread_8 ?_
      refine va_get (D := (dC, dI)) (ci := 1) (v := .int v_home_doors) (C := RX1) (T := TX1) (N := 10) hx hb ht iX1 hown hK.1 hP 1 rfl rfl 8 (by decide) (ht _ w_1_76) (fun _ h9 => h9) rfl dX8_spread_11 ?_
      refine lv_icmp_ge (tgt := 58) hx hb dX8_spread_14 (by decide) (fun c_4 => ?_) (fun c_4 => ?_)
      · skip
        refine lv_iload_n hx hb dX8_spread_58 rfl (lv_at hl 1 rfl) ?_
        exact W.iret (v := (iter (mX8_spread_l5 v_home_doorSides x1 x2) v_home_doors.toNatClampNeg x1)) hx hb hr (fun t ht9 _ => ⟨_, rfl, hm, ht9⟩) (fun q hq => absurd hq List.not_mem_nil) dX8_spread_59
      · exact absurd (lpE (by omega) (by have := clampLt v_home_doors; omega)) c_4
    | succ n_5 ih =>
      intro k_5 hk y3_5 ex0_5 ls hl
      have hm : (mX8_spread_l5 v_home_doorSides x1 x2) k_5 y3_5 = (iter (mX8_spread_l5 v_home_doorSides x1 x2) (k_5 + 1) x1) := by rw [ex0_5]; rfl
      refine lv_iload hx hb dX8_spread_5 (lv_at hl 0 rfl) ?_
      refine lv_aload_n hx hb dX8_spread_7 rfl (lv_at hl 2 rfl) ?_
      refine va_get (D := (dC, dI)) (ci := 8) (v := .ref a_this_home) (C := RX8) (T := TX8) (N := 1) hx hb ht iX8 hown hK.1 hP 0 rfl rfl 0 (by decide) (ht _ w_1_113) (fun _ h9 => h9) rfl dX8_spread_8 ?_
      refine va_get (D := (dC, dI)) (ci := 1) (v := .int v_home_doors) (C := RX1) (T := TX1) (N := 10) hx hb ht iX1 hown hK.1 hP 1 rfl rfl 8 (by decide) (ht _ w_1_76) (fun _ h9 => h9) rfl dX8_spread_11 ?_
      refine lv_icmp_ge (tgt := 58) hx hb dX8_spread_14 (by decide) (fun c_1 => ?_) (fun c_1 => ?_)
      · exact absurd c_1 (lpN (by omega))
      · skip
        refine lv_aload_n hx hb dX8_spread_17 rfl (lv_at hl 2 rfl) ?_
        refine va_get (D := (dC, dI)) (ci := 8) (v := .ref a_this_home) (C := RX8) (T := TX8) (N := 1) hx hb ht iX8 hown hK.1 hP 0 rfl rfl 0 (by decide) (ht _ w_1_113) (fun _ h9 => h9) rfl dX8_spread_18 ?_
        refine va_get (D := (dC, dI)) (ci := 1) (v := .ref a_this_home_doorSides) (C := RX1) (T := TX1) (N := 10) hx hb ht iX1 hown hK.1 hP 1 rfl rfl 3 (by decide) (ht _ w_1_63) (fun _ h9 => h9) rfl dX8_spread_21 ?_
        refine lv_iload hx hb dX8_spread_24 (lv_at hl 0 rfl) ?_
        refine pv_call (v := (mX6_get 10 v_home_doorSides (nI k_5))) (va_runV (As := [.int (nI k_5)]) (rest := []) ⟨hx, hb, hml, hown, ht⟩ (kX6_get l dC dI cA cZ a_this_home_doorSides a_this_home_doorSides_cells 10 v_home_doorSides (nI k_5) (by decide)) (cwV 1 ht (gi_V (C := RX6) w_3_5 w_2_56 w_2_57 w_1_3 (gi_code w_2_58)) rfl rfl rfl ⟨rfl, h_X6_get⟩ ⟨Nat.le_of_ble_eq_true rfl, Nat.le_of_ble_eq_true rfl⟩) ⟨pp_blind, va_recv hK.1 hP (ci := 6) (q0 := 2) rfl rfl, pp_use (pc_sub (wc := [(a_this_home_doorSides, .inr (6, [.ref a_this_home_doorSides_cells])), (a_this_home_doorSides_cells, .inl (cA, 10, .inl v_home_doorSides))]) hP [2, 3] rfl) hK⟩ rfl rfl hl.1 rfl (lv_room (Nat.le_of_ble_eq_true rfl)) dX8_spread_26 ⟨Nat.zero_le _, Nat.zero_le _⟩) ?_
        refine lv_istore (lv' := [(5, .int ((mX6_get 10 v_home_doorSides (nI k_5)))), (4, .int (nI k_5)), (3, .int y3_5), (0, .ref a_this), (1, .int x1), (2, .int x2)]) hx hb dX8_spread_29 hl (by decide) rfl (fun ls hl => ?_)
        refine lv_iload_n hx hb dX8_spread_31 rfl (lv_at hl 5 rfl) ?_
        refine lv_iload hx hb dX8_spread_32 (lv_at hl 1 rfl) ?_
        refine pv_call (v := (mX9_inSet x2 (nI k_5))) (va_runSN (As := [.int x2, .int (nI k_5)]) (rest := []) ⟨hx, hb, hml, hown, ht⟩ (kX9_inSet l dC dI cA cZ x2 (nI k_5)) ⟨va_cnB 2 ht (gi_code w_3_8) rfl rfl rfl (hK.2 _ nwi_13) (ht _ w_1_1) h_X9_inSet ⟨Nat.le_of_ble_eq_true rfl, Nat.le_of_ble_eq_true rfl⟩, ht _ w_3_7, trivial⟩ ⟨pp_blind, pp_use (ws := []) (fun _ _ h => by cases h) hK⟩ rfl rfl hl.1 rfl (lv_room (Nat.le_of_ble_eq_true rfl)) dX8_spread_34 ⟨Nat.zero_le _, Nat.zero_le _⟩) ?_
        refine lv_if_eq (tgt := 52) hx hb dX8_spread_37 (by decide) (fun c_2 => ?_) (fun c_2 => ?_)
        · have hm := (if_pos c_2).symm.trans hm
          refine lv_iinc (v := nI (k_5 + 1)) (lv' := [(4, .int (nI (k_5 + 1))), (5, .int ((mX6_get 10 v_home_doorSides (nI k_5)))), (3, .int y3_5), (0, .ref a_this), (1, .int x1), (2, .int x2)]) hx hb dX8_spread_52 hl (k := 1) rfl (nI_1 _) (by decide) rfl (fun ls hl => ?_)
          refine lv_goto (tgt := 5) hx hb dX8_spread_55 (by decide) ?_
          exact ih (k_5 + 1) (by omega) y3_5 hm ls (lv_sub hl [0, 2, 3, 4, 5] rfl)
        · have hm := (if_neg c_2).symm.trans hm
          refine lv_iload_n hx hb dX8_spread_40 rfl (lv_at hl 4 rfl) ?_
          refine lv_iload hx hb dX8_spread_41 (lv_at hl 0 rfl) ?_
          refine lv_iand hx hb dX8_spread_43 ?_
          refine lv_if_eq (tgt := 52) hx hb dX8_spread_44 (by decide) (fun c_3 => ?_) (fun c_3 => ?_)
          · have hm := (if_pos c_3).symm.trans hm
            refine lv_iinc (v := nI (k_5 + 1)) (lv' := [(4, .int (nI (k_5 + 1))), (5, .int ((mX6_get 10 v_home_doorSides (nI k_5)))), (3, .int y3_5), (0, .ref a_this), (1, .int x1), (2, .int x2)]) hx hb dX8_spread_52 hl (k := 1) rfl (nI_1 _) (by decide) rfl (fun ls hl => ?_)
            refine lv_goto (tgt := 5) hx hb dX8_spread_55 (by decide) ?_
            exact ih (k_5 + 1) (by omega) y3_5 hm ls (lv_sub hl [0, 2, 3, 4, 5] rfl)
          · have hm := (if_neg c_3).symm.trans hm
            refine lv_iload_n hx hb dX8_spread_47 rfl (lv_at hl 2 rfl) ?_
            refine lv_iload hx hb dX8_spread_48 (lv_at hl 0 rfl) ?_
            refine lv_ior hx hb dX8_spread_50 ?_
            refine lv_istore_n (lv' := [(3, .int (y3_5 ||| ((mX6_get 10 v_home_doorSides (nI k_5))))), (5, .int ((mX6_get 10 v_home_doorSides (nI k_5)))), (4, .int (nI k_5)), (0, .ref a_this), (1, .int x1), (2, .int x2)]) hx hb dX8_spread_51 rfl hl (by decide) rfl (fun ls hl => ?_)
            refine lv_iinc (v := nI (k_5 + 1)) (lv' := [(4, .int (nI (k_5 + 1))), (3, .int (y3_5 ||| ((mX6_get 10 v_home_doorSides (nI k_5))))), (5, .int ((mX6_get 10 v_home_doorSides (nI k_5)))), (0, .ref a_this), (1, .int x1), (2, .int x2)]) hx hb dX8_spread_52 hl (k := 2) rfl (nI_1 _) (by decide) rfl (fun ls hl => ?_)
            refine lv_goto (tgt := 5) hx hb dX8_spread_55 (by decide) ?_
            exact ih (k_5 + 1) (by omega) (y3_5 ||| ((mX6_get 10 v_home_doorSides (nI k_5)))) hm ls (lv_sub hl [0, 1, 3, 4, 5] rfl)
  exact L_5 v_home_doors.toNatClampNeg 0 (Nat.zero_add _) x1 rfl ls (lv_sub hl [0, 1, 2, 3, 4] rfl)
theorem dX8_reach_0 : decode cX8_reach 0 = .ok (.iload_n 1, 1) := by decide +kernel
theorem dX8_reach_1 : decode cX8_reach 1 = .ok (.invokestatic 35, 3) := by decide +kernel
theorem dX8_reach_4 : decode cX8_reach 4 = .ok (.istore_n 3, 1) := by decide +kernel
theorem dX8_reach_5 : decode cX8_reach 5 = .ok (.iconst 1, 1) := by decide +kernel
theorem dX8_reach_6 : decode cX8_reach 6 = .ok (.istore 4, 2) := by decide +kernel
theorem dX8_reach_8 : decode cX8_reach 8 = .ok (.iload 4, 2) := by decide +kernel
theorem dX8_reach_10 : decode cX8_reach 10 = .ok (.aload_n 0, 1) := by decide +kernel
theorem dX8_reach_11 : decode cX8_reach 11 = .ok (.getfield 9, 3) := by decide +kernel
theorem dX8_reach_14 : decode cX8_reach 14 = .ok (.getfield 38, 3) := by decide +kernel
theorem dX8_reach_17 : decode cX8_reach 17 = .ok (.if_icmp .ge 16, 3) := by decide +kernel
theorem dX8_reach_20 : decode cX8_reach 20 = .ok (.aload_n 0, 1) := by decide +kernel
theorem dX8_reach_21 : decode cX8_reach 21 = .ok (.iload_n 3, 1) := by decide +kernel
theorem dX8_reach_22 : decode cX8_reach 22 = .ok (.iload_n 2, 1) := by decide +kernel
theorem dX8_reach_23 : decode cX8_reach 23 = .ok (.invokevirtual 41, 3) := by decide +kernel
theorem dX8_reach_26 : decode cX8_reach 26 = .ok (.istore_n 3, 1) := by decide +kernel
theorem dX8_reach_27 : decode cX8_reach 27 = .ok (.iinc 4 1, 3) := by decide +kernel
theorem dX8_reach_30 : decode cX8_reach 30 = .ok (.goto (-22), 3) := by decide +kernel
theorem dX8_reach_33 : decode cX8_reach 33 = .ok (.iload_n 3, 1) := by decide +kernel
theorem dX8_reach_34 : decode cX8_reach 34 = .ok (.ireturn, 1) := by decide +kernel
theorem h_X8_reach : yX8_reach.cls ≠ "java/lang/invoke/MethodHandle" ∧ yX8_reach.cls ≠ "java/lang/invoke/VarHandle" ∧ (parseMethodDescriptor yX8_reach.desc).map (fun d => d.parameters.length) = some 2 := by decide +kernel
def mX8_reach_l8 (v_home_doors : Int32) (v_home_doorSides : Nat → Int32) (x2 : Int32) (k_8 : Nat) (y3_8 : Int32) : Int32 := (mX8_spread v_home_doors v_home_doorSides y3_8 x2)
def mX8_reach (v_home_rooms : Int32) (v_home_doors : Int32) (v_home_doorSides : Nat → Int32) (x1 : Int32) (x2 : Int32) : Int32 := (iter (mX8_reach_l8 v_home_doors v_home_doorSides x2) (v_home_rooms.toNatClampNeg - 1) ((mX9_only x1)))
set_option maxHeartbeats 4000000 in
set_option maxRecDepth 100000 in
theorem kX8_reach (l : Launch) (dC : Nat → ClassId) (dI : Nat → Nat → Nat) (cA cZ : ClassId) (a_this a_this_home a_this_home_rainfall a_this_home_doorA a_this_home_doorB a_this_home_doorSides a_this_home_doorOpen a_this_home_now a_this_home_doorSides_cells : Nat) (v_home_rooms : Int32) (v_home_rains : Int32) (v_home_doors : Int32) (v_home_persons : Int32) (v_home_doorSides : Nat → Int32) (x1 : Int32) (x2 : Int32) : Met l yX8_reach (Cond.code yX8_reach cX8_reach 5 (some .int) :: wt) ({ frames := 2, cells := 0, slots := 0, locals := 46 } : Room) (va_Pc [.ref a_this, .int x1, .int x2] (PreP (dC, dI) [(cA, .int), (cZ, .boolean)] [(a_this, .inr (8, [.ref a_this_home])), (a_this_home, .inr (1, [.ref a_this_home_rainfall, .ref a_this_home_doorA, .ref a_this_home_doorB, .ref a_this_home_doorSides, .ref a_this_home_doorOpen, .ref a_this_home_now, .int v_home_rooms, .int v_home_rains, .int v_home_doors, .int v_home_persons])), (a_this_home_doorSides, .inr (6, [.ref a_this_home_doorSides_cells])), (a_this_home_doorSides_cells, .inl (cA, 10, .inl v_home_doorSides))])) (vp_Si (fun r => r = (mX8_reach v_home_rooms v_home_doors v_home_doorSides x1 x2))) 0 0 (fun _ => False) := by
  refine Met.ofW (cc := cX8_reach) (maxL := 5) (ret := (some .int)) (by decide) rfl ?_
  intro p e s m args below meth c s₁ B hml hv
  obtain ⟨ha, hP, hK⟩ := hv
  have hx := B.exec
  have hb := B.bytes
  have hr := B.returns
  have ht : ∀ w ∈ wt, w.before args s = true := fun w h => atoms_spec (ws := (Cond.code yX8_reach cX8_reach 5 (some .int) :: wt)) B.pre w (List.mem_cons_of_mem _ h)
  have hown : s.vm.findClass RX8 = some m.cls := findClass_of_methodNamed B.named
  have hlocks := B.notSynchronized
  have hl := lv_entry ([.ref a_this, .int x1, .int x2]) (n := 5) (Nat.le_of_ble_eq_true rfl)
  rw [show entryFrame m args 5 = _ from (congrArg (fun a => entryFrame m a 5) ha).trans (lg_entry_eq m [.ref a_this, .int x1, .int x2] 5)]
  generalize (lg_sl ([.ref a_this, .int x1, .int x2]) ++ List.replicate (5 - (lg_sl ([.ref a_this, .int x1, .int x2])).length) Slot.unset).toArray = ls at hl ⊢
  have hl : lv_has ls 5 [(0, .ref a_this), (1, .int x1), (2, .int x2)] := hl
  have hm : (mX8_reach v_home_rooms v_home_doors v_home_doorSides x1 x2) = (mX8_reach v_home_rooms v_home_doors v_home_doorSides x1 x2) := rfl
  refine lv_iload_n hx hb dX8_reach_0 rfl (lv_at hl 1 rfl) ?_
  refine pv_call (v := (mX9_only x1)) (va_runSN (As := [.int x1]) (rest := []) ⟨hx, hb, hml, hown, ht⟩ (kX9_only l dC dI cA cZ x1) ⟨va_cnB 1 ht (gi_code w_2_108) rfl rfl rfl (hK.2 _ nwi_10) (ht _ w_1_1) h_X9_only ⟨Nat.le_of_ble_eq_true rfl, Nat.le_of_ble_eq_true rfl⟩, ht _ w_2_107, trivial⟩ ⟨pp_blind, pp_use (ws := []) (fun _ _ h => by cases h) hK⟩ rfl rfl hl.1 rfl (lv_room (Nat.le_of_ble_eq_true rfl)) dX8_reach_1 ⟨Nat.zero_le _, Nat.zero_le _⟩) ?_
  refine lv_istore_n (lv' := [(3, .int ((mX9_only x1))), (0, .ref a_this), (1, .int x1), (2, .int x2)]) hx hb dX8_reach_4 rfl hl (by decide) rfl (fun ls hl => ?_)
  refine lv_iconst (v := (1 : Int32)) hx hb dX8_reach_5 (by decide) ?_
  refine lv_istore (lv' := [(4, .int ((1 : Int32))), (3, .int ((mX9_only x1))), (0, .ref a_this), (1, .int x1), (2, .int x2)]) hx hb dX8_reach_6 hl (by decide) rfl (fun ls hl => ?_)
  have L_8 : ∀ (n_8 k_8 : Nat), k_8 + n_8 = v_home_rooms.toNatClampNeg - 1 → ∀ (y3_8 : Int32), y3_8 = (iter (mX8_reach_l8 v_home_doors v_home_doorSides x2) k_8 ((mX9_only x1))) → ∀ (ls : Array Slot), lv_has ls 5 [(4, .int (nI (1 + k_8))), (3, .int y3_8), (0, .ref a_this), (1, .int x1), (2, .int x2)] → W p l e (headSpec (Cond.code yX8_reach cX8_reach 5 (some .int) :: wt) ({ frames := 2, cells := 0, slots := 0, locals := 46 } : Room)).room s m args below meth c s.heap [] 0 0 (MQ below (vp_Si (fun r => r = (mX8_reach v_home_rooms v_home_doors v_home_doorSides x1 x2))) args s 0 0 (fun _ => False)) (F0 m 8 ls []) := by
    intro n_8
    induction n_8 with
    | zero =>
      intro k_8 hk y3_8 ex0_8 ls hl
      obtain rfl : v_home_rooms.toNatClampNeg - 1 = k_8 := by omega
      subst ex0_8
      refine lv_iload hx hb dX8_reach_8 (lv_at hl 0 rfl) ?_
      refine lv_aload_n hx hb dX8_reach_10 rfl (lv_at hl 2 rfl) ?_
      refine va_get (D := (dC, dI)) (ci := 8) (v := .ref a_this_home) (C := RX8) (T := TX8) (N := 1) hx hb ht iX8 hown hK.1 hP 0 rfl rfl 0 (by decide) (ht _ w_1_113) (fun _ h9 => h9) rfl dX8_reach_11 ?_
      refine va_get (D := (dC, dI)) (ci := 1) (v := .int v_home_rooms) (C := RX1) (T := TX1) (N := 10) hx hb ht iX1 hown hK.1 hP 1 rfl rfl 6 (by decide) (ht _ w_1_71) (fun _ h9 => h9) rfl dX8_reach_14 ?_
      refine lv_icmp_ge (tgt := 33) hx hb dX8_reach_17 (by decide) (fun c_2 => ?_) (fun c_2 => ?_)
      · skip
        refine lv_iload_n hx hb dX8_reach_33 rfl (lv_at hl 1 rfl) ?_
        exact W.iret (v := (iter (mX8_reach_l8 v_home_doors v_home_doorSides x2) (v_home_rooms.toNatClampNeg - 1) ((mX9_only x1)))) hx hb hr (fun t ht9 _ => ⟨_, rfl, hm, ht9⟩) (fun q hq => absurd hq List.not_mem_nil) dX8_reach_34
      · exact absurd (lpE (by omega) (by have := clampLt v_home_rooms; omega)) c_2
    | succ n_8 ih =>
      intro k_8 hk y3_8 ex0_8 ls hl
      have hm : (mX8_reach_l8 v_home_doors v_home_doorSides x2) k_8 y3_8 = (iter (mX8_reach_l8 v_home_doors v_home_doorSides x2) (k_8 + 1) ((mX9_only x1))) := by rw [ex0_8]; rfl
      refine lv_iload hx hb dX8_reach_8 (lv_at hl 0 rfl) ?_
      refine lv_aload_n hx hb dX8_reach_10 rfl (lv_at hl 2 rfl) ?_
      refine va_get (D := (dC, dI)) (ci := 8) (v := .ref a_this_home) (C := RX8) (T := TX8) (N := 1) hx hb ht iX8 hown hK.1 hP 0 rfl rfl 0 (by decide) (ht _ w_1_113) (fun _ h9 => h9) rfl dX8_reach_11 ?_
      refine va_get (D := (dC, dI)) (ci := 1) (v := .int v_home_rooms) (C := RX1) (T := TX1) (N := 10) hx hb ht iX1 hown hK.1 hP 1 rfl rfl 6 (by decide) (ht _ w_1_71) (fun _ h9 => h9) rfl dX8_reach_14 ?_
      refine lv_icmp_ge (tgt := 33) hx hb dX8_reach_17 (by decide) (fun c_1 => ?_) (fun c_1 => ?_)
      · exact absurd c_1 (lpN (by omega))
      · skip
        refine lv_aload_n hx hb dX8_reach_20 rfl (lv_at hl 2 rfl) ?_
        refine lv_iload_n hx hb dX8_reach_21 rfl (lv_at hl 1 rfl) ?_
        refine lv_iload_n hx hb dX8_reach_22 rfl (lv_at hl 4 rfl) ?_
        refine pv_call (v := (mX8_spread v_home_doors v_home_doorSides y3_8 x2)) (va_runV (As := [.int y3_8, .int x2]) (rest := []) ⟨hx, hb, hml, hown, ht⟩ (kX8_spread l dC dI cA cZ a_this a_this_home a_this_home_rainfall a_this_home_doorA a_this_home_doorB a_this_home_doorSides a_this_home_doorOpen a_this_home_now a_this_home_doorSides_cells v_home_rooms v_home_rains v_home_doors v_home_persons v_home_doorSides y3_8 x2) (cwV 2 ht (gi_V (C := RX8) w_3_1 w_3_3 w_0_10 w_1_6 (gi_code w_3_4)) rfl rfl rfl ⟨rfl, h_X8_spread⟩ ⟨Nat.le_of_ble_eq_true rfl, Nat.le_of_ble_eq_true rfl⟩) ⟨pp_blind, va_recv hK.1 hP (ci := 8) (q0 := 0) rfl rfl, pp_use hP hK⟩ rfl rfl hl.1 rfl (lv_room (Nat.le_of_ble_eq_true rfl)) dX8_reach_23 ⟨Nat.zero_le _, Nat.zero_le _⟩) ?_
        refine lv_istore_n (lv' := [(3, .int ((mX8_spread v_home_doors v_home_doorSides y3_8 x2))), (4, .int (nI (1 + k_8))), (0, .ref a_this), (1, .int x1), (2, .int x2)]) hx hb dX8_reach_26 rfl hl (by decide) rfl (fun ls hl => ?_)
        refine lv_iinc (v := nI (1 + k_8 + 1)) (lv' := [(4, .int (nI (1 + k_8 + 1))), (3, .int ((mX8_spread v_home_doors v_home_doorSides y3_8 x2))), (0, .ref a_this), (1, .int x1), (2, .int x2)]) hx hb dX8_reach_27 hl (k := 1) rfl (nI_1 _) (by decide) rfl (fun ls hl => ?_)
        refine lv_goto (tgt := 8) hx hb dX8_reach_30 (by decide) ?_
        exact ih (k_8 + 1) (by omega) ((mX8_spread v_home_doors v_home_doorSides y3_8 x2)) hm ls (lv_sub hl [0, 1, 2, 3, 4] rfl)
  exact L_8 (v_home_rooms.toNatClampNeg - 1) 0 (Nat.zero_add _) ((mX9_only x1)) rfl ls (lv_sub hl [0, 1, 2, 3, 4] rfl)
theorem dX8_partOf_0 : decode cX8_partOf 0 = .ok (.aload_n 0, 1) := by decide +kernel
theorem dX8_partOf_1 : decode cX8_partOf 1 = .ok (.iload_n 1, 1) := by decide +kernel
theorem dX8_partOf_2 : decode cX8_partOf 2 = .ok (.aload_n 0, 1) := by decide +kernel
theorem dX8_partOf_3 : decode cX8_partOf 3 = .ok (.getfield 9, 3) := by decide +kernel
theorem dX8_partOf_6 : decode cX8_partOf 6 = .ok (.iload_n 2, 1) := by decide +kernel
theorem dX8_partOf_7 : decode cX8_partOf 7 = .ok (.invokevirtual 45, 3) := by decide +kernel
theorem dX8_partOf_10 : decode cX8_partOf 10 = .ok (.invokevirtual 48, 3) := by decide +kernel
theorem dX8_partOf_13 : decode cX8_partOf 13 = .ok (.ireturn, 1) := by decide +kernel
theorem h_X8_partOf : yX8_partOf.cls ≠ "java/lang/invoke/MethodHandle" ∧ yX8_partOf.cls ≠ "java/lang/invoke/VarHandle" ∧ (parseMethodDescriptor yX8_partOf.desc).map (fun d => d.parameters.length) = some 2 := by decide +kernel
def mX8_partOf (v_home_rooms : Int32) (v_home_doors : Int32) (v_home_doorSides : Nat → Int32) (v_home_now : Nat → Int32) (x1 : Int32) (x2 : Int32) : Int32 := (mX8_reach v_home_rooms v_home_doors v_home_doorSides x1 ((mX1_passable v_home_doors v_home_now x2)))
set_option maxHeartbeats 4000000 in
set_option maxRecDepth 100000 in
theorem kX8_partOf (l : Launch) (dC : Nat → ClassId) (dI : Nat → Nat → Nat) (cA cZ : ClassId) (a_this a_this_home a_this_home_rainfall a_this_home_doorA a_this_home_doorB a_this_home_doorSides a_this_home_doorOpen a_this_home_now a_this_home_doorSides_cells a_this_home_now_row a_this_home_now_row_cells : Nat) (v_home_rooms : Int32) (v_home_rains : Int32) (v_home_doors : Int32) (v_home_persons : Int32) (v_home_doorSides : Nat → Int32) (v_home_now : Nat → Int32) (x1 : Int32) (x2 : Int32) : Met l yX8_partOf (Cond.code yX8_partOf cX8_partOf 3 (some .int) :: wt) ({ frames := 3, cells := 0, slots := 0, locals := 70 } : Room) (va_Pc [.ref a_this, .int x1, .int x2] (PreP (dC, dI) [(cA, .int), (cZ, .boolean)] [(a_this, .inr (8, [.ref a_this_home])), (a_this_home, .inr (1, [.ref a_this_home_rainfall, .ref a_this_home_doorA, .ref a_this_home_doorB, .ref a_this_home_doorSides, .ref a_this_home_doorOpen, .ref a_this_home_now, .int v_home_rooms, .int v_home_rains, .int v_home_doors, .int v_home_persons])), (a_this_home_doorSides, .inr (6, [.ref a_this_home_doorSides_cells])), (a_this_home_now, .inr (7, [.ref a_this_home_now_row])), (a_this_home_doorSides_cells, .inl (cA, 10, .inl v_home_doorSides)), (a_this_home_now_row, .inr (6, [.ref a_this_home_now_row_cells])), (a_this_home_now_row_cells, .inl (cA, 35, .inl v_home_now))])) (vp_Si (fun r => r = (mX8_partOf v_home_rooms v_home_doors v_home_doorSides v_home_now x1 x2))) 0 0 (fun _ => False) := by
  refine Met.ofW (cc := cX8_partOf) (maxL := 3) (ret := (some .int)) (by decide) rfl ?_
  intro p e s m args below meth c s₁ B hml hv
  obtain ⟨ha, hP, hK⟩ := hv
  have hx := B.exec
  have hb := B.bytes
  have hr := B.returns
  have ht : ∀ w ∈ wt, w.before args s = true := fun w h => atoms_spec (ws := (Cond.code yX8_partOf cX8_partOf 3 (some .int) :: wt)) B.pre w (List.mem_cons_of_mem _ h)
  have hown : s.vm.findClass RX8 = some m.cls := findClass_of_methodNamed B.named
  have hlocks := B.notSynchronized
  have hl := lv_entry ([.ref a_this, .int x1, .int x2]) (n := 3) (Nat.le_of_ble_eq_true rfl)
  rw [show entryFrame m args 3 = _ from (congrArg (fun a => entryFrame m a 3) ha).trans (lg_entry_eq m [.ref a_this, .int x1, .int x2] 3)]
  generalize (lg_sl ([.ref a_this, .int x1, .int x2]) ++ List.replicate (3 - (lg_sl ([.ref a_this, .int x1, .int x2])).length) Slot.unset).toArray = ls at hl ⊢
  have hl : lv_has ls 3 [(0, .ref a_this), (1, .int x1), (2, .int x2)] := hl
  have hm : (mX8_partOf v_home_rooms v_home_doors v_home_doorSides v_home_now x1 x2) = (mX8_partOf v_home_rooms v_home_doors v_home_doorSides v_home_now x1 x2) := rfl
  refine lv_aload_n hx hb dX8_partOf_0 rfl (lv_at hl 0 rfl) ?_
  refine lv_iload_n hx hb dX8_partOf_1 rfl (lv_at hl 1 rfl) ?_
  refine lv_aload_n hx hb dX8_partOf_2 rfl (lv_at hl 0 rfl) ?_
  refine va_get (D := (dC, dI)) (ci := 8) (v := .ref a_this_home) (C := RX8) (T := TX8) (N := 1) hx hb ht iX8 hown hK.1 hP 0 rfl rfl 0 (by decide) (ht _ w_1_113) (fun _ h9 => h9) rfl dX8_partOf_3 ?_
  refine lv_iload_n hx hb dX8_partOf_6 rfl (lv_at hl 2 rfl) ?_
  refine pv_call (v := (mX1_passable v_home_doors v_home_now x2)) (va_runV (As := [.int x2]) (rest := [.int x1, .ref a_this]) ⟨hx, hb, hml, hown, ht⟩ (kX1_passable l dC dI cA cZ a_this_home a_this_home_rainfall a_this_home_doorA a_this_home_doorB a_this_home_doorSides a_this_home_doorOpen a_this_home_now a_this_home_now_row a_this_home_now_row_cells v_home_rooms v_home_rains v_home_doors v_home_persons v_home_now x2) (cwV 1 ht (gi_V (C := RX1) w_2_226 w_2_227 w_2_228 w_1_2 (gi_code w_2_229)) rfl rfl rfl ⟨rfl, h_X1_passable⟩ ⟨Nat.le_of_ble_eq_true rfl, Nat.le_of_ble_eq_true rfl⟩) ⟨pp_blind, va_recv hK.1 hP (ci := 1) (q0 := 1) rfl rfl, pp_use (pc_sub (wc := [(a_this_home, .inr (1, [.ref a_this_home_rainfall, .ref a_this_home_doorA, .ref a_this_home_doorB, .ref a_this_home_doorSides, .ref a_this_home_doorOpen, .ref a_this_home_now, .int v_home_rooms, .int v_home_rains, .int v_home_doors, .int v_home_persons])), (a_this_home_now, .inr (7, [.ref a_this_home_now_row])), (a_this_home_now_row, .inr (6, [.ref a_this_home_now_row_cells])), (a_this_home_now_row_cells, .inl (cA, 35, .inl v_home_now))]) hP [1, 3, 5, 6] rfl) hK⟩ rfl rfl hl.1 rfl (lv_room (Nat.le_of_ble_eq_true rfl)) dX8_partOf_7 ⟨Nat.zero_le _, Nat.zero_le _⟩) ?_
  refine pv_call (v := (mX8_reach v_home_rooms v_home_doors v_home_doorSides x1 ((mX1_passable v_home_doors v_home_now x2)))) (va_runV (As := [.int x1, .int ((mX1_passable v_home_doors v_home_now x2))]) (rest := []) ⟨hx, hb, hml, hown, ht⟩ (kX8_reach l dC dI cA cZ a_this a_this_home a_this_home_rainfall a_this_home_doorA a_this_home_doorB a_this_home_doorSides a_this_home_doorOpen a_this_home_now a_this_home_doorSides_cells v_home_rooms v_home_rains v_home_doors v_home_persons v_home_doorSides x1 ((mX1_passable v_home_doors v_home_now x2))) (cwV 2 ht (gi_V (C := RX8) w_2_237 w_2_239 w_0_9 w_1_6 (gi_code w_3_0)) rfl rfl rfl ⟨rfl, h_X8_reach⟩ ⟨Nat.le_of_ble_eq_true rfl, Nat.le_of_ble_eq_true rfl⟩) ⟨pp_blind, va_recv hK.1 hP (ci := 8) (q0 := 0) rfl rfl, pp_use (pc_sub (wc := [(a_this, .inr (8, [.ref a_this_home])), (a_this_home, .inr (1, [.ref a_this_home_rainfall, .ref a_this_home_doorA, .ref a_this_home_doorB, .ref a_this_home_doorSides, .ref a_this_home_doorOpen, .ref a_this_home_now, .int v_home_rooms, .int v_home_rains, .int v_home_doors, .int v_home_persons])), (a_this_home_doorSides, .inr (6, [.ref a_this_home_doorSides_cells])), (a_this_home_doorSides_cells, .inl (cA, 10, .inl v_home_doorSides))]) hP [0, 1, 2, 4] rfl) hK⟩ rfl rfl hl.1 rfl (lv_room (Nat.le_of_ble_eq_true rfl)) dX8_partOf_10 ⟨Nat.zero_le _, Nat.zero_le _⟩) ?_
  exact W.iret (v := (mX8_reach v_home_rooms v_home_doors v_home_doorSides x1 ((mX1_passable v_home_doors v_home_now x2)))) hx hb hr (fun t ht9 _ => ⟨_, rfl, hm, ht9⟩) (fun q hq => absurd hq List.not_mem_nil) dX8_partOf_13
theorem dX8_roomsOf_0 : decode cX8_roomsOf 0 = .ok (.aload_n 0, 1) := by decide +kernel
theorem dX8_roomsOf_1 : decode cX8_roomsOf 1 = .ok (.aload_n 0, 1) := by decide +kernel
theorem dX8_roomsOf_2 : decode cX8_roomsOf 2 = .ok (.getfield 9, 3) := by decide +kernel
theorem dX8_roomsOf_5 : decode cX8_roomsOf 5 = .ok (.getfield 51, 3) := by decide +kernel
theorem dX8_roomsOf_8 : decode cX8_roomsOf 8 = .ok (.iload_n 1, 1) := by decide +kernel
theorem dX8_roomsOf_9 : decode cX8_roomsOf 9 = .ok (.invokevirtual 55, 3) := by decide +kernel
theorem dX8_roomsOf_12 : decode cX8_roomsOf 12 = .ok (.aload_n 0, 1) := by decide +kernel
theorem dX8_roomsOf_13 : decode cX8_roomsOf 13 = .ok (.getfield 9, 3) := by decide +kernel
theorem dX8_roomsOf_16 : decode cX8_roomsOf 16 = .ok (.getfield 51, 3) := by decide +kernel
theorem dX8_roomsOf_19 : decode cX8_roomsOf 19 = .ok (.iload_n 1, 1) := by decide +kernel
theorem dX8_roomsOf_20 : decode cX8_roomsOf 20 = .ok (.invokevirtual 60, 3) := by decide +kernel
theorem dX8_roomsOf_23 : decode cX8_roomsOf 23 = .ok (.invokevirtual 63, 3) := by decide +kernel
theorem dX8_roomsOf_26 : decode cX8_roomsOf 26 = .ok (.ireturn, 1) := by decide +kernel
theorem h_X8_roomsOf : yX8_roomsOf.cls ≠ "java/lang/invoke/MethodHandle" ∧ yX8_roomsOf.cls ≠ "java/lang/invoke/VarHandle" ∧ (parseMethodDescriptor yX8_roomsOf.desc).map (fun d => d.parameters.length) = some 1 := by decide +kernel
def mX8_roomsOf (v_home_rooms : Int32) (v_home_doors : Int32) (v_home_doorSides : Nat → Int32) (v_home_now : Nat → Int32) (x1 : Int32) : Int32 := (mX8_partOf v_home_rooms v_home_doors v_home_doorSides v_home_now ((mX7_place v_home_now x1)) ((mX7_ill v_home_now x1)))
set_option maxHeartbeats 4000000 in
set_option maxRecDepth 100000 in
theorem kX8_roomsOf (l : Launch) (dC : Nat → ClassId) (dI : Nat → Nat → Nat) (cA cZ : ClassId) (a_this a_this_home a_this_home_rainfall a_this_home_doorA a_this_home_doorB a_this_home_doorSides a_this_home_doorOpen a_this_home_now a_this_home_doorSides_cells a_this_home_now_row a_this_home_now_row_cells : Nat) (v_home_rooms : Int32) (v_home_rains : Int32) (v_home_doors : Int32) (v_home_persons : Int32) (v_home_doorSides : Nat → Int32) (v_home_now : Nat → Int32) (x1 : Int32) : Met l yX8_roomsOf (Cond.code yX8_roomsOf cX8_roomsOf 2 (some .int) :: wt) ({ frames := 4, cells := 0, slots := 0, locals := 92 } : Room) (va_Pc [.ref a_this, .int x1] (PreP (dC, dI) [(cA, .int), (cZ, .boolean)] [(a_this, .inr (8, [.ref a_this_home])), (a_this_home, .inr (1, [.ref a_this_home_rainfall, .ref a_this_home_doorA, .ref a_this_home_doorB, .ref a_this_home_doorSides, .ref a_this_home_doorOpen, .ref a_this_home_now, .int v_home_rooms, .int v_home_rains, .int v_home_doors, .int v_home_persons])), (a_this_home_doorSides, .inr (6, [.ref a_this_home_doorSides_cells])), (a_this_home_now, .inr (7, [.ref a_this_home_now_row])), (a_this_home_doorSides_cells, .inl (cA, 10, .inl v_home_doorSides)), (a_this_home_now_row, .inr (6, [.ref a_this_home_now_row_cells])), (a_this_home_now_row_cells, .inl (cA, 35, .inl v_home_now))])) (vp_Si (fun r => r = (mX8_roomsOf v_home_rooms v_home_doors v_home_doorSides v_home_now x1))) 0 0 (fun _ => False) := by
  refine Met.ofW (cc := cX8_roomsOf) (maxL := 2) (ret := (some .int)) (by decide) rfl ?_
  intro p e s m args below meth c s₁ B hml hv
  obtain ⟨ha, hP, hK⟩ := hv
  have hx := B.exec
  have hb := B.bytes
  have hr := B.returns
  have ht : ∀ w ∈ wt, w.before args s = true := fun w h => atoms_spec (ws := (Cond.code yX8_roomsOf cX8_roomsOf 2 (some .int) :: wt)) B.pre w (List.mem_cons_of_mem _ h)
  have hown : s.vm.findClass RX8 = some m.cls := findClass_of_methodNamed B.named
  have hlocks := B.notSynchronized
  have hl := lv_entry ([.ref a_this, .int x1]) (n := 2) (Nat.le_of_ble_eq_true rfl)
  rw [show entryFrame m args 2 = _ from (congrArg (fun a => entryFrame m a 2) ha).trans (lg_entry_eq m [.ref a_this, .int x1] 2)]
  generalize (lg_sl ([.ref a_this, .int x1]) ++ List.replicate (2 - (lg_sl ([.ref a_this, .int x1])).length) Slot.unset).toArray = ls at hl ⊢
  have hl : lv_has ls 2 [(0, .ref a_this), (1, .int x1)] := hl
  have hm : (mX8_roomsOf v_home_rooms v_home_doors v_home_doorSides v_home_now x1) = (mX8_roomsOf v_home_rooms v_home_doors v_home_doorSides v_home_now x1) := rfl
  refine lv_aload_n hx hb dX8_roomsOf_0 rfl (lv_at hl 0 rfl) ?_
  refine lv_aload_n hx hb dX8_roomsOf_1 rfl (lv_at hl 0 rfl) ?_
  refine va_get (D := (dC, dI)) (ci := 8) (v := .ref a_this_home) (C := RX8) (T := TX8) (N := 1) hx hb ht iX8 hown hK.1 hP 0 rfl rfl 0 (by decide) (ht _ w_1_113) (fun _ h9 => h9) rfl dX8_roomsOf_2 ?_
  refine va_get (D := (dC, dI)) (ci := 1) (v := .ref a_this_home_now) (C := RX1) (T := TX1) (N := 10) hx hb ht iX1 hown hK.1 hP 1 rfl rfl 5 (by decide) (ht _ w_1_68) (fun _ h9 => h9) rfl dX8_roomsOf_5 ?_
  refine lv_iload_n hx hb dX8_roomsOf_8 rfl (lv_at hl 1 rfl) ?_
  refine pv_call (v := (mX7_place v_home_now x1)) (va_runV (As := [.int x1]) (rest := [.ref a_this]) ⟨hx, hb, hml, hown, ht⟩ (kX7_place l dC dI cA cZ a_this_home_now a_this_home_now_row a_this_home_now_row_cells v_home_now x1) (cwV 1 ht (gi_V (C := RX7) w_2_207 w_2_208 w_2_209 w_1_5 (gi_code w_2_210)) rfl rfl rfl ⟨rfl, h_X7_place⟩ ⟨Nat.le_of_ble_eq_true rfl, Nat.le_of_ble_eq_true rfl⟩) ⟨pp_blind, va_recv hK.1 hP (ci := 7) (q0 := 3) rfl rfl, pp_use (pc_sub (wc := [(a_this_home_now, .inr (7, [.ref a_this_home_now_row])), (a_this_home_now_row, .inr (6, [.ref a_this_home_now_row_cells])), (a_this_home_now_row_cells, .inl (cA, 35, .inl v_home_now))]) hP [3, 5, 6] rfl) hK⟩ rfl rfl hl.1 rfl (lv_room (Nat.le_of_ble_eq_true rfl)) dX8_roomsOf_9 ⟨Nat.zero_le _, Nat.zero_le _⟩) ?_
  refine lv_aload_n hx hb dX8_roomsOf_12 rfl (lv_at hl 0 rfl) ?_
  refine va_get (D := (dC, dI)) (ci := 8) (v := .ref a_this_home) (C := RX8) (T := TX8) (N := 1) hx hb ht iX8 hown hK.1 hP 0 rfl rfl 0 (by decide) (ht _ w_1_113) (fun _ h9 => h9) rfl dX8_roomsOf_13 ?_
  refine va_get (D := (dC, dI)) (ci := 1) (v := .ref a_this_home_now) (C := RX1) (T := TX1) (N := 10) hx hb ht iX1 hown hK.1 hP 1 rfl rfl 5 (by decide) (ht _ w_1_68) (fun _ h9 => h9) rfl dX8_roomsOf_16 ?_
  refine lv_iload_n hx hb dX8_roomsOf_19 rfl (lv_at hl 1 rfl) ?_
  refine pv_call (v := (mX7_ill v_home_now x1)) (va_runV (As := [.int x1]) (rest := [.int ((mX7_place v_home_now x1)), .ref a_this]) ⟨hx, hb, hml, hown, ht⟩ (kX7_ill l dC dI cA cZ a_this_home_now a_this_home_now_row a_this_home_now_row_cells v_home_now x1) (cwV 1 ht (gi_V (C := RX7) w_2_211 w_2_212 w_2_213 w_1_5 (gi_code w_2_214)) rfl rfl rfl ⟨rfl, h_X7_ill⟩ ⟨Nat.le_of_ble_eq_true rfl, Nat.le_of_ble_eq_true rfl⟩) ⟨pp_blind, va_recv hK.1 hP (ci := 7) (q0 := 3) rfl rfl, pp_use (pc_sub (wc := [(a_this_home_now, .inr (7, [.ref a_this_home_now_row])), (a_this_home_now_row, .inr (6, [.ref a_this_home_now_row_cells])), (a_this_home_now_row_cells, .inl (cA, 35, .inl v_home_now))]) hP [3, 5, 6] rfl) hK⟩ rfl rfl hl.1 rfl (lv_room (Nat.le_of_ble_eq_true rfl)) dX8_roomsOf_20 ⟨Nat.zero_le _, Nat.zero_le _⟩) ?_
  refine pv_call (v := (mX8_partOf v_home_rooms v_home_doors v_home_doorSides v_home_now ((mX7_place v_home_now x1)) ((mX7_ill v_home_now x1)))) (va_runV (As := [.int ((mX7_place v_home_now x1)), .int ((mX7_ill v_home_now x1))]) (rest := []) ⟨hx, hb, hml, hown, ht⟩ (kX8_partOf l dC dI cA cZ a_this a_this_home a_this_home_rainfall a_this_home_doorA a_this_home_doorB a_this_home_doorSides a_this_home_doorOpen a_this_home_now a_this_home_doorSides_cells a_this_home_now_row a_this_home_now_row_cells v_home_rooms v_home_rains v_home_doors v_home_persons v_home_doorSides v_home_now ((mX7_place v_home_now x1)) ((mX7_ill v_home_now x1))) (cwV 2 ht (gi_V (C := RX8) w_2_222 w_2_223 w_2_224 w_1_6 (gi_code w_2_225)) rfl rfl rfl ⟨rfl, h_X8_partOf⟩ ⟨Nat.le_of_ble_eq_true rfl, Nat.le_of_ble_eq_true rfl⟩) ⟨pp_blind, va_recv hK.1 hP (ci := 8) (q0 := 0) rfl rfl, pp_use hP hK⟩ rfl rfl hl.1 rfl (lv_room (Nat.le_of_ble_eq_true rfl)) dX8_roomsOf_23 ⟨Nat.zero_le _, Nat.zero_le _⟩) ?_
  exact W.iret (v := (mX8_partOf v_home_rooms v_home_doors v_home_doorSides v_home_now ((mX7_place v_home_now x1)) ((mX7_ill v_home_now x1)))) hx hb hr (fun t ht9 _ => ⟨_, rfl, hm, ht9⟩) (fun q hq => absurd hq List.not_mem_nil) dX8_roomsOf_26
theorem dX8_comersTo_0 : decode cX8_comersTo 0 = .ok (.iconst 0, 1) := by decide +kernel
theorem dX8_comersTo_1 : decode cX8_comersTo 1 = .ok (.istore_n 2, 1) := by decide +kernel
theorem dX8_comersTo_2 : decode cX8_comersTo 2 = .ok (.iconst 0, 1) := by decide +kernel
theorem dX8_comersTo_3 : decode cX8_comersTo 3 = .ok (.istore_n 3, 1) := by decide +kernel
theorem dX8_comersTo_4 : decode cX8_comersTo 4 = .ok (.iload_n 3, 1) := by decide +kernel
theorem dX8_comersTo_5 : decode cX8_comersTo 5 = .ok (.aload_n 0, 1) := by decide +kernel
theorem dX8_comersTo_6 : decode cX8_comersTo 6 = .ok (.getfield 9, 3) := by decide +kernel
theorem dX8_comersTo_9 : decode cX8_comersTo 9 = .ok (.getfield 66, 3) := by decide +kernel
theorem dX8_comersTo_12 : decode cX8_comersTo 12 = .ok (.if_icmp .ge 28, 3) := by decide +kernel
theorem dX8_comersTo_15 : decode cX8_comersTo 15 = .ok (.aload_n 0, 1) := by decide +kernel
theorem dX8_comersTo_16 : decode cX8_comersTo 16 = .ok (.iload_n 3, 1) := by decide +kernel
theorem dX8_comersTo_17 : decode cX8_comersTo 17 = .ok (.invokevirtual 69, 3) := by decide +kernel
theorem dX8_comersTo_20 : decode cX8_comersTo 20 = .ok (.iload_n 1, 1) := by decide +kernel
theorem dX8_comersTo_21 : decode cX8_comersTo 21 = .ok (.invokestatic 31, 3) := by decide +kernel
theorem dX8_comersTo_24 : decode cX8_comersTo 24 = .ok (.ifCond .eq 10, 3) := by decide +kernel
theorem dX8_comersTo_27 : decode cX8_comersTo 27 = .ok (.iload_n 2, 1) := by decide +kernel
theorem dX8_comersTo_28 : decode cX8_comersTo 28 = .ok (.iload_n 3, 1) := by decide +kernel
theorem dX8_comersTo_29 : decode cX8_comersTo 29 = .ok (.invokestatic 35, 3) := by decide +kernel
theorem dX8_comersTo_32 : decode cX8_comersTo 32 = .ok (.ior, 1) := by decide +kernel
theorem dX8_comersTo_33 : decode cX8_comersTo 33 = .ok (.istore_n 2, 1) := by decide +kernel
theorem dX8_comersTo_34 : decode cX8_comersTo 34 = .ok (.iinc 3 1, 3) := by decide +kernel
theorem dX8_comersTo_37 : decode cX8_comersTo 37 = .ok (.goto (-33), 3) := by decide +kernel
theorem dX8_comersTo_40 : decode cX8_comersTo 40 = .ok (.iload_n 2, 1) := by decide +kernel
theorem dX8_comersTo_41 : decode cX8_comersTo 41 = .ok (.ireturn, 1) := by decide +kernel
theorem h_X8_comersTo : yX8_comersTo.cls ≠ "java/lang/invoke/MethodHandle" ∧ yX8_comersTo.cls ≠ "java/lang/invoke/VarHandle" ∧ (parseMethodDescriptor yX8_comersTo.desc).map (fun d => d.parameters.length) = some 1 := by decide +kernel
def mX8_comersTo_l4 (v_home_rooms : Int32) (v_home_doors : Int32) (v_home_doorSides : Nat → Int32) (v_home_now : Nat → Int32) (x1 : Int32) (k_4 : Nat) (y2_4 : Int32) : Int32 := (if ((mX9_inSet ((mX8_roomsOf v_home_rooms v_home_doors v_home_doorSides v_home_now (nI k_4))) x1)) = 0 then y2_4 else y2_4 ||| ((mX9_only (nI k_4))))
def mX8_comersTo (v_home_rooms : Int32) (v_home_doors : Int32) (v_home_persons : Int32) (v_home_doorSides : Nat → Int32) (v_home_now : Nat → Int32) (x1 : Int32) : Int32 := (iter (mX8_comersTo_l4 v_home_rooms v_home_doors v_home_doorSides v_home_now x1) v_home_persons.toNatClampNeg ((0 : Int32)))
set_option maxHeartbeats 4000000 in
set_option maxRecDepth 100000 in
theorem kX8_comersTo (l : Launch) (dC : Nat → ClassId) (dI : Nat → Nat → Nat) (cA cZ : ClassId) (a_this a_this_home a_this_home_rainfall a_this_home_doorA a_this_home_doorB a_this_home_doorSides a_this_home_doorOpen a_this_home_now a_this_home_doorSides_cells a_this_home_now_row a_this_home_now_row_cells : Nat) (v_home_rooms : Int32) (v_home_rains : Int32) (v_home_doors : Int32) (v_home_persons : Int32) (v_home_doorSides : Nat → Int32) (v_home_now : Nat → Int32) (x1 : Int32) : Met l yX8_comersTo (Cond.code yX8_comersTo cX8_comersTo 4 (some .int) :: wt) ({ frames := 5, cells := 0, slots := 0, locals := 113 } : Room) (va_Pc [.ref a_this, .int x1] (PreP (dC, dI) [(cA, .int), (cZ, .boolean)] [(a_this, .inr (8, [.ref a_this_home])), (a_this_home, .inr (1, [.ref a_this_home_rainfall, .ref a_this_home_doorA, .ref a_this_home_doorB, .ref a_this_home_doorSides, .ref a_this_home_doorOpen, .ref a_this_home_now, .int v_home_rooms, .int v_home_rains, .int v_home_doors, .int v_home_persons])), (a_this_home_doorSides, .inr (6, [.ref a_this_home_doorSides_cells])), (a_this_home_now, .inr (7, [.ref a_this_home_now_row])), (a_this_home_doorSides_cells, .inl (cA, 10, .inl v_home_doorSides)), (a_this_home_now_row, .inr (6, [.ref a_this_home_now_row_cells])), (a_this_home_now_row_cells, .inl (cA, 35, .inl v_home_now))])) (vp_Si (fun r => r = (mX8_comersTo v_home_rooms v_home_doors v_home_persons v_home_doorSides v_home_now x1))) 0 0 (fun _ => False) := by
  refine Met.ofW (cc := cX8_comersTo) (maxL := 4) (ret := (some .int)) (by decide) rfl ?_
  intro p e s m args below meth c s₁ B hml hv
  obtain ⟨ha, hP, hK⟩ := hv
  have hx := B.exec
  have hb := B.bytes
  have hr := B.returns
  have ht : ∀ w ∈ wt, w.before args s = true := fun w h => atoms_spec (ws := (Cond.code yX8_comersTo cX8_comersTo 4 (some .int) :: wt)) B.pre w (List.mem_cons_of_mem _ h)
  have hown : s.vm.findClass RX8 = some m.cls := findClass_of_methodNamed B.named
  have hlocks := B.notSynchronized
  have hl := lv_entry ([.ref a_this, .int x1]) (n := 4) (Nat.le_of_ble_eq_true rfl)
  rw [show entryFrame m args 4 = _ from (congrArg (fun a => entryFrame m a 4) ha).trans (lg_entry_eq m [.ref a_this, .int x1] 4)]
  generalize (lg_sl ([.ref a_this, .int x1]) ++ List.replicate (4 - (lg_sl ([.ref a_this, .int x1])).length) Slot.unset).toArray = ls at hl ⊢
  have hl : lv_has ls 4 [(0, .ref a_this), (1, .int x1)] := hl
  have hm : (mX8_comersTo v_home_rooms v_home_doors v_home_persons v_home_doorSides v_home_now x1) = (mX8_comersTo v_home_rooms v_home_doors v_home_persons v_home_doorSides v_home_now x1) := rfl
  refine lv_iconst (v := (0 : Int32)) hx hb dX8_comersTo_0 (by decide) ?_
  refine lv_istore_n (lv' := [(2, .int ((0 : Int32))), (0, .ref a_this), (1, .int x1)]) hx hb dX8_comersTo_1 rfl hl (by decide) rfl (fun ls hl => ?_)
  refine lv_iconst (v := (0 : Int32)) hx hb dX8_comersTo_2 (by decide) ?_
  refine lv_istore_n (lv' := [(3, .int ((0 : Int32))), (2, .int ((0 : Int32))), (0, .ref a_this), (1, .int x1)]) hx hb dX8_comersTo_3 rfl hl (by decide) rfl (fun ls hl => ?_)
  have L_4 : ∀ (n_4 k_4 : Nat), k_4 + n_4 = v_home_persons.toNatClampNeg → ∀ (y2_4 : Int32), y2_4 = (iter (mX8_comersTo_l4 v_home_rooms v_home_doors v_home_doorSides v_home_now x1) k_4 ((0 : Int32))) → ∀ (ls : Array Slot), lv_has ls 4 [(3, .int (nI k_4)), (2, .int y2_4), (0, .ref a_this), (1, .int x1)] → W p l e (headSpec (Cond.code yX8_comersTo cX8_comersTo 4 (some .int) :: wt) ({ frames := 5, cells := 0, slots := 0, locals := 113 } : Room)).room s m args below meth c s.heap [] 0 0 (MQ below (vp_Si (fun r => r = (mX8_comersTo v_home_rooms v_home_doors v_home_persons v_home_doorSides v_home_now x1))) args s 0 0 (fun _ => False)) (F0 m 4 ls []) := by
    intro n_4
    induction n_4 with
    | zero =>
      intro k_4 hk y2_4 ex0_4 ls hl
      obtain rfl : v_home_persons.toNatClampNeg = k_4 := by omega
      subst ex0_4
      refine lv_iload_n hx hb dX8_comersTo_4 rfl (lv_at hl 0 rfl) ?_
      refine lv_aload_n hx hb dX8_comersTo_5 rfl (lv_at hl 2 rfl) ?_
      refine va_get (D := (dC, dI)) (ci := 8) (v := .ref a_this_home) (C := RX8) (T := TX8) (N := 1) hx hb ht iX8 hown hK.1 hP 0 rfl rfl 0 (by decide) (ht _ w_1_113) (fun _ h9 => h9) rfl dX8_comersTo_6 ?_
      refine va_get (D := (dC, dI)) (ci := 1) (v := .int v_home_persons) (C := RX1) (T := TX1) (N := 10) hx hb ht iX1 hown hK.1 hP 1 rfl rfl 9 (by decide) (ht _ w_1_85) (fun _ h9 => h9) rfl dX8_comersTo_9 ?_
      refine lv_icmp_ge (tgt := 40) hx hb dX8_comersTo_12 (by decide) (fun c_3 => ?_) (fun c_3 => ?_)
      · skip
        refine lv_iload_n hx hb dX8_comersTo_40 rfl (lv_at hl 1 rfl) ?_
        exact W.iret (v := (iter (mX8_comersTo_l4 v_home_rooms v_home_doors v_home_doorSides v_home_now x1) v_home_persons.toNatClampNeg ((0 : Int32)))) hx hb hr (fun t ht9 _ => ⟨_, rfl, hm, ht9⟩) (fun q hq => absurd hq List.not_mem_nil) dX8_comersTo_41
      · exact absurd (lpE (by omega) (by have := clampLt v_home_persons; omega)) c_3
    | succ n_4 ih =>
      intro k_4 hk y2_4 ex0_4 ls hl
      have hm : (mX8_comersTo_l4 v_home_rooms v_home_doors v_home_doorSides v_home_now x1) k_4 y2_4 = (iter (mX8_comersTo_l4 v_home_rooms v_home_doors v_home_doorSides v_home_now x1) (k_4 + 1) ((0 : Int32))) := by rw [ex0_4]; rfl
      refine lv_iload_n hx hb dX8_comersTo_4 rfl (lv_at hl 0 rfl) ?_
      refine lv_aload_n hx hb dX8_comersTo_5 rfl (lv_at hl 2 rfl) ?_
      refine va_get (D := (dC, dI)) (ci := 8) (v := .ref a_this_home) (C := RX8) (T := TX8) (N := 1) hx hb ht iX8 hown hK.1 hP 0 rfl rfl 0 (by decide) (ht _ w_1_113) (fun _ h9 => h9) rfl dX8_comersTo_6 ?_
      refine va_get (D := (dC, dI)) (ci := 1) (v := .int v_home_persons) (C := RX1) (T := TX1) (N := 10) hx hb ht iX1 hown hK.1 hP 1 rfl rfl 9 (by decide) (ht _ w_1_85) (fun _ h9 => h9) rfl dX8_comersTo_9 ?_
      refine lv_icmp_ge (tgt := 40) hx hb dX8_comersTo_12 (by decide) (fun c_1 => ?_) (fun c_1 => ?_)
      · exact absurd c_1 (lpN (by omega))
      · skip
        refine lv_aload_n hx hb dX8_comersTo_15 rfl (lv_at hl 2 rfl) ?_
        refine lv_iload_n hx hb dX8_comersTo_16 rfl (lv_at hl 0 rfl) ?_
        refine pv_call (v := (mX8_roomsOf v_home_rooms v_home_doors v_home_doorSides v_home_now (nI k_4))) (va_runV (As := [.int (nI k_4)]) (rest := []) ⟨hx, hb, hml, hown, ht⟩ (kX8_roomsOf l dC dI cA cZ a_this a_this_home a_this_home_rainfall a_this_home_doorA a_this_home_doorB a_this_home_doorSides a_this_home_doorOpen a_this_home_now a_this_home_doorSides_cells a_this_home_now_row a_this_home_now_row_cells v_home_rooms v_home_rains v_home_doors v_home_persons v_home_doorSides v_home_now (nI k_4)) (cwV 1 ht (gi_V (C := RX8) w_2_203 w_2_204 w_2_205 w_1_6 (gi_code w_2_206)) rfl rfl rfl ⟨rfl, h_X8_roomsOf⟩ ⟨Nat.le_of_ble_eq_true rfl, Nat.le_of_ble_eq_true rfl⟩) ⟨pp_blind, va_recv hK.1 hP (ci := 8) (q0 := 0) rfl rfl, pp_use hP hK⟩ rfl rfl hl.1 rfl (lv_room (Nat.le_of_ble_eq_true rfl)) dX8_comersTo_17 ⟨Nat.zero_le _, Nat.zero_le _⟩) ?_
        refine lv_iload_n hx hb dX8_comersTo_20 rfl (lv_at hl 3 rfl) ?_
        refine pv_call (v := (mX9_inSet ((mX8_roomsOf v_home_rooms v_home_doors v_home_doorSides v_home_now (nI k_4))) x1)) (va_runSN (As := [.int ((mX8_roomsOf v_home_rooms v_home_doors v_home_doorSides v_home_now (nI k_4))), .int x1]) (rest := []) ⟨hx, hb, hml, hown, ht⟩ (kX9_inSet l dC dI cA cZ ((mX8_roomsOf v_home_rooms v_home_doors v_home_doorSides v_home_now (nI k_4))) x1) ⟨va_cnB 2 ht (gi_code w_3_8) rfl rfl rfl (hK.2 _ nwi_13) (ht _ w_1_1) h_X9_inSet ⟨Nat.le_of_ble_eq_true rfl, Nat.le_of_ble_eq_true rfl⟩, ht _ w_3_7, trivial⟩ ⟨pp_blind, pp_use (ws := []) (fun _ _ h => by cases h) hK⟩ rfl rfl hl.1 rfl (lv_room (Nat.le_of_ble_eq_true rfl)) dX8_comersTo_21 ⟨Nat.zero_le _, Nat.zero_le _⟩) ?_
        refine lv_if_eq (tgt := 34) hx hb dX8_comersTo_24 (by decide) (fun c_2 => ?_) (fun c_2 => ?_)
        · have hm := (if_pos c_2).symm.trans hm
          refine lv_iinc (v := nI (k_4 + 1)) (lv' := [(3, .int (nI (k_4 + 1))), (2, .int y2_4), (0, .ref a_this), (1, .int x1)]) hx hb dX8_comersTo_34 hl (k := 0) rfl (nI_1 _) (by decide) rfl (fun ls hl => ?_)
          refine lv_goto (tgt := 4) hx hb dX8_comersTo_37 (by decide) ?_
          exact ih (k_4 + 1) (by omega) y2_4 hm ls (lv_sub hl [0, 1, 2, 3] rfl)
        · have hm := (if_neg c_2).symm.trans hm
          refine lv_iload_n hx hb dX8_comersTo_27 rfl (lv_at hl 1 rfl) ?_
          refine lv_iload_n hx hb dX8_comersTo_28 rfl (lv_at hl 0 rfl) ?_
          refine pv_call (v := (mX9_only (nI k_4))) (va_runSN (As := [.int (nI k_4)]) (rest := [.int y2_4]) ⟨hx, hb, hml, hown, ht⟩ (kX9_only l dC dI cA cZ (nI k_4)) ⟨va_cnB 1 ht (gi_code w_2_108) rfl rfl rfl (hK.2 _ nwi_10) (ht _ w_1_1) h_X9_only ⟨Nat.le_of_ble_eq_true rfl, Nat.le_of_ble_eq_true rfl⟩, ht _ w_2_107, trivial⟩ ⟨pp_blind, pp_use (ws := []) (fun _ _ h => by cases h) hK⟩ rfl rfl hl.1 rfl (lv_room (Nat.le_of_ble_eq_true rfl)) dX8_comersTo_29 ⟨Nat.zero_le _, Nat.zero_le _⟩) ?_
          refine lv_ior hx hb dX8_comersTo_32 ?_
          refine lv_istore_n (lv' := [(2, .int (y2_4 ||| ((mX9_only (nI k_4))))), (3, .int (nI k_4)), (0, .ref a_this), (1, .int x1)]) hx hb dX8_comersTo_33 rfl hl (by decide) rfl (fun ls hl => ?_)
          refine lv_iinc (v := nI (k_4 + 1)) (lv' := [(3, .int (nI (k_4 + 1))), (2, .int (y2_4 ||| ((mX9_only (nI k_4))))), (0, .ref a_this), (1, .int x1)]) hx hb dX8_comersTo_34 hl (k := 1) rfl (nI_1 _) (by decide) rfl (fun ls hl => ?_)
          refine lv_goto (tgt := 4) hx hb dX8_comersTo_37 (by decide) ?_
          exact ih (k_4 + 1) (by omega) (y2_4 ||| ((mX9_only (nI k_4)))) hm ls (lv_sub hl [0, 1, 2, 3] rfl)
  exact L_4 v_home_persons.toNatClampNeg 0 (Nat.zero_add _) ((0 : Int32)) rfl ls (lv_sub hl [0, 1, 2, 3] rfl)
theorem dX8_shutIn_0 : decode cX8_shutIn 0 = .ok (.aload_n 0, 1) := by decide +kernel
theorem dX8_shutIn_1 : decode cX8_shutIn 1 = .ok (.getfield 9, 3) := by decide +kernel
theorem dX8_shutIn_4 : decode cX8_shutIn 4 = .ok (.getfield 66, 3) := by decide +kernel
theorem dX8_shutIn_7 : decode cX8_shutIn 7 = .ok (.invokestatic 35, 3) := by decide +kernel
theorem dX8_shutIn_10 : decode cX8_shutIn 10 = .ok (.iconst 1, 1) := by decide +kernel
theorem dX8_shutIn_11 : decode cX8_shutIn 11 = .ok (.isub, 1) := by decide +kernel
theorem dX8_shutIn_12 : decode cX8_shutIn 12 = .ok (.aload_n 0, 1) := by decide +kernel
theorem dX8_shutIn_13 : decode cX8_shutIn 13 = .ok (.iconst 0, 1) := by decide +kernel
theorem dX8_shutIn_14 : decode cX8_shutIn 14 = .ok (.invokevirtual 72, 3) := by decide +kernel
theorem dX8_shutIn_17 : decode cX8_shutIn 17 = .ok (.iconst (-1), 1) := by decide +kernel
theorem dX8_shutIn_18 : decode cX8_shutIn 18 = .ok (.ixor, 1) := by decide +kernel
theorem dX8_shutIn_19 : decode cX8_shutIn 19 = .ok (.iand, 1) := by decide +kernel
theorem dX8_shutIn_20 : decode cX8_shutIn 20 = .ok (.ireturn, 1) := by decide +kernel
theorem h_X8_shutIn : yX8_shutIn.cls ≠ "java/lang/invoke/MethodHandle" ∧ yX8_shutIn.cls ≠ "java/lang/invoke/VarHandle" ∧ (parseMethodDescriptor yX8_shutIn.desc).map (fun d => d.parameters.length) = some 0 := by decide +kernel
def mX8_shutIn (v_home_rooms : Int32) (v_home_doors : Int32) (v_home_persons : Int32) (v_home_doorSides : Nat → Int32) (v_home_now : Nat → Int32) : Int32 := (((mX9_only v_home_persons)) - ((1 : Int32))) &&& (((mX8_comersTo v_home_rooms v_home_doors v_home_persons v_home_doorSides v_home_now ((0 : Int32)))) ^^^ ((-1 : Int32)))
set_option maxHeartbeats 4000000 in
set_option maxRecDepth 100000 in
theorem kX8_shutIn (l : Launch) (dC : Nat → ClassId) (dI : Nat → Nat → Nat) (cA cZ : ClassId) (a_this a_this_home a_this_home_rainfall a_this_home_doorA a_this_home_doorB a_this_home_doorSides a_this_home_doorOpen a_this_home_now a_this_home_doorSides_cells a_this_home_now_row a_this_home_now_row_cells : Nat) (v_home_rooms : Int32) (v_home_rains : Int32) (v_home_doors : Int32) (v_home_persons : Int32) (v_home_doorSides : Nat → Int32) (v_home_now : Nat → Int32) : Met l yX8_shutIn (Cond.code yX8_shutIn cX8_shutIn 1 (some .int) :: wt) ({ frames := 6, cells := 0, slots := 0, locals := 136 } : Room) (va_Pc [.ref a_this] (PreP (dC, dI) [(cA, .int), (cZ, .boolean)] [(a_this, .inr (8, [.ref a_this_home])), (a_this_home, .inr (1, [.ref a_this_home_rainfall, .ref a_this_home_doorA, .ref a_this_home_doorB, .ref a_this_home_doorSides, .ref a_this_home_doorOpen, .ref a_this_home_now, .int v_home_rooms, .int v_home_rains, .int v_home_doors, .int v_home_persons])), (a_this_home_doorSides, .inr (6, [.ref a_this_home_doorSides_cells])), (a_this_home_now, .inr (7, [.ref a_this_home_now_row])), (a_this_home_doorSides_cells, .inl (cA, 10, .inl v_home_doorSides)), (a_this_home_now_row, .inr (6, [.ref a_this_home_now_row_cells])), (a_this_home_now_row_cells, .inl (cA, 35, .inl v_home_now))])) (vp_Si (fun r => r = (mX8_shutIn v_home_rooms v_home_doors v_home_persons v_home_doorSides v_home_now))) 0 0 (fun _ => False) := by
  refine Met.ofW (cc := cX8_shutIn) (maxL := 1) (ret := (some .int)) (by decide) rfl ?_
  intro p e s m args below meth c s₁ B hml hv
  obtain ⟨ha, hP, hK⟩ := hv
  have hx := B.exec
  have hb := B.bytes
  have hr := B.returns
  have ht : ∀ w ∈ wt, w.before args s = true := fun w h => atoms_spec (ws := (Cond.code yX8_shutIn cX8_shutIn 1 (some .int) :: wt)) B.pre w (List.mem_cons_of_mem _ h)
  have hown : s.vm.findClass RX8 = some m.cls := findClass_of_methodNamed B.named
  have hlocks := B.notSynchronized
  have hl := lv_entry ([.ref a_this]) (n := 1) (Nat.le_of_ble_eq_true rfl)
  rw [show entryFrame m args 1 = _ from (congrArg (fun a => entryFrame m a 1) ha).trans (lg_entry_eq m [.ref a_this] 1)]
  generalize (lg_sl ([.ref a_this]) ++ List.replicate (1 - (lg_sl ([.ref a_this])).length) Slot.unset).toArray = ls at hl ⊢
  have hl : lv_has ls 1 [(0, .ref a_this)] := hl
  have hm : (mX8_shutIn v_home_rooms v_home_doors v_home_persons v_home_doorSides v_home_now) = (mX8_shutIn v_home_rooms v_home_doors v_home_persons v_home_doorSides v_home_now) := rfl
  refine lv_aload_n hx hb dX8_shutIn_0 rfl (lv_at hl 0 rfl) ?_
  refine va_get (D := (dC, dI)) (ci := 8) (v := .ref a_this_home) (C := RX8) (T := TX8) (N := 1) hx hb ht iX8 hown hK.1 hP 0 rfl rfl 0 (by decide) (ht _ w_1_113) (fun _ h9 => h9) rfl dX8_shutIn_1 ?_
  refine va_get (D := (dC, dI)) (ci := 1) (v := .int v_home_persons) (C := RX1) (T := TX1) (N := 10) hx hb ht iX1 hown hK.1 hP 1 rfl rfl 9 (by decide) (ht _ w_1_85) (fun _ h9 => h9) rfl dX8_shutIn_4 ?_
  refine pv_call (v := (mX9_only v_home_persons)) (va_runSN (As := [.int v_home_persons]) (rest := []) ⟨hx, hb, hml, hown, ht⟩ (kX9_only l dC dI cA cZ v_home_persons) ⟨va_cnB 1 ht (gi_code w_2_108) rfl rfl rfl (hK.2 _ nwi_10) (ht _ w_1_1) h_X9_only ⟨Nat.le_of_ble_eq_true rfl, Nat.le_of_ble_eq_true rfl⟩, ht _ w_2_107, trivial⟩ ⟨pp_blind, pp_use (ws := []) (fun _ _ h => by cases h) hK⟩ rfl rfl hl.1 rfl (lv_room (Nat.le_of_ble_eq_true rfl)) dX8_shutIn_7 ⟨Nat.zero_le _, Nat.zero_le _⟩) ?_
  refine lv_iconst (v := (1 : Int32)) hx hb dX8_shutIn_10 (by decide) ?_
  refine lv_isub hx hb dX8_shutIn_11 ?_
  refine lv_aload_n hx hb dX8_shutIn_12 rfl (lv_at hl 0 rfl) ?_
  refine lv_iconst (v := (0 : Int32)) hx hb dX8_shutIn_13 (by decide) ?_
  refine pv_call (v := (mX8_comersTo v_home_rooms v_home_doors v_home_persons v_home_doorSides v_home_now ((0 : Int32)))) (va_runV (As := [.int ((0 : Int32))]) (rest := [.int (((mX9_only v_home_persons)) - ((1 : Int32)))]) ⟨hx, hb, hml, hown, ht⟩ (kX8_comersTo l dC dI cA cZ a_this a_this_home a_this_home_rainfall a_this_home_doorA a_this_home_doorB a_this_home_doorSides a_this_home_doorOpen a_this_home_now a_this_home_doorSides_cells a_this_home_now_row a_this_home_now_row_cells v_home_rooms v_home_rains v_home_doors v_home_persons v_home_doorSides v_home_now ((0 : Int32))) (cwV 1 ht (gi_V (C := RX8) w_2_199 w_2_200 w_2_201 w_1_6 (gi_code w_2_202)) rfl rfl rfl ⟨rfl, h_X8_comersTo⟩ ⟨Nat.le_of_ble_eq_true rfl, Nat.le_of_ble_eq_true rfl⟩) ⟨pp_blind, va_recv hK.1 hP (ci := 8) (q0 := 0) rfl rfl, pp_use hP hK⟩ rfl rfl hl.1 rfl (lv_room (Nat.le_of_ble_eq_true rfl)) dX8_shutIn_14 ⟨Nat.zero_le _, Nat.zero_le _⟩) ?_
  refine lv_iconst (v := (-1 : Int32)) hx hb dX8_shutIn_17 (by decide) ?_
  refine lv_ixor hx hb dX8_shutIn_18 ?_
  refine lv_iand hx hb dX8_shutIn_19 ?_
  exact W.iret (v := (((mX9_only v_home_persons)) - ((1 : Int32))) &&& (((mX8_comersTo v_home_rooms v_home_doors v_home_persons v_home_doorSides v_home_now ((0 : Int32)))) ^^^ ((-1 : Int32)))) hx hb hr (fun t ht9 _ => ⟨_, rfl, hm, ht9⟩) (fun q hq => absurd hq List.not_mem_nil) dX8_shutIn_20
theorem dX8_leastDoor_0 : decode cX8_leastDoor 0 = .ok (.iconst 0, 1) := by decide +kernel
theorem dX8_leastDoor_1 : decode cX8_leastDoor 1 = .ok (.istore 4, 2) := by decide +kernel
theorem dX8_leastDoor_3 : decode cX8_leastDoor 3 = .ok (.iload 4, 2) := by decide +kernel
theorem dX8_leastDoor_5 : decode cX8_leastDoor 5 = .ok (.aload_n 0, 1) := by decide +kernel
theorem dX8_leastDoor_6 : decode cX8_leastDoor 6 = .ok (.getfield 9, 3) := by decide +kernel
theorem dX8_leastDoor_9 : decode cX8_leastDoor 9 = .ok (.getfield 15, 3) := by decide +kernel
theorem dX8_leastDoor_12 : decode cX8_leastDoor 12 = .ok (.if_icmp .ge 51, 3) := by decide +kernel
theorem dX8_leastDoor_15 : decode cX8_leastDoor 15 = .ok (.aload_n 0, 1) := by decide +kernel
theorem dX8_leastDoor_16 : decode cX8_leastDoor 16 = .ok (.getfield 9, 3) := by decide +kernel
theorem dX8_leastDoor_19 : decode cX8_leastDoor 19 = .ok (.getfield 21, 3) := by decide +kernel
theorem dX8_leastDoor_22 : decode cX8_leastDoor 22 = .ok (.iload 4, 2) := by decide +kernel
theorem dX8_leastDoor_24 : decode cX8_leastDoor 24 = .ok (.invokevirtual 25, 3) := by decide +kernel
theorem dX8_leastDoor_27 : decode cX8_leastDoor 27 = .ok (.istore 5, 2) := by decide +kernel
theorem dX8_leastDoor_29 : decode cX8_leastDoor 29 = .ok (.iload_n 3, 1) := by decide +kernel
theorem dX8_leastDoor_30 : decode cX8_leastDoor 30 = .ok (.iload 4, 2) := by decide +kernel
theorem dX8_leastDoor_32 : decode cX8_leastDoor 32 = .ok (.invokestatic 31, 3) := by decide +kernel
theorem dX8_leastDoor_35 : decode cX8_leastDoor 35 = .ok (.ifCond .eq 22, 3) := by decide +kernel
theorem dX8_leastDoor_38 : decode cX8_leastDoor 38 = .ok (.iload 5, 2) := by decide +kernel
theorem dX8_leastDoor_40 : decode cX8_leastDoor 40 = .ok (.iload_n 1, 1) := by decide +kernel
theorem dX8_leastDoor_41 : decode cX8_leastDoor 41 = .ok (.invokestatic 31, 3) := by decide +kernel
theorem dX8_leastDoor_44 : decode cX8_leastDoor 44 = .ok (.ifCond .eq 13, 3) := by decide +kernel
theorem dX8_leastDoor_47 : decode cX8_leastDoor 47 = .ok (.iload 5, 2) := by decide +kernel
theorem dX8_leastDoor_49 : decode cX8_leastDoor 49 = .ok (.iload_n 2, 1) := by decide +kernel
theorem dX8_leastDoor_50 : decode cX8_leastDoor 50 = .ok (.iand, 1) := by decide +kernel
theorem dX8_leastDoor_51 : decode cX8_leastDoor 51 = .ok (.ifCond .eq 6, 3) := by decide +kernel
theorem dX8_leastDoor_54 : decode cX8_leastDoor 54 = .ok (.iload 4, 2) := by decide +kernel
theorem dX8_leastDoor_56 : decode cX8_leastDoor 56 = .ok (.ireturn, 1) := by decide +kernel
theorem dX8_leastDoor_57 : decode cX8_leastDoor 57 = .ok (.iinc 4 1, 3) := by decide +kernel
theorem dX8_leastDoor_60 : decode cX8_leastDoor 60 = .ok (.goto (-57), 3) := by decide +kernel
theorem dX8_leastDoor_63 : decode cX8_leastDoor 63 = .ok (.iconst (-1), 1) := by decide +kernel
theorem dX8_leastDoor_64 : decode cX8_leastDoor 64 = .ok (.ireturn, 1) := by decide +kernel
theorem h_X8_leastDoor : yX8_leastDoor.cls ≠ "java/lang/invoke/MethodHandle" ∧ yX8_leastDoor.cls ≠ "java/lang/invoke/VarHandle" ∧ (parseMethodDescriptor yX8_leastDoor.desc).map (fun d => d.parameters.length) = some 3 := by decide +kernel
def mX8_leastDoor_l3 (v_home_doorSides : Nat → Int32) (x1 : Int32) (x2 : Int32) (x3 : Int32) : Nat → Nat → Int32
  | 0, k_3 => (-1 : Int32)
  | n_3 + 1, k_3 => (if ((mX9_inSet x3 (nI k_3))) = 0 then (mX8_leastDoor_l3 v_home_doorSides x1 x2 x3 n_3 (k_3 + 1)) else (if ((mX9_inSet ((mX6_get 10 v_home_doorSides (nI k_3))) x1)) = 0 then (mX8_leastDoor_l3 v_home_doorSides x1 x2 x3 n_3 (k_3 + 1)) else (if (((mX6_get 10 v_home_doorSides (nI k_3))) &&& x2) = 0 then (mX8_leastDoor_l3 v_home_doorSides x1 x2 x3 n_3 (k_3 + 1)) else nI k_3)))
def mX8_leastDoor (v_home_doors : Int32) (v_home_doorSides : Nat → Int32) (x1 : Int32) (x2 : Int32) (x3 : Int32) : Int32 := (mX8_leastDoor_l3 v_home_doorSides x1 x2 x3 v_home_doors.toNatClampNeg 0)
set_option maxHeartbeats 4000000 in
set_option maxRecDepth 100000 in
theorem kX8_leastDoor (l : Launch) (dC : Nat → ClassId) (dI : Nat → Nat → Nat) (cA cZ : ClassId) (a_this a_this_home a_this_home_rainfall a_this_home_doorA a_this_home_doorB a_this_home_doorSides a_this_home_doorOpen a_this_home_now a_this_home_doorSides_cells : Nat) (v_home_rooms : Int32) (v_home_rains : Int32) (v_home_doors : Int32) (v_home_persons : Int32) (v_home_doorSides : Nat → Int32) (x1 : Int32) (x2 : Int32) (x3 : Int32) : Met l yX8_leastDoor (Cond.code yX8_leastDoor cX8_leastDoor 6 (some .int) :: wt) ({ frames := 1, cells := 0, slots := 0, locals := 21 } : Room) (va_Pc [.ref a_this, .int x1, .int x2, .int x3] (PreP (dC, dI) [(cA, .int), (cZ, .boolean)] [(a_this, .inr (8, [.ref a_this_home])), (a_this_home, .inr (1, [.ref a_this_home_rainfall, .ref a_this_home_doorA, .ref a_this_home_doorB, .ref a_this_home_doorSides, .ref a_this_home_doorOpen, .ref a_this_home_now, .int v_home_rooms, .int v_home_rains, .int v_home_doors, .int v_home_persons])), (a_this_home_doorSides, .inr (6, [.ref a_this_home_doorSides_cells])), (a_this_home_doorSides_cells, .inl (cA, 10, .inl v_home_doorSides))])) (vp_Si (fun r => r = (mX8_leastDoor v_home_doors v_home_doorSides x1 x2 x3))) 0 0 (fun _ => False) := by
  refine Met.ofW (cc := cX8_leastDoor) (maxL := 6) (ret := (some .int)) (by decide) rfl ?_
  intro p e s m args below meth c s₁ B hml hv
  obtain ⟨ha, hP, hK⟩ := hv
  have hx := B.exec
  have hb := B.bytes
  have hr := B.returns
  have ht : ∀ w ∈ wt, w.before args s = true := fun w h => atoms_spec (ws := (Cond.code yX8_leastDoor cX8_leastDoor 6 (some .int) :: wt)) B.pre w (List.mem_cons_of_mem _ h)
  have hown : s.vm.findClass RX8 = some m.cls := findClass_of_methodNamed B.named
  have hlocks := B.notSynchronized
  have hl := lv_entry ([.ref a_this, .int x1, .int x2, .int x3]) (n := 6) (Nat.le_of_ble_eq_true rfl)
  rw [show entryFrame m args 6 = _ from (congrArg (fun a => entryFrame m a 6) ha).trans (lg_entry_eq m [.ref a_this, .int x1, .int x2, .int x3] 6)]
  generalize (lg_sl ([.ref a_this, .int x1, .int x2, .int x3]) ++ List.replicate (6 - (lg_sl ([.ref a_this, .int x1, .int x2, .int x3])).length) Slot.unset).toArray = ls at hl ⊢
  have hl : lv_has ls 6 [(0, .ref a_this), (1, .int x1), (2, .int x2), (3, .int x3)] := hl
  have hm : (mX8_leastDoor v_home_doors v_home_doorSides x1 x2 x3) = (mX8_leastDoor v_home_doors v_home_doorSides x1 x2 x3) := rfl
  refine lv_iconst (v := (0 : Int32)) hx hb dX8_leastDoor_0 (by decide) ?_
  refine lv_istore (lv' := [(4, .int ((0 : Int32))), (0, .ref a_this), (1, .int x1), (2, .int x2), (3, .int x3)]) hx hb dX8_leastDoor_1 hl (by decide) rfl (fun ls hl => ?_)
  have L_3 : ∀ (n_3 k_3 : Nat), k_3 + n_3 = v_home_doors.toNatClampNeg →  mX8_leastDoor_l3 v_home_doorSides x1 x2 x3 n_3 k_3 = (mX8_leastDoor v_home_doors v_home_doorSides x1 x2 x3) → ∀ (ls : Array Slot), lv_has ls 6 [(4, .int (nI k_3)), (0, .ref a_this), (1, .int x1), (2, .int x2), (3, .int x3)] → W p l e (headSpec (Cond.code yX8_leastDoor cX8_leastDoor 6 (some .int) :: wt) ({ frames := 1, cells := 0, slots := 0, locals := 21 } : Room)).room s m args below meth c s.heap [] 0 0 (MQ below (vp_Si (fun r => r = (mX8_leastDoor v_home_doors v_home_doorSides x1 x2 x3))) args s 0 0 (fun _ => False)) (F0 m 3 ls []) := by
    intro n_3
    induction n_3 with
    | zero =>
      intro k_3 hk  hm ls hl
      have hm : (-1 : Int32) = (mX8_leastDoor v_home_doors v_home_doorSides x1 x2 x3) := hm
      refine lv_iload hx hb dX8_leastDoor_3 (lv_at hl 0 rfl) ?_
      refine lv_aload_n hx hb dX8_leastDoor_5 rfl (lv_at hl 1 rfl) ?_
      refine va_get (D := (dC, dI)) (ci := 8) (v := .ref a_this_home) (C := RX8) (T := TX8) (N := 1) hx hb ht iX8 hown hK.1 hP 0 rfl rfl 0 (by decide) (ht _ w_1_113) (fun _ h9 => h9) rfl dX8_leastDoor_6 ?_
      refine va_get (D := (dC, dI)) (ci := 1) (v := .int v_home_doors) (C := RX1) (T := TX1) (N := 10) hx hb ht iX1 hown hK.1 hP 1 rfl rfl 8 (by decide) (ht _ w_1_76) (fun _ h9 => h9) rfl dX8_leastDoor_9 ?_
      refine lv_icmp_ge (tgt := 63) hx hb dX8_leastDoor_12 (by decide) (fun c_1 => ?_) (fun c_1 => ?_)
      · skip
        refine lv_iconst (v := (-1 : Int32)) hx hb dX8_leastDoor_63 (by decide) ?_
        exact W.iret (v := (-1 : Int32)) hx hb hr (fun t ht9 _ => ⟨_, rfl, hm, ht9⟩) (fun q hq => absurd hq List.not_mem_nil) dX8_leastDoor_64
      · exact absurd (lpE (by omega) (by have := clampLt v_home_doors; omega)) c_1
    | succ n_3 ih =>
      intro k_3 hk  hm ls hl
      have hm : (if ((mX9_inSet x3 (nI k_3))) = 0 then (mX8_leastDoor_l3 v_home_doorSides x1 x2 x3 n_3 (k_3 + 1)) else (if ((mX9_inSet ((mX6_get 10 v_home_doorSides (nI k_3))) x1)) = 0 then (mX8_leastDoor_l3 v_home_doorSides x1 x2 x3 n_3 (k_3 + 1)) else (if (((mX6_get 10 v_home_doorSides (nI k_3))) &&& x2) = 0 then (mX8_leastDoor_l3 v_home_doorSides x1 x2 x3 n_3 (k_3 + 1)) else nI k_3))) = (mX8_leastDoor v_home_doors v_home_doorSides x1 x2 x3) := hm
      refine lv_iload hx hb dX8_leastDoor_3 (lv_at hl 0 rfl) ?_
      refine lv_aload_n hx hb dX8_leastDoor_5 rfl (lv_at hl 1 rfl) ?_
      refine va_get (D := (dC, dI)) (ci := 8) (v := .ref a_this_home) (C := RX8) (T := TX8) (N := 1) hx hb ht iX8 hown hK.1 hP 0 rfl rfl 0 (by decide) (ht _ w_1_113) (fun _ h9 => h9) rfl dX8_leastDoor_6 ?_
      refine va_get (D := (dC, dI)) (ci := 1) (v := .int v_home_doors) (C := RX1) (T := TX1) (N := 10) hx hb ht iX1 hown hK.1 hP 1 rfl rfl 8 (by decide) (ht _ w_1_76) (fun _ h9 => h9) rfl dX8_leastDoor_9 ?_
      refine lv_icmp_ge (tgt := 63) hx hb dX8_leastDoor_12 (by decide) (fun c_2 => ?_) (fun c_2 => ?_)
      · exact absurd c_2 (lpN (by omega))
      · skip
        refine lv_aload_n hx hb dX8_leastDoor_15 rfl (lv_at hl 1 rfl) ?_
        refine va_get (D := (dC, dI)) (ci := 8) (v := .ref a_this_home) (C := RX8) (T := TX8) (N := 1) hx hb ht iX8 hown hK.1 hP 0 rfl rfl 0 (by decide) (ht _ w_1_113) (fun _ h9 => h9) rfl dX8_leastDoor_16 ?_
        refine va_get (D := (dC, dI)) (ci := 1) (v := .ref a_this_home_doorSides) (C := RX1) (T := TX1) (N := 10) hx hb ht iX1 hown hK.1 hP 1 rfl rfl 3 (by decide) (ht _ w_1_63) (fun _ h9 => h9) rfl dX8_leastDoor_19 ?_
        refine lv_iload hx hb dX8_leastDoor_22 (lv_at hl 0 rfl) ?_
        refine pv_call (v := (mX6_get 10 v_home_doorSides (nI k_3))) (va_runV (As := [.int (nI k_3)]) (rest := []) ⟨hx, hb, hml, hown, ht⟩ (kX6_get l dC dI cA cZ a_this_home_doorSides a_this_home_doorSides_cells 10 v_home_doorSides (nI k_3) (by decide)) (cwV 1 ht (gi_V (C := RX6) w_3_5 w_2_56 w_2_57 w_1_3 (gi_code w_2_58)) rfl rfl rfl ⟨rfl, h_X6_get⟩ ⟨Nat.le_of_ble_eq_true rfl, Nat.le_of_ble_eq_true rfl⟩) ⟨pp_blind, va_recv hK.1 hP (ci := 6) (q0 := 2) rfl rfl, pp_use (pc_sub (wc := [(a_this_home_doorSides, .inr (6, [.ref a_this_home_doorSides_cells])), (a_this_home_doorSides_cells, .inl (cA, 10, .inl v_home_doorSides))]) hP [2, 3] rfl) hK⟩ rfl rfl hl.1 rfl (lv_room (Nat.le_of_ble_eq_true rfl)) dX8_leastDoor_24 ⟨Nat.zero_le _, Nat.zero_le _⟩) ?_
        refine lv_istore (lv' := [(5, .int ((mX6_get 10 v_home_doorSides (nI k_3)))), (4, .int (nI k_3)), (0, .ref a_this), (1, .int x1), (2, .int x2), (3, .int x3)]) hx hb dX8_leastDoor_27 hl (by decide) rfl (fun ls hl => ?_)
        refine lv_iload_n hx hb dX8_leastDoor_29 rfl (lv_at hl 5 rfl) ?_
        refine lv_iload hx hb dX8_leastDoor_30 (lv_at hl 1 rfl) ?_
        refine pv_call (v := (mX9_inSet x3 (nI k_3))) (va_runSN (As := [.int x3, .int (nI k_3)]) (rest := []) ⟨hx, hb, hml, hown, ht⟩ (kX9_inSet l dC dI cA cZ x3 (nI k_3)) ⟨va_cnB 2 ht (gi_code w_3_8) rfl rfl rfl (hK.2 _ nwi_13) (ht _ w_1_1) h_X9_inSet ⟨Nat.le_of_ble_eq_true rfl, Nat.le_of_ble_eq_true rfl⟩, ht _ w_3_7, trivial⟩ ⟨pp_blind, pp_use (ws := []) (fun _ _ h => by cases h) hK⟩ rfl rfl hl.1 rfl (lv_room (Nat.le_of_ble_eq_true rfl)) dX8_leastDoor_32 ⟨Nat.zero_le _, Nat.zero_le _⟩) ?_
        refine lv_if_eq (tgt := 57) hx hb dX8_leastDoor_35 (by decide) (fun c_3 => ?_) (fun c_3 => ?_)
        · have hm := (if_pos c_3).symm.trans hm
          refine lv_iinc (v := nI (k_3 + 1)) (lv' := [(4, .int (nI (k_3 + 1))), (5, .int ((mX6_get 10 v_home_doorSides (nI k_3)))), (0, .ref a_this), (1, .int x1), (2, .int x2), (3, .int x3)]) hx hb dX8_leastDoor_57 hl (k := 1) rfl (nI_1 _) (by decide) rfl (fun ls hl => ?_)
          refine lv_goto (tgt := 3) hx hb dX8_leastDoor_60 (by decide) ?_
          exact ih (k_3 + 1) (by omega) hm ls (lv_sub hl [0, 2, 3, 4, 5] rfl)
        · have hm := (if_neg c_3).symm.trans hm
          refine lv_iload hx hb dX8_leastDoor_38 (lv_at hl 0 rfl) ?_
          refine lv_iload_n hx hb dX8_leastDoor_40 rfl (lv_at hl 3 rfl) ?_
          refine pv_call (v := (mX9_inSet ((mX6_get 10 v_home_doorSides (nI k_3))) x1)) (va_runSN (As := [.int ((mX6_get 10 v_home_doorSides (nI k_3))), .int x1]) (rest := []) ⟨hx, hb, hml, hown, ht⟩ (kX9_inSet l dC dI cA cZ ((mX6_get 10 v_home_doorSides (nI k_3))) x1) ⟨va_cnB 2 ht (gi_code w_3_8) rfl rfl rfl (hK.2 _ nwi_13) (ht _ w_1_1) h_X9_inSet ⟨Nat.le_of_ble_eq_true rfl, Nat.le_of_ble_eq_true rfl⟩, ht _ w_3_7, trivial⟩ ⟨pp_blind, pp_use (ws := []) (fun _ _ h => by cases h) hK⟩ rfl rfl hl.1 rfl (lv_room (Nat.le_of_ble_eq_true rfl)) dX8_leastDoor_41 ⟨Nat.zero_le _, Nat.zero_le _⟩) ?_
          refine lv_if_eq (tgt := 57) hx hb dX8_leastDoor_44 (by decide) (fun c_4 => ?_) (fun c_4 => ?_)
          · have hm := (if_pos c_4).symm.trans hm
            refine lv_iinc (v := nI (k_3 + 1)) (lv' := [(4, .int (nI (k_3 + 1))), (5, .int ((mX6_get 10 v_home_doorSides (nI k_3)))), (0, .ref a_this), (1, .int x1), (2, .int x2), (3, .int x3)]) hx hb dX8_leastDoor_57 hl (k := 1) rfl (nI_1 _) (by decide) rfl (fun ls hl => ?_)
            refine lv_goto (tgt := 3) hx hb dX8_leastDoor_60 (by decide) ?_
            exact ih (k_3 + 1) (by omega) hm ls (lv_sub hl [0, 2, 3, 4, 5] rfl)
          · have hm := (if_neg c_4).symm.trans hm
            refine lv_iload hx hb dX8_leastDoor_47 (lv_at hl 0 rfl) ?_
            refine lv_iload_n hx hb dX8_leastDoor_49 rfl (lv_at hl 4 rfl) ?_
            refine lv_iand hx hb dX8_leastDoor_50 ?_
            refine lv_if_eq (tgt := 57) hx hb dX8_leastDoor_51 (by decide) (fun c_5 => ?_) (fun c_5 => ?_)
            · have hm := (if_pos c_5).symm.trans hm
              refine lv_iinc (v := nI (k_3 + 1)) (lv' := [(4, .int (nI (k_3 + 1))), (5, .int ((mX6_get 10 v_home_doorSides (nI k_3)))), (0, .ref a_this), (1, .int x1), (2, .int x2), (3, .int x3)]) hx hb dX8_leastDoor_57 hl (k := 1) rfl (nI_1 _) (by decide) rfl (fun ls hl => ?_)
              refine lv_goto (tgt := 3) hx hb dX8_leastDoor_60 (by decide) ?_
              exact ih (k_3 + 1) (by omega) hm ls (lv_sub hl [0, 2, 3, 4, 5] rfl)
            · have hm := (if_neg c_5).symm.trans hm
              refine lv_iload hx hb dX8_leastDoor_54 (lv_at hl 1 rfl) ?_
              exact W.iret (v := nI k_3) hx hb hr (fun t ht9 _ => ⟨_, rfl, hm, ht9⟩) (fun q hq => absurd hq List.not_mem_nil) dX8_leastDoor_56
  exact L_3 v_home_doors.toNatClampNeg 0 (Nat.zero_add _) hm ls (lv_sub hl [0, 1, 2, 3, 4] rfl)
theorem dX8_shortestWay_0 : decode cX8_shortestWay 0 = .ok (.aload_n 0, 1) := by decide +kernel
theorem dX8_shortestWay_1 : decode cX8_shortestWay 1 = .ok (.getfield 9, 3) := by decide +kernel
theorem dX8_shortestWay_4 : decode cX8_shortestWay 4 = .ok (.getfield 51, 3) := by decide +kernel
theorem dX8_shortestWay_7 : decode cX8_shortestWay 7 = .ok (.iload_n 1, 1) := by decide +kernel
theorem dX8_shortestWay_8 : decode cX8_shortestWay 8 = .ok (.invokevirtual 55, 3) := by decide +kernel
theorem dX8_shortestWay_11 : decode cX8_shortestWay 11 = .ok (.istore 4, 2) := by decide +kernel
theorem dX8_shortestWay_13 : decode cX8_shortestWay 13 = .ok (.aload_n 0, 1) := by decide +kernel
theorem dX8_shortestWay_14 : decode cX8_shortestWay 14 = .ok (.getfield 9, 3) := by decide +kernel
theorem dX8_shortestWay_17 : decode cX8_shortestWay 17 = .ok (.aload_n 0, 1) := by decide +kernel
theorem dX8_shortestWay_18 : decode cX8_shortestWay 18 = .ok (.getfield 9, 3) := by decide +kernel
theorem dX8_shortestWay_21 : decode cX8_shortestWay 21 = .ok (.getfield 51, 3) := by decide +kernel
theorem dX8_shortestWay_24 : decode cX8_shortestWay 24 = .ok (.iload_n 1, 1) := by decide +kernel
theorem dX8_shortestWay_25 : decode cX8_shortestWay 25 = .ok (.invokevirtual 60, 3) := by decide +kernel
theorem dX8_shortestWay_28 : decode cX8_shortestWay 28 = .ok (.invokevirtual 45, 3) := by decide +kernel
theorem dX8_shortestWay_31 : decode cX8_shortestWay 31 = .ok (.istore 5, 2) := by decide +kernel
theorem dX8_shortestWay_33 : decode cX8_shortestWay 33 = .ok (.iconst 0, 1) := by decide +kernel
theorem dX8_shortestWay_34 : decode cX8_shortestWay 34 = .ok (.istore 6, 2) := by decide +kernel
theorem dX8_shortestWay_36 : decode cX8_shortestWay 36 = .ok (.iload_n 2, 1) := by decide +kernel
theorem dX8_shortestWay_37 : decode cX8_shortestWay 37 = .ok (.invokestatic 35, 3) := by decide +kernel
theorem dX8_shortestWay_40 : decode cX8_shortestWay 40 = .ok (.istore 7, 2) := by decide +kernel
theorem dX8_shortestWay_42 : decode cX8_shortestWay 42 = .ok (.iconst 0, 1) := by decide +kernel
theorem dX8_shortestWay_43 : decode cX8_shortestWay 43 = .ok (.istore 8, 2) := by decide +kernel
theorem dX8_shortestWay_45 : decode cX8_shortestWay 45 = .ok (.iload 8, 2) := by decide +kernel
theorem dX8_shortestWay_47 : decode cX8_shortestWay 47 = .ok (.aload_n 0, 1) := by decide +kernel
theorem dX8_shortestWay_48 : decode cX8_shortestWay 48 = .ok (.getfield 9, 3) := by decide +kernel
theorem dX8_shortestWay_51 : decode cX8_shortestWay 51 = .ok (.getfield 38, 3) := by decide +kernel
theorem dX8_shortestWay_54 : decode cX8_shortestWay 54 = .ok (.if_icmp .ge 53, 3) := by decide +kernel
theorem dX8_shortestWay_57 : decode cX8_shortestWay 57 = .ok (.iload 7, 2) := by decide +kernel
theorem dX8_shortestWay_59 : decode cX8_shortestWay 59 = .ok (.iload 4, 2) := by decide +kernel
theorem dX8_shortestWay_61 : decode cX8_shortestWay 61 = .ok (.invokestatic 31, 3) := by decide +kernel
theorem dX8_shortestWay_64 : decode cX8_shortestWay 64 = .ok (.ifCond .eq 23, 3) := by decide +kernel
theorem dX8_shortestWay_67 : decode cX8_shortestWay 67 = .ok (.iload_n 3, 1) := by decide +kernel
theorem dX8_shortestWay_68 : decode cX8_shortestWay 68 = .ok (.ifCond .eq 16, 3) := by decide +kernel
theorem dX8_shortestWay_71 : decode cX8_shortestWay 71 = .ok (.aload_n 0, 1) := by decide +kernel
theorem dX8_shortestWay_72 : decode cX8_shortestWay 72 = .ok (.iload 4, 2) := by decide +kernel
theorem dX8_shortestWay_74 : decode cX8_shortestWay 74 = .ok (.iload 6, 2) := by decide +kernel
theorem dX8_shortestWay_76 : decode cX8_shortestWay 76 = .ok (.iload 5, 2) := by decide +kernel
theorem dX8_shortestWay_78 : decode cX8_shortestWay 78 = .ok (.invokevirtual 75, 3) := by decide +kernel
theorem dX8_shortestWay_81 : decode cX8_shortestWay 81 = .ok (.goto 5, 3) := by decide +kernel
theorem dX8_shortestWay_84 : decode cX8_shortestWay 84 = .ok (.iload 8, 2) := by decide +kernel
theorem dX8_shortestWay_86 : decode cX8_shortestWay 86 = .ok (.ireturn, 1) := by decide +kernel
theorem dX8_shortestWay_87 : decode cX8_shortestWay 87 = .ok (.iload 7, 2) := by decide +kernel
theorem dX8_shortestWay_89 : decode cX8_shortestWay 89 = .ok (.istore 6, 2) := by decide +kernel
theorem dX8_shortestWay_91 : decode cX8_shortestWay 91 = .ok (.aload_n 0, 1) := by decide +kernel
theorem dX8_shortestWay_92 : decode cX8_shortestWay 92 = .ok (.iload 7, 2) := by decide +kernel
theorem dX8_shortestWay_94 : decode cX8_shortestWay 94 = .ok (.iload 5, 2) := by decide +kernel
theorem dX8_shortestWay_96 : decode cX8_shortestWay 96 = .ok (.invokevirtual 41, 3) := by decide +kernel
theorem dX8_shortestWay_99 : decode cX8_shortestWay 99 = .ok (.istore 7, 2) := by decide +kernel
theorem dX8_shortestWay_101 : decode cX8_shortestWay 101 = .ok (.iinc 8 1, 3) := by decide +kernel
theorem dX8_shortestWay_104 : decode cX8_shortestWay 104 = .ok (.goto (-59), 3) := by decide +kernel
theorem dX8_shortestWay_107 : decode cX8_shortestWay 107 = .ok (.iconst (-1), 1) := by decide +kernel
theorem dX8_shortestWay_108 : decode cX8_shortestWay 108 = .ok (.ireturn, 1) := by decide +kernel
theorem h_X8_shortestWay : yX8_shortestWay.cls ≠ "java/lang/invoke/MethodHandle" ∧ yX8_shortestWay.cls ≠ "java/lang/invoke/VarHandle" ∧ (parseMethodDescriptor yX8_shortestWay.desc).map (fun d => d.parameters.length) = some 3 := by decide +kernel
def mX8_shortestWay_l45 (v_home_doors : Int32) (v_home_doorSides : Nat → Int32) (v_home_now : Nat → Int32) (x1 : Int32) (x3 : Int32) : Nat → Nat → Int32 → Int32 → Int32
  | 0, k_45, y6_45, y7_45 => (-1 : Int32)
  | n_45 + 1, k_45, y6_45, y7_45 => (if ((mX9_inSet y7_45 ((mX7_place v_home_now x1)))) = 0 then (mX8_shortestWay_l45 v_home_doors v_home_doorSides v_home_now x1 x3 n_45 (k_45 + 1) y7_45 ((mX8_spread v_home_doors v_home_doorSides y7_45 ((mX1_passable v_home_doors v_home_now ((mX7_ill v_home_now x1))))))) else (if x3 = 0 then nI k_45 else (mX8_leastDoor v_home_doors v_home_doorSides ((mX7_place v_home_now x1)) y6_45 ((mX1_passable v_home_doors v_home_now ((mX7_ill v_home_now x1)))))))
def mX8_shortestWay (v_home_rooms : Int32) (v_home_doors : Int32) (v_home_doorSides : Nat → Int32) (v_home_now : Nat → Int32) (x1 : Int32) (x2 : Int32) (x3 : Int32) : Int32 := (mX8_shortestWay_l45 v_home_doors v_home_doorSides v_home_now x1 x3 v_home_rooms.toNatClampNeg 0 ((0 : Int32)) ((mX9_only x2)))
set_option maxHeartbeats 4000000 in
set_option maxRecDepth 100000 in
theorem kX8_shortestWay (l : Launch) (dC : Nat → ClassId) (dI : Nat → Nat → Nat) (cA cZ : ClassId) (a_this a_this_home a_this_home_rainfall a_this_home_doorA a_this_home_doorB a_this_home_doorSides a_this_home_doorOpen a_this_home_now a_this_home_doorSides_cells a_this_home_now_row a_this_home_now_row_cells : Nat) (v_home_rooms : Int32) (v_home_rains : Int32) (v_home_doors : Int32) (v_home_persons : Int32) (v_home_doorSides : Nat → Int32) (v_home_now : Nat → Int32) (x1 : Int32) (x2 : Int32) (x3 : Int32) : Met l yX8_shortestWay (Cond.code yX8_shortestWay cX8_shortestWay 9 (some .int) :: wt) ({ frames := 3, cells := 0, slots := 0, locals := 65 } : Room) (va_Pc [.ref a_this, .int x1, .int x2, .int x3] (PreP (dC, dI) [(cA, .int), (cZ, .boolean)] [(a_this, .inr (8, [.ref a_this_home])), (a_this_home, .inr (1, [.ref a_this_home_rainfall, .ref a_this_home_doorA, .ref a_this_home_doorB, .ref a_this_home_doorSides, .ref a_this_home_doorOpen, .ref a_this_home_now, .int v_home_rooms, .int v_home_rains, .int v_home_doors, .int v_home_persons])), (a_this_home_doorSides, .inr (6, [.ref a_this_home_doorSides_cells])), (a_this_home_now, .inr (7, [.ref a_this_home_now_row])), (a_this_home_doorSides_cells, .inl (cA, 10, .inl v_home_doorSides)), (a_this_home_now_row, .inr (6, [.ref a_this_home_now_row_cells])), (a_this_home_now_row_cells, .inl (cA, 35, .inl v_home_now))])) (vp_Si (fun r => r = (mX8_shortestWay v_home_rooms v_home_doors v_home_doorSides v_home_now x1 x2 x3))) 0 0 (fun _ => False) := by
  refine Met.ofW (cc := cX8_shortestWay) (maxL := 9) (ret := (some .int)) (by decide) rfl ?_
  intro p e s m args below meth c s₁ B hml hv
  obtain ⟨ha, hP, hK⟩ := hv
  have hx := B.exec
  have hb := B.bytes
  have hr := B.returns
  have ht : ∀ w ∈ wt, w.before args s = true := fun w h => atoms_spec (ws := (Cond.code yX8_shortestWay cX8_shortestWay 9 (some .int) :: wt)) B.pre w (List.mem_cons_of_mem _ h)
  have hown : s.vm.findClass RX8 = some m.cls := findClass_of_methodNamed B.named
  have hlocks := B.notSynchronized
  have hl := lv_entry ([.ref a_this, .int x1, .int x2, .int x3]) (n := 9) (Nat.le_of_ble_eq_true rfl)
  rw [show entryFrame m args 9 = _ from (congrArg (fun a => entryFrame m a 9) ha).trans (lg_entry_eq m [.ref a_this, .int x1, .int x2, .int x3] 9)]
  generalize (lg_sl ([.ref a_this, .int x1, .int x2, .int x3]) ++ List.replicate (9 - (lg_sl ([.ref a_this, .int x1, .int x2, .int x3])).length) Slot.unset).toArray = ls at hl ⊢
  have hl : lv_has ls 9 [(0, .ref a_this), (1, .int x1), (2, .int x2), (3, .int x3)] := hl
  have hm : (mX8_shortestWay v_home_rooms v_home_doors v_home_doorSides v_home_now x1 x2 x3) = (mX8_shortestWay v_home_rooms v_home_doors v_home_doorSides v_home_now x1 x2 x3) := rfl
  refine lv_aload_n hx hb dX8_shortestWay_0 rfl (lv_at hl 0 rfl) ?_
  refine va_get (D := (dC, dI)) (ci := 8) (v := .ref a_this_home) (C := RX8) (T := TX8) (N := 1) hx hb ht iX8 hown hK.1 hP 0 rfl rfl 0 (by decide) (ht _ w_1_113) (fun _ h9 => h9) rfl dX8_shortestWay_1 ?_
  refine va_get (D := (dC, dI)) (ci := 1) (v := .ref a_this_home_now) (C := RX1) (T := TX1) (N := 10) hx hb ht iX1 hown hK.1 hP 1 rfl rfl 5 (by decide) (ht _ w_1_68) (fun _ h9 => h9) rfl dX8_shortestWay_4 ?_
  refine lv_iload_n hx hb dX8_shortestWay_7 rfl (lv_at hl 1 rfl) ?_
  refine pv_call (v := (mX7_place v_home_now x1)) (va_runV (As := [.int x1]) (rest := []) ⟨hx, hb, hml, hown, ht⟩ (kX7_place l dC dI cA cZ a_this_home_now a_this_home_now_row a_this_home_now_row_cells v_home_now x1) (cwV 1 ht (gi_V (C := RX7) w_2_207 w_2_208 w_2_209 w_1_5 (gi_code w_2_210)) rfl rfl rfl ⟨rfl, h_X7_place⟩ ⟨Nat.le_of_ble_eq_true rfl, Nat.le_of_ble_eq_true rfl⟩) ⟨pp_blind, va_recv hK.1 hP (ci := 7) (q0 := 3) rfl rfl, pp_use (pc_sub (wc := [(a_this_home_now, .inr (7, [.ref a_this_home_now_row])), (a_this_home_now_row, .inr (6, [.ref a_this_home_now_row_cells])), (a_this_home_now_row_cells, .inl (cA, 35, .inl v_home_now))]) hP [3, 5, 6] rfl) hK⟩ rfl rfl hl.1 rfl (lv_room (Nat.le_of_ble_eq_true rfl)) dX8_shortestWay_8 ⟨Nat.zero_le _, Nat.zero_le _⟩) ?_
  refine lv_istore (lv' := [(4, .int ((mX7_place v_home_now x1))), (0, .ref a_this), (1, .int x1), (2, .int x2), (3, .int x3)]) hx hb dX8_shortestWay_11 hl (by decide) rfl (fun ls hl => ?_)
  refine lv_aload_n hx hb dX8_shortestWay_13 rfl (lv_at hl 1 rfl) ?_
  refine va_get (D := (dC, dI)) (ci := 8) (v := .ref a_this_home) (C := RX8) (T := TX8) (N := 1) hx hb ht iX8 hown hK.1 hP 0 rfl rfl 0 (by decide) (ht _ w_1_113) (fun _ h9 => h9) rfl dX8_shortestWay_14 ?_
  refine lv_aload_n hx hb dX8_shortestWay_17 rfl (lv_at hl 1 rfl) ?_
  refine va_get (D := (dC, dI)) (ci := 8) (v := .ref a_this_home) (C := RX8) (T := TX8) (N := 1) hx hb ht iX8 hown hK.1 hP 0 rfl rfl 0 (by decide) (ht _ w_1_113) (fun _ h9 => h9) rfl dX8_shortestWay_18 ?_
  refine va_get (D := (dC, dI)) (ci := 1) (v := .ref a_this_home_now) (C := RX1) (T := TX1) (N := 10) hx hb ht iX1 hown hK.1 hP 1 rfl rfl 5 (by decide) (ht _ w_1_68) (fun _ h9 => h9) rfl dX8_shortestWay_21 ?_
  refine lv_iload_n hx hb dX8_shortestWay_24 rfl (lv_at hl 2 rfl) ?_
  refine pv_call (v := (mX7_ill v_home_now x1)) (va_runV (As := [.int x1]) (rest := [.ref a_this_home]) ⟨hx, hb, hml, hown, ht⟩ (kX7_ill l dC dI cA cZ a_this_home_now a_this_home_now_row a_this_home_now_row_cells v_home_now x1) (cwV 1 ht (gi_V (C := RX7) w_2_211 w_2_212 w_2_213 w_1_5 (gi_code w_2_214)) rfl rfl rfl ⟨rfl, h_X7_ill⟩ ⟨Nat.le_of_ble_eq_true rfl, Nat.le_of_ble_eq_true rfl⟩) ⟨pp_blind, va_recv hK.1 hP (ci := 7) (q0 := 3) rfl rfl, pp_use (pc_sub (wc := [(a_this_home_now, .inr (7, [.ref a_this_home_now_row])), (a_this_home_now_row, .inr (6, [.ref a_this_home_now_row_cells])), (a_this_home_now_row_cells, .inl (cA, 35, .inl v_home_now))]) hP [3, 5, 6] rfl) hK⟩ rfl rfl hl.1 rfl (lv_room (Nat.le_of_ble_eq_true rfl)) dX8_shortestWay_25 ⟨Nat.zero_le _, Nat.zero_le _⟩) ?_
  refine pv_call (v := (mX1_passable v_home_doors v_home_now ((mX7_ill v_home_now x1)))) (va_runV (As := [.int ((mX7_ill v_home_now x1))]) (rest := []) ⟨hx, hb, hml, hown, ht⟩ (kX1_passable l dC dI cA cZ a_this_home a_this_home_rainfall a_this_home_doorA a_this_home_doorB a_this_home_doorSides a_this_home_doorOpen a_this_home_now a_this_home_now_row a_this_home_now_row_cells v_home_rooms v_home_rains v_home_doors v_home_persons v_home_now ((mX7_ill v_home_now x1))) (cwV 1 ht (gi_V (C := RX1) w_2_226 w_2_227 w_2_228 w_1_2 (gi_code w_2_229)) rfl rfl rfl ⟨rfl, h_X1_passable⟩ ⟨Nat.le_of_ble_eq_true rfl, Nat.le_of_ble_eq_true rfl⟩) ⟨pp_blind, va_recv hK.1 hP (ci := 1) (q0 := 1) rfl rfl, pp_use (pc_sub (wc := [(a_this_home, .inr (1, [.ref a_this_home_rainfall, .ref a_this_home_doorA, .ref a_this_home_doorB, .ref a_this_home_doorSides, .ref a_this_home_doorOpen, .ref a_this_home_now, .int v_home_rooms, .int v_home_rains, .int v_home_doors, .int v_home_persons])), (a_this_home_now, .inr (7, [.ref a_this_home_now_row])), (a_this_home_now_row, .inr (6, [.ref a_this_home_now_row_cells])), (a_this_home_now_row_cells, .inl (cA, 35, .inl v_home_now))]) hP [1, 3, 5, 6] rfl) hK⟩ rfl rfl hl.1 rfl (lv_room (Nat.le_of_ble_eq_true rfl)) dX8_shortestWay_28 ⟨Nat.zero_le _, Nat.zero_le _⟩) ?_
  refine lv_istore (lv' := [(5, .int ((mX1_passable v_home_doors v_home_now ((mX7_ill v_home_now x1))))), (4, .int ((mX7_place v_home_now x1))), (0, .ref a_this), (1, .int x1), (2, .int x2), (3, .int x3)]) hx hb dX8_shortestWay_31 hl (by decide) rfl (fun ls hl => ?_)
  refine lv_iconst (v := (0 : Int32)) hx hb dX8_shortestWay_33 (by decide) ?_
  refine lv_istore (lv' := [(6, .int ((0 : Int32))), (5, .int ((mX1_passable v_home_doors v_home_now ((mX7_ill v_home_now x1))))), (4, .int ((mX7_place v_home_now x1))), (0, .ref a_this), (1, .int x1), (2, .int x2), (3, .int x3)]) hx hb dX8_shortestWay_34 hl (by decide) rfl (fun ls hl => ?_)
  refine lv_iload_n hx hb dX8_shortestWay_36 rfl (lv_at hl 5 rfl) ?_
  refine pv_call (v := (mX9_only x2)) (va_runSN (As := [.int x2]) (rest := []) ⟨hx, hb, hml, hown, ht⟩ (kX9_only l dC dI cA cZ x2) ⟨va_cnB 1 ht (gi_code w_2_108) rfl rfl rfl (hK.2 _ nwi_10) (ht _ w_1_1) h_X9_only ⟨Nat.le_of_ble_eq_true rfl, Nat.le_of_ble_eq_true rfl⟩, ht _ w_2_107, trivial⟩ ⟨pp_blind, pp_use (ws := []) (fun _ _ h => by cases h) hK⟩ rfl rfl hl.1 rfl (lv_room (Nat.le_of_ble_eq_true rfl)) dX8_shortestWay_37 ⟨Nat.zero_le _, Nat.zero_le _⟩) ?_
  refine lv_istore (lv' := [(7, .int ((mX9_only x2))), (6, .int ((0 : Int32))), (5, .int ((mX1_passable v_home_doors v_home_now ((mX7_ill v_home_now x1))))), (4, .int ((mX7_place v_home_now x1))), (0, .ref a_this), (1, .int x1), (2, .int x2), (3, .int x3)]) hx hb dX8_shortestWay_40 hl (by decide) rfl (fun ls hl => ?_)
  refine lv_iconst (v := (0 : Int32)) hx hb dX8_shortestWay_42 (by decide) ?_
  refine lv_istore (lv' := [(8, .int ((0 : Int32))), (7, .int ((mX9_only x2))), (6, .int ((0 : Int32))), (5, .int ((mX1_passable v_home_doors v_home_now ((mX7_ill v_home_now x1))))), (4, .int ((mX7_place v_home_now x1))), (0, .ref a_this), (1, .int x1), (2, .int x2), (3, .int x3)]) hx hb dX8_shortestWay_43 hl (by decide) rfl (fun ls hl => ?_)
  have L_45 : ∀ (n_45 k_45 : Nat), k_45 + n_45 = v_home_rooms.toNatClampNeg → ∀ (y6_45 : Int32) (y7_45 : Int32),  mX8_shortestWay_l45 v_home_doors v_home_doorSides v_home_now x1 x3 n_45 k_45 y6_45 y7_45 = (mX8_shortestWay v_home_rooms v_home_doors v_home_doorSides v_home_now x1 x2 x3) → ∀ (ls : Array Slot), lv_has ls 9 [(8, .int (nI k_45)), (7, .int y7_45), (6, .int y6_45), (5, .int ((mX1_passable v_home_doors v_home_now ((mX7_ill v_home_now x1))))), (4, .int ((mX7_place v_home_now x1))), (0, .ref a_this), (1, .int x1), (2, .int x2), (3, .int x3)] → W p l e (headSpec (Cond.code yX8_shortestWay cX8_shortestWay 9 (some .int) :: wt) ({ frames := 3, cells := 0, slots := 0, locals := 65 } : Room)).room s m args below meth c s.heap [] 0 0 (MQ below (vp_Si (fun r => r = (mX8_shortestWay v_home_rooms v_home_doors v_home_doorSides v_home_now x1 x2 x3))) args s 0 0 (fun _ => False)) (F0 m 45 ls []) := by
    intro n_45
    induction n_45 with
    | zero =>
      intro k_45 hk y6_45 y7_45 hm ls hl
      have hm : (-1 : Int32) = (mX8_shortestWay v_home_rooms v_home_doors v_home_doorSides v_home_now x1 x2 x3) := hm
      refine lv_iload hx hb dX8_shortestWay_45 (lv_at hl 0 rfl) ?_
      refine lv_aload_n hx hb dX8_shortestWay_47 rfl (lv_at hl 5 rfl) ?_
      refine va_get (D := (dC, dI)) (ci := 8) (v := .ref a_this_home) (C := RX8) (T := TX8) (N := 1) hx hb ht iX8 hown hK.1 hP 0 rfl rfl 0 (by decide) (ht _ w_1_113) (fun _ h9 => h9) rfl dX8_shortestWay_48 ?_
      refine va_get (D := (dC, dI)) (ci := 1) (v := .int v_home_rooms) (C := RX1) (T := TX1) (N := 10) hx hb ht iX1 hown hK.1 hP 1 rfl rfl 6 (by decide) (ht _ w_1_71) (fun _ h9 => h9) rfl dX8_shortestWay_51 ?_
      refine lv_icmp_ge (tgt := 107) hx hb dX8_shortestWay_54 (by decide) (fun c_1 => ?_) (fun c_1 => ?_)
      · skip
        refine lv_iconst (v := (-1 : Int32)) hx hb dX8_shortestWay_107 (by decide) ?_
        exact W.iret (v := (-1 : Int32)) hx hb hr (fun t ht9 _ => ⟨_, rfl, hm, ht9⟩) (fun q hq => absurd hq List.not_mem_nil) dX8_shortestWay_108
      · exact absurd (lpE (by omega) (by have := clampLt v_home_rooms; omega)) c_1
    | succ n_45 ih =>
      intro k_45 hk y6_45 y7_45 hm ls hl
      have hm : (if ((mX9_inSet y7_45 ((mX7_place v_home_now x1)))) = 0 then (mX8_shortestWay_l45 v_home_doors v_home_doorSides v_home_now x1 x3 n_45 (k_45 + 1) y7_45 ((mX8_spread v_home_doors v_home_doorSides y7_45 ((mX1_passable v_home_doors v_home_now ((mX7_ill v_home_now x1))))))) else (if x3 = 0 then nI k_45 else (mX8_leastDoor v_home_doors v_home_doorSides ((mX7_place v_home_now x1)) y6_45 ((mX1_passable v_home_doors v_home_now ((mX7_ill v_home_now x1))))))) = (mX8_shortestWay v_home_rooms v_home_doors v_home_doorSides v_home_now x1 x2 x3) := hm
      refine lv_iload hx hb dX8_shortestWay_45 (lv_at hl 0 rfl) ?_
      refine lv_aload_n hx hb dX8_shortestWay_47 rfl (lv_at hl 5 rfl) ?_
      refine va_get (D := (dC, dI)) (ci := 8) (v := .ref a_this_home) (C := RX8) (T := TX8) (N := 1) hx hb ht iX8 hown hK.1 hP 0 rfl rfl 0 (by decide) (ht _ w_1_113) (fun _ h9 => h9) rfl dX8_shortestWay_48 ?_
      refine va_get (D := (dC, dI)) (ci := 1) (v := .int v_home_rooms) (C := RX1) (T := TX1) (N := 10) hx hb ht iX1 hown hK.1 hP 1 rfl rfl 6 (by decide) (ht _ w_1_71) (fun _ h9 => h9) rfl dX8_shortestWay_51 ?_
      refine lv_icmp_ge (tgt := 107) hx hb dX8_shortestWay_54 (by decide) (fun c_2 => ?_) (fun c_2 => ?_)
      · exact absurd c_2 (lpN (by omega))
      · skip
        refine lv_iload hx hb dX8_shortestWay_57 (lv_at hl 1 rfl) ?_
        refine lv_iload hx hb dX8_shortestWay_59 (lv_at hl 4 rfl) ?_
        refine pv_call (v := (mX9_inSet y7_45 ((mX7_place v_home_now x1)))) (va_runSN (As := [.int y7_45, .int ((mX7_place v_home_now x1))]) (rest := []) ⟨hx, hb, hml, hown, ht⟩ (kX9_inSet l dC dI cA cZ y7_45 ((mX7_place v_home_now x1))) ⟨va_cnB 2 ht (gi_code w_3_8) rfl rfl rfl (hK.2 _ nwi_13) (ht _ w_1_1) h_X9_inSet ⟨Nat.le_of_ble_eq_true rfl, Nat.le_of_ble_eq_true rfl⟩, ht _ w_3_7, trivial⟩ ⟨pp_blind, pp_use (ws := []) (fun _ _ h => by cases h) hK⟩ rfl rfl hl.1 rfl (lv_room (Nat.le_of_ble_eq_true rfl)) dX8_shortestWay_61 ⟨Nat.zero_le _, Nat.zero_le _⟩) ?_
        refine lv_if_eq (tgt := 87) hx hb dX8_shortestWay_64 (by decide) (fun c_3 => ?_) (fun c_3 => ?_)
        · have hm := (if_pos c_3).symm.trans hm
          refine lv_iload hx hb dX8_shortestWay_87 (lv_at hl 1 rfl) ?_
          refine lv_istore (lv' := [(6, .int y7_45), (8, .int (nI k_45)), (7, .int y7_45), (5, .int ((mX1_passable v_home_doors v_home_now ((mX7_ill v_home_now x1))))), (4, .int ((mX7_place v_home_now x1))), (0, .ref a_this), (1, .int x1), (2, .int x2), (3, .int x3)]) hx hb dX8_shortestWay_89 hl (by decide) rfl (fun ls hl => ?_)
          refine lv_aload_n hx hb dX8_shortestWay_91 rfl (lv_at hl 5 rfl) ?_
          refine lv_iload hx hb dX8_shortestWay_92 (lv_at hl 2 rfl) ?_
          refine lv_iload hx hb dX8_shortestWay_94 (lv_at hl 3 rfl) ?_
          refine pv_call (v := (mX8_spread v_home_doors v_home_doorSides y7_45 ((mX1_passable v_home_doors v_home_now ((mX7_ill v_home_now x1)))))) (va_runV (As := [.int y7_45, .int ((mX1_passable v_home_doors v_home_now ((mX7_ill v_home_now x1))))]) (rest := []) ⟨hx, hb, hml, hown, ht⟩ (kX8_spread l dC dI cA cZ a_this a_this_home a_this_home_rainfall a_this_home_doorA a_this_home_doorB a_this_home_doorSides a_this_home_doorOpen a_this_home_now a_this_home_doorSides_cells v_home_rooms v_home_rains v_home_doors v_home_persons v_home_doorSides y7_45 ((mX1_passable v_home_doors v_home_now ((mX7_ill v_home_now x1))))) (cwV 2 ht (gi_V (C := RX8) w_3_1 w_3_3 w_0_10 w_1_6 (gi_code w_3_4)) rfl rfl rfl ⟨rfl, h_X8_spread⟩ ⟨Nat.le_of_ble_eq_true rfl, Nat.le_of_ble_eq_true rfl⟩) ⟨pp_blind, va_recv hK.1 hP (ci := 8) (q0 := 0) rfl rfl, pp_use (pc_sub (wc := [(a_this, .inr (8, [.ref a_this_home])), (a_this_home, .inr (1, [.ref a_this_home_rainfall, .ref a_this_home_doorA, .ref a_this_home_doorB, .ref a_this_home_doorSides, .ref a_this_home_doorOpen, .ref a_this_home_now, .int v_home_rooms, .int v_home_rains, .int v_home_doors, .int v_home_persons])), (a_this_home_doorSides, .inr (6, [.ref a_this_home_doorSides_cells])), (a_this_home_doorSides_cells, .inl (cA, 10, .inl v_home_doorSides))]) hP [0, 1, 2, 4] rfl) hK⟩ rfl rfl hl.1 rfl (lv_room (Nat.le_of_ble_eq_true rfl)) dX8_shortestWay_96 ⟨Nat.zero_le _, Nat.zero_le _⟩) ?_
          refine lv_istore (lv' := [(7, .int ((mX8_spread v_home_doors v_home_doorSides y7_45 ((mX1_passable v_home_doors v_home_now ((mX7_ill v_home_now x1))))))), (6, .int y7_45), (8, .int (nI k_45)), (5, .int ((mX1_passable v_home_doors v_home_now ((mX7_ill v_home_now x1))))), (4, .int ((mX7_place v_home_now x1))), (0, .ref a_this), (1, .int x1), (2, .int x2), (3, .int x3)]) hx hb dX8_shortestWay_99 hl (by decide) rfl (fun ls hl => ?_)
          refine lv_iinc (v := nI (k_45 + 1)) (lv' := [(8, .int (nI (k_45 + 1))), (7, .int ((mX8_spread v_home_doors v_home_doorSides y7_45 ((mX1_passable v_home_doors v_home_now ((mX7_ill v_home_now x1))))))), (6, .int y7_45), (5, .int ((mX1_passable v_home_doors v_home_now ((mX7_ill v_home_now x1))))), (4, .int ((mX7_place v_home_now x1))), (0, .ref a_this), (1, .int x1), (2, .int x2), (3, .int x3)]) hx hb dX8_shortestWay_101 hl (k := 2) rfl (nI_1 _) (by decide) rfl (fun ls hl => ?_)
          refine lv_goto (tgt := 45) hx hb dX8_shortestWay_104 (by decide) ?_
          exact ih (k_45 + 1) (by omega) y7_45 ((mX8_spread v_home_doors v_home_doorSides y7_45 ((mX1_passable v_home_doors v_home_now ((mX7_ill v_home_now x1)))))) hm ls (lv_sub hl [0, 1, 2, 3, 4, 5, 6, 7, 8] rfl)
        · have hm := (if_neg c_3).symm.trans hm
          refine lv_iload_n hx hb dX8_shortestWay_67 rfl (lv_at hl 8 rfl) ?_
          refine lv_if_eq (tgt := 84) hx hb dX8_shortestWay_68 (by decide) (fun c_4 => ?_) (fun c_4 => ?_)
          · have hm := (if_pos c_4).symm.trans hm
            refine lv_iload hx hb dX8_shortestWay_84 (lv_at hl 0 rfl) ?_
            exact W.iret (v := nI k_45) hx hb hr (fun t ht9 _ => ⟨_, rfl, hm, ht9⟩) (fun q hq => absurd hq List.not_mem_nil) dX8_shortestWay_86
          · have hm := (if_neg c_4).symm.trans hm
            refine lv_aload_n hx hb dX8_shortestWay_71 rfl (lv_at hl 5 rfl) ?_
            refine lv_iload hx hb dX8_shortestWay_72 (lv_at hl 4 rfl) ?_
            refine lv_iload hx hb dX8_shortestWay_74 (lv_at hl 2 rfl) ?_
            refine lv_iload hx hb dX8_shortestWay_76 (lv_at hl 3 rfl) ?_
            refine pv_call (v := (mX8_leastDoor v_home_doors v_home_doorSides ((mX7_place v_home_now x1)) y6_45 ((mX1_passable v_home_doors v_home_now ((mX7_ill v_home_now x1)))))) (va_runV (As := [.int ((mX7_place v_home_now x1)), .int y6_45, .int ((mX1_passable v_home_doors v_home_now ((mX7_ill v_home_now x1))))]) (rest := []) ⟨hx, hb, hml, hown, ht⟩ (kX8_leastDoor l dC dI cA cZ a_this a_this_home a_this_home_rainfall a_this_home_doorA a_this_home_doorB a_this_home_doorSides a_this_home_doorOpen a_this_home_now a_this_home_doorSides_cells v_home_rooms v_home_rains v_home_doors v_home_persons v_home_doorSides ((mX7_place v_home_now x1)) y6_45 ((mX1_passable v_home_doors v_home_now ((mX7_ill v_home_now x1))))) (cwV 3 ht (gi_V (C := RX8) w_3_216 w_3_218 w_0_13 w_1_6 (gi_code w_3_219)) rfl rfl rfl ⟨rfl, h_X8_leastDoor⟩ ⟨Nat.le_of_ble_eq_true rfl, Nat.le_of_ble_eq_true rfl⟩) ⟨pp_blind, va_recv hK.1 hP (ci := 8) (q0 := 0) rfl rfl, pp_use (pc_sub (wc := [(a_this, .inr (8, [.ref a_this_home])), (a_this_home, .inr (1, [.ref a_this_home_rainfall, .ref a_this_home_doorA, .ref a_this_home_doorB, .ref a_this_home_doorSides, .ref a_this_home_doorOpen, .ref a_this_home_now, .int v_home_rooms, .int v_home_rains, .int v_home_doors, .int v_home_persons])), (a_this_home_doorSides, .inr (6, [.ref a_this_home_doorSides_cells])), (a_this_home_doorSides_cells, .inl (cA, 10, .inl v_home_doorSides))]) hP [0, 1, 2, 4] rfl) hK⟩ rfl rfl hl.1 rfl (lv_room (Nat.le_of_ble_eq_true rfl)) dX8_shortestWay_78 ⟨Nat.zero_le _, Nat.zero_le _⟩) ?_
            refine lv_goto (tgt := 86) hx hb dX8_shortestWay_81 (by decide) ?_
            exact W.iret (v := (mX8_leastDoor v_home_doors v_home_doorSides ((mX7_place v_home_now x1)) y6_45 ((mX1_passable v_home_doors v_home_now ((mX7_ill v_home_now x1)))))) hx hb hr (fun t ht9 _ => ⟨_, rfl, hm, ht9⟩) (fun q hq => absurd hq List.not_mem_nil) dX8_shortestWay_86
  exact L_45 v_home_rooms.toNatClampNeg 0 (Nat.zero_add _) ((0 : Int32)) ((mX9_only x2)) hm ls (lv_sub hl [0, 1, 2, 3, 4, 5, 6, 7, 8] rfl)
theorem dX8_doorsAcross_0 : decode cX8_doorsAcross 0 = .ok (.iconst 0, 1) := by decide +kernel
theorem dX8_doorsAcross_1 : decode cX8_doorsAcross 1 = .ok (.istore_n 2, 1) := by decide +kernel
theorem dX8_doorsAcross_2 : decode cX8_doorsAcross 2 = .ok (.iconst 0, 1) := by decide +kernel
theorem dX8_doorsAcross_3 : decode cX8_doorsAcross 3 = .ok (.istore_n 3, 1) := by decide +kernel
theorem dX8_doorsAcross_4 : decode cX8_doorsAcross 4 = .ok (.iload_n 3, 1) := by decide +kernel
theorem dX8_doorsAcross_5 : decode cX8_doorsAcross 5 = .ok (.aload_n 0, 1) := by decide +kernel
theorem dX8_doorsAcross_6 : decode cX8_doorsAcross 6 = .ok (.getfield 9, 3) := by decide +kernel
theorem dX8_doorsAcross_9 : decode cX8_doorsAcross 9 = .ok (.getfield 15, 3) := by decide +kernel
theorem dX8_doorsAcross_12 : decode cX8_doorsAcross 12 = .ok (.if_icmp .ge 47, 3) := by decide +kernel
theorem dX8_doorsAcross_15 : decode cX8_doorsAcross 15 = .ok (.aload_n 0, 1) := by decide +kernel
theorem dX8_doorsAcross_16 : decode cX8_doorsAcross 16 = .ok (.getfield 9, 3) := by decide +kernel
theorem dX8_doorsAcross_19 : decode cX8_doorsAcross 19 = .ok (.getfield 21, 3) := by decide +kernel
theorem dX8_doorsAcross_22 : decode cX8_doorsAcross 22 = .ok (.iload_n 3, 1) := by decide +kernel
theorem dX8_doorsAcross_23 : decode cX8_doorsAcross 23 = .ok (.invokevirtual 25, 3) := by decide +kernel
theorem dX8_doorsAcross_26 : decode cX8_doorsAcross 26 = .ok (.istore 4, 2) := by decide +kernel
theorem dX8_doorsAcross_28 : decode cX8_doorsAcross 28 = .ok (.iload 4, 2) := by decide +kernel
theorem dX8_doorsAcross_30 : decode cX8_doorsAcross 30 = .ok (.iload_n 1, 1) := by decide +kernel
theorem dX8_doorsAcross_31 : decode cX8_doorsAcross 31 = .ok (.iand, 1) := by decide +kernel
theorem dX8_doorsAcross_32 : decode cX8_doorsAcross 32 = .ok (.istore 5, 2) := by decide +kernel
theorem dX8_doorsAcross_34 : decode cX8_doorsAcross 34 = .ok (.iload 5, 2) := by decide +kernel
theorem dX8_doorsAcross_36 : decode cX8_doorsAcross 36 = .ok (.ifCond .eq 17, 3) := by decide +kernel
theorem dX8_doorsAcross_39 : decode cX8_doorsAcross 39 = .ok (.iload 5, 2) := by decide +kernel
theorem dX8_doorsAcross_41 : decode cX8_doorsAcross 41 = .ok (.iload 4, 2) := by decide +kernel
theorem dX8_doorsAcross_43 : decode cX8_doorsAcross 43 = .ok (.if_icmp .eq 10, 3) := by decide +kernel
theorem dX8_doorsAcross_46 : decode cX8_doorsAcross 46 = .ok (.iload_n 2, 1) := by decide +kernel
theorem dX8_doorsAcross_47 : decode cX8_doorsAcross 47 = .ok (.iload_n 3, 1) := by decide +kernel
theorem dX8_doorsAcross_48 : decode cX8_doorsAcross 48 = .ok (.invokestatic 35, 3) := by decide +kernel
theorem dX8_doorsAcross_51 : decode cX8_doorsAcross 51 = .ok (.ior, 1) := by decide +kernel
theorem dX8_doorsAcross_52 : decode cX8_doorsAcross 52 = .ok (.istore_n 2, 1) := by decide +kernel
theorem dX8_doorsAcross_53 : decode cX8_doorsAcross 53 = .ok (.iinc 3 1, 3) := by decide +kernel
theorem dX8_doorsAcross_56 : decode cX8_doorsAcross 56 = .ok (.goto (-52), 3) := by decide +kernel
theorem dX8_doorsAcross_59 : decode cX8_doorsAcross 59 = .ok (.iload_n 2, 1) := by decide +kernel
theorem dX8_doorsAcross_60 : decode cX8_doorsAcross 60 = .ok (.ireturn, 1) := by decide +kernel
theorem h_X8_doorsAcross : yX8_doorsAcross.cls ≠ "java/lang/invoke/MethodHandle" ∧ yX8_doorsAcross.cls ≠ "java/lang/invoke/VarHandle" ∧ (parseMethodDescriptor yX8_doorsAcross.desc).map (fun d => d.parameters.length) = some 1 := by decide +kernel
def mX8_doorsAcross_l4 (v_home_doorSides : Nat → Int32) (x1 : Int32) (k_4 : Nat) (y2_4 : Int32) : Int32 := (if (((mX6_get 10 v_home_doorSides (nI k_4))) &&& x1) = 0 then y2_4 else (if (((mX6_get 10 v_home_doorSides (nI k_4))) &&& x1) = ((mX6_get 10 v_home_doorSides (nI k_4))) then y2_4 else y2_4 ||| ((mX9_only (nI k_4)))))
def mX8_doorsAcross (v_home_doors : Int32) (v_home_doorSides : Nat → Int32) (x1 : Int32) : Int32 := (iter (mX8_doorsAcross_l4 v_home_doorSides x1) v_home_doors.toNatClampNeg ((0 : Int32)))
set_option maxHeartbeats 4000000 in
set_option maxRecDepth 100000 in
theorem kX8_doorsAcross (l : Launch) (dC : Nat → ClassId) (dI : Nat → Nat → Nat) (cA cZ : ClassId) (a_this a_this_home a_this_home_rainfall a_this_home_doorA a_this_home_doorB a_this_home_doorSides a_this_home_doorOpen a_this_home_now a_this_home_doorSides_cells : Nat) (v_home_rooms : Int32) (v_home_rains : Int32) (v_home_doors : Int32) (v_home_persons : Int32) (v_home_doorSides : Nat → Int32) (x1 : Int32) : Met l yX8_doorsAcross (Cond.code yX8_doorsAcross cX8_doorsAcross 6 (some .int) :: wt) ({ frames := 1, cells := 0, slots := 0, locals := 21 } : Room) (va_Pc [.ref a_this, .int x1] (PreP (dC, dI) [(cA, .int), (cZ, .boolean)] [(a_this, .inr (8, [.ref a_this_home])), (a_this_home, .inr (1, [.ref a_this_home_rainfall, .ref a_this_home_doorA, .ref a_this_home_doorB, .ref a_this_home_doorSides, .ref a_this_home_doorOpen, .ref a_this_home_now, .int v_home_rooms, .int v_home_rains, .int v_home_doors, .int v_home_persons])), (a_this_home_doorSides, .inr (6, [.ref a_this_home_doorSides_cells])), (a_this_home_doorSides_cells, .inl (cA, 10, .inl v_home_doorSides))])) (vp_Si (fun r => r = (mX8_doorsAcross v_home_doors v_home_doorSides x1))) 0 0 (fun _ => False) := by
  refine Met.ofW (cc := cX8_doorsAcross) (maxL := 6) (ret := (some .int)) (by decide) rfl ?_
  intro p e s m args below meth c s₁ B hml hv
  obtain ⟨ha, hP, hK⟩ := hv
  have hx := B.exec
  have hb := B.bytes
  have hr := B.returns
  have ht : ∀ w ∈ wt, w.before args s = true := fun w h => atoms_spec (ws := (Cond.code yX8_doorsAcross cX8_doorsAcross 6 (some .int) :: wt)) B.pre w (List.mem_cons_of_mem _ h)
  have hown : s.vm.findClass RX8 = some m.cls := findClass_of_methodNamed B.named
  have hlocks := B.notSynchronized
  have hl := lv_entry ([.ref a_this, .int x1]) (n := 6) (Nat.le_of_ble_eq_true rfl)
  rw [show entryFrame m args 6 = _ from (congrArg (fun a => entryFrame m a 6) ha).trans (lg_entry_eq m [.ref a_this, .int x1] 6)]
  generalize (lg_sl ([.ref a_this, .int x1]) ++ List.replicate (6 - (lg_sl ([.ref a_this, .int x1])).length) Slot.unset).toArray = ls at hl ⊢
  have hl : lv_has ls 6 [(0, .ref a_this), (1, .int x1)] := hl
  have hm : (mX8_doorsAcross v_home_doors v_home_doorSides x1) = (mX8_doorsAcross v_home_doors v_home_doorSides x1) := rfl
  refine lv_iconst (v := (0 : Int32)) hx hb dX8_doorsAcross_0 (by decide) ?_
  refine lv_istore_n (lv' := [(2, .int ((0 : Int32))), (0, .ref a_this), (1, .int x1)]) hx hb dX8_doorsAcross_1 rfl hl (by decide) rfl (fun ls hl => ?_)
  refine lv_iconst (v := (0 : Int32)) hx hb dX8_doorsAcross_2 (by decide) ?_
  refine lv_istore_n (lv' := [(3, .int ((0 : Int32))), (2, .int ((0 : Int32))), (0, .ref a_this), (1, .int x1)]) hx hb dX8_doorsAcross_3 rfl hl (by decide) rfl (fun ls hl => ?_)
  have L_4 : ∀ (n_4 k_4 : Nat), k_4 + n_4 = v_home_doors.toNatClampNeg → ∀ (y2_4 : Int32), y2_4 = (iter (mX8_doorsAcross_l4 v_home_doorSides x1) k_4 ((0 : Int32))) → ∀ (ls : Array Slot), lv_has ls 6 [(3, .int (nI k_4)), (2, .int y2_4), (0, .ref a_this), (1, .int x1)] → W p l e (headSpec (Cond.code yX8_doorsAcross cX8_doorsAcross 6 (some .int) :: wt) ({ frames := 1, cells := 0, slots := 0, locals := 21 } : Room)).room s m args below meth c s.heap [] 0 0 (MQ below (vp_Si (fun r => r = (mX8_doorsAcross v_home_doors v_home_doorSides x1))) args s 0 0 (fun _ => False)) (F0 m 4 ls []) := by
    intro n_4
    induction n_4 with
    | zero =>
      intro k_4 hk y2_4 ex0_4 ls hl
      obtain rfl : v_home_doors.toNatClampNeg = k_4 := by omega
      subst ex0_4
      refine lv_iload_n hx hb dX8_doorsAcross_4 rfl (lv_at hl 0 rfl) ?_
      refine lv_aload_n hx hb dX8_doorsAcross_5 rfl (lv_at hl 2 rfl) ?_
      refine va_get (D := (dC, dI)) (ci := 8) (v := .ref a_this_home) (C := RX8) (T := TX8) (N := 1) hx hb ht iX8 hown hK.1 hP 0 rfl rfl 0 (by decide) (ht _ w_1_113) (fun _ h9 => h9) rfl dX8_doorsAcross_6 ?_
      refine va_get (D := (dC, dI)) (ci := 1) (v := .int v_home_doors) (C := RX1) (T := TX1) (N := 10) hx hb ht iX1 hown hK.1 hP 1 rfl rfl 8 (by decide) (ht _ w_1_76) (fun _ h9 => h9) rfl dX8_doorsAcross_9 ?_
      refine lv_icmp_ge (tgt := 59) hx hb dX8_doorsAcross_12 (by decide) (fun c_4 => ?_) (fun c_4 => ?_)
      · skip
        refine lv_iload_n hx hb dX8_doorsAcross_59 rfl (lv_at hl 1 rfl) ?_
        exact W.iret (v := (iter (mX8_doorsAcross_l4 v_home_doorSides x1) v_home_doors.toNatClampNeg ((0 : Int32)))) hx hb hr (fun t ht9 _ => ⟨_, rfl, hm, ht9⟩) (fun q hq => absurd hq List.not_mem_nil) dX8_doorsAcross_60
      · exact absurd (lpE (by omega) (by have := clampLt v_home_doors; omega)) c_4
    | succ n_4 ih =>
      intro k_4 hk y2_4 ex0_4 ls hl
      have hm : (mX8_doorsAcross_l4 v_home_doorSides x1) k_4 y2_4 = (iter (mX8_doorsAcross_l4 v_home_doorSides x1) (k_4 + 1) ((0 : Int32))) := by rw [ex0_4]; rfl
      refine lv_iload_n hx hb dX8_doorsAcross_4 rfl (lv_at hl 0 rfl) ?_
      refine lv_aload_n hx hb dX8_doorsAcross_5 rfl (lv_at hl 2 rfl) ?_
      refine va_get (D := (dC, dI)) (ci := 8) (v := .ref a_this_home) (C := RX8) (T := TX8) (N := 1) hx hb ht iX8 hown hK.1 hP 0 rfl rfl 0 (by decide) (ht _ w_1_113) (fun _ h9 => h9) rfl dX8_doorsAcross_6 ?_
      refine va_get (D := (dC, dI)) (ci := 1) (v := .int v_home_doors) (C := RX1) (T := TX1) (N := 10) hx hb ht iX1 hown hK.1 hP 1 rfl rfl 8 (by decide) (ht _ w_1_76) (fun _ h9 => h9) rfl dX8_doorsAcross_9 ?_
      refine lv_icmp_ge (tgt := 59) hx hb dX8_doorsAcross_12 (by decide) (fun c_1 => ?_) (fun c_1 => ?_)
      · exact absurd c_1 (lpN (by omega))
      · skip
        refine lv_aload_n hx hb dX8_doorsAcross_15 rfl (lv_at hl 2 rfl) ?_
        refine va_get (D := (dC, dI)) (ci := 8) (v := .ref a_this_home) (C := RX8) (T := TX8) (N := 1) hx hb ht iX8 hown hK.1 hP 0 rfl rfl 0 (by decide) (ht _ w_1_113) (fun _ h9 => h9) rfl dX8_doorsAcross_16 ?_
        refine va_get (D := (dC, dI)) (ci := 1) (v := .ref a_this_home_doorSides) (C := RX1) (T := TX1) (N := 10) hx hb ht iX1 hown hK.1 hP 1 rfl rfl 3 (by decide) (ht _ w_1_63) (fun _ h9 => h9) rfl dX8_doorsAcross_19 ?_
        refine lv_iload_n hx hb dX8_doorsAcross_22 rfl (lv_at hl 0 rfl) ?_
        refine pv_call (v := (mX6_get 10 v_home_doorSides (nI k_4))) (va_runV (As := [.int (nI k_4)]) (rest := []) ⟨hx, hb, hml, hown, ht⟩ (kX6_get l dC dI cA cZ a_this_home_doorSides a_this_home_doorSides_cells 10 v_home_doorSides (nI k_4) (by decide)) (cwV 1 ht (gi_V (C := RX6) w_3_5 w_2_56 w_2_57 w_1_3 (gi_code w_2_58)) rfl rfl rfl ⟨rfl, h_X6_get⟩ ⟨Nat.le_of_ble_eq_true rfl, Nat.le_of_ble_eq_true rfl⟩) ⟨pp_blind, va_recv hK.1 hP (ci := 6) (q0 := 2) rfl rfl, pp_use (pc_sub (wc := [(a_this_home_doorSides, .inr (6, [.ref a_this_home_doorSides_cells])), (a_this_home_doorSides_cells, .inl (cA, 10, .inl v_home_doorSides))]) hP [2, 3] rfl) hK⟩ rfl rfl hl.1 rfl (lv_room (Nat.le_of_ble_eq_true rfl)) dX8_doorsAcross_23 ⟨Nat.zero_le _, Nat.zero_le _⟩) ?_
        refine lv_istore (lv' := [(4, .int ((mX6_get 10 v_home_doorSides (nI k_4)))), (3, .int (nI k_4)), (2, .int y2_4), (0, .ref a_this), (1, .int x1)]) hx hb dX8_doorsAcross_26 hl (by decide) rfl (fun ls hl => ?_)
        refine lv_iload hx hb dX8_doorsAcross_28 (lv_at hl 0 rfl) ?_
        refine lv_iload_n hx hb dX8_doorsAcross_30 rfl (lv_at hl 4 rfl) ?_
        refine lv_iand hx hb dX8_doorsAcross_31 ?_
        refine lv_istore (lv' := [(5, .int (((mX6_get 10 v_home_doorSides (nI k_4))) &&& x1)), (4, .int ((mX6_get 10 v_home_doorSides (nI k_4)))), (3, .int (nI k_4)), (2, .int y2_4), (0, .ref a_this), (1, .int x1)]) hx hb dX8_doorsAcross_32 hl (by decide) rfl (fun ls hl => ?_)
        refine lv_iload hx hb dX8_doorsAcross_34 (lv_at hl 0 rfl) ?_
        refine lv_if_eq (tgt := 53) hx hb dX8_doorsAcross_36 (by decide) (fun c_2 => ?_) (fun c_2 => ?_)
        · have hm := (if_pos c_2).symm.trans hm
          refine lv_iinc (v := nI (k_4 + 1)) (lv' := [(3, .int (nI (k_4 + 1))), (5, .int (((mX6_get 10 v_home_doorSides (nI k_4))) &&& x1)), (4, .int ((mX6_get 10 v_home_doorSides (nI k_4)))), (2, .int y2_4), (0, .ref a_this), (1, .int x1)]) hx hb dX8_doorsAcross_53 hl (k := 2) rfl (nI_1 _) (by decide) rfl (fun ls hl => ?_)
          refine lv_goto (tgt := 4) hx hb dX8_doorsAcross_56 (by decide) ?_
          exact ih (k_4 + 1) (by omega) y2_4 hm ls (lv_sub hl [0, 3, 4, 5] rfl)
        · have hm := (if_neg c_2).symm.trans hm
          refine lv_iload hx hb dX8_doorsAcross_39 (lv_at hl 0 rfl) ?_
          refine lv_iload hx hb dX8_doorsAcross_41 (lv_at hl 1 rfl) ?_
          refine lv_icmp_eq (tgt := 53) hx hb dX8_doorsAcross_43 (by decide) (fun c_3 => ?_) (fun c_3 => ?_)
          · have hm := (if_pos c_3).symm.trans hm
            refine lv_iinc (v := nI (k_4 + 1)) (lv' := [(3, .int (nI (k_4 + 1))), (5, .int (((mX6_get 10 v_home_doorSides (nI k_4))) &&& x1)), (4, .int ((mX6_get 10 v_home_doorSides (nI k_4)))), (2, .int y2_4), (0, .ref a_this), (1, .int x1)]) hx hb dX8_doorsAcross_53 hl (k := 2) rfl (nI_1 _) (by decide) rfl (fun ls hl => ?_)
            refine lv_goto (tgt := 4) hx hb dX8_doorsAcross_56 (by decide) ?_
            exact ih (k_4 + 1) (by omega) y2_4 hm ls (lv_sub hl [0, 3, 4, 5] rfl)
          · have hm := (if_neg c_3).symm.trans hm
            refine lv_iload_n hx hb dX8_doorsAcross_46 rfl (lv_at hl 3 rfl) ?_
            refine lv_iload_n hx hb dX8_doorsAcross_47 rfl (lv_at hl 2 rfl) ?_
            refine pv_call (v := (mX9_only (nI k_4))) (va_runSN (As := [.int (nI k_4)]) (rest := [.int y2_4]) ⟨hx, hb, hml, hown, ht⟩ (kX9_only l dC dI cA cZ (nI k_4)) ⟨va_cnB 1 ht (gi_code w_2_108) rfl rfl rfl (hK.2 _ nwi_10) (ht _ w_1_1) h_X9_only ⟨Nat.le_of_ble_eq_true rfl, Nat.le_of_ble_eq_true rfl⟩, ht _ w_2_107, trivial⟩ ⟨pp_blind, pp_use (ws := []) (fun _ _ h => by cases h) hK⟩ rfl rfl hl.1 rfl (lv_room (Nat.le_of_ble_eq_true rfl)) dX8_doorsAcross_48 ⟨Nat.zero_le _, Nat.zero_le _⟩) ?_
            refine lv_ior hx hb dX8_doorsAcross_51 ?_
            refine lv_istore_n (lv' := [(2, .int (y2_4 ||| ((mX9_only (nI k_4))))), (5, .int (((mX6_get 10 v_home_doorSides (nI k_4))) &&& x1)), (4, .int ((mX6_get 10 v_home_doorSides (nI k_4)))), (3, .int (nI k_4)), (0, .ref a_this), (1, .int x1)]) hx hb dX8_doorsAcross_52 rfl hl (by decide) rfl (fun ls hl => ?_)
            refine lv_iinc (v := nI (k_4 + 1)) (lv' := [(3, .int (nI (k_4 + 1))), (2, .int (y2_4 ||| ((mX9_only (nI k_4))))), (5, .int (((mX6_get 10 v_home_doorSides (nI k_4))) &&& x1)), (4, .int ((mX6_get 10 v_home_doorSides (nI k_4)))), (0, .ref a_this), (1, .int x1)]) hx hb dX8_doorsAcross_53 hl (k := 3) rfl (nI_1 _) (by decide) rfl (fun ls hl => ?_)
            refine lv_goto (tgt := 4) hx hb dX8_doorsAcross_56 (by decide) ?_
            exact ih (k_4 + 1) (by omega) (y2_4 ||| ((mX9_only (nI k_4)))) hm ls (lv_sub hl [0, 1, 4, 5] rfl)
  exact L_4 v_home_doors.toNatClampNeg 0 (Nat.zero_add _) ((0 : Int32)) rfl ls (lv_sub hl [0, 1, 2, 3] rfl)
theorem dX8_spoonsToStop_0 : decode cX8_spoonsToStop 0 = .ok (.iconst 0, 1) := by decide +kernel
theorem dX8_spoonsToStop_1 : decode cX8_spoonsToStop 1 = .ok (.istore_n 3, 1) := by decide +kernel
theorem dX8_spoonsToStop_2 : decode cX8_spoonsToStop 2 = .ok (.iconst 0, 1) := by decide +kernel
theorem dX8_spoonsToStop_3 : decode cX8_spoonsToStop 3 = .ok (.istore 4, 2) := by decide +kernel
theorem dX8_spoonsToStop_5 : decode cX8_spoonsToStop 5 = .ok (.iload 4, 2) := by decide +kernel
theorem dX8_spoonsToStop_7 : decode cX8_spoonsToStop 7 = .ok (.aload_n 0, 1) := by decide +kernel
theorem dX8_spoonsToStop_8 : decode cX8_spoonsToStop 8 = .ok (.getfield 9, 3) := by decide +kernel
theorem dX8_spoonsToStop_11 : decode cX8_spoonsToStop 11 = .ok (.getfield 15, 3) := by decide +kernel
theorem dX8_spoonsToStop_14 : decode cX8_spoonsToStop 14 = .ok (.if_icmp .ge 38, 3) := by decide +kernel
theorem dX8_spoonsToStop_17 : decode cX8_spoonsToStop 17 = .ok (.iload_n 1, 1) := by decide +kernel
theorem dX8_spoonsToStop_18 : decode cX8_spoonsToStop 18 = .ok (.iload 4, 2) := by decide +kernel
theorem dX8_spoonsToStop_20 : decode cX8_spoonsToStop 20 = .ok (.invokestatic 31, 3) := by decide +kernel
theorem dX8_spoonsToStop_23 : decode cX8_spoonsToStop 23 = .ok (.ifCond .eq 23, 3) := by decide +kernel
theorem dX8_spoonsToStop_26 : decode cX8_spoonsToStop 26 = .ok (.iload_n 3, 1) := by decide +kernel
theorem dX8_spoonsToStop_27 : decode cX8_spoonsToStop 27 = .ok (.bipush 10, 2) := by decide +kernel
theorem dX8_spoonsToStop_29 : decode cX8_spoonsToStop 29 = .ok (.iload_n 2, 1) := by decide +kernel
theorem dX8_spoonsToStop_30 : decode cX8_spoonsToStop 30 = .ok (.isub, 1) := by decide +kernel
theorem dX8_spoonsToStop_31 : decode cX8_spoonsToStop 31 = .ok (.aload_n 0, 1) := by decide +kernel
theorem dX8_spoonsToStop_32 : decode cX8_spoonsToStop 32 = .ok (.getfield 9, 3) := by decide +kernel
theorem dX8_spoonsToStop_35 : decode cX8_spoonsToStop 35 = .ok (.getfield 51, 3) := by decide +kernel
theorem dX8_spoonsToStop_38 : decode cX8_spoonsToStop 38 = .ok (.iload 4, 2) := by decide +kernel
theorem dX8_spoonsToStop_40 : decode cX8_spoonsToStop 40 = .ok (.invokevirtual 85, 3) := by decide +kernel
theorem dX8_spoonsToStop_43 : decode cX8_spoonsToStop 43 = .ok (.isub, 1) := by decide +kernel
theorem dX8_spoonsToStop_44 : decode cX8_spoonsToStop 44 = .ok (.iadd, 1) := by decide +kernel
theorem dX8_spoonsToStop_45 : decode cX8_spoonsToStop 45 = .ok (.istore_n 3, 1) := by decide +kernel
theorem dX8_spoonsToStop_46 : decode cX8_spoonsToStop 46 = .ok (.iinc 4 1, 3) := by decide +kernel
theorem dX8_spoonsToStop_49 : decode cX8_spoonsToStop 49 = .ok (.goto (-44), 3) := by decide +kernel
theorem dX8_spoonsToStop_52 : decode cX8_spoonsToStop 52 = .ok (.iload_n 3, 1) := by decide +kernel
theorem dX8_spoonsToStop_53 : decode cX8_spoonsToStop 53 = .ok (.ireturn, 1) := by decide +kernel
theorem h_X8_spoonsToStop : yX8_spoonsToStop.cls ≠ "java/lang/invoke/MethodHandle" ∧ yX8_spoonsToStop.cls ≠ "java/lang/invoke/VarHandle" ∧ (parseMethodDescriptor yX8_spoonsToStop.desc).map (fun d => d.parameters.length) = some 2 := by decide +kernel
def mX8_spoonsToStop_l5 (v_home_now : Nat → Int32) (x1 : Int32) (x2 : Int32) (k_5 : Nat) (y3_5 : Int32) : Int32 := (if ((mX9_inSet x1 (nI k_5))) = 0 then y3_5 else y3_5 + ((((10 : Int32)) - x2) - ((mX7_spoons v_home_now (nI k_5)))))
def mX8_spoonsToStop (v_home_doors : Int32) (v_home_now : Nat → Int32) (x1 : Int32) (x2 : Int32) : Int32 := (iter (mX8_spoonsToStop_l5 v_home_now x1 x2) v_home_doors.toNatClampNeg ((0 : Int32)))
set_option maxHeartbeats 4000000 in
set_option maxRecDepth 100000 in
theorem kX8_spoonsToStop (l : Launch) (dC : Nat → ClassId) (dI : Nat → Nat → Nat) (cA cZ : ClassId) (a_this a_this_home a_this_home_rainfall a_this_home_doorA a_this_home_doorB a_this_home_doorSides a_this_home_doorOpen a_this_home_now a_this_home_now_row a_this_home_now_row_cells : Nat) (v_home_rooms : Int32) (v_home_rains : Int32) (v_home_doors : Int32) (v_home_persons : Int32) (v_home_now : Nat → Int32) (x1 : Int32) (x2 : Int32) : Met l yX8_spoonsToStop (Cond.code yX8_spoonsToStop cX8_spoonsToStop 5 (some .int) :: wt) ({ frames := 2, cells := 0, slots := 0, locals := 42 } : Room) (va_Pc [.ref a_this, .int x1, .int x2] (PreP (dC, dI) [(cA, .int), (cZ, .boolean)] [(a_this, .inr (8, [.ref a_this_home])), (a_this_home, .inr (1, [.ref a_this_home_rainfall, .ref a_this_home_doorA, .ref a_this_home_doorB, .ref a_this_home_doorSides, .ref a_this_home_doorOpen, .ref a_this_home_now, .int v_home_rooms, .int v_home_rains, .int v_home_doors, .int v_home_persons])), (a_this_home_now, .inr (7, [.ref a_this_home_now_row])), (a_this_home_now_row, .inr (6, [.ref a_this_home_now_row_cells])), (a_this_home_now_row_cells, .inl (cA, 35, .inl v_home_now))])) (vp_Si (fun r => r = (mX8_spoonsToStop v_home_doors v_home_now x1 x2))) 0 0 (fun _ => False) := by
  refine Met.ofW (cc := cX8_spoonsToStop) (maxL := 5) (ret := (some .int)) (by decide) rfl ?_
  intro p e s m args below meth c s₁ B hml hv
  obtain ⟨ha, hP, hK⟩ := hv
  have hx := B.exec
  have hb := B.bytes
  have hr := B.returns
  have ht : ∀ w ∈ wt, w.before args s = true := fun w h => atoms_spec (ws := (Cond.code yX8_spoonsToStop cX8_spoonsToStop 5 (some .int) :: wt)) B.pre w (List.mem_cons_of_mem _ h)
  have hown : s.vm.findClass RX8 = some m.cls := findClass_of_methodNamed B.named
  have hlocks := B.notSynchronized
  have hl := lv_entry ([.ref a_this, .int x1, .int x2]) (n := 5) (Nat.le_of_ble_eq_true rfl)
  rw [show entryFrame m args 5 = _ from (congrArg (fun a => entryFrame m a 5) ha).trans (lg_entry_eq m [.ref a_this, .int x1, .int x2] 5)]
  generalize (lg_sl ([.ref a_this, .int x1, .int x2]) ++ List.replicate (5 - (lg_sl ([.ref a_this, .int x1, .int x2])).length) Slot.unset).toArray = ls at hl ⊢
  have hl : lv_has ls 5 [(0, .ref a_this), (1, .int x1), (2, .int x2)] := hl
  have hm : (mX8_spoonsToStop v_home_doors v_home_now x1 x2) = (mX8_spoonsToStop v_home_doors v_home_now x1 x2) := rfl
  refine lv_iconst (v := (0 : Int32)) hx hb dX8_spoonsToStop_0 (by decide) ?_
  refine lv_istore_n (lv' := [(3, .int ((0 : Int32))), (0, .ref a_this), (1, .int x1), (2, .int x2)]) hx hb dX8_spoonsToStop_1 rfl hl (by decide) rfl (fun ls hl => ?_)
  refine lv_iconst (v := (0 : Int32)) hx hb dX8_spoonsToStop_2 (by decide) ?_
  refine lv_istore (lv' := [(4, .int ((0 : Int32))), (3, .int ((0 : Int32))), (0, .ref a_this), (1, .int x1), (2, .int x2)]) hx hb dX8_spoonsToStop_3 hl (by decide) rfl (fun ls hl => ?_)
  have L_5 : ∀ (n_5 k_5 : Nat), k_5 + n_5 = v_home_doors.toNatClampNeg → ∀ (y3_5 : Int32), y3_5 = (iter (mX8_spoonsToStop_l5 v_home_now x1 x2) k_5 ((0 : Int32))) → ∀ (ls : Array Slot), lv_has ls 5 [(4, .int (nI k_5)), (3, .int y3_5), (0, .ref a_this), (1, .int x1), (2, .int x2)] → W p l e (headSpec (Cond.code yX8_spoonsToStop cX8_spoonsToStop 5 (some .int) :: wt) ({ frames := 2, cells := 0, slots := 0, locals := 42 } : Room)).room s m args below meth c s.heap [] 0 0 (MQ below (vp_Si (fun r => r = (mX8_spoonsToStop v_home_doors v_home_now x1 x2))) args s 0 0 (fun _ => False)) (F0 m 5 ls []) := by
    intro n_5
    induction n_5 with
    | zero =>
      intro k_5 hk y3_5 ex0_5 ls hl
      obtain rfl : v_home_doors.toNatClampNeg = k_5 := by omega
      subst ex0_5
      refine lv_iload hx hb dX8_spoonsToStop_5 (lv_at hl 0 rfl) ?_
      refine lv_aload_n hx hb dX8_spoonsToStop_7 rfl (lv_at hl 2 rfl) ?_
      refine va_get (D := (dC, dI)) (ci := 8) (v := .ref a_this_home) (C := RX8) (T := TX8) (N := 1) hx hb ht iX8 hown hK.1 hP 0 rfl rfl 0 (by decide) (ht _ w_1_113) (fun _ h9 => h9) rfl dX8_spoonsToStop_8 ?_
      refine va_get (D := (dC, dI)) (ci := 1) (v := .int v_home_doors) (C := RX1) (T := TX1) (N := 10) hx hb ht iX1 hown hK.1 hP 1 rfl rfl 8 (by decide) (ht _ w_1_76) (fun _ h9 => h9) rfl dX8_spoonsToStop_11 ?_
      refine lv_icmp_ge (tgt := 52) hx hb dX8_spoonsToStop_14 (by decide) (fun c_3 => ?_) (fun c_3 => ?_)
      · skip
        refine lv_iload_n hx hb dX8_spoonsToStop_52 rfl (lv_at hl 1 rfl) ?_
        exact W.iret (v := (iter (mX8_spoonsToStop_l5 v_home_now x1 x2) v_home_doors.toNatClampNeg ((0 : Int32)))) hx hb hr (fun t ht9 _ => ⟨_, rfl, hm, ht9⟩) (fun q hq => absurd hq List.not_mem_nil) dX8_spoonsToStop_53
      · exact absurd (lpE (by omega) (by have := clampLt v_home_doors; omega)) c_3
    | succ n_5 ih =>
      intro k_5 hk y3_5 ex0_5 ls hl
      have hm : (mX8_spoonsToStop_l5 v_home_now x1 x2) k_5 y3_5 = (iter (mX8_spoonsToStop_l5 v_home_now x1 x2) (k_5 + 1) ((0 : Int32))) := by rw [ex0_5]; rfl
      refine lv_iload hx hb dX8_spoonsToStop_5 (lv_at hl 0 rfl) ?_
      refine lv_aload_n hx hb dX8_spoonsToStop_7 rfl (lv_at hl 2 rfl) ?_
      refine va_get (D := (dC, dI)) (ci := 8) (v := .ref a_this_home) (C := RX8) (T := TX8) (N := 1) hx hb ht iX8 hown hK.1 hP 0 rfl rfl 0 (by decide) (ht _ w_1_113) (fun _ h9 => h9) rfl dX8_spoonsToStop_8 ?_
      refine va_get (D := (dC, dI)) (ci := 1) (v := .int v_home_doors) (C := RX1) (T := TX1) (N := 10) hx hb ht iX1 hown hK.1 hP 1 rfl rfl 8 (by decide) (ht _ w_1_76) (fun _ h9 => h9) rfl dX8_spoonsToStop_11 ?_
      refine lv_icmp_ge (tgt := 52) hx hb dX8_spoonsToStop_14 (by decide) (fun c_1 => ?_) (fun c_1 => ?_)
      · exact absurd c_1 (lpN (by omega))
      · skip
        refine lv_iload_n hx hb dX8_spoonsToStop_17 rfl (lv_at hl 3 rfl) ?_
        refine lv_iload hx hb dX8_spoonsToStop_18 (lv_at hl 0 rfl) ?_
        refine pv_call (v := (mX9_inSet x1 (nI k_5))) (va_runSN (As := [.int x1, .int (nI k_5)]) (rest := []) ⟨hx, hb, hml, hown, ht⟩ (kX9_inSet l dC dI cA cZ x1 (nI k_5)) ⟨va_cnB 2 ht (gi_code w_3_8) rfl rfl rfl (hK.2 _ nwi_13) (ht _ w_1_1) h_X9_inSet ⟨Nat.le_of_ble_eq_true rfl, Nat.le_of_ble_eq_true rfl⟩, ht _ w_3_7, trivial⟩ ⟨pp_blind, pp_use (ws := []) (fun _ _ h => by cases h) hK⟩ rfl rfl hl.1 rfl (lv_room (Nat.le_of_ble_eq_true rfl)) dX8_spoonsToStop_20 ⟨Nat.zero_le _, Nat.zero_le _⟩) ?_
        refine lv_if_eq (tgt := 46) hx hb dX8_spoonsToStop_23 (by decide) (fun c_2 => ?_) (fun c_2 => ?_)
        · have hm := (if_pos c_2).symm.trans hm
          refine lv_iinc (v := nI (k_5 + 1)) (lv' := [(4, .int (nI (k_5 + 1))), (3, .int y3_5), (0, .ref a_this), (1, .int x1), (2, .int x2)]) hx hb dX8_spoonsToStop_46 hl (k := 0) rfl (nI_1 _) (by decide) rfl (fun ls hl => ?_)
          refine lv_goto (tgt := 5) hx hb dX8_spoonsToStop_49 (by decide) ?_
          exact ih (k_5 + 1) (by omega) y3_5 hm ls (lv_sub hl [0, 1, 2, 3, 4] rfl)
        · have hm := (if_neg c_2).symm.trans hm
          refine lv_iload_n hx hb dX8_spoonsToStop_26 rfl (lv_at hl 1 rfl) ?_
          refine lv_bipush (v := (10 : Int32)) hx hb dX8_spoonsToStop_27 (by decide) ?_
          refine lv_iload_n hx hb dX8_spoonsToStop_29 rfl (lv_at hl 4 rfl) ?_
          refine lv_isub hx hb dX8_spoonsToStop_30 ?_
          refine lv_aload_n hx hb dX8_spoonsToStop_31 rfl (lv_at hl 2 rfl) ?_
          refine va_get (D := (dC, dI)) (ci := 8) (v := .ref a_this_home) (C := RX8) (T := TX8) (N := 1) hx hb ht iX8 hown hK.1 hP 0 rfl rfl 0 (by decide) (ht _ w_1_113) (fun _ h9 => h9) rfl dX8_spoonsToStop_32 ?_
          refine va_get (D := (dC, dI)) (ci := 1) (v := .ref a_this_home_now) (C := RX1) (T := TX1) (N := 10) hx hb ht iX1 hown hK.1 hP 1 rfl rfl 5 (by decide) (ht _ w_1_68) (fun _ h9 => h9) rfl dX8_spoonsToStop_35 ?_
          refine lv_iload hx hb dX8_spoonsToStop_38 (lv_at hl 0 rfl) ?_
          refine pv_call (v := (mX7_spoons v_home_now (nI k_5))) (va_runV (As := [.int (nI k_5)]) (rest := [.int (((10 : Int32)) - x2), .int y3_5]) ⟨hx, hb, hml, hown, ht⟩ (kX7_spoons l dC dI cA cZ a_this_home_now a_this_home_now_row a_this_home_now_row_cells v_home_now (nI k_5)) (cwV 1 ht (gi_V (C := RX7) w_3_236 w_2_231 w_2_232 w_1_5 (gi_code w_2_233)) rfl rfl rfl ⟨rfl, h_X7_spoons⟩ ⟨Nat.le_of_ble_eq_true rfl, Nat.le_of_ble_eq_true rfl⟩) ⟨pp_blind, va_recv hK.1 hP (ci := 7) (q0 := 2) rfl rfl, pp_use (pc_sub (wc := [(a_this_home_now, .inr (7, [.ref a_this_home_now_row])), (a_this_home_now_row, .inr (6, [.ref a_this_home_now_row_cells])), (a_this_home_now_row_cells, .inl (cA, 35, .inl v_home_now))]) hP [2, 3, 4] rfl) hK⟩ rfl rfl hl.1 rfl (lv_room (Nat.le_of_ble_eq_true rfl)) dX8_spoonsToStop_40 ⟨Nat.zero_le _, Nat.zero_le _⟩) ?_
          refine lv_isub hx hb dX8_spoonsToStop_43 ?_
          refine lv_iadd hx hb dX8_spoonsToStop_44 ?_
          refine lv_istore_n (lv' := [(3, .int (y3_5 + ((((10 : Int32)) - x2) - ((mX7_spoons v_home_now (nI k_5)))))), (4, .int (nI k_5)), (0, .ref a_this), (1, .int x1), (2, .int x2)]) hx hb dX8_spoonsToStop_45 rfl hl (by decide) rfl (fun ls hl => ?_)
          refine lv_iinc (v := nI (k_5 + 1)) (lv' := [(4, .int (nI (k_5 + 1))), (3, .int (y3_5 + ((((10 : Int32)) - x2) - ((mX7_spoons v_home_now (nI k_5)))))), (0, .ref a_this), (1, .int x1), (2, .int x2)]) hx hb dX8_spoonsToStop_46 hl (k := 1) rfl (nI_1 _) (by decide) rfl (fun ls hl => ?_)
          refine lv_goto (tgt := 5) hx hb dX8_spoonsToStop_49 (by decide) ?_
          exact ih (k_5 + 1) (by omega) (y3_5 + ((((10 : Int32)) - x2) - ((mX7_spoons v_home_now (nI k_5))))) hm ls (lv_sub hl [0, 1, 2, 3, 4] rfl)
  exact L_5 v_home_doors.toNatClampNeg 0 (Nat.zero_add _) ((0 : Int32)) rfl ls (lv_sub hl [0, 1, 2, 3, 4] rfl)
theorem dX8_cheapestCut_0 : decode cX8_cheapestCut 0 = .ok (.aload_n 0, 1) := by decide +kernel
theorem dX8_cheapestCut_1 : decode cX8_cheapestCut 1 = .ok (.getfield 9, 3) := by decide +kernel
theorem dX8_cheapestCut_4 : decode cX8_cheapestCut 4 = .ok (.getfield 51, 3) := by decide +kernel
theorem dX8_cheapestCut_7 : decode cX8_cheapestCut 7 = .ok (.iload_n 1, 1) := by decide +kernel
theorem dX8_cheapestCut_8 : decode cX8_cheapestCut 8 = .ok (.invokevirtual 55, 3) := by decide +kernel
theorem dX8_cheapestCut_11 : decode cX8_cheapestCut 11 = .ok (.istore 4, 2) := by decide +kernel
theorem dX8_cheapestCut_13 : decode cX8_cheapestCut 13 = .ok (.aload_n 0, 1) := by decide +kernel
theorem dX8_cheapestCut_14 : decode cX8_cheapestCut 14 = .ok (.getfield 9, 3) := by decide +kernel
theorem dX8_cheapestCut_17 : decode cX8_cheapestCut 17 = .ok (.getfield 51, 3) := by decide +kernel
theorem dX8_cheapestCut_20 : decode cX8_cheapestCut 20 = .ok (.iload_n 1, 1) := by decide +kernel
theorem dX8_cheapestCut_21 : decode cX8_cheapestCut 21 = .ok (.invokevirtual 60, 3) := by decide +kernel
theorem dX8_cheapestCut_24 : decode cX8_cheapestCut 24 = .ok (.istore 5, 2) := by decide +kernel
theorem dX8_cheapestCut_26 : decode cX8_cheapestCut 26 = .ok (.aload_n 0, 1) := by decide +kernel
theorem dX8_cheapestCut_27 : decode cX8_cheapestCut 27 = .ok (.iload_n 1, 1) := by decide +kernel
theorem dX8_cheapestCut_28 : decode cX8_cheapestCut 28 = .ok (.invokevirtual 69, 3) := by decide +kernel
theorem dX8_cheapestCut_31 : decode cX8_cheapestCut 31 = .ok (.iload_n 2, 1) := by decide +kernel
theorem dX8_cheapestCut_32 : decode cX8_cheapestCut 32 = .ok (.invokestatic 31, 3) := by decide +kernel
theorem dX8_cheapestCut_35 : decode cX8_cheapestCut 35 = .ok (.ifCond .ne 5, 3) := by decide +kernel
theorem dX8_cheapestCut_38 : decode cX8_cheapestCut 38 = .ok (.iconst 0, 1) := by decide +kernel
theorem dX8_cheapestCut_39 : decode cX8_cheapestCut 39 = .ok (.ireturn, 1) := by decide +kernel
theorem dX8_cheapestCut_40 : decode cX8_cheapestCut 40 = .ok (.iload 4, 2) := by decide +kernel
theorem dX8_cheapestCut_42 : decode cX8_cheapestCut 42 = .ok (.iload_n 2, 1) := by decide +kernel
theorem dX8_cheapestCut_43 : decode cX8_cheapestCut 43 = .ok (.if_icmp .eq 8, 3) := by decide +kernel
theorem dX8_cheapestCut_46 : decode cX8_cheapestCut 46 = .ok (.iload 5, 2) := by decide +kernel
theorem dX8_cheapestCut_48 : decode cX8_cheapestCut 48 = .ok (.ifCond .ne 5, 3) := by decide +kernel
theorem dX8_cheapestCut_51 : decode cX8_cheapestCut 51 = .ok (.iconst (-1), 1) := by decide +kernel
theorem dX8_cheapestCut_52 : decode cX8_cheapestCut 52 = .ok (.ireturn, 1) := by decide +kernel
theorem dX8_cheapestCut_53 : decode cX8_cheapestCut 53 = .ok (.aload_n 0, 1) := by decide +kernel
theorem dX8_cheapestCut_54 : decode cX8_cheapestCut 54 = .ok (.getfield 9, 3) := by decide +kernel
theorem dX8_cheapestCut_57 : decode cX8_cheapestCut 57 = .ok (.iload 5, 2) := by decide +kernel
theorem dX8_cheapestCut_59 : decode cX8_cheapestCut 59 = .ok (.invokevirtual 45, 3) := by decide +kernel
theorem dX8_cheapestCut_62 : decode cX8_cheapestCut 62 = .ok (.istore 6, 2) := by decide +kernel
theorem dX8_cheapestCut_64 : decode cX8_cheapestCut 64 = .ok (.bipush 91, 2) := by decide +kernel
theorem dX8_cheapestCut_66 : decode cX8_cheapestCut 66 = .ok (.istore 7, 2) := by decide +kernel
theorem dX8_cheapestCut_68 : decode cX8_cheapestCut 68 = .ok (.iconst 0, 1) := by decide +kernel
theorem dX8_cheapestCut_69 : decode cX8_cheapestCut 69 = .ok (.istore 8, 2) := by decide +kernel
theorem dX8_cheapestCut_71 : decode cX8_cheapestCut 71 = .ok (.iconst 0, 1) := by decide +kernel
theorem dX8_cheapestCut_72 : decode cX8_cheapestCut 72 = .ok (.istore 9, 2) := by decide +kernel
theorem dX8_cheapestCut_74 : decode cX8_cheapestCut 74 = .ok (.iload 9, 2) := by decide +kernel
theorem dX8_cheapestCut_76 : decode cX8_cheapestCut 76 = .ok (.aload_n 0, 1) := by decide +kernel
theorem dX8_cheapestCut_77 : decode cX8_cheapestCut 77 = .ok (.getfield 9, 3) := by decide +kernel
theorem dX8_cheapestCut_80 : decode cX8_cheapestCut 80 = .ok (.getfield 38, 3) := by decide +kernel
theorem dX8_cheapestCut_83 : decode cX8_cheapestCut 83 = .ok (.invokestatic 35, 3) := by decide +kernel
theorem dX8_cheapestCut_86 : decode cX8_cheapestCut 86 = .ok (.if_icmp .ge 81, 3) := by decide +kernel
theorem dX8_cheapestCut_89 : decode cX8_cheapestCut 89 = .ok (.iload 9, 2) := by decide +kernel
theorem dX8_cheapestCut_91 : decode cX8_cheapestCut 91 = .ok (.iload 4, 2) := by decide +kernel
theorem dX8_cheapestCut_93 : decode cX8_cheapestCut 93 = .ok (.invokestatic 31, 3) := by decide +kernel
theorem dX8_cheapestCut_96 : decode cX8_cheapestCut 96 = .ok (.ifCond .eq 65, 3) := by decide +kernel
theorem dX8_cheapestCut_99 : decode cX8_cheapestCut 99 = .ok (.iload 9, 2) := by decide +kernel
theorem dX8_cheapestCut_101 : decode cX8_cheapestCut 101 = .ok (.iload_n 2, 1) := by decide +kernel
theorem dX8_cheapestCut_102 : decode cX8_cheapestCut 102 = .ok (.invokestatic 31, 3) := by decide +kernel
theorem dX8_cheapestCut_105 : decode cX8_cheapestCut 105 = .ok (.ifCond .eq 6, 3) := by decide +kernel
theorem dX8_cheapestCut_108 : decode cX8_cheapestCut 108 = .ok (.goto 53, 3) := by decide +kernel
theorem dX8_cheapestCut_111 : decode cX8_cheapestCut 111 = .ok (.iload 6, 2) := by decide +kernel
theorem dX8_cheapestCut_113 : decode cX8_cheapestCut 113 = .ok (.aload_n 0, 1) := by decide +kernel
theorem dX8_cheapestCut_114 : decode cX8_cheapestCut 114 = .ok (.iload 9, 2) := by decide +kernel
theorem dX8_cheapestCut_116 : decode cX8_cheapestCut 116 = .ok (.invokevirtual 79, 3) := by decide +kernel
theorem dX8_cheapestCut_119 : decode cX8_cheapestCut 119 = .ok (.iand, 1) := by decide +kernel
theorem dX8_cheapestCut_120 : decode cX8_cheapestCut 120 = .ok (.istore 10, 2) := by decide +kernel
theorem dX8_cheapestCut_122 : decode cX8_cheapestCut 122 = .ok (.aload_n 0, 1) := by decide +kernel
theorem dX8_cheapestCut_123 : decode cX8_cheapestCut 123 = .ok (.iload 10, 2) := by decide +kernel
theorem dX8_cheapestCut_125 : decode cX8_cheapestCut 125 = .ok (.iload 5, 2) := by decide +kernel
theorem dX8_cheapestCut_127 : decode cX8_cheapestCut 127 = .ok (.invokevirtual 82, 3) := by decide +kernel
theorem dX8_cheapestCut_130 : decode cX8_cheapestCut 130 = .ok (.istore 11, 2) := by decide +kernel
theorem dX8_cheapestCut_132 : decode cX8_cheapestCut 132 = .ok (.iload 11, 2) := by decide +kernel
theorem dX8_cheapestCut_134 : decode cX8_cheapestCut 134 = .ok (.iload 7, 2) := by decide +kernel
theorem dX8_cheapestCut_136 : decode cX8_cheapestCut 136 = .ok (.if_icmp .lt 17, 3) := by decide +kernel
theorem dX8_cheapestCut_139 : decode cX8_cheapestCut 139 = .ok (.iload 11, 2) := by decide +kernel
theorem dX8_cheapestCut_141 : decode cX8_cheapestCut 141 = .ok (.iload 7, 2) := by decide +kernel
theorem dX8_cheapestCut_143 : decode cX8_cheapestCut 143 = .ok (.if_icmp .ne 18, 3) := by decide +kernel
theorem dX8_cheapestCut_146 : decode cX8_cheapestCut 146 = .ok (.iload 10, 2) := by decide +kernel
theorem dX8_cheapestCut_148 : decode cX8_cheapestCut 148 = .ok (.iload 8, 2) := by decide +kernel
theorem dX8_cheapestCut_150 : decode cX8_cheapestCut 150 = .ok (.if_icmp .ge 11, 3) := by decide +kernel
theorem dX8_cheapestCut_153 : decode cX8_cheapestCut 153 = .ok (.iload 11, 2) := by decide +kernel
theorem dX8_cheapestCut_155 : decode cX8_cheapestCut 155 = .ok (.istore 7, 2) := by decide +kernel
theorem dX8_cheapestCut_157 : decode cX8_cheapestCut 157 = .ok (.iload 10, 2) := by decide +kernel
theorem dX8_cheapestCut_159 : decode cX8_cheapestCut 159 = .ok (.istore 8, 2) := by decide +kernel
theorem dX8_cheapestCut_161 : decode cX8_cheapestCut 161 = .ok (.iinc 9 1, 3) := by decide +kernel
theorem dX8_cheapestCut_164 : decode cX8_cheapestCut 164 = .ok (.goto (-90), 3) := by decide +kernel
theorem dX8_cheapestCut_167 : decode cX8_cheapestCut 167 = .ok (.iload_n 3, 1) := by decide +kernel
theorem dX8_cheapestCut_168 : decode cX8_cheapestCut 168 = .ok (.ifCond .eq 8, 3) := by decide +kernel
theorem dX8_cheapestCut_171 : decode cX8_cheapestCut 171 = .ok (.iload 8, 2) := by decide +kernel
theorem dX8_cheapestCut_173 : decode cX8_cheapestCut 173 = .ok (.goto 5, 3) := by decide +kernel
theorem dX8_cheapestCut_176 : decode cX8_cheapestCut 176 = .ok (.iload 7, 2) := by decide +kernel
theorem dX8_cheapestCut_178 : decode cX8_cheapestCut 178 = .ok (.ireturn, 1) := by decide +kernel
theorem h_X8_cheapestCut : yX8_cheapestCut.cls ≠ "java/lang/invoke/MethodHandle" ∧ yX8_cheapestCut.cls ≠ "java/lang/invoke/VarHandle" ∧ (parseMethodDescriptor yX8_cheapestCut.desc).map (fun d => d.parameters.length) = some 3 := by decide +kernel
def mX8_cheapestCut_l74 (v_home_doors : Int32) (v_home_doorSides : Nat → Int32) (v_home_now : Nat → Int32) (x1 : Int32) (x2 : Int32) (k_74 : Nat) (s : Int32 × Int32) : Int32 × Int32 := (if ((mX9_inSet (nI k_74) ((mX7_place v_home_now x1)))) = 0 then (s.1, s.2) else (if ((mX9_inSet (nI k_74) x2)) = 0 then (if ((mX8_spoonsToStop v_home_doors v_home_now (((mX1_passable v_home_doors v_home_now ((mX7_ill v_home_now x1)))) &&& ((mX8_doorsAcross v_home_doors v_home_doorSides (nI k_74)))) ((mX7_ill v_home_now x1)))) < s.1 then ((mX8_spoonsToStop v_home_doors v_home_now (((mX1_passable v_home_doors v_home_now ((mX7_ill v_home_now x1)))) &&& ((mX8_doorsAcross v_home_doors v_home_doorSides (nI k_74)))) ((mX7_ill v_home_now x1))), ((mX1_passable v_home_doors v_home_now ((mX7_ill v_home_now x1)))) &&& ((mX8_doorsAcross v_home_doors v_home_doorSides (nI k_74)))) else (if ((mX8_spoonsToStop v_home_doors v_home_now (((mX1_passable v_home_doors v_home_now ((mX7_ill v_home_now x1)))) &&& ((mX8_doorsAcross v_home_doors v_home_doorSides (nI k_74)))) ((mX7_ill v_home_now x1)))) = s.1 then (if s.2 ≤ (((mX1_passable v_home_doors v_home_now ((mX7_ill v_home_now x1)))) &&& ((mX8_doorsAcross v_home_doors v_home_doorSides (nI k_74)))) then (s.1, s.2) else ((mX8_spoonsToStop v_home_doors v_home_now (((mX1_passable v_home_doors v_home_now ((mX7_ill v_home_now x1)))) &&& ((mX8_doorsAcross v_home_doors v_home_doorSides (nI k_74)))) ((mX7_ill v_home_now x1))), ((mX1_passable v_home_doors v_home_now ((mX7_ill v_home_now x1)))) &&& ((mX8_doorsAcross v_home_doors v_home_doorSides (nI k_74))))) else (s.1, s.2))) else (s.1, s.2)))
def mX8_cheapestCut (v_home_rooms : Int32) (v_home_doors : Int32) (v_home_doorSides : Nat → Int32) (v_home_now : Nat → Int32) (x1 : Int32) (x2 : Int32) (x3 : Int32) : Int32 := (if ((mX9_inSet ((mX8_roomsOf v_home_rooms v_home_doors v_home_doorSides v_home_now x1)) x2)) = 0 then (0 : Int32) else (if ((mX7_place v_home_now x1)) = x2 then (-1 : Int32) else (if ((mX7_ill v_home_now x1)) = 0 then (-1 : Int32) else (if x3 = 0 then ((iter (mX8_cheapestCut_l74 v_home_doors v_home_doorSides v_home_now x1 x2) (((mX9_only v_home_rooms)).toNatClampNeg) (((91 : Int32), (0 : Int32))))).1 else ((iter (mX8_cheapestCut_l74 v_home_doors v_home_doorSides v_home_now x1 x2) (((mX9_only v_home_rooms)).toNatClampNeg) (((91 : Int32), (0 : Int32))))).2))))
set_option maxHeartbeats 4000000 in
set_option maxRecDepth 100000 in
theorem kX8_cheapestCut (l : Launch) (dC : Nat → ClassId) (dI : Nat → Nat → Nat) (cA cZ : ClassId) (a_this a_this_home a_this_home_rainfall a_this_home_doorA a_this_home_doorB a_this_home_doorSides a_this_home_doorOpen a_this_home_now a_this_home_doorSides_cells a_this_home_now_row a_this_home_now_row_cells : Nat) (v_home_rooms : Int32) (v_home_rains : Int32) (v_home_doors : Int32) (v_home_persons : Int32) (v_home_doorSides : Nat → Int32) (v_home_now : Nat → Int32) (x1 : Int32) (x2 : Int32) (x3 : Int32) : Met l yX8_cheapestCut (Cond.code yX8_cheapestCut cX8_cheapestCut 12 (some .int) :: wt) ({ frames := 5, cells := 0, slots := 0, locals := 113 } : Room) (va_Pc [.ref a_this, .int x1, .int x2, .int x3] (PreP (dC, dI) [(cA, .int), (cZ, .boolean)] [(a_this, .inr (8, [.ref a_this_home])), (a_this_home, .inr (1, [.ref a_this_home_rainfall, .ref a_this_home_doorA, .ref a_this_home_doorB, .ref a_this_home_doorSides, .ref a_this_home_doorOpen, .ref a_this_home_now, .int v_home_rooms, .int v_home_rains, .int v_home_doors, .int v_home_persons])), (a_this_home_doorSides, .inr (6, [.ref a_this_home_doorSides_cells])), (a_this_home_now, .inr (7, [.ref a_this_home_now_row])), (a_this_home_doorSides_cells, .inl (cA, 10, .inl v_home_doorSides)), (a_this_home_now_row, .inr (6, [.ref a_this_home_now_row_cells])), (a_this_home_now_row_cells, .inl (cA, 35, .inl v_home_now))])) (vp_Si (fun r => r = (mX8_cheapestCut v_home_rooms v_home_doors v_home_doorSides v_home_now x1 x2 x3))) 0 0 (fun _ => False) := by
  refine Met.ofW (cc := cX8_cheapestCut) (maxL := 12) (ret := (some .int)) (by decide) rfl ?_
  intro p e s m args below meth c s₁ B hml hv
  obtain ⟨ha, hP, hK⟩ := hv
  have hx := B.exec
  have hb := B.bytes
  have hr := B.returns
  have ht : ∀ w ∈ wt, w.before args s = true := fun w h => atoms_spec (ws := (Cond.code yX8_cheapestCut cX8_cheapestCut 12 (some .int) :: wt)) B.pre w (List.mem_cons_of_mem _ h)
  have hown : s.vm.findClass RX8 = some m.cls := findClass_of_methodNamed B.named
  have hlocks := B.notSynchronized
  have hl := lv_entry ([.ref a_this, .int x1, .int x2, .int x3]) (n := 12) (Nat.le_of_ble_eq_true rfl)
  rw [show entryFrame m args 12 = _ from (congrArg (fun a => entryFrame m a 12) ha).trans (lg_entry_eq m [.ref a_this, .int x1, .int x2, .int x3] 12)]
  generalize (lg_sl ([.ref a_this, .int x1, .int x2, .int x3]) ++ List.replicate (12 - (lg_sl ([.ref a_this, .int x1, .int x2, .int x3])).length) Slot.unset).toArray = ls at hl ⊢
  have hl : lv_has ls 12 [(0, .ref a_this), (1, .int x1), (2, .int x2), (3, .int x3)] := hl
  have hm : (mX8_cheapestCut v_home_rooms v_home_doors v_home_doorSides v_home_now x1 x2 x3) = (mX8_cheapestCut v_home_rooms v_home_doors v_home_doorSides v_home_now x1 x2 x3) := rfl
  refine lv_aload_n hx hb dX8_cheapestCut_0 rfl (lv_at hl 0 rfl) ?_
  refine va_get (D := (dC, dI)) (ci := 8) (v := .ref a_this_home) (C := RX8) (T := TX8) (N := 1) hx hb ht iX8 hown hK.1 hP 0 rfl rfl 0 (by decide) (ht _ w_1_113) (fun _ h9 => h9) rfl dX8_cheapestCut_1 ?_
  refine va_get (D := (dC, dI)) (ci := 1) (v := .ref a_this_home_now) (C := RX1) (T := TX1) (N := 10) hx hb ht iX1 hown hK.1 hP 1 rfl rfl 5 (by decide) (ht _ w_1_68) (fun _ h9 => h9) rfl dX8_cheapestCut_4 ?_
  refine lv_iload_n hx hb dX8_cheapestCut_7 rfl (lv_at hl 1 rfl) ?_
  refine pv_call (v := (mX7_place v_home_now x1)) (va_runV (As := [.int x1]) (rest := []) ⟨hx, hb, hml, hown, ht⟩ (kX7_place l dC dI cA cZ a_this_home_now a_this_home_now_row a_this_home_now_row_cells v_home_now x1) (cwV 1 ht (gi_V (C := RX7) w_2_207 w_2_208 w_2_209 w_1_5 (gi_code w_2_210)) rfl rfl rfl ⟨rfl, h_X7_place⟩ ⟨Nat.le_of_ble_eq_true rfl, Nat.le_of_ble_eq_true rfl⟩) ⟨pp_blind, va_recv hK.1 hP (ci := 7) (q0 := 3) rfl rfl, pp_use (pc_sub (wc := [(a_this_home_now, .inr (7, [.ref a_this_home_now_row])), (a_this_home_now_row, .inr (6, [.ref a_this_home_now_row_cells])), (a_this_home_now_row_cells, .inl (cA, 35, .inl v_home_now))]) hP [3, 5, 6] rfl) hK⟩ rfl rfl hl.1 rfl (lv_room (Nat.le_of_ble_eq_true rfl)) dX8_cheapestCut_8 ⟨Nat.zero_le _, Nat.zero_le _⟩) ?_
  refine lv_istore (lv' := [(4, .int ((mX7_place v_home_now x1))), (0, .ref a_this), (1, .int x1), (2, .int x2), (3, .int x3)]) hx hb dX8_cheapestCut_11 hl (by decide) rfl (fun ls hl => ?_)
  refine lv_aload_n hx hb dX8_cheapestCut_13 rfl (lv_at hl 1 rfl) ?_
  refine va_get (D := (dC, dI)) (ci := 8) (v := .ref a_this_home) (C := RX8) (T := TX8) (N := 1) hx hb ht iX8 hown hK.1 hP 0 rfl rfl 0 (by decide) (ht _ w_1_113) (fun _ h9 => h9) rfl dX8_cheapestCut_14 ?_
  refine va_get (D := (dC, dI)) (ci := 1) (v := .ref a_this_home_now) (C := RX1) (T := TX1) (N := 10) hx hb ht iX1 hown hK.1 hP 1 rfl rfl 5 (by decide) (ht _ w_1_68) (fun _ h9 => h9) rfl dX8_cheapestCut_17 ?_
  refine lv_iload_n hx hb dX8_cheapestCut_20 rfl (lv_at hl 2 rfl) ?_
  refine pv_call (v := (mX7_ill v_home_now x1)) (va_runV (As := [.int x1]) (rest := []) ⟨hx, hb, hml, hown, ht⟩ (kX7_ill l dC dI cA cZ a_this_home_now a_this_home_now_row a_this_home_now_row_cells v_home_now x1) (cwV 1 ht (gi_V (C := RX7) w_2_211 w_2_212 w_2_213 w_1_5 (gi_code w_2_214)) rfl rfl rfl ⟨rfl, h_X7_ill⟩ ⟨Nat.le_of_ble_eq_true rfl, Nat.le_of_ble_eq_true rfl⟩) ⟨pp_blind, va_recv hK.1 hP (ci := 7) (q0 := 3) rfl rfl, pp_use (pc_sub (wc := [(a_this_home_now, .inr (7, [.ref a_this_home_now_row])), (a_this_home_now_row, .inr (6, [.ref a_this_home_now_row_cells])), (a_this_home_now_row_cells, .inl (cA, 35, .inl v_home_now))]) hP [3, 5, 6] rfl) hK⟩ rfl rfl hl.1 rfl (lv_room (Nat.le_of_ble_eq_true rfl)) dX8_cheapestCut_21 ⟨Nat.zero_le _, Nat.zero_le _⟩) ?_
  refine lv_istore (lv' := [(5, .int ((mX7_ill v_home_now x1))), (4, .int ((mX7_place v_home_now x1))), (0, .ref a_this), (1, .int x1), (2, .int x2), (3, .int x3)]) hx hb dX8_cheapestCut_24 hl (by decide) rfl (fun ls hl => ?_)
  refine lv_aload_n hx hb dX8_cheapestCut_26 rfl (lv_at hl 2 rfl) ?_
  refine lv_iload_n hx hb dX8_cheapestCut_27 rfl (lv_at hl 3 rfl) ?_
  refine pv_call (v := (mX8_roomsOf v_home_rooms v_home_doors v_home_doorSides v_home_now x1)) (va_runV (As := [.int x1]) (rest := []) ⟨hx, hb, hml, hown, ht⟩ (kX8_roomsOf l dC dI cA cZ a_this a_this_home a_this_home_rainfall a_this_home_doorA a_this_home_doorB a_this_home_doorSides a_this_home_doorOpen a_this_home_now a_this_home_doorSides_cells a_this_home_now_row a_this_home_now_row_cells v_home_rooms v_home_rains v_home_doors v_home_persons v_home_doorSides v_home_now x1) (cwV 1 ht (gi_V (C := RX8) w_2_203 w_2_204 w_2_205 w_1_6 (gi_code w_2_206)) rfl rfl rfl ⟨rfl, h_X8_roomsOf⟩ ⟨Nat.le_of_ble_eq_true rfl, Nat.le_of_ble_eq_true rfl⟩) ⟨pp_blind, va_recv hK.1 hP (ci := 8) (q0 := 0) rfl rfl, pp_use hP hK⟩ rfl rfl hl.1 rfl (lv_room (Nat.le_of_ble_eq_true rfl)) dX8_cheapestCut_28 ⟨Nat.zero_le _, Nat.zero_le _⟩) ?_
  refine lv_iload_n hx hb dX8_cheapestCut_31 rfl (lv_at hl 4 rfl) ?_
  refine pv_call (v := (mX9_inSet ((mX8_roomsOf v_home_rooms v_home_doors v_home_doorSides v_home_now x1)) x2)) (va_runSN (As := [.int ((mX8_roomsOf v_home_rooms v_home_doors v_home_doorSides v_home_now x1)), .int x2]) (rest := []) ⟨hx, hb, hml, hown, ht⟩ (kX9_inSet l dC dI cA cZ ((mX8_roomsOf v_home_rooms v_home_doors v_home_doorSides v_home_now x1)) x2) ⟨va_cnB 2 ht (gi_code w_3_8) rfl rfl rfl (hK.2 _ nwi_13) (ht _ w_1_1) h_X9_inSet ⟨Nat.le_of_ble_eq_true rfl, Nat.le_of_ble_eq_true rfl⟩, ht _ w_3_7, trivial⟩ ⟨pp_blind, pp_use (ws := []) (fun _ _ h => by cases h) hK⟩ rfl rfl hl.1 rfl (lv_room (Nat.le_of_ble_eq_true rfl)) dX8_cheapestCut_32 ⟨Nat.zero_le _, Nat.zero_le _⟩) ?_
  refine lv_if_ne (tgt := 40) hx hb dX8_cheapestCut_35 (by decide) (fun c_1 => ?_) (fun c_1 => ?_)
  · have hm := (if_neg c_1).symm.trans hm
    refine lv_iload hx hb dX8_cheapestCut_40 (lv_at hl 1 rfl) ?_
    refine lv_iload_n hx hb dX8_cheapestCut_42 rfl (lv_at hl 4 rfl) ?_
    refine lv_icmp_eq (tgt := 51) hx hb dX8_cheapestCut_43 (by decide) (fun c_2 => ?_) (fun c_2 => ?_)
    · have hm := (if_pos c_2).symm.trans hm
      refine lv_iconst (v := (-1 : Int32)) hx hb dX8_cheapestCut_51 (by decide) ?_
      exact W.iret (v := (-1 : Int32)) hx hb hr (fun t ht9 _ => ⟨_, rfl, hm, ht9⟩) (fun q hq => absurd hq List.not_mem_nil) dX8_cheapestCut_52
    · have hm := (if_neg c_2).symm.trans hm
      refine lv_iload hx hb dX8_cheapestCut_46 (lv_at hl 0 rfl) ?_
      refine lv_if_ne (tgt := 53) hx hb dX8_cheapestCut_48 (by decide) (fun c_3 => ?_) (fun c_3 => ?_)
      · have hm := (if_neg c_3).symm.trans hm
        refine lv_aload_n hx hb dX8_cheapestCut_53 rfl (lv_at hl 2 rfl) ?_
        refine va_get (D := (dC, dI)) (ci := 8) (v := .ref a_this_home) (C := RX8) (T := TX8) (N := 1) hx hb ht iX8 hown hK.1 hP 0 rfl rfl 0 (by decide) (ht _ w_1_113) (fun _ h9 => h9) rfl dX8_cheapestCut_54 ?_
        refine lv_iload hx hb dX8_cheapestCut_57 (lv_at hl 0 rfl) ?_
        refine pv_call (v := (mX1_passable v_home_doors v_home_now ((mX7_ill v_home_now x1)))) (va_runV (As := [.int ((mX7_ill v_home_now x1))]) (rest := []) ⟨hx, hb, hml, hown, ht⟩ (kX1_passable l dC dI cA cZ a_this_home a_this_home_rainfall a_this_home_doorA a_this_home_doorB a_this_home_doorSides a_this_home_doorOpen a_this_home_now a_this_home_now_row a_this_home_now_row_cells v_home_rooms v_home_rains v_home_doors v_home_persons v_home_now ((mX7_ill v_home_now x1))) (cwV 1 ht (gi_V (C := RX1) w_2_226 w_2_227 w_2_228 w_1_2 (gi_code w_2_229)) rfl rfl rfl ⟨rfl, h_X1_passable⟩ ⟨Nat.le_of_ble_eq_true rfl, Nat.le_of_ble_eq_true rfl⟩) ⟨pp_blind, va_recv hK.1 hP (ci := 1) (q0 := 1) rfl rfl, pp_use (pc_sub (wc := [(a_this_home, .inr (1, [.ref a_this_home_rainfall, .ref a_this_home_doorA, .ref a_this_home_doorB, .ref a_this_home_doorSides, .ref a_this_home_doorOpen, .ref a_this_home_now, .int v_home_rooms, .int v_home_rains, .int v_home_doors, .int v_home_persons])), (a_this_home_now, .inr (7, [.ref a_this_home_now_row])), (a_this_home_now_row, .inr (6, [.ref a_this_home_now_row_cells])), (a_this_home_now_row_cells, .inl (cA, 35, .inl v_home_now))]) hP [1, 3, 5, 6] rfl) hK⟩ rfl rfl hl.1 rfl (lv_room (Nat.le_of_ble_eq_true rfl)) dX8_cheapestCut_59 ⟨Nat.zero_le _, Nat.zero_le _⟩) ?_
        refine lv_istore (lv' := [(6, .int ((mX1_passable v_home_doors v_home_now ((mX7_ill v_home_now x1))))), (5, .int ((mX7_ill v_home_now x1))), (4, .int ((mX7_place v_home_now x1))), (0, .ref a_this), (1, .int x1), (2, .int x2), (3, .int x3)]) hx hb dX8_cheapestCut_62 hl (by decide) rfl (fun ls hl => ?_)
        refine lv_bipush (v := (91 : Int32)) hx hb dX8_cheapestCut_64 (by decide) ?_
        refine lv_istore (lv' := [(7, .int ((91 : Int32))), (6, .int ((mX1_passable v_home_doors v_home_now ((mX7_ill v_home_now x1))))), (5, .int ((mX7_ill v_home_now x1))), (4, .int ((mX7_place v_home_now x1))), (0, .ref a_this), (1, .int x1), (2, .int x2), (3, .int x3)]) hx hb dX8_cheapestCut_66 hl (by decide) rfl (fun ls hl => ?_)
        refine lv_iconst (v := (0 : Int32)) hx hb dX8_cheapestCut_68 (by decide) ?_
        refine lv_istore (lv' := [(8, .int ((0 : Int32))), (7, .int ((91 : Int32))), (6, .int ((mX1_passable v_home_doors v_home_now ((mX7_ill v_home_now x1))))), (5, .int ((mX7_ill v_home_now x1))), (4, .int ((mX7_place v_home_now x1))), (0, .ref a_this), (1, .int x1), (2, .int x2), (3, .int x3)]) hx hb dX8_cheapestCut_69 hl (by decide) rfl (fun ls hl => ?_)
        refine lv_iconst (v := (0 : Int32)) hx hb dX8_cheapestCut_71 (by decide) ?_
        refine lv_istore (lv' := [(9, .int ((0 : Int32))), (8, .int ((0 : Int32))), (7, .int ((91 : Int32))), (6, .int ((mX1_passable v_home_doors v_home_now ((mX7_ill v_home_now x1))))), (5, .int ((mX7_ill v_home_now x1))), (4, .int ((mX7_place v_home_now x1))), (0, .ref a_this), (1, .int x1), (2, .int x2), (3, .int x3)]) hx hb dX8_cheapestCut_72 hl (by decide) rfl (fun ls hl => ?_)
        have L_74 : ∀ (n_74 k_74 : Nat), k_74 + n_74 = ((mX9_only v_home_rooms)).toNatClampNeg → ∀ (y7_74 : Int32) (y8_74 : Int32), y7_74 = ((iter (mX8_cheapestCut_l74 v_home_doors v_home_doorSides v_home_now x1 x2) k_74 (((91 : Int32), (0 : Int32))))).1 → y8_74 = ((iter (mX8_cheapestCut_l74 v_home_doors v_home_doorSides v_home_now x1 x2) k_74 (((91 : Int32), (0 : Int32))))).2 → ∀ (ls : Array Slot), lv_has ls 12 [(9, .int (nI k_74)), (8, .int y8_74), (7, .int y7_74), (6, .int ((mX1_passable v_home_doors v_home_now ((mX7_ill v_home_now x1))))), (5, .int ((mX7_ill v_home_now x1))), (4, .int ((mX7_place v_home_now x1))), (0, .ref a_this), (1, .int x1), (2, .int x2), (3, .int x3)] → W p l e (headSpec (Cond.code yX8_cheapestCut cX8_cheapestCut 12 (some .int) :: wt) ({ frames := 5, cells := 0, slots := 0, locals := 113 } : Room)).room s m args below meth c s.heap [] 0 0 (MQ below (vp_Si (fun r => r = (mX8_cheapestCut v_home_rooms v_home_doors v_home_doorSides v_home_now x1 x2 x3))) args s 0 0 (fun _ => False)) (F0 m 74 ls []) := by
          intro n_74
          induction n_74 with
          | zero =>
            intro k_74 hk y7_74 y8_74 ex0_74 ex1_74 ls hl
            obtain rfl : ((mX9_only v_home_rooms)).toNatClampNeg = k_74 := by omega
            subst ex0_74 ex1_74
            refine lv_iload hx hb dX8_cheapestCut_74 (lv_at hl 0 rfl) ?_
            refine lv_aload_n hx hb dX8_cheapestCut_76 rfl (lv_at hl 6 rfl) ?_
            refine va_get (D := (dC, dI)) (ci := 8) (v := .ref a_this_home) (C := RX8) (T := TX8) (N := 1) hx hb ht iX8 hown hK.1 hP 0 rfl rfl 0 (by decide) (ht _ w_1_113) (fun _ h9 => h9) rfl dX8_cheapestCut_77 ?_
            refine va_get (D := (dC, dI)) (ci := 1) (v := .int v_home_rooms) (C := RX1) (T := TX1) (N := 10) hx hb ht iX1 hown hK.1 hP 1 rfl rfl 6 (by decide) (ht _ w_1_71) (fun _ h9 => h9) rfl dX8_cheapestCut_80 ?_
            refine pv_call (v := (mX9_only v_home_rooms)) (va_runSN (As := [.int v_home_rooms]) (rest := [.int (nI ((((mX9_only v_home_rooms)).toNatClampNeg)))]) ⟨hx, hb, hml, hown, ht⟩ (kX9_only l dC dI cA cZ v_home_rooms) ⟨va_cnB 1 ht (gi_code w_2_108) rfl rfl rfl (hK.2 _ nwi_10) (ht _ w_1_1) h_X9_only ⟨Nat.le_of_ble_eq_true rfl, Nat.le_of_ble_eq_true rfl⟩, ht _ w_2_107, trivial⟩ ⟨pp_blind, pp_use (ws := []) (fun _ _ h => by cases h) hK⟩ rfl rfl hl.1 rfl (lv_room (Nat.le_of_ble_eq_true rfl)) dX8_cheapestCut_83 ⟨Nat.zero_le _, Nat.zero_le _⟩) ?_
            refine lv_icmp_ge (tgt := 167) hx hb dX8_cheapestCut_86 (by decide) (fun c_10 => ?_) (fun c_10 => ?_)
            · skip
              refine lv_iload_n hx hb dX8_cheapestCut_167 rfl (lv_at hl 9 rfl) ?_
              refine lv_if_eq (tgt := 176) hx hb dX8_cheapestCut_168 (by decide) (fun c_11 => ?_) (fun c_11 => ?_)
              · have hm := (if_pos c_11).symm.trans hm
                refine lv_iload hx hb dX8_cheapestCut_176 (lv_at hl 2 rfl) ?_
                exact W.iret (v := ((iter (mX8_cheapestCut_l74 v_home_doors v_home_doorSides v_home_now x1 x2) (((mX9_only v_home_rooms)).toNatClampNeg) (((91 : Int32), (0 : Int32))))).1) hx hb hr (fun t ht9 _ => ⟨_, rfl, hm, ht9⟩) (fun q hq => absurd hq List.not_mem_nil) dX8_cheapestCut_178
              · have hm := (if_neg c_11).symm.trans hm
                refine lv_iload hx hb dX8_cheapestCut_171 (lv_at hl 1 rfl) ?_
                refine lv_goto (tgt := 178) hx hb dX8_cheapestCut_173 (by decide) ?_
                exact W.iret (v := ((iter (mX8_cheapestCut_l74 v_home_doors v_home_doorSides v_home_now x1 x2) (((mX9_only v_home_rooms)).toNatClampNeg) (((91 : Int32), (0 : Int32))))).2) hx hb hr (fun t ht9 _ => ⟨_, rfl, hm, ht9⟩) (fun q hq => absurd hq List.not_mem_nil) dX8_cheapestCut_178
            · exact absurd (lpE (by omega) (by have := clampLt ((mX9_only v_home_rooms)); omega)) c_10
          | succ n_74 ih =>
            intro k_74 hk y7_74 y8_74 ex0_74 ex1_74 ls hl
            have hm : (mX8_cheapestCut_l74 v_home_doors v_home_doorSides v_home_now x1 x2) k_74 (y7_74, y8_74) = (iter (mX8_cheapestCut_l74 v_home_doors v_home_doorSides v_home_now x1 x2) (k_74 + 1) (((91 : Int32), (0 : Int32)))) := by rw [ex0_74, ex1_74]; rfl
            refine lv_iload hx hb dX8_cheapestCut_74 (lv_at hl 0 rfl) ?_
            refine lv_aload_n hx hb dX8_cheapestCut_76 rfl (lv_at hl 6 rfl) ?_
            refine va_get (D := (dC, dI)) (ci := 8) (v := .ref a_this_home) (C := RX8) (T := TX8) (N := 1) hx hb ht iX8 hown hK.1 hP 0 rfl rfl 0 (by decide) (ht _ w_1_113) (fun _ h9 => h9) rfl dX8_cheapestCut_77 ?_
            refine va_get (D := (dC, dI)) (ci := 1) (v := .int v_home_rooms) (C := RX1) (T := TX1) (N := 10) hx hb ht iX1 hown hK.1 hP 1 rfl rfl 6 (by decide) (ht _ w_1_71) (fun _ h9 => h9) rfl dX8_cheapestCut_80 ?_
            refine pv_call (v := (mX9_only v_home_rooms)) (va_runSN (As := [.int v_home_rooms]) (rest := [.int (nI k_74)]) ⟨hx, hb, hml, hown, ht⟩ (kX9_only l dC dI cA cZ v_home_rooms) ⟨va_cnB 1 ht (gi_code w_2_108) rfl rfl rfl (hK.2 _ nwi_10) (ht _ w_1_1) h_X9_only ⟨Nat.le_of_ble_eq_true rfl, Nat.le_of_ble_eq_true rfl⟩, ht _ w_2_107, trivial⟩ ⟨pp_blind, pp_use (ws := []) (fun _ _ h => by cases h) hK⟩ rfl rfl hl.1 rfl (lv_room (Nat.le_of_ble_eq_true rfl)) dX8_cheapestCut_83 ⟨Nat.zero_le _, Nat.zero_le _⟩) ?_
            refine lv_icmp_ge (tgt := 167) hx hb dX8_cheapestCut_86 (by decide) (fun c_4 => ?_) (fun c_4 => ?_)
            · exact absurd c_4 (lpN (by omega))
            · skip
              refine lv_iload hx hb dX8_cheapestCut_89 (lv_at hl 0 rfl) ?_
              refine lv_iload hx hb dX8_cheapestCut_91 (lv_at hl 5 rfl) ?_
              refine pv_call (v := (mX9_inSet (nI k_74) ((mX7_place v_home_now x1)))) (va_runSN (As := [.int (nI k_74), .int ((mX7_place v_home_now x1))]) (rest := []) ⟨hx, hb, hml, hown, ht⟩ (kX9_inSet l dC dI cA cZ (nI k_74) ((mX7_place v_home_now x1))) ⟨va_cnB 2 ht (gi_code w_3_8) rfl rfl rfl (hK.2 _ nwi_13) (ht _ w_1_1) h_X9_inSet ⟨Nat.le_of_ble_eq_true rfl, Nat.le_of_ble_eq_true rfl⟩, ht _ w_3_7, trivial⟩ ⟨pp_blind, pp_use (ws := []) (fun _ _ h => by cases h) hK⟩ rfl rfl hl.1 rfl (lv_room (Nat.le_of_ble_eq_true rfl)) dX8_cheapestCut_93 ⟨Nat.zero_le _, Nat.zero_le _⟩) ?_
              refine lv_if_eq (tgt := 161) hx hb dX8_cheapestCut_96 (by decide) (fun c_5 => ?_) (fun c_5 => ?_)
              · have hm := (if_pos c_5).symm.trans hm
                refine lv_iinc (v := nI (k_74 + 1)) (lv' := [(9, .int (nI (k_74 + 1))), (8, .int y8_74), (7, .int y7_74), (6, .int ((mX1_passable v_home_doors v_home_now ((mX7_ill v_home_now x1))))), (5, .int ((mX7_ill v_home_now x1))), (4, .int ((mX7_place v_home_now x1))), (0, .ref a_this), (1, .int x1), (2, .int x2), (3, .int x3)]) hx hb dX8_cheapestCut_161 hl (k := 0) rfl (nI_1 _) (by decide) rfl (fun ls hl => ?_)
                refine lv_goto (tgt := 74) hx hb dX8_cheapestCut_164 (by decide) ?_
                exact ih (k_74 + 1) (by omega) y7_74 y8_74 (congrArg (fun z => z.1) hm) (congrArg (fun z => z.2) hm) ls (lv_sub hl [0, 1, 2, 3, 4, 5, 6, 7, 8, 9] rfl)
              · have hm := (if_neg c_5).symm.trans hm
                refine lv_iload hx hb dX8_cheapestCut_99 (lv_at hl 0 rfl) ?_
                refine lv_iload_n hx hb dX8_cheapestCut_101 rfl (lv_at hl 8 rfl) ?_
                refine pv_call (v := (mX9_inSet (nI k_74) x2)) (va_runSN (As := [.int (nI k_74), .int x2]) (rest := []) ⟨hx, hb, hml, hown, ht⟩ (kX9_inSet l dC dI cA cZ (nI k_74) x2) ⟨va_cnB 2 ht (gi_code w_3_8) rfl rfl rfl (hK.2 _ nwi_13) (ht _ w_1_1) h_X9_inSet ⟨Nat.le_of_ble_eq_true rfl, Nat.le_of_ble_eq_true rfl⟩, ht _ w_3_7, trivial⟩ ⟨pp_blind, pp_use (ws := []) (fun _ _ h => by cases h) hK⟩ rfl rfl hl.1 rfl (lv_room (Nat.le_of_ble_eq_true rfl)) dX8_cheapestCut_102 ⟨Nat.zero_le _, Nat.zero_le _⟩) ?_
                refine lv_if_eq (tgt := 111) hx hb dX8_cheapestCut_105 (by decide) (fun c_6 => ?_) (fun c_6 => ?_)
                · have hm := (if_pos c_6).symm.trans hm
                  refine lv_iload hx hb dX8_cheapestCut_111 (lv_at hl 3 rfl) ?_
                  refine lv_aload_n hx hb dX8_cheapestCut_113 rfl (lv_at hl 6 rfl) ?_
                  refine lv_iload hx hb dX8_cheapestCut_114 (lv_at hl 0 rfl) ?_
                  refine pv_call (v := (mX8_doorsAcross v_home_doors v_home_doorSides (nI k_74))) (va_runV (As := [.int (nI k_74)]) (rest := [.int ((mX1_passable v_home_doors v_home_now ((mX7_ill v_home_now x1))))]) ⟨hx, hb, hml, hown, ht⟩ (kX8_doorsAcross l dC dI cA cZ a_this a_this_home a_this_home_rainfall a_this_home_doorA a_this_home_doorB a_this_home_doorSides a_this_home_doorOpen a_this_home_now a_this_home_doorSides_cells v_home_rooms v_home_rains v_home_doors v_home_persons v_home_doorSides (nI k_74)) (cwV 1 ht (gi_V (C := RX8) w_3_228 w_3_230 w_0_14 w_1_6 (gi_code w_3_231)) rfl rfl rfl ⟨rfl, h_X8_doorsAcross⟩ ⟨Nat.le_of_ble_eq_true rfl, Nat.le_of_ble_eq_true rfl⟩) ⟨pp_blind, va_recv hK.1 hP (ci := 8) (q0 := 0) rfl rfl, pp_use (pc_sub (wc := [(a_this, .inr (8, [.ref a_this_home])), (a_this_home, .inr (1, [.ref a_this_home_rainfall, .ref a_this_home_doorA, .ref a_this_home_doorB, .ref a_this_home_doorSides, .ref a_this_home_doorOpen, .ref a_this_home_now, .int v_home_rooms, .int v_home_rains, .int v_home_doors, .int v_home_persons])), (a_this_home_doorSides, .inr (6, [.ref a_this_home_doorSides_cells])), (a_this_home_doorSides_cells, .inl (cA, 10, .inl v_home_doorSides))]) hP [0, 1, 2, 4] rfl) hK⟩ rfl rfl hl.1 rfl (lv_room (Nat.le_of_ble_eq_true rfl)) dX8_cheapestCut_116 ⟨Nat.zero_le _, Nat.zero_le _⟩) ?_
                  refine lv_iand hx hb dX8_cheapestCut_119 ?_
                  refine lv_istore (lv' := [(10, .int (((mX1_passable v_home_doors v_home_now ((mX7_ill v_home_now x1)))) &&& ((mX8_doorsAcross v_home_doors v_home_doorSides (nI k_74))))), (9, .int (nI k_74)), (8, .int y8_74), (7, .int y7_74), (6, .int ((mX1_passable v_home_doors v_home_now ((mX7_ill v_home_now x1))))), (5, .int ((mX7_ill v_home_now x1))), (4, .int ((mX7_place v_home_now x1))), (0, .ref a_this), (1, .int x1), (2, .int x2), (3, .int x3)]) hx hb dX8_cheapestCut_120 hl (by decide) rfl (fun ls hl => ?_)
                  refine lv_aload_n hx hb dX8_cheapestCut_122 rfl (lv_at hl 7 rfl) ?_
                  refine lv_iload hx hb dX8_cheapestCut_123 (lv_at hl 0 rfl) ?_
                  refine lv_iload hx hb dX8_cheapestCut_125 (lv_at hl 5 rfl) ?_
                  refine pv_call (v := (mX8_spoonsToStop v_home_doors v_home_now (((mX1_passable v_home_doors v_home_now ((mX7_ill v_home_now x1)))) &&& ((mX8_doorsAcross v_home_doors v_home_doorSides (nI k_74)))) ((mX7_ill v_home_now x1)))) (va_runV (As := [.int (((mX1_passable v_home_doors v_home_now ((mX7_ill v_home_now x1)))) &&& ((mX8_doorsAcross v_home_doors v_home_doorSides (nI k_74)))), .int ((mX7_ill v_home_now x1))]) (rest := []) ⟨hx, hb, hml, hown, ht⟩ (kX8_spoonsToStop l dC dI cA cZ a_this a_this_home a_this_home_rainfall a_this_home_doorA a_this_home_doorB a_this_home_doorSides a_this_home_doorOpen a_this_home_now a_this_home_now_row a_this_home_now_row_cells v_home_rooms v_home_rains v_home_doors v_home_persons v_home_now (((mX1_passable v_home_doors v_home_now ((mX7_ill v_home_now x1)))) &&& ((mX8_doorsAcross v_home_doors v_home_doorSides (nI k_74)))) ((mX7_ill v_home_now x1))) (cwV 2 ht (gi_V (C := RX8) w_3_232 w_3_234 w_0_15 w_1_6 (gi_code w_3_235)) rfl rfl rfl ⟨rfl, h_X8_spoonsToStop⟩ ⟨Nat.le_of_ble_eq_true rfl, Nat.le_of_ble_eq_true rfl⟩) ⟨pp_blind, va_recv hK.1 hP (ci := 8) (q0 := 0) rfl rfl, pp_use (pc_sub (wc := [(a_this, .inr (8, [.ref a_this_home])), (a_this_home, .inr (1, [.ref a_this_home_rainfall, .ref a_this_home_doorA, .ref a_this_home_doorB, .ref a_this_home_doorSides, .ref a_this_home_doorOpen, .ref a_this_home_now, .int v_home_rooms, .int v_home_rains, .int v_home_doors, .int v_home_persons])), (a_this_home_now, .inr (7, [.ref a_this_home_now_row])), (a_this_home_now_row, .inr (6, [.ref a_this_home_now_row_cells])), (a_this_home_now_row_cells, .inl (cA, 35, .inl v_home_now))]) hP [0, 1, 3, 5, 6] rfl) hK⟩ rfl rfl hl.1 rfl (lv_room (Nat.le_of_ble_eq_true rfl)) dX8_cheapestCut_127 ⟨Nat.zero_le _, Nat.zero_le _⟩) ?_
                  refine lv_istore (lv' := [(11, .int ((mX8_spoonsToStop v_home_doors v_home_now (((mX1_passable v_home_doors v_home_now ((mX7_ill v_home_now x1)))) &&& ((mX8_doorsAcross v_home_doors v_home_doorSides (nI k_74)))) ((mX7_ill v_home_now x1))))), (10, .int (((mX1_passable v_home_doors v_home_now ((mX7_ill v_home_now x1)))) &&& ((mX8_doorsAcross v_home_doors v_home_doorSides (nI k_74))))), (9, .int (nI k_74)), (8, .int y8_74), (7, .int y7_74), (6, .int ((mX1_passable v_home_doors v_home_now ((mX7_ill v_home_now x1))))), (5, .int ((mX7_ill v_home_now x1))), (4, .int ((mX7_place v_home_now x1))), (0, .ref a_this), (1, .int x1), (2, .int x2), (3, .int x3)]) hx hb dX8_cheapestCut_130 hl (by decide) rfl (fun ls hl => ?_)
                  refine lv_iload hx hb dX8_cheapestCut_132 (lv_at hl 0 rfl) ?_
                  refine lv_iload hx hb dX8_cheapestCut_134 (lv_at hl 4 rfl) ?_
                  refine lv_icmp_lt (tgt := 153) hx hb dX8_cheapestCut_136 (by decide) (fun c_7 => ?_) (fun c_7 => ?_)
                  · have hm := (if_pos c_7).symm.trans hm
                    refine lv_iload hx hb dX8_cheapestCut_153 (lv_at hl 0 rfl) ?_
                    refine lv_istore (lv' := [(7, .int ((mX8_spoonsToStop v_home_doors v_home_now (((mX1_passable v_home_doors v_home_now ((mX7_ill v_home_now x1)))) &&& ((mX8_doorsAcross v_home_doors v_home_doorSides (nI k_74)))) ((mX7_ill v_home_now x1))))), (11, .int ((mX8_spoonsToStop v_home_doors v_home_now (((mX1_passable v_home_doors v_home_now ((mX7_ill v_home_now x1)))) &&& ((mX8_doorsAcross v_home_doors v_home_doorSides (nI k_74)))) ((mX7_ill v_home_now x1))))), (10, .int (((mX1_passable v_home_doors v_home_now ((mX7_ill v_home_now x1)))) &&& ((mX8_doorsAcross v_home_doors v_home_doorSides (nI k_74))))), (9, .int (nI k_74)), (8, .int y8_74), (6, .int ((mX1_passable v_home_doors v_home_now ((mX7_ill v_home_now x1))))), (5, .int ((mX7_ill v_home_now x1))), (4, .int ((mX7_place v_home_now x1))), (0, .ref a_this), (1, .int x1), (2, .int x2), (3, .int x3)]) hx hb dX8_cheapestCut_155 hl (by decide) rfl (fun ls hl => ?_)
                    refine lv_iload hx hb dX8_cheapestCut_157 (lv_at hl 2 rfl) ?_
                    refine lv_istore (lv' := [(8, .int (((mX1_passable v_home_doors v_home_now ((mX7_ill v_home_now x1)))) &&& ((mX8_doorsAcross v_home_doors v_home_doorSides (nI k_74))))), (7, .int ((mX8_spoonsToStop v_home_doors v_home_now (((mX1_passable v_home_doors v_home_now ((mX7_ill v_home_now x1)))) &&& ((mX8_doorsAcross v_home_doors v_home_doorSides (nI k_74)))) ((mX7_ill v_home_now x1))))), (11, .int ((mX8_spoonsToStop v_home_doors v_home_now (((mX1_passable v_home_doors v_home_now ((mX7_ill v_home_now x1)))) &&& ((mX8_doorsAcross v_home_doors v_home_doorSides (nI k_74)))) ((mX7_ill v_home_now x1))))), (10, .int (((mX1_passable v_home_doors v_home_now ((mX7_ill v_home_now x1)))) &&& ((mX8_doorsAcross v_home_doors v_home_doorSides (nI k_74))))), (9, .int (nI k_74)), (6, .int ((mX1_passable v_home_doors v_home_now ((mX7_ill v_home_now x1))))), (5, .int ((mX7_ill v_home_now x1))), (4, .int ((mX7_place v_home_now x1))), (0, .ref a_this), (1, .int x1), (2, .int x2), (3, .int x3)]) hx hb dX8_cheapestCut_159 hl (by decide) rfl (fun ls hl => ?_)
                    refine lv_iinc (v := nI (k_74 + 1)) (lv' := [(9, .int (nI (k_74 + 1))), (8, .int (((mX1_passable v_home_doors v_home_now ((mX7_ill v_home_now x1)))) &&& ((mX8_doorsAcross v_home_doors v_home_doorSides (nI k_74))))), (7, .int ((mX8_spoonsToStop v_home_doors v_home_now (((mX1_passable v_home_doors v_home_now ((mX7_ill v_home_now x1)))) &&& ((mX8_doorsAcross v_home_doors v_home_doorSides (nI k_74)))) ((mX7_ill v_home_now x1))))), (11, .int ((mX8_spoonsToStop v_home_doors v_home_now (((mX1_passable v_home_doors v_home_now ((mX7_ill v_home_now x1)))) &&& ((mX8_doorsAcross v_home_doors v_home_doorSides (nI k_74)))) ((mX7_ill v_home_now x1))))), (10, .int (((mX1_passable v_home_doors v_home_now ((mX7_ill v_home_now x1)))) &&& ((mX8_doorsAcross v_home_doors v_home_doorSides (nI k_74))))), (6, .int ((mX1_passable v_home_doors v_home_now ((mX7_ill v_home_now x1))))), (5, .int ((mX7_ill v_home_now x1))), (4, .int ((mX7_place v_home_now x1))), (0, .ref a_this), (1, .int x1), (2, .int x2), (3, .int x3)]) hx hb dX8_cheapestCut_161 hl (k := 4) rfl (nI_1 _) (by decide) rfl (fun ls hl => ?_)
                    refine lv_goto (tgt := 74) hx hb dX8_cheapestCut_164 (by decide) ?_
                    exact ih (k_74 + 1) (by omega) ((mX8_spoonsToStop v_home_doors v_home_now (((mX1_passable v_home_doors v_home_now ((mX7_ill v_home_now x1)))) &&& ((mX8_doorsAcross v_home_doors v_home_doorSides (nI k_74)))) ((mX7_ill v_home_now x1)))) (((mX1_passable v_home_doors v_home_now ((mX7_ill v_home_now x1)))) &&& ((mX8_doorsAcross v_home_doors v_home_doorSides (nI k_74)))) (congrArg (fun z => z.1) hm) (congrArg (fun z => z.2) hm) ls (lv_sub hl [0, 1, 2, 5, 6, 7, 8, 9, 10, 11] rfl)
                  · have hm := (if_neg c_7).symm.trans hm
                    refine lv_iload hx hb dX8_cheapestCut_139 (lv_at hl 0 rfl) ?_
                    refine lv_iload hx hb dX8_cheapestCut_141 (lv_at hl 4 rfl) ?_
                    refine lv_icmp_ne (tgt := 161) hx hb dX8_cheapestCut_143 (by decide) (fun c_8 => ?_) (fun c_8 => ?_)
                    · have hm := (if_neg c_8).symm.trans hm
                      refine lv_iinc (v := nI (k_74 + 1)) (lv' := [(9, .int (nI (k_74 + 1))), (11, .int ((mX8_spoonsToStop v_home_doors v_home_now (((mX1_passable v_home_doors v_home_now ((mX7_ill v_home_now x1)))) &&& ((mX8_doorsAcross v_home_doors v_home_doorSides (nI k_74)))) ((mX7_ill v_home_now x1))))), (10, .int (((mX1_passable v_home_doors v_home_now ((mX7_ill v_home_now x1)))) &&& ((mX8_doorsAcross v_home_doors v_home_doorSides (nI k_74))))), (8, .int y8_74), (7, .int y7_74), (6, .int ((mX1_passable v_home_doors v_home_now ((mX7_ill v_home_now x1))))), (5, .int ((mX7_ill v_home_now x1))), (4, .int ((mX7_place v_home_now x1))), (0, .ref a_this), (1, .int x1), (2, .int x2), (3, .int x3)]) hx hb dX8_cheapestCut_161 hl (k := 2) rfl (nI_1 _) (by decide) rfl (fun ls hl => ?_)
                      refine lv_goto (tgt := 74) hx hb dX8_cheapestCut_164 (by decide) ?_
                      exact ih (k_74 + 1) (by omega) y7_74 y8_74 (congrArg (fun z => z.1) hm) (congrArg (fun z => z.2) hm) ls (lv_sub hl [0, 3, 4, 5, 6, 7, 8, 9, 10, 11] rfl)
                    · have hm := (if_pos c_8).symm.trans hm
                      refine lv_iload hx hb dX8_cheapestCut_146 (lv_at hl 1 rfl) ?_
                      refine lv_iload hx hb dX8_cheapestCut_148 (lv_at hl 3 rfl) ?_
                      refine lv_icmp_ge (tgt := 161) hx hb dX8_cheapestCut_150 (by decide) (fun c_9 => ?_) (fun c_9 => ?_)
                      · have hm := (if_pos c_9).symm.trans hm
                        refine lv_iinc (v := nI (k_74 + 1)) (lv' := [(9, .int (nI (k_74 + 1))), (11, .int ((mX8_spoonsToStop v_home_doors v_home_now (((mX1_passable v_home_doors v_home_now ((mX7_ill v_home_now x1)))) &&& ((mX8_doorsAcross v_home_doors v_home_doorSides (nI k_74)))) ((mX7_ill v_home_now x1))))), (10, .int (((mX1_passable v_home_doors v_home_now ((mX7_ill v_home_now x1)))) &&& ((mX8_doorsAcross v_home_doors v_home_doorSides (nI k_74))))), (8, .int y8_74), (7, .int y7_74), (6, .int ((mX1_passable v_home_doors v_home_now ((mX7_ill v_home_now x1))))), (5, .int ((mX7_ill v_home_now x1))), (4, .int ((mX7_place v_home_now x1))), (0, .ref a_this), (1, .int x1), (2, .int x2), (3, .int x3)]) hx hb dX8_cheapestCut_161 hl (k := 2) rfl (nI_1 _) (by decide) rfl (fun ls hl => ?_)
                        refine lv_goto (tgt := 74) hx hb dX8_cheapestCut_164 (by decide) ?_
                        exact ih (k_74 + 1) (by omega) y7_74 y8_74 (congrArg (fun z => z.1) hm) (congrArg (fun z => z.2) hm) ls (lv_sub hl [0, 3, 4, 5, 6, 7, 8, 9, 10, 11] rfl)
                      · have hm := (if_neg c_9).symm.trans hm
                        refine lv_iload hx hb dX8_cheapestCut_153 (lv_at hl 0 rfl) ?_
                        refine lv_istore (lv' := [(7, .int ((mX8_spoonsToStop v_home_doors v_home_now (((mX1_passable v_home_doors v_home_now ((mX7_ill v_home_now x1)))) &&& ((mX8_doorsAcross v_home_doors v_home_doorSides (nI k_74)))) ((mX7_ill v_home_now x1))))), (11, .int ((mX8_spoonsToStop v_home_doors v_home_now (((mX1_passable v_home_doors v_home_now ((mX7_ill v_home_now x1)))) &&& ((mX8_doorsAcross v_home_doors v_home_doorSides (nI k_74)))) ((mX7_ill v_home_now x1))))), (10, .int (((mX1_passable v_home_doors v_home_now ((mX7_ill v_home_now x1)))) &&& ((mX8_doorsAcross v_home_doors v_home_doorSides (nI k_74))))), (9, .int (nI k_74)), (8, .int y8_74), (6, .int ((mX1_passable v_home_doors v_home_now ((mX7_ill v_home_now x1))))), (5, .int ((mX7_ill v_home_now x1))), (4, .int ((mX7_place v_home_now x1))), (0, .ref a_this), (1, .int x1), (2, .int x2), (3, .int x3)]) hx hb dX8_cheapestCut_155 hl (by decide) rfl (fun ls hl => ?_)
                        refine lv_iload hx hb dX8_cheapestCut_157 (lv_at hl 2 rfl) ?_
                        refine lv_istore (lv' := [(8, .int (((mX1_passable v_home_doors v_home_now ((mX7_ill v_home_now x1)))) &&& ((mX8_doorsAcross v_home_doors v_home_doorSides (nI k_74))))), (7, .int ((mX8_spoonsToStop v_home_doors v_home_now (((mX1_passable v_home_doors v_home_now ((mX7_ill v_home_now x1)))) &&& ((mX8_doorsAcross v_home_doors v_home_doorSides (nI k_74)))) ((mX7_ill v_home_now x1))))), (11, .int ((mX8_spoonsToStop v_home_doors v_home_now (((mX1_passable v_home_doors v_home_now ((mX7_ill v_home_now x1)))) &&& ((mX8_doorsAcross v_home_doors v_home_doorSides (nI k_74)))) ((mX7_ill v_home_now x1))))), (10, .int (((mX1_passable v_home_doors v_home_now ((mX7_ill v_home_now x1)))) &&& ((mX8_doorsAcross v_home_doors v_home_doorSides (nI k_74))))), (9, .int (nI k_74)), (6, .int ((mX1_passable v_home_doors v_home_now ((mX7_ill v_home_now x1))))), (5, .int ((mX7_ill v_home_now x1))), (4, .int ((mX7_place v_home_now x1))), (0, .ref a_this), (1, .int x1), (2, .int x2), (3, .int x3)]) hx hb dX8_cheapestCut_159 hl (by decide) rfl (fun ls hl => ?_)
                        refine lv_iinc (v := nI (k_74 + 1)) (lv' := [(9, .int (nI (k_74 + 1))), (8, .int (((mX1_passable v_home_doors v_home_now ((mX7_ill v_home_now x1)))) &&& ((mX8_doorsAcross v_home_doors v_home_doorSides (nI k_74))))), (7, .int ((mX8_spoonsToStop v_home_doors v_home_now (((mX1_passable v_home_doors v_home_now ((mX7_ill v_home_now x1)))) &&& ((mX8_doorsAcross v_home_doors v_home_doorSides (nI k_74)))) ((mX7_ill v_home_now x1))))), (11, .int ((mX8_spoonsToStop v_home_doors v_home_now (((mX1_passable v_home_doors v_home_now ((mX7_ill v_home_now x1)))) &&& ((mX8_doorsAcross v_home_doors v_home_doorSides (nI k_74)))) ((mX7_ill v_home_now x1))))), (10, .int (((mX1_passable v_home_doors v_home_now ((mX7_ill v_home_now x1)))) &&& ((mX8_doorsAcross v_home_doors v_home_doorSides (nI k_74))))), (6, .int ((mX1_passable v_home_doors v_home_now ((mX7_ill v_home_now x1))))), (5, .int ((mX7_ill v_home_now x1))), (4, .int ((mX7_place v_home_now x1))), (0, .ref a_this), (1, .int x1), (2, .int x2), (3, .int x3)]) hx hb dX8_cheapestCut_161 hl (k := 4) rfl (nI_1 _) (by decide) rfl (fun ls hl => ?_)
                        refine lv_goto (tgt := 74) hx hb dX8_cheapestCut_164 (by decide) ?_
                        exact ih (k_74 + 1) (by omega) ((mX8_spoonsToStop v_home_doors v_home_now (((mX1_passable v_home_doors v_home_now ((mX7_ill v_home_now x1)))) &&& ((mX8_doorsAcross v_home_doors v_home_doorSides (nI k_74)))) ((mX7_ill v_home_now x1)))) (((mX1_passable v_home_doors v_home_now ((mX7_ill v_home_now x1)))) &&& ((mX8_doorsAcross v_home_doors v_home_doorSides (nI k_74)))) (congrArg (fun z => z.1) hm) (congrArg (fun z => z.2) hm) ls (lv_sub hl [0, 1, 2, 5, 6, 7, 8, 9, 10, 11] rfl)
                · have hm := (if_neg c_6).symm.trans hm
                  refine lv_goto (tgt := 161) hx hb dX8_cheapestCut_108 (by decide) ?_
                  refine lv_iinc (v := nI (k_74 + 1)) (lv' := [(9, .int (nI (k_74 + 1))), (8, .int y8_74), (7, .int y7_74), (6, .int ((mX1_passable v_home_doors v_home_now ((mX7_ill v_home_now x1))))), (5, .int ((mX7_ill v_home_now x1))), (4, .int ((mX7_place v_home_now x1))), (0, .ref a_this), (1, .int x1), (2, .int x2), (3, .int x3)]) hx hb dX8_cheapestCut_161 hl (k := 0) rfl (nI_1 _) (by decide) rfl (fun ls hl => ?_)
                  refine lv_goto (tgt := 74) hx hb dX8_cheapestCut_164 (by decide) ?_
                  exact ih (k_74 + 1) (by omega) y7_74 y8_74 (congrArg (fun z => z.1) hm) (congrArg (fun z => z.2) hm) ls (lv_sub hl [0, 1, 2, 3, 4, 5, 6, 7, 8, 9] rfl)
        exact L_74 (((mX9_only v_home_rooms)).toNatClampNeg) 0 (Nat.zero_add _) ((91 : Int32)) ((0 : Int32)) rfl rfl ls (lv_sub hl [0, 1, 2, 3, 4, 5, 6, 7, 8, 9] rfl)
      · have hm := (if_pos c_3).symm.trans hm
        refine lv_iconst (v := (-1 : Int32)) hx hb dX8_cheapestCut_51 (by decide) ?_
        exact W.iret (v := (-1 : Int32)) hx hb hr (fun t ht9 _ => ⟨_, rfl, hm, ht9⟩) (fun q hq => absurd hq List.not_mem_nil) dX8_cheapestCut_52
  · have hm := (if_pos c_1).symm.trans hm
    refine lv_iconst (v := (0 : Int32)) hx hb dX8_cheapestCut_38 (by decide) ?_
    exact W.iret (v := (0 : Int32)) hx hb hr (fun t ht9 _ => ⟨_, rfl, hm, ht9⟩) (fun q hq => absurd hq List.not_mem_nil) dX8_cheapestCut_39
theorem dX8_leastSoftening_0 : decode cX8_leastSoftening 0 = .ok (.iconst 0, 1) := by decide +kernel
theorem dX8_leastSoftening_1 : decode cX8_leastSoftening 1 = .ok (.istore_n 3, 1) := by decide +kernel
theorem dX8_leastSoftening_2 : decode cX8_leastSoftening 2 = .ok (.iload_n 3, 1) := by decide +kernel
theorem dX8_leastSoftening_3 : decode cX8_leastSoftening 3 = .ok (.bipush 9, 2) := by decide +kernel
theorem dX8_leastSoftening_5 : decode cX8_leastSoftening 5 = .ok (.if_icmp .gt 53, 3) := by decide +kernel
theorem dX8_leastSoftening_8 : decode cX8_leastSoftening 8 = .ok (.aload_n 0, 1) := by decide +kernel
theorem dX8_leastSoftening_9 : decode cX8_leastSoftening 9 = .ok (.getfield 9, 3) := by decide +kernel
theorem dX8_leastSoftening_12 : decode cX8_leastSoftening 12 = .ok (.getfield 51, 3) := by decide +kernel
theorem dX8_leastSoftening_15 : decode cX8_leastSoftening 15 = .ok (.iload_n 1, 1) := by decide +kernel
theorem dX8_leastSoftening_16 : decode cX8_leastSoftening 16 = .ok (.invokevirtual 88, 3) := by decide +kernel
theorem dX8_leastSoftening_19 : decode cX8_leastSoftening 19 = .ok (.iload_n 3, 1) := by decide +kernel
theorem dX8_leastSoftening_20 : decode cX8_leastSoftening 20 = .ok (.iadd, 1) := by decide +kernel
theorem dX8_leastSoftening_21 : decode cX8_leastSoftening 21 = .ok (.invokestatic 91, 3) := by decide +kernel
theorem dX8_leastSoftening_24 : decode cX8_leastSoftening 24 = .ok (.istore 4, 2) := by decide +kernel
theorem dX8_leastSoftening_26 : decode cX8_leastSoftening 26 = .ok (.aload_n 0, 1) := by decide +kernel
theorem dX8_leastSoftening_27 : decode cX8_leastSoftening 27 = .ok (.aload_n 0, 1) := by decide +kernel
theorem dX8_leastSoftening_28 : decode cX8_leastSoftening 28 = .ok (.getfield 9, 3) := by decide +kernel
theorem dX8_leastSoftening_31 : decode cX8_leastSoftening 31 = .ok (.getfield 51, 3) := by decide +kernel
theorem dX8_leastSoftening_34 : decode cX8_leastSoftening 34 = .ok (.iload_n 1, 1) := by decide +kernel
theorem dX8_leastSoftening_35 : decode cX8_leastSoftening 35 = .ok (.invokevirtual 55, 3) := by decide +kernel
theorem dX8_leastSoftening_38 : decode cX8_leastSoftening 38 = .ok (.iload 4, 2) := by decide +kernel
theorem dX8_leastSoftening_40 : decode cX8_leastSoftening 40 = .ok (.invokevirtual 63, 3) := by decide +kernel
theorem dX8_leastSoftening_43 : decode cX8_leastSoftening 43 = .ok (.iload_n 2, 1) := by decide +kernel
theorem dX8_leastSoftening_44 : decode cX8_leastSoftening 44 = .ok (.invokestatic 31, 3) := by decide +kernel
theorem dX8_leastSoftening_47 : decode cX8_leastSoftening 47 = .ok (.ifCond .eq 5, 3) := by decide +kernel
theorem dX8_leastSoftening_50 : decode cX8_leastSoftening 50 = .ok (.iload_n 3, 1) := by decide +kernel
theorem dX8_leastSoftening_51 : decode cX8_leastSoftening 51 = .ok (.ireturn, 1) := by decide +kernel
theorem dX8_leastSoftening_52 : decode cX8_leastSoftening 52 = .ok (.iinc 3 1, 3) := by decide +kernel
theorem dX8_leastSoftening_55 : decode cX8_leastSoftening 55 = .ok (.goto (-53), 3) := by decide +kernel
theorem dX8_leastSoftening_58 : decode cX8_leastSoftening 58 = .ok (.iconst (-1), 1) := by decide +kernel
theorem dX8_leastSoftening_59 : decode cX8_leastSoftening 59 = .ok (.ireturn, 1) := by decide +kernel
theorem h_X8_leastSoftening : yX8_leastSoftening.cls ≠ "java/lang/invoke/MethodHandle" ∧ yX8_leastSoftening.cls ≠ "java/lang/invoke/VarHandle" ∧ (parseMethodDescriptor yX8_leastSoftening.desc).map (fun d => d.parameters.length) = some 2 := by decide +kernel
def mX8_leastSoftening_l2 (v_home_rooms : Int32) (v_home_doors : Int32) (v_home_doorSides : Nat → Int32) (v_home_now : Nat → Int32) (x1 : Int32) (x2 : Int32) : Nat → Nat → Int32
  | 0, k_2 => (-1 : Int32)
  | n_2 + 1, k_2 => (if ((mX9_inSet ((mX8_partOf v_home_rooms v_home_doors v_home_doorSides v_home_now ((mX7_place v_home_now x1)) ((mX9_illOfWish (((mX7_wishOf v_home_now x1)) + (nI k_2)))))) x2)) = 0 then (mX8_leastSoftening_l2 v_home_rooms v_home_doors v_home_doorSides v_home_now x1 x2 n_2 (k_2 + 1)) else nI k_2)
def mX8_leastSoftening (v_home_rooms : Int32) (v_home_doors : Int32) (v_home_doorSides : Nat → Int32) (v_home_now : Nat → Int32) (x1 : Int32) (x2 : Int32) : Int32 := (mX8_leastSoftening_l2 v_home_rooms v_home_doors v_home_doorSides v_home_now x1 x2 10 0)
set_option maxHeartbeats 4000000 in
set_option maxRecDepth 100000 in
theorem kX8_leastSoftening (l : Launch) (dC : Nat → ClassId) (dI : Nat → Nat → Nat) (cA cZ : ClassId) (a_this a_this_home a_this_home_rainfall a_this_home_doorA a_this_home_doorB a_this_home_doorSides a_this_home_doorOpen a_this_home_now a_this_home_doorSides_cells a_this_home_now_row a_this_home_now_row_cells : Nat) (v_home_rooms : Int32) (v_home_rains : Int32) (v_home_doors : Int32) (v_home_persons : Int32) (v_home_doorSides : Nat → Int32) (v_home_now : Nat → Int32) (x1 : Int32) (x2 : Int32) : Met l yX8_leastSoftening (Cond.code yX8_leastSoftening cX8_leastSoftening 5 (some .int) :: wt) ({ frames := 4, cells := 0, slots := 0, locals := 92 } : Room) (va_Pc [.ref a_this, .int x1, .int x2] (PreP (dC, dI) [(cA, .int), (cZ, .boolean)] [(a_this, .inr (8, [.ref a_this_home])), (a_this_home, .inr (1, [.ref a_this_home_rainfall, .ref a_this_home_doorA, .ref a_this_home_doorB, .ref a_this_home_doorSides, .ref a_this_home_doorOpen, .ref a_this_home_now, .int v_home_rooms, .int v_home_rains, .int v_home_doors, .int v_home_persons])), (a_this_home_doorSides, .inr (6, [.ref a_this_home_doorSides_cells])), (a_this_home_now, .inr (7, [.ref a_this_home_now_row])), (a_this_home_doorSides_cells, .inl (cA, 10, .inl v_home_doorSides)), (a_this_home_now_row, .inr (6, [.ref a_this_home_now_row_cells])), (a_this_home_now_row_cells, .inl (cA, 35, .inl v_home_now))])) (vp_Si (fun r => r = (mX8_leastSoftening v_home_rooms v_home_doors v_home_doorSides v_home_now x1 x2))) 0 0 (fun _ => False) := by
  refine Met.ofW (cc := cX8_leastSoftening) (maxL := 5) (ret := (some .int)) (by decide) rfl ?_
  intro p e s m args below meth c s₁ B hml hv
  obtain ⟨ha, hP, hK⟩ := hv
  have hx := B.exec
  have hb := B.bytes
  have hr := B.returns
  have ht : ∀ w ∈ wt, w.before args s = true := fun w h => atoms_spec (ws := (Cond.code yX8_leastSoftening cX8_leastSoftening 5 (some .int) :: wt)) B.pre w (List.mem_cons_of_mem _ h)
  have hown : s.vm.findClass RX8 = some m.cls := findClass_of_methodNamed B.named
  have hlocks := B.notSynchronized
  have hl := lv_entry ([.ref a_this, .int x1, .int x2]) (n := 5) (Nat.le_of_ble_eq_true rfl)
  rw [show entryFrame m args 5 = _ from (congrArg (fun a => entryFrame m a 5) ha).trans (lg_entry_eq m [.ref a_this, .int x1, .int x2] 5)]
  generalize (lg_sl ([.ref a_this, .int x1, .int x2]) ++ List.replicate (5 - (lg_sl ([.ref a_this, .int x1, .int x2])).length) Slot.unset).toArray = ls at hl ⊢
  have hl : lv_has ls 5 [(0, .ref a_this), (1, .int x1), (2, .int x2)] := hl
  have hm : (mX8_leastSoftening v_home_rooms v_home_doors v_home_doorSides v_home_now x1 x2) = (mX8_leastSoftening v_home_rooms v_home_doors v_home_doorSides v_home_now x1 x2) := rfl
  refine lv_iconst (v := (0 : Int32)) hx hb dX8_leastSoftening_0 (by decide) ?_
  refine lv_istore_n (lv' := [(3, .int ((0 : Int32))), (0, .ref a_this), (1, .int x1), (2, .int x2)]) hx hb dX8_leastSoftening_1 rfl hl (by decide) rfl (fun ls hl => ?_)
  have L_2 : ∀ (n_2 k_2 : Nat), k_2 + n_2 = 10 →  mX8_leastSoftening_l2 v_home_rooms v_home_doors v_home_doorSides v_home_now x1 x2 n_2 k_2 = (mX8_leastSoftening v_home_rooms v_home_doors v_home_doorSides v_home_now x1 x2) → ∀ (ls : Array Slot), lv_has ls 5 [(3, .int (nI k_2)), (0, .ref a_this), (1, .int x1), (2, .int x2)] → W p l e (headSpec (Cond.code yX8_leastSoftening cX8_leastSoftening 5 (some .int) :: wt) ({ frames := 4, cells := 0, slots := 0, locals := 92 } : Room)).room s m args below meth c s.heap [] 0 0 (MQ below (vp_Si (fun r => r = (mX8_leastSoftening v_home_rooms v_home_doors v_home_doorSides v_home_now x1 x2))) args s 0 0 (fun _ => False)) (F0 m 2 ls []) := by
    intro n_2
    induction n_2 with
    | zero =>
      intro k_2 hk  hm ls hl
      have hm : (-1 : Int32) = (mX8_leastSoftening v_home_rooms v_home_doors v_home_doorSides v_home_now x1 x2) := hm
      refine lv_iload_n hx hb dX8_leastSoftening_2 rfl (lv_at hl 0 rfl) ?_
      refine lv_bipush (v := (9 : Int32)) hx hb dX8_leastSoftening_3 (by decide) ?_
      refine lv_icmp_gt (tgt := 58) hx hb dX8_leastSoftening_5 (by decide) (fun c_1 => ?_) (fun c_1 => ?_)
      · skip
        refine lv_iconst (v := (-1 : Int32)) hx hb dX8_leastSoftening_58 (by decide) ?_
        exact W.iret (v := (-1 : Int32)) hx hb hr (fun t ht9 _ => ⟨_, rfl, hm, ht9⟩) (fun q hq => absurd hq List.not_mem_nil) dX8_leastSoftening_59
      · exact absurd (nI_lt (a := 9) (by omega) (by omega)) c_1
    | succ n_2 ih =>
      intro k_2 hk  hm ls hl
      have hm : (if ((mX9_inSet ((mX8_partOf v_home_rooms v_home_doors v_home_doorSides v_home_now ((mX7_place v_home_now x1)) ((mX9_illOfWish (((mX7_wishOf v_home_now x1)) + (nI k_2)))))) x2)) = 0 then (mX8_leastSoftening_l2 v_home_rooms v_home_doors v_home_doorSides v_home_now x1 x2 n_2 (k_2 + 1)) else nI k_2) = (mX8_leastSoftening v_home_rooms v_home_doors v_home_doorSides v_home_now x1 x2) := hm
      refine lv_iload_n hx hb dX8_leastSoftening_2 rfl (lv_at hl 0 rfl) ?_
      refine lv_bipush (v := (9 : Int32)) hx hb dX8_leastSoftening_3 (by decide) ?_
      refine lv_icmp_gt (tgt := 58) hx hb dX8_leastSoftening_5 (by decide) (fun c_2 => ?_) (fun c_2 => ?_)
      · exact absurd c_2 (nI_nlt (a := 9) (by omega) (by omega))
      · skip
        refine lv_aload_n hx hb dX8_leastSoftening_8 rfl (lv_at hl 1 rfl) ?_
        refine va_get (D := (dC, dI)) (ci := 8) (v := .ref a_this_home) (C := RX8) (T := TX8) (N := 1) hx hb ht iX8 hown hK.1 hP 0 rfl rfl 0 (by decide) (ht _ w_1_113) (fun _ h9 => h9) rfl dX8_leastSoftening_9 ?_
        refine va_get (D := (dC, dI)) (ci := 1) (v := .ref a_this_home_now) (C := RX1) (T := TX1) (N := 10) hx hb ht iX1 hown hK.1 hP 1 rfl rfl 5 (by decide) (ht _ w_1_68) (fun _ h9 => h9) rfl dX8_leastSoftening_12 ?_
        refine lv_iload_n hx hb dX8_leastSoftening_15 rfl (lv_at hl 2 rfl) ?_
        refine pv_call (v := (mX7_wishOf v_home_now x1)) (va_runV (As := [.int x1]) (rest := []) ⟨hx, hb, hml, hown, ht⟩ (kX7_wishOf l dC dI cA cZ a_this_home_now a_this_home_now_row a_this_home_now_row_cells v_home_now x1) (cwV 1 ht (gi_V (C := RX7) w_4_5 w_2_216 w_2_217 w_1_5 (gi_code w_2_218)) rfl rfl rfl ⟨rfl, h_X7_wishOf⟩ ⟨Nat.le_of_ble_eq_true rfl, Nat.le_of_ble_eq_true rfl⟩) ⟨pp_blind, va_recv hK.1 hP (ci := 7) (q0 := 3) rfl rfl, pp_use (pc_sub (wc := [(a_this_home_now, .inr (7, [.ref a_this_home_now_row])), (a_this_home_now_row, .inr (6, [.ref a_this_home_now_row_cells])), (a_this_home_now_row_cells, .inl (cA, 35, .inl v_home_now))]) hP [3, 5, 6] rfl) hK⟩ rfl rfl hl.1 rfl (lv_room (Nat.le_of_ble_eq_true rfl)) dX8_leastSoftening_16 ⟨Nat.zero_le _, Nat.zero_le _⟩) ?_
        refine lv_iload_n hx hb dX8_leastSoftening_19 rfl (lv_at hl 0 rfl) ?_
        refine lv_iadd hx hb dX8_leastSoftening_20 ?_
        refine pv_call (v := (mX9_illOfWish (((mX7_wishOf v_home_now x1)) + (nI k_2)))) (va_runSN (As := [.int (((mX7_wishOf v_home_now x1)) + (nI k_2))]) (rest := []) ⟨hx, hb, hml, hown, ht⟩ (kX9_illOfWish l dC dI cA cZ (((mX7_wishOf v_home_now x1)) + (nI k_2))) ⟨va_cnB 1 ht (gi_code w_2_221) rfl rfl rfl (hK.2 _ nwi_15) (ht _ w_1_1) h_X9_illOfWish ⟨Nat.le_of_ble_eq_true rfl, Nat.le_of_ble_eq_true rfl⟩, ht _ w_2_220, trivial⟩ ⟨pp_blind, pp_use (ws := []) (fun _ _ h => by cases h) hK⟩ rfl rfl hl.1 rfl (lv_room (Nat.le_of_ble_eq_true rfl)) dX8_leastSoftening_21 ⟨Nat.zero_le _, Nat.zero_le _⟩) ?_
        refine lv_istore (lv' := [(4, .int ((mX9_illOfWish (((mX7_wishOf v_home_now x1)) + (nI k_2))))), (3, .int (nI k_2)), (0, .ref a_this), (1, .int x1), (2, .int x2)]) hx hb dX8_leastSoftening_24 hl (by decide) rfl (fun ls hl => ?_)
        refine lv_aload_n hx hb dX8_leastSoftening_26 rfl (lv_at hl 2 rfl) ?_
        refine lv_aload_n hx hb dX8_leastSoftening_27 rfl (lv_at hl 2 rfl) ?_
        refine va_get (D := (dC, dI)) (ci := 8) (v := .ref a_this_home) (C := RX8) (T := TX8) (N := 1) hx hb ht iX8 hown hK.1 hP 0 rfl rfl 0 (by decide) (ht _ w_1_113) (fun _ h9 => h9) rfl dX8_leastSoftening_28 ?_
        refine va_get (D := (dC, dI)) (ci := 1) (v := .ref a_this_home_now) (C := RX1) (T := TX1) (N := 10) hx hb ht iX1 hown hK.1 hP 1 rfl rfl 5 (by decide) (ht _ w_1_68) (fun _ h9 => h9) rfl dX8_leastSoftening_31 ?_
        refine lv_iload_n hx hb dX8_leastSoftening_34 rfl (lv_at hl 3 rfl) ?_
        refine pv_call (v := (mX7_place v_home_now x1)) (va_runV (As := [.int x1]) (rest := [.ref a_this]) ⟨hx, hb, hml, hown, ht⟩ (kX7_place l dC dI cA cZ a_this_home_now a_this_home_now_row a_this_home_now_row_cells v_home_now x1) (cwV 1 ht (gi_V (C := RX7) w_2_207 w_2_208 w_2_209 w_1_5 (gi_code w_2_210)) rfl rfl rfl ⟨rfl, h_X7_place⟩ ⟨Nat.le_of_ble_eq_true rfl, Nat.le_of_ble_eq_true rfl⟩) ⟨pp_blind, va_recv hK.1 hP (ci := 7) (q0 := 3) rfl rfl, pp_use (pc_sub (wc := [(a_this_home_now, .inr (7, [.ref a_this_home_now_row])), (a_this_home_now_row, .inr (6, [.ref a_this_home_now_row_cells])), (a_this_home_now_row_cells, .inl (cA, 35, .inl v_home_now))]) hP [3, 5, 6] rfl) hK⟩ rfl rfl hl.1 rfl (lv_room (Nat.le_of_ble_eq_true rfl)) dX8_leastSoftening_35 ⟨Nat.zero_le _, Nat.zero_le _⟩) ?_
        refine lv_iload hx hb dX8_leastSoftening_38 (lv_at hl 0 rfl) ?_
        refine pv_call (v := (mX8_partOf v_home_rooms v_home_doors v_home_doorSides v_home_now ((mX7_place v_home_now x1)) ((mX9_illOfWish (((mX7_wishOf v_home_now x1)) + (nI k_2)))))) (va_runV (As := [.int ((mX7_place v_home_now x1)), .int ((mX9_illOfWish (((mX7_wishOf v_home_now x1)) + (nI k_2))))]) (rest := []) ⟨hx, hb, hml, hown, ht⟩ (kX8_partOf l dC dI cA cZ a_this a_this_home a_this_home_rainfall a_this_home_doorA a_this_home_doorB a_this_home_doorSides a_this_home_doorOpen a_this_home_now a_this_home_doorSides_cells a_this_home_now_row a_this_home_now_row_cells v_home_rooms v_home_rains v_home_doors v_home_persons v_home_doorSides v_home_now ((mX7_place v_home_now x1)) ((mX9_illOfWish (((mX7_wishOf v_home_now x1)) + (nI k_2))))) (cwV 2 ht (gi_V (C := RX8) w_2_222 w_2_223 w_2_224 w_1_6 (gi_code w_2_225)) rfl rfl rfl ⟨rfl, h_X8_partOf⟩ ⟨Nat.le_of_ble_eq_true rfl, Nat.le_of_ble_eq_true rfl⟩) ⟨pp_blind, va_recv hK.1 hP (ci := 8) (q0 := 0) rfl rfl, pp_use hP hK⟩ rfl rfl hl.1 rfl (lv_room (Nat.le_of_ble_eq_true rfl)) dX8_leastSoftening_40 ⟨Nat.zero_le _, Nat.zero_le _⟩) ?_
        refine lv_iload_n hx hb dX8_leastSoftening_43 rfl (lv_at hl 4 rfl) ?_
        refine pv_call (v := (mX9_inSet ((mX8_partOf v_home_rooms v_home_doors v_home_doorSides v_home_now ((mX7_place v_home_now x1)) ((mX9_illOfWish (((mX7_wishOf v_home_now x1)) + (nI k_2)))))) x2)) (va_runSN (As := [.int ((mX8_partOf v_home_rooms v_home_doors v_home_doorSides v_home_now ((mX7_place v_home_now x1)) ((mX9_illOfWish (((mX7_wishOf v_home_now x1)) + (nI k_2)))))), .int x2]) (rest := []) ⟨hx, hb, hml, hown, ht⟩ (kX9_inSet l dC dI cA cZ ((mX8_partOf v_home_rooms v_home_doors v_home_doorSides v_home_now ((mX7_place v_home_now x1)) ((mX9_illOfWish (((mX7_wishOf v_home_now x1)) + (nI k_2)))))) x2) ⟨va_cnB 2 ht (gi_code w_3_8) rfl rfl rfl (hK.2 _ nwi_13) (ht _ w_1_1) h_X9_inSet ⟨Nat.le_of_ble_eq_true rfl, Nat.le_of_ble_eq_true rfl⟩, ht _ w_3_7, trivial⟩ ⟨pp_blind, pp_use (ws := []) (fun _ _ h => by cases h) hK⟩ rfl rfl hl.1 rfl (lv_room (Nat.le_of_ble_eq_true rfl)) dX8_leastSoftening_44 ⟨Nat.zero_le _, Nat.zero_le _⟩) ?_
        refine lv_if_eq (tgt := 52) hx hb dX8_leastSoftening_47 (by decide) (fun c_3 => ?_) (fun c_3 => ?_)
        · have hm := (if_pos c_3).symm.trans hm
          refine lv_iinc (v := nI (k_2 + 1)) (lv' := [(3, .int (nI (k_2 + 1))), (4, .int ((mX9_illOfWish (((mX7_wishOf v_home_now x1)) + (nI k_2))))), (0, .ref a_this), (1, .int x1), (2, .int x2)]) hx hb dX8_leastSoftening_52 hl (k := 1) rfl (nI_1 _) (by decide) rfl (fun ls hl => ?_)
          refine lv_goto (tgt := 2) hx hb dX8_leastSoftening_55 (by decide) ?_
          exact ih (k_2 + 1) (by omega) hm ls (lv_sub hl [0, 2, 3, 4] rfl)
        · have hm := (if_neg c_3).symm.trans hm
          refine lv_iload_n hx hb dX8_leastSoftening_50 rfl (lv_at hl 1 rfl) ?_
          exact W.iret (v := nI k_2) hx hb hr (fun t ht9 _ => ⟨_, rfl, hm, ht9⟩) (fun q hq => absurd hq List.not_mem_nil) dX8_leastSoftening_51
  exact L_2 10 0 (Nat.zero_add _) hm ls (lv_sub hl [0, 1, 2, 3] rfl)
theorem dX8_countParts_0 : decode cX8_countParts 0 = .ok (.iconst 0, 1) := by decide +kernel
theorem dX8_countParts_1 : decode cX8_countParts 1 = .ok (.istore_n 2, 1) := by decide +kernel
theorem dX8_countParts_2 : decode cX8_countParts 2 = .ok (.iconst 0, 1) := by decide +kernel
theorem dX8_countParts_3 : decode cX8_countParts 3 = .ok (.istore_n 3, 1) := by decide +kernel
theorem dX8_countParts_4 : decode cX8_countParts 4 = .ok (.iconst 0, 1) := by decide +kernel
theorem dX8_countParts_5 : decode cX8_countParts 5 = .ok (.istore 4, 2) := by decide +kernel
theorem dX8_countParts_7 : decode cX8_countParts 7 = .ok (.iload 4, 2) := by decide +kernel
theorem dX8_countParts_9 : decode cX8_countParts 9 = .ok (.aload_n 0, 1) := by decide +kernel
theorem dX8_countParts_10 : decode cX8_countParts 10 = .ok (.getfield 9, 3) := by decide +kernel
theorem dX8_countParts_13 : decode cX8_countParts 13 = .ok (.getfield 38, 3) := by decide +kernel
theorem dX8_countParts_16 : decode cX8_countParts 16 = .ok (.if_icmp .ge 34, 3) := by decide +kernel
theorem dX8_countParts_19 : decode cX8_countParts 19 = .ok (.iload_n 3, 1) := by decide +kernel
theorem dX8_countParts_20 : decode cX8_countParts 20 = .ok (.iload 4, 2) := by decide +kernel
theorem dX8_countParts_22 : decode cX8_countParts 22 = .ok (.invokestatic 31, 3) := by decide +kernel
theorem dX8_countParts_25 : decode cX8_countParts 25 = .ok (.ifCond .eq 6, 3) := by decide +kernel
theorem dX8_countParts_28 : decode cX8_countParts 28 = .ok (.goto 16, 3) := by decide +kernel
theorem dX8_countParts_31 : decode cX8_countParts 31 = .ok (.iload_n 3, 1) := by decide +kernel
theorem dX8_countParts_32 : decode cX8_countParts 32 = .ok (.aload_n 0, 1) := by decide +kernel
theorem dX8_countParts_33 : decode cX8_countParts 33 = .ok (.iload 4, 2) := by decide +kernel
theorem dX8_countParts_35 : decode cX8_countParts 35 = .ok (.iload_n 1, 1) := by decide +kernel
theorem dX8_countParts_36 : decode cX8_countParts 36 = .ok (.invokevirtual 63, 3) := by decide +kernel
theorem dX8_countParts_39 : decode cX8_countParts 39 = .ok (.ior, 1) := by decide +kernel
theorem dX8_countParts_40 : decode cX8_countParts 40 = .ok (.istore_n 3, 1) := by decide +kernel
theorem dX8_countParts_41 : decode cX8_countParts 41 = .ok (.iinc 2 1, 3) := by decide +kernel
theorem dX8_countParts_44 : decode cX8_countParts 44 = .ok (.iinc 4 1, 3) := by decide +kernel
theorem dX8_countParts_47 : decode cX8_countParts 47 = .ok (.goto (-40), 3) := by decide +kernel
theorem dX8_countParts_50 : decode cX8_countParts 50 = .ok (.iload_n 2, 1) := by decide +kernel
theorem dX8_countParts_51 : decode cX8_countParts 51 = .ok (.ireturn, 1) := by decide +kernel
theorem h_X8_countParts : yX8_countParts.cls ≠ "java/lang/invoke/MethodHandle" ∧ yX8_countParts.cls ≠ "java/lang/invoke/VarHandle" ∧ (parseMethodDescriptor yX8_countParts.desc).map (fun d => d.parameters.length) = some 1 := by decide +kernel
def mX8_countParts_l7 (v_home_rooms : Int32) (v_home_doors : Int32) (v_home_doorSides : Nat → Int32) (v_home_now : Nat → Int32) (x1 : Int32) (k_7 : Nat) (s : Int32 × Int32) : Int32 × Int32 := (if ((mX9_inSet s.2 (nI k_7))) = 0 then (s.1 + 1, s.2 ||| ((mX8_partOf v_home_rooms v_home_doors v_home_doorSides v_home_now (nI k_7) x1))) else (s.1, s.2))
def mX8_countParts (v_home_rooms : Int32) (v_home_doors : Int32) (v_home_doorSides : Nat → Int32) (v_home_now : Nat → Int32) (x1 : Int32) : Int32 := ((iter (mX8_countParts_l7 v_home_rooms v_home_doors v_home_doorSides v_home_now x1) v_home_rooms.toNatClampNeg (((0 : Int32), (0 : Int32))))).1
set_option maxHeartbeats 4000000 in
set_option maxRecDepth 100000 in
theorem kX8_countParts (l : Launch) (dC : Nat → ClassId) (dI : Nat → Nat → Nat) (cA cZ : ClassId) (a_this a_this_home a_this_home_rainfall a_this_home_doorA a_this_home_doorB a_this_home_doorSides a_this_home_doorOpen a_this_home_now a_this_home_doorSides_cells a_this_home_now_row a_this_home_now_row_cells : Nat) (v_home_rooms : Int32) (v_home_rains : Int32) (v_home_doors : Int32) (v_home_persons : Int32) (v_home_doorSides : Nat → Int32) (v_home_now : Nat → Int32) (x1 : Int32) : Met l yX8_countParts (Cond.code yX8_countParts cX8_countParts 5 (some .int) :: wt) ({ frames := 4, cells := 0, slots := 0, locals := 92 } : Room) (va_Pc [.ref a_this, .int x1] (PreP (dC, dI) [(cA, .int), (cZ, .boolean)] [(a_this, .inr (8, [.ref a_this_home])), (a_this_home, .inr (1, [.ref a_this_home_rainfall, .ref a_this_home_doorA, .ref a_this_home_doorB, .ref a_this_home_doorSides, .ref a_this_home_doorOpen, .ref a_this_home_now, .int v_home_rooms, .int v_home_rains, .int v_home_doors, .int v_home_persons])), (a_this_home_doorSides, .inr (6, [.ref a_this_home_doorSides_cells])), (a_this_home_now, .inr (7, [.ref a_this_home_now_row])), (a_this_home_doorSides_cells, .inl (cA, 10, .inl v_home_doorSides)), (a_this_home_now_row, .inr (6, [.ref a_this_home_now_row_cells])), (a_this_home_now_row_cells, .inl (cA, 35, .inl v_home_now))])) (vp_Si (fun r => r = (mX8_countParts v_home_rooms v_home_doors v_home_doorSides v_home_now x1))) 0 0 (fun _ => False) := by
  refine Met.ofW (cc := cX8_countParts) (maxL := 5) (ret := (some .int)) (by decide) rfl ?_
  intro p e s m args below meth c s₁ B hml hv
  obtain ⟨ha, hP, hK⟩ := hv
  have hx := B.exec
  have hb := B.bytes
  have hr := B.returns
  have ht : ∀ w ∈ wt, w.before args s = true := fun w h => atoms_spec (ws := (Cond.code yX8_countParts cX8_countParts 5 (some .int) :: wt)) B.pre w (List.mem_cons_of_mem _ h)
  have hown : s.vm.findClass RX8 = some m.cls := findClass_of_methodNamed B.named
  have hlocks := B.notSynchronized
  have hl := lv_entry ([.ref a_this, .int x1]) (n := 5) (Nat.le_of_ble_eq_true rfl)
  rw [show entryFrame m args 5 = _ from (congrArg (fun a => entryFrame m a 5) ha).trans (lg_entry_eq m [.ref a_this, .int x1] 5)]
  generalize (lg_sl ([.ref a_this, .int x1]) ++ List.replicate (5 - (lg_sl ([.ref a_this, .int x1])).length) Slot.unset).toArray = ls at hl ⊢
  have hl : lv_has ls 5 [(0, .ref a_this), (1, .int x1)] := hl
  have hm : (mX8_countParts v_home_rooms v_home_doors v_home_doorSides v_home_now x1) = (mX8_countParts v_home_rooms v_home_doors v_home_doorSides v_home_now x1) := rfl
  refine lv_iconst (v := (0 : Int32)) hx hb dX8_countParts_0 (by decide) ?_
  refine lv_istore_n (lv' := [(2, .int ((0 : Int32))), (0, .ref a_this), (1, .int x1)]) hx hb dX8_countParts_1 rfl hl (by decide) rfl (fun ls hl => ?_)
  refine lv_iconst (v := (0 : Int32)) hx hb dX8_countParts_2 (by decide) ?_
  refine lv_istore_n (lv' := [(3, .int ((0 : Int32))), (2, .int ((0 : Int32))), (0, .ref a_this), (1, .int x1)]) hx hb dX8_countParts_3 rfl hl (by decide) rfl (fun ls hl => ?_)
  refine lv_iconst (v := (0 : Int32)) hx hb dX8_countParts_4 (by decide) ?_
  refine lv_istore (lv' := [(4, .int ((0 : Int32))), (3, .int ((0 : Int32))), (2, .int ((0 : Int32))), (0, .ref a_this), (1, .int x1)]) hx hb dX8_countParts_5 hl (by decide) rfl (fun ls hl => ?_)
  have L_7 : ∀ (n_7 k_7 : Nat), k_7 + n_7 = v_home_rooms.toNatClampNeg → ∀ (y2_7 : Int32) (y3_7 : Int32), y2_7 = ((iter (mX8_countParts_l7 v_home_rooms v_home_doors v_home_doorSides v_home_now x1) k_7 (((0 : Int32), (0 : Int32))))).1 → y3_7 = ((iter (mX8_countParts_l7 v_home_rooms v_home_doors v_home_doorSides v_home_now x1) k_7 (((0 : Int32), (0 : Int32))))).2 → ∀ (ls : Array Slot), lv_has ls 5 [(4, .int (nI k_7)), (3, .int y3_7), (2, .int y2_7), (0, .ref a_this), (1, .int x1)] → W p l e (headSpec (Cond.code yX8_countParts cX8_countParts 5 (some .int) :: wt) ({ frames := 4, cells := 0, slots := 0, locals := 92 } : Room)).room s m args below meth c s.heap [] 0 0 (MQ below (vp_Si (fun r => r = (mX8_countParts v_home_rooms v_home_doors v_home_doorSides v_home_now x1))) args s 0 0 (fun _ => False)) (F0 m 7 ls []) := by
    intro n_7
    induction n_7 with
    | zero =>
      intro k_7 hk y2_7 y3_7 ex0_7 ex1_7 ls hl
      obtain rfl : v_home_rooms.toNatClampNeg = k_7 := by omega
      subst ex0_7 ex1_7
      refine lv_iload hx hb dX8_countParts_7 (lv_at hl 0 rfl) ?_
      refine lv_aload_n hx hb dX8_countParts_9 rfl (lv_at hl 3 rfl) ?_
      refine va_get (D := (dC, dI)) (ci := 8) (v := .ref a_this_home) (C := RX8) (T := TX8) (N := 1) hx hb ht iX8 hown hK.1 hP 0 rfl rfl 0 (by decide) (ht _ w_1_113) (fun _ h9 => h9) rfl dX8_countParts_10 ?_
      refine va_get (D := (dC, dI)) (ci := 1) (v := .int v_home_rooms) (C := RX1) (T := TX1) (N := 10) hx hb ht iX1 hown hK.1 hP 1 rfl rfl 6 (by decide) (ht _ w_1_71) (fun _ h9 => h9) rfl dX8_countParts_13 ?_
      refine lv_icmp_ge (tgt := 50) hx hb dX8_countParts_16 (by decide) (fun c_3 => ?_) (fun c_3 => ?_)
      · skip
        refine lv_iload_n hx hb dX8_countParts_50 rfl (lv_at hl 2 rfl) ?_
        exact W.iret (v := ((iter (mX8_countParts_l7 v_home_rooms v_home_doors v_home_doorSides v_home_now x1) v_home_rooms.toNatClampNeg (((0 : Int32), (0 : Int32))))).1) hx hb hr (fun t ht9 _ => ⟨_, rfl, hm, ht9⟩) (fun q hq => absurd hq List.not_mem_nil) dX8_countParts_51
      · exact absurd (lpE (by omega) (by have := clampLt v_home_rooms; omega)) c_3
    | succ n_7 ih =>
      intro k_7 hk y2_7 y3_7 ex0_7 ex1_7 ls hl
      have hm : (mX8_countParts_l7 v_home_rooms v_home_doors v_home_doorSides v_home_now x1) k_7 (y2_7, y3_7) = (iter (mX8_countParts_l7 v_home_rooms v_home_doors v_home_doorSides v_home_now x1) (k_7 + 1) (((0 : Int32), (0 : Int32)))) := by rw [ex0_7, ex1_7]; rfl
      refine lv_iload hx hb dX8_countParts_7 (lv_at hl 0 rfl) ?_
      refine lv_aload_n hx hb dX8_countParts_9 rfl (lv_at hl 3 rfl) ?_
      refine va_get (D := (dC, dI)) (ci := 8) (v := .ref a_this_home) (C := RX8) (T := TX8) (N := 1) hx hb ht iX8 hown hK.1 hP 0 rfl rfl 0 (by decide) (ht _ w_1_113) (fun _ h9 => h9) rfl dX8_countParts_10 ?_
      refine va_get (D := (dC, dI)) (ci := 1) (v := .int v_home_rooms) (C := RX1) (T := TX1) (N := 10) hx hb ht iX1 hown hK.1 hP 1 rfl rfl 6 (by decide) (ht _ w_1_71) (fun _ h9 => h9) rfl dX8_countParts_13 ?_
      refine lv_icmp_ge (tgt := 50) hx hb dX8_countParts_16 (by decide) (fun c_1 => ?_) (fun c_1 => ?_)
      · exact absurd c_1 (lpN (by omega))
      · skip
        refine lv_iload_n hx hb dX8_countParts_19 rfl (lv_at hl 1 rfl) ?_
        refine lv_iload hx hb dX8_countParts_20 (lv_at hl 0 rfl) ?_
        refine pv_call (v := (mX9_inSet y3_7 (nI k_7))) (va_runSN (As := [.int y3_7, .int (nI k_7)]) (rest := []) ⟨hx, hb, hml, hown, ht⟩ (kX9_inSet l dC dI cA cZ y3_7 (nI k_7)) ⟨va_cnB 2 ht (gi_code w_3_8) rfl rfl rfl (hK.2 _ nwi_13) (ht _ w_1_1) h_X9_inSet ⟨Nat.le_of_ble_eq_true rfl, Nat.le_of_ble_eq_true rfl⟩, ht _ w_3_7, trivial⟩ ⟨pp_blind, pp_use (ws := []) (fun _ _ h => by cases h) hK⟩ rfl rfl hl.1 rfl (lv_room (Nat.le_of_ble_eq_true rfl)) dX8_countParts_22 ⟨Nat.zero_le _, Nat.zero_le _⟩) ?_
        refine lv_if_eq (tgt := 31) hx hb dX8_countParts_25 (by decide) (fun c_2 => ?_) (fun c_2 => ?_)
        · have hm := (if_pos c_2).symm.trans hm
          refine lv_iload_n hx hb dX8_countParts_31 rfl (lv_at hl 1 rfl) ?_
          refine lv_aload_n hx hb dX8_countParts_32 rfl (lv_at hl 3 rfl) ?_
          refine lv_iload hx hb dX8_countParts_33 (lv_at hl 0 rfl) ?_
          refine lv_iload_n hx hb dX8_countParts_35 rfl (lv_at hl 4 rfl) ?_
          refine pv_call (v := (mX8_partOf v_home_rooms v_home_doors v_home_doorSides v_home_now (nI k_7) x1)) (va_runV (As := [.int (nI k_7), .int x1]) (rest := [.int y3_7]) ⟨hx, hb, hml, hown, ht⟩ (kX8_partOf l dC dI cA cZ a_this a_this_home a_this_home_rainfall a_this_home_doorA a_this_home_doorB a_this_home_doorSides a_this_home_doorOpen a_this_home_now a_this_home_doorSides_cells a_this_home_now_row a_this_home_now_row_cells v_home_rooms v_home_rains v_home_doors v_home_persons v_home_doorSides v_home_now (nI k_7) x1) (cwV 2 ht (gi_V (C := RX8) w_2_222 w_2_223 w_2_224 w_1_6 (gi_code w_2_225)) rfl rfl rfl ⟨rfl, h_X8_partOf⟩ ⟨Nat.le_of_ble_eq_true rfl, Nat.le_of_ble_eq_true rfl⟩) ⟨pp_blind, va_recv hK.1 hP (ci := 8) (q0 := 0) rfl rfl, pp_use hP hK⟩ rfl rfl hl.1 rfl (lv_room (Nat.le_of_ble_eq_true rfl)) dX8_countParts_36 ⟨Nat.zero_le _, Nat.zero_le _⟩) ?_
          refine lv_ior hx hb dX8_countParts_39 ?_
          refine lv_istore_n (lv' := [(3, .int (y3_7 ||| ((mX8_partOf v_home_rooms v_home_doors v_home_doorSides v_home_now (nI k_7) x1)))), (4, .int (nI k_7)), (2, .int y2_7), (0, .ref a_this), (1, .int x1)]) hx hb dX8_countParts_40 rfl hl (by decide) rfl (fun ls hl => ?_)
          refine lv_iinc (v := y2_7 + 1) (lv' := [(2, .int (y2_7 + 1)), (3, .int (y3_7 ||| ((mX8_partOf v_home_rooms v_home_doors v_home_doorSides v_home_now (nI k_7) x1)))), (4, .int (nI k_7)), (0, .ref a_this), (1, .int x1)]) hx hb dX8_countParts_41 hl (k := 2) rfl rfl (by decide) rfl (fun ls hl => ?_)
          refine lv_iinc (v := nI (k_7 + 1)) (lv' := [(4, .int (nI (k_7 + 1))), (2, .int (y2_7 + 1)), (3, .int (y3_7 ||| ((mX8_partOf v_home_rooms v_home_doors v_home_doorSides v_home_now (nI k_7) x1)))), (0, .ref a_this), (1, .int x1)]) hx hb dX8_countParts_44 hl (k := 2) rfl (nI_1 _) (by decide) rfl (fun ls hl => ?_)
          refine lv_goto (tgt := 7) hx hb dX8_countParts_47 (by decide) ?_
          exact ih (k_7 + 1) (by omega) (y2_7 + 1) (y3_7 ||| ((mX8_partOf v_home_rooms v_home_doors v_home_doorSides v_home_now (nI k_7) x1))) (congrArg (fun z => z.1) hm) (congrArg (fun z => z.2) hm) ls (lv_sub hl [0, 2, 1, 3, 4] rfl)
        · have hm := (if_neg c_2).symm.trans hm
          refine lv_goto (tgt := 44) hx hb dX8_countParts_28 (by decide) ?_
          refine lv_iinc (v := nI (k_7 + 1)) (lv' := [(4, .int (nI (k_7 + 1))), (3, .int y3_7), (2, .int y2_7), (0, .ref a_this), (1, .int x1)]) hx hb dX8_countParts_44 hl (k := 0) rfl (nI_1 _) (by decide) rfl (fun ls hl => ?_)
          refine lv_goto (tgt := 7) hx hb dX8_countParts_47 (by decide) ?_
          exact ih (k_7 + 1) (by omega) y2_7 y3_7 (congrArg (fun z => z.1) hm) (congrArg (fun z => z.2) hm) ls (lv_sub hl [0, 1, 2, 3, 4] rfl)
  exact L_7 v_home_rooms.toNatClampNeg 0 (Nat.zero_add _) ((0 : Int32)) ((0 : Int32)) rfl rfl ls (lv_sub hl [0, 1, 2, 3, 4] rfl)
theorem dX8_leastIllKeptFrom_0 : decode cX8_leastIllKeptFrom 0 = .ok (.iconst 0, 1) := by decide +kernel
theorem dX8_leastIllKeptFrom_1 : decode cX8_leastIllKeptFrom 1 = .ok (.istore_n 2, 1) := by decide +kernel
theorem dX8_leastIllKeptFrom_2 : decode cX8_leastIllKeptFrom 2 = .ok (.iload_n 2, 1) := by decide +kernel
theorem dX8_leastIllKeptFrom_3 : decode cX8_leastIllKeptFrom 3 = .ok (.bipush 9, 2) := by decide +kernel
theorem dX8_leastIllKeptFrom_5 : decode cX8_leastIllKeptFrom 5 = .ok (.if_icmp .gt 24, 3) := by decide +kernel
theorem dX8_leastIllKeptFrom_8 : decode cX8_leastIllKeptFrom 8 = .ok (.aload_n 0, 1) := by decide +kernel
theorem dX8_leastIllKeptFrom_9 : decode cX8_leastIllKeptFrom 9 = .ok (.iconst 0, 1) := by decide +kernel
theorem dX8_leastIllKeptFrom_10 : decode cX8_leastIllKeptFrom 10 = .ok (.iload_n 2, 1) := by decide +kernel
theorem dX8_leastIllKeptFrom_11 : decode cX8_leastIllKeptFrom 11 = .ok (.invokevirtual 63, 3) := by decide +kernel
theorem dX8_leastIllKeptFrom_14 : decode cX8_leastIllKeptFrom 14 = .ok (.iload_n 1, 1) := by decide +kernel
theorem dX8_leastIllKeptFrom_15 : decode cX8_leastIllKeptFrom 15 = .ok (.invokestatic 31, 3) := by decide +kernel
theorem dX8_leastIllKeptFrom_18 : decode cX8_leastIllKeptFrom 18 = .ok (.ifCond .ne 5, 3) := by decide +kernel
theorem dX8_leastIllKeptFrom_21 : decode cX8_leastIllKeptFrom 21 = .ok (.iload_n 2, 1) := by decide +kernel
theorem dX8_leastIllKeptFrom_22 : decode cX8_leastIllKeptFrom 22 = .ok (.ireturn, 1) := by decide +kernel
theorem dX8_leastIllKeptFrom_23 : decode cX8_leastIllKeptFrom 23 = .ok (.iinc 2 1, 3) := by decide +kernel
theorem dX8_leastIllKeptFrom_26 : decode cX8_leastIllKeptFrom 26 = .ok (.goto (-24), 3) := by decide +kernel
theorem dX8_leastIllKeptFrom_29 : decode cX8_leastIllKeptFrom 29 = .ok (.iconst (-1), 1) := by decide +kernel
theorem dX8_leastIllKeptFrom_30 : decode cX8_leastIllKeptFrom 30 = .ok (.ireturn, 1) := by decide +kernel
theorem h_X8_leastIllKeptFrom : yX8_leastIllKeptFrom.cls ≠ "java/lang/invoke/MethodHandle" ∧ yX8_leastIllKeptFrom.cls ≠ "java/lang/invoke/VarHandle" ∧ (parseMethodDescriptor yX8_leastIllKeptFrom.desc).map (fun d => d.parameters.length) = some 1 := by decide +kernel
def mX8_leastIllKeptFrom_l2 (v_home_rooms : Int32) (v_home_doors : Int32) (v_home_doorSides : Nat → Int32) (v_home_now : Nat → Int32) (x1 : Int32) : Nat → Nat → Int32
  | 0, k_2 => (-1 : Int32)
  | n_2 + 1, k_2 => (if ((mX9_inSet ((mX8_partOf v_home_rooms v_home_doors v_home_doorSides v_home_now ((0 : Int32)) (nI k_2))) x1)) = 0 then nI k_2 else (mX8_leastIllKeptFrom_l2 v_home_rooms v_home_doors v_home_doorSides v_home_now x1 n_2 (k_2 + 1)))
def mX8_leastIllKeptFrom (v_home_rooms : Int32) (v_home_doors : Int32) (v_home_doorSides : Nat → Int32) (v_home_now : Nat → Int32) (x1 : Int32) : Int32 := (mX8_leastIllKeptFrom_l2 v_home_rooms v_home_doors v_home_doorSides v_home_now x1 10 0)
set_option maxHeartbeats 4000000 in
set_option maxRecDepth 100000 in
theorem kX8_leastIllKeptFrom (l : Launch) (dC : Nat → ClassId) (dI : Nat → Nat → Nat) (cA cZ : ClassId) (a_this a_this_home a_this_home_rainfall a_this_home_doorA a_this_home_doorB a_this_home_doorSides a_this_home_doorOpen a_this_home_now a_this_home_doorSides_cells a_this_home_now_row a_this_home_now_row_cells : Nat) (v_home_rooms : Int32) (v_home_rains : Int32) (v_home_doors : Int32) (v_home_persons : Int32) (v_home_doorSides : Nat → Int32) (v_home_now : Nat → Int32) (x1 : Int32) : Met l yX8_leastIllKeptFrom (Cond.code yX8_leastIllKeptFrom cX8_leastIllKeptFrom 3 (some .int) :: wt) ({ frames := 4, cells := 0, slots := 0, locals := 92 } : Room) (va_Pc [.ref a_this, .int x1] (PreP (dC, dI) [(cA, .int), (cZ, .boolean)] [(a_this, .inr (8, [.ref a_this_home])), (a_this_home, .inr (1, [.ref a_this_home_rainfall, .ref a_this_home_doorA, .ref a_this_home_doorB, .ref a_this_home_doorSides, .ref a_this_home_doorOpen, .ref a_this_home_now, .int v_home_rooms, .int v_home_rains, .int v_home_doors, .int v_home_persons])), (a_this_home_doorSides, .inr (6, [.ref a_this_home_doorSides_cells])), (a_this_home_now, .inr (7, [.ref a_this_home_now_row])), (a_this_home_doorSides_cells, .inl (cA, 10, .inl v_home_doorSides)), (a_this_home_now_row, .inr (6, [.ref a_this_home_now_row_cells])), (a_this_home_now_row_cells, .inl (cA, 35, .inl v_home_now))])) (vp_Si (fun r => r = (mX8_leastIllKeptFrom v_home_rooms v_home_doors v_home_doorSides v_home_now x1))) 0 0 (fun _ => False) := by
  refine Met.ofW (cc := cX8_leastIllKeptFrom) (maxL := 3) (ret := (some .int)) (by decide) rfl ?_
  intro p e s m args below meth c s₁ B hml hv
  obtain ⟨ha, hP, hK⟩ := hv
  have hx := B.exec
  have hb := B.bytes
  have hr := B.returns
  have ht : ∀ w ∈ wt, w.before args s = true := fun w h => atoms_spec (ws := (Cond.code yX8_leastIllKeptFrom cX8_leastIllKeptFrom 3 (some .int) :: wt)) B.pre w (List.mem_cons_of_mem _ h)
  have hown : s.vm.findClass RX8 = some m.cls := findClass_of_methodNamed B.named
  have hlocks := B.notSynchronized
  have hl := lv_entry ([.ref a_this, .int x1]) (n := 3) (Nat.le_of_ble_eq_true rfl)
  rw [show entryFrame m args 3 = _ from (congrArg (fun a => entryFrame m a 3) ha).trans (lg_entry_eq m [.ref a_this, .int x1] 3)]
  generalize (lg_sl ([.ref a_this, .int x1]) ++ List.replicate (3 - (lg_sl ([.ref a_this, .int x1])).length) Slot.unset).toArray = ls at hl ⊢
  have hl : lv_has ls 3 [(0, .ref a_this), (1, .int x1)] := hl
  have hm : (mX8_leastIllKeptFrom v_home_rooms v_home_doors v_home_doorSides v_home_now x1) = (mX8_leastIllKeptFrom v_home_rooms v_home_doors v_home_doorSides v_home_now x1) := rfl
  refine lv_iconst (v := (0 : Int32)) hx hb dX8_leastIllKeptFrom_0 (by decide) ?_
  refine lv_istore_n (lv' := [(2, .int ((0 : Int32))), (0, .ref a_this), (1, .int x1)]) hx hb dX8_leastIllKeptFrom_1 rfl hl (by decide) rfl (fun ls hl => ?_)
  have L_2 : ∀ (n_2 k_2 : Nat), k_2 + n_2 = 10 →  mX8_leastIllKeptFrom_l2 v_home_rooms v_home_doors v_home_doorSides v_home_now x1 n_2 k_2 = (mX8_leastIllKeptFrom v_home_rooms v_home_doors v_home_doorSides v_home_now x1) → ∀ (ls : Array Slot), lv_has ls 3 [(2, .int (nI k_2)), (0, .ref a_this), (1, .int x1)] → W p l e (headSpec (Cond.code yX8_leastIllKeptFrom cX8_leastIllKeptFrom 3 (some .int) :: wt) ({ frames := 4, cells := 0, slots := 0, locals := 92 } : Room)).room s m args below meth c s.heap [] 0 0 (MQ below (vp_Si (fun r => r = (mX8_leastIllKeptFrom v_home_rooms v_home_doors v_home_doorSides v_home_now x1))) args s 0 0 (fun _ => False)) (F0 m 2 ls []) := by
    intro n_2
    induction n_2 with
    | zero =>
      intro k_2 hk  hm ls hl
      have hm : (-1 : Int32) = (mX8_leastIllKeptFrom v_home_rooms v_home_doors v_home_doorSides v_home_now x1) := hm
      refine lv_iload_n hx hb dX8_leastIllKeptFrom_2 rfl (lv_at hl 0 rfl) ?_
      refine lv_bipush (v := (9 : Int32)) hx hb dX8_leastIllKeptFrom_3 (by decide) ?_
      refine lv_icmp_gt (tgt := 29) hx hb dX8_leastIllKeptFrom_5 (by decide) (fun c_1 => ?_) (fun c_1 => ?_)
      · skip
        refine lv_iconst (v := (-1 : Int32)) hx hb dX8_leastIllKeptFrom_29 (by decide) ?_
        exact W.iret (v := (-1 : Int32)) hx hb hr (fun t ht9 _ => ⟨_, rfl, hm, ht9⟩) (fun q hq => absurd hq List.not_mem_nil) dX8_leastIllKeptFrom_30
      · exact absurd (nI_lt (a := 9) (by omega) (by omega)) c_1
    | succ n_2 ih =>
      intro k_2 hk  hm ls hl
      have hm : (if ((mX9_inSet ((mX8_partOf v_home_rooms v_home_doors v_home_doorSides v_home_now ((0 : Int32)) (nI k_2))) x1)) = 0 then nI k_2 else (mX8_leastIllKeptFrom_l2 v_home_rooms v_home_doors v_home_doorSides v_home_now x1 n_2 (k_2 + 1))) = (mX8_leastIllKeptFrom v_home_rooms v_home_doors v_home_doorSides v_home_now x1) := hm
      refine lv_iload_n hx hb dX8_leastIllKeptFrom_2 rfl (lv_at hl 0 rfl) ?_
      refine lv_bipush (v := (9 : Int32)) hx hb dX8_leastIllKeptFrom_3 (by decide) ?_
      refine lv_icmp_gt (tgt := 29) hx hb dX8_leastIllKeptFrom_5 (by decide) (fun c_2 => ?_) (fun c_2 => ?_)
      · exact absurd c_2 (nI_nlt (a := 9) (by omega) (by omega))
      · skip
        refine lv_aload_n hx hb dX8_leastIllKeptFrom_8 rfl (lv_at hl 1 rfl) ?_
        refine lv_iconst (v := (0 : Int32)) hx hb dX8_leastIllKeptFrom_9 (by decide) ?_
        refine lv_iload_n hx hb dX8_leastIllKeptFrom_10 rfl (lv_at hl 0 rfl) ?_
        refine pv_call (v := (mX8_partOf v_home_rooms v_home_doors v_home_doorSides v_home_now ((0 : Int32)) (nI k_2))) (va_runV (As := [.int ((0 : Int32)), .int (nI k_2)]) (rest := []) ⟨hx, hb, hml, hown, ht⟩ (kX8_partOf l dC dI cA cZ a_this a_this_home a_this_home_rainfall a_this_home_doorA a_this_home_doorB a_this_home_doorSides a_this_home_doorOpen a_this_home_now a_this_home_doorSides_cells a_this_home_now_row a_this_home_now_row_cells v_home_rooms v_home_rains v_home_doors v_home_persons v_home_doorSides v_home_now ((0 : Int32)) (nI k_2)) (cwV 2 ht (gi_V (C := RX8) w_2_222 w_2_223 w_2_224 w_1_6 (gi_code w_2_225)) rfl rfl rfl ⟨rfl, h_X8_partOf⟩ ⟨Nat.le_of_ble_eq_true rfl, Nat.le_of_ble_eq_true rfl⟩) ⟨pp_blind, va_recv hK.1 hP (ci := 8) (q0 := 0) rfl rfl, pp_use hP hK⟩ rfl rfl hl.1 rfl (lv_room (Nat.le_of_ble_eq_true rfl)) dX8_leastIllKeptFrom_11 ⟨Nat.zero_le _, Nat.zero_le _⟩) ?_
        refine lv_iload_n hx hb dX8_leastIllKeptFrom_14 rfl (lv_at hl 2 rfl) ?_
        refine pv_call (v := (mX9_inSet ((mX8_partOf v_home_rooms v_home_doors v_home_doorSides v_home_now ((0 : Int32)) (nI k_2))) x1)) (va_runSN (As := [.int ((mX8_partOf v_home_rooms v_home_doors v_home_doorSides v_home_now ((0 : Int32)) (nI k_2))), .int x1]) (rest := []) ⟨hx, hb, hml, hown, ht⟩ (kX9_inSet l dC dI cA cZ ((mX8_partOf v_home_rooms v_home_doors v_home_doorSides v_home_now ((0 : Int32)) (nI k_2))) x1) ⟨va_cnB 2 ht (gi_code w_3_8) rfl rfl rfl (hK.2 _ nwi_13) (ht _ w_1_1) h_X9_inSet ⟨Nat.le_of_ble_eq_true rfl, Nat.le_of_ble_eq_true rfl⟩, ht _ w_3_7, trivial⟩ ⟨pp_blind, pp_use (ws := []) (fun _ _ h => by cases h) hK⟩ rfl rfl hl.1 rfl (lv_room (Nat.le_of_ble_eq_true rfl)) dX8_leastIllKeptFrom_15 ⟨Nat.zero_le _, Nat.zero_le _⟩) ?_
        refine lv_if_ne (tgt := 23) hx hb dX8_leastIllKeptFrom_18 (by decide) (fun c_3 => ?_) (fun c_3 => ?_)
        · have hm := (if_neg c_3).symm.trans hm
          refine lv_iinc (v := nI (k_2 + 1)) (lv' := [(2, .int (nI (k_2 + 1))), (0, .ref a_this), (1, .int x1)]) hx hb dX8_leastIllKeptFrom_23 hl (k := 0) rfl (nI_1 _) (by decide) rfl (fun ls hl => ?_)
          refine lv_goto (tgt := 2) hx hb dX8_leastIllKeptFrom_26 (by decide) ?_
          exact ih (k_2 + 1) (by omega) hm ls (lv_sub hl [0, 1, 2] rfl)
        · have hm := (if_pos c_3).symm.trans hm
          refine lv_iload_n hx hb dX8_leastIllKeptFrom_21 rfl (lv_at hl 0 rfl) ?_
          exact W.iret (v := nI k_2) hx hb hr (fun t ht9 _ => ⟨_, rfl, hm, ht9⟩) (fun q hq => absurd hq List.not_mem_nil) dX8_leastIllKeptFrom_22
  exact L_2 10 0 (Nat.zero_add _) hm ls (lv_sub hl [0, 1, 2] rfl)
theorem dX8_hoursUntilGone_0 : decode cX8_hoursUntilGone 0 = .ok (.aload_n 0, 1) := by decide +kernel
theorem dX8_hoursUntilGone_1 : decode cX8_hoursUntilGone 1 = .ok (.getfield 9, 3) := by decide +kernel
theorem dX8_hoursUntilGone_4 : decode cX8_hoursUntilGone 4 = .ok (.getfield 51, 3) := by decide +kernel
theorem dX8_hoursUntilGone_7 : decode cX8_hoursUntilGone 7 = .ok (.iload_n 1, 1) := by decide +kernel
theorem dX8_hoursUntilGone_8 : decode cX8_hoursUntilGone 8 = .ok (.invokevirtual 85, 3) := by decide +kernel
theorem dX8_hoursUntilGone_11 : decode cX8_hoursUntilGone 11 = .ok (.istore_n 2, 1) := by decide +kernel
theorem dX8_hoursUntilGone_12 : decode cX8_hoursUntilGone 12 = .ok (.iconst 0, 1) := by decide +kernel
theorem dX8_hoursUntilGone_13 : decode cX8_hoursUntilGone 13 = .ok (.istore_n 3, 1) := by decide +kernel
theorem dX8_hoursUntilGone_14 : decode cX8_hoursUntilGone 14 = .ok (.iload_n 3, 1) := by decide +kernel
theorem dX8_hoursUntilGone_15 : decode cX8_hoursUntilGone 15 = .ok (.bipush 99, 2) := by decide +kernel
theorem dX8_hoursUntilGone_17 : decode cX8_hoursUntilGone 17 = .ok (.if_icmp .gt 26, 3) := by decide +kernel
theorem dX8_hoursUntilGone_20 : decode cX8_hoursUntilGone 20 = .ok (.iload_n 2, 1) := by decide +kernel
theorem dX8_hoursUntilGone_21 : decode cX8_hoursUntilGone 21 = .ok (.ifCond .gt 5, 3) := by decide +kernel
theorem dX8_hoursUntilGone_24 : decode cX8_hoursUntilGone 24 = .ok (.iload_n 3, 1) := by decide +kernel
theorem dX8_hoursUntilGone_25 : decode cX8_hoursUntilGone 25 = .ok (.ireturn, 1) := by decide +kernel
theorem dX8_hoursUntilGone_26 : decode cX8_hoursUntilGone 26 = .ok (.iload_n 2, 1) := by decide +kernel
theorem dX8_hoursUntilGone_27 : decode cX8_hoursUntilGone 27 = .ok (.aload_n 0, 1) := by decide +kernel
theorem dX8_hoursUntilGone_28 : decode cX8_hoursUntilGone 28 = .ok (.getfield 9, 3) := by decide +kernel
theorem dX8_hoursUntilGone_31 : decode cX8_hoursUntilGone 31 = .ok (.iload_n 3, 1) := by decide +kernel
theorem dX8_hoursUntilGone_32 : decode cX8_hoursUntilGone 32 = .ok (.invokevirtual 94, 3) := by decide +kernel
theorem dX8_hoursUntilGone_35 : decode cX8_hoursUntilGone 35 = .ok (.isub, 1) := by decide +kernel
theorem dX8_hoursUntilGone_36 : decode cX8_hoursUntilGone 36 = .ok (.istore_n 2, 1) := by decide +kernel
theorem dX8_hoursUntilGone_37 : decode cX8_hoursUntilGone 37 = .ok (.iinc 3 1, 3) := by decide +kernel
theorem dX8_hoursUntilGone_40 : decode cX8_hoursUntilGone 40 = .ok (.goto (-26), 3) := by decide +kernel
theorem dX8_hoursUntilGone_43 : decode cX8_hoursUntilGone 43 = .ok (.iconst (-1), 1) := by decide +kernel
theorem dX8_hoursUntilGone_44 : decode cX8_hoursUntilGone 44 = .ok (.ireturn, 1) := by decide +kernel
theorem h_X8_hoursUntilGone : yX8_hoursUntilGone.cls ≠ "java/lang/invoke/MethodHandle" ∧ yX8_hoursUntilGone.cls ≠ "java/lang/invoke/VarHandle" ∧ (parseMethodDescriptor yX8_hoursUntilGone.desc).map (fun d => d.parameters.length) = some 1 := by decide +kernel
def mX8_hoursUntilGone_l14 (v_home_rains : Int32) (v_home_rainfall : Nat → Int32) (v_home_now : Nat → Int32) : Nat → Nat → Int32 → Int32
  | 0, k_14, y2_14 => (-1 : Int32)
  | n_14 + 1, k_14, y2_14 => (if 0 < y2_14 then (mX8_hoursUntilGone_l14 v_home_rains v_home_rainfall v_home_now n_14 (k_14 + 1) (y2_14 - ((mX1_rainBehind v_home_rains v_home_rainfall v_home_now (nI k_14))))) else nI k_14)
def mX8_hoursUntilGone (v_home_rains : Int32) (v_home_rainfall : Nat → Int32) (v_home_now : Nat → Int32) (x1 : Int32) : Int32 := (mX8_hoursUntilGone_l14 v_home_rains v_home_rainfall v_home_now 100 0 ((mX7_spoons v_home_now x1)))
set_option maxHeartbeats 4000000 in
set_option maxRecDepth 100000 in
theorem kX8_hoursUntilGone (l : Launch) (dC : Nat → ClassId) (dI : Nat → Nat → Nat) (cA cZ : ClassId) (a_this a_this_home a_this_home_rainfall a_this_home_doorA a_this_home_doorB a_this_home_doorSides a_this_home_doorOpen a_this_home_now a_this_home_now_row a_this_home_rainfall_cells a_this_home_now_row_cells : Nat) (v_home_rooms : Int32) (v_home_rains : Int32) (v_home_doors : Int32) (v_home_persons : Int32) (v_home_rainfall : Nat → Int32) (v_home_now : Nat → Int32) (x1 : Int32) : Met l yX8_hoursUntilGone (Cond.code yX8_hoursUntilGone cX8_hoursUntilGone 4 (some .int) :: wt) ({ frames := 3, cells := 0, slots := 0, locals := 62 } : Room) (va_Pc [.ref a_this, .int x1] (PreP (dC, dI) [(cA, .int), (cZ, .boolean)] [(a_this, .inr (8, [.ref a_this_home])), (a_this_home, .inr (1, [.ref a_this_home_rainfall, .ref a_this_home_doorA, .ref a_this_home_doorB, .ref a_this_home_doorSides, .ref a_this_home_doorOpen, .ref a_this_home_now, .int v_home_rooms, .int v_home_rains, .int v_home_doors, .int v_home_persons])), (a_this_home_now, .inr (7, [.ref a_this_home_now_row])), (a_this_home_rainfall, .inr (6, [.ref a_this_home_rainfall_cells])), (a_this_home_now_row, .inr (6, [.ref a_this_home_now_row_cells])), (a_this_home_rainfall_cells, .inl (cA, 12, .inl v_home_rainfall)), (a_this_home_now_row_cells, .inl (cA, 35, .inl v_home_now))])) (vp_Si (fun r => r = (mX8_hoursUntilGone v_home_rains v_home_rainfall v_home_now x1))) 0 0 (fun _ => False) := by
  refine Met.ofW (cc := cX8_hoursUntilGone) (maxL := 4) (ret := (some .int)) (by decide) rfl ?_
  intro p e s m args below meth c s₁ B hml hv
  obtain ⟨ha, hP, hK⟩ := hv
  have hx := B.exec
  have hb := B.bytes
  have hr := B.returns
  have ht : ∀ w ∈ wt, w.before args s = true := fun w h => atoms_spec (ws := (Cond.code yX8_hoursUntilGone cX8_hoursUntilGone 4 (some .int) :: wt)) B.pre w (List.mem_cons_of_mem _ h)
  have hown : s.vm.findClass RX8 = some m.cls := findClass_of_methodNamed B.named
  have hlocks := B.notSynchronized
  have hl := lv_entry ([.ref a_this, .int x1]) (n := 4) (Nat.le_of_ble_eq_true rfl)
  rw [show entryFrame m args 4 = _ from (congrArg (fun a => entryFrame m a 4) ha).trans (lg_entry_eq m [.ref a_this, .int x1] 4)]
  generalize (lg_sl ([.ref a_this, .int x1]) ++ List.replicate (4 - (lg_sl ([.ref a_this, .int x1])).length) Slot.unset).toArray = ls at hl ⊢
  have hl : lv_has ls 4 [(0, .ref a_this), (1, .int x1)] := hl
  have hm : (mX8_hoursUntilGone v_home_rains v_home_rainfall v_home_now x1) = (mX8_hoursUntilGone v_home_rains v_home_rainfall v_home_now x1) := rfl
  refine lv_aload_n hx hb dX8_hoursUntilGone_0 rfl (lv_at hl 0 rfl) ?_
  refine va_get (D := (dC, dI)) (ci := 8) (v := .ref a_this_home) (C := RX8) (T := TX8) (N := 1) hx hb ht iX8 hown hK.1 hP 0 rfl rfl 0 (by decide) (ht _ w_1_113) (fun _ h9 => h9) rfl dX8_hoursUntilGone_1 ?_
  refine va_get (D := (dC, dI)) (ci := 1) (v := .ref a_this_home_now) (C := RX1) (T := TX1) (N := 10) hx hb ht iX1 hown hK.1 hP 1 rfl rfl 5 (by decide) (ht _ w_1_68) (fun _ h9 => h9) rfl dX8_hoursUntilGone_4 ?_
  refine lv_iload_n hx hb dX8_hoursUntilGone_7 rfl (lv_at hl 1 rfl) ?_
  refine pv_call (v := (mX7_spoons v_home_now x1)) (va_runV (As := [.int x1]) (rest := []) ⟨hx, hb, hml, hown, ht⟩ (kX7_spoons l dC dI cA cZ a_this_home_now a_this_home_now_row a_this_home_now_row_cells v_home_now x1) (cwV 1 ht (gi_V (C := RX7) w_3_236 w_2_231 w_2_232 w_1_5 (gi_code w_2_233)) rfl rfl rfl ⟨rfl, h_X7_spoons⟩ ⟨Nat.le_of_ble_eq_true rfl, Nat.le_of_ble_eq_true rfl⟩) ⟨pp_blind, va_recv hK.1 hP (ci := 7) (q0 := 2) rfl rfl, pp_use (pc_sub (wc := [(a_this_home_now, .inr (7, [.ref a_this_home_now_row])), (a_this_home_now_row, .inr (6, [.ref a_this_home_now_row_cells])), (a_this_home_now_row_cells, .inl (cA, 35, .inl v_home_now))]) hP [2, 4, 6] rfl) hK⟩ rfl rfl hl.1 rfl (lv_room (Nat.le_of_ble_eq_true rfl)) dX8_hoursUntilGone_8 ⟨Nat.zero_le _, Nat.zero_le _⟩) ?_
  refine lv_istore_n (lv' := [(2, .int ((mX7_spoons v_home_now x1))), (0, .ref a_this), (1, .int x1)]) hx hb dX8_hoursUntilGone_11 rfl hl (by decide) rfl (fun ls hl => ?_)
  refine lv_iconst (v := (0 : Int32)) hx hb dX8_hoursUntilGone_12 (by decide) ?_
  refine lv_istore_n (lv' := [(3, .int ((0 : Int32))), (2, .int ((mX7_spoons v_home_now x1))), (0, .ref a_this), (1, .int x1)]) hx hb dX8_hoursUntilGone_13 rfl hl (by decide) rfl (fun ls hl => ?_)
  have L_14 : ∀ (n_14 k_14 : Nat), k_14 + n_14 = 100 → ∀ (y2_14 : Int32),  mX8_hoursUntilGone_l14 v_home_rains v_home_rainfall v_home_now n_14 k_14 y2_14 = (mX8_hoursUntilGone v_home_rains v_home_rainfall v_home_now x1) → ∀ (ls : Array Slot), lv_has ls 4 [(3, .int (nI k_14)), (2, .int y2_14), (0, .ref a_this), (1, .int x1)] → W p l e (headSpec (Cond.code yX8_hoursUntilGone cX8_hoursUntilGone 4 (some .int) :: wt) ({ frames := 3, cells := 0, slots := 0, locals := 62 } : Room)).room s m args below meth c s.heap [] 0 0 (MQ below (vp_Si (fun r => r = (mX8_hoursUntilGone v_home_rains v_home_rainfall v_home_now x1))) args s 0 0 (fun _ => False)) (F0 m 14 ls []) := by
    intro n_14
    induction n_14 with
    | zero =>
      intro k_14 hk y2_14 hm ls hl
      have hm : (-1 : Int32) = (mX8_hoursUntilGone v_home_rains v_home_rainfall v_home_now x1) := hm
      refine lv_iload_n hx hb dX8_hoursUntilGone_14 rfl (lv_at hl 0 rfl) ?_
      refine lv_bipush (v := (99 : Int32)) hx hb dX8_hoursUntilGone_15 (by decide) ?_
      refine lv_icmp_gt (tgt := 43) hx hb dX8_hoursUntilGone_17 (by decide) (fun c_1 => ?_) (fun c_1 => ?_)
      · skip
        refine lv_iconst (v := (-1 : Int32)) hx hb dX8_hoursUntilGone_43 (by decide) ?_
        exact W.iret (v := (-1 : Int32)) hx hb hr (fun t ht9 _ => ⟨_, rfl, hm, ht9⟩) (fun q hq => absurd hq List.not_mem_nil) dX8_hoursUntilGone_44
      · exact absurd (nI_lt (a := 99) (by omega) (by omega)) c_1
    | succ n_14 ih =>
      intro k_14 hk y2_14 hm ls hl
      have hm : (if 0 < y2_14 then (mX8_hoursUntilGone_l14 v_home_rains v_home_rainfall v_home_now n_14 (k_14 + 1) (y2_14 - ((mX1_rainBehind v_home_rains v_home_rainfall v_home_now (nI k_14))))) else nI k_14) = (mX8_hoursUntilGone v_home_rains v_home_rainfall v_home_now x1) := hm
      refine lv_iload_n hx hb dX8_hoursUntilGone_14 rfl (lv_at hl 0 rfl) ?_
      refine lv_bipush (v := (99 : Int32)) hx hb dX8_hoursUntilGone_15 (by decide) ?_
      refine lv_icmp_gt (tgt := 43) hx hb dX8_hoursUntilGone_17 (by decide) (fun c_2 => ?_) (fun c_2 => ?_)
      · exact absurd c_2 (nI_nlt (a := 99) (by omega) (by omega))
      · skip
        refine lv_iload_n hx hb dX8_hoursUntilGone_20 rfl (lv_at hl 1 rfl) ?_
        refine lv_if_gt (tgt := 26) hx hb dX8_hoursUntilGone_21 (by decide) (fun c_3 => ?_) (fun c_3 => ?_)
        · have hm := (if_pos c_3).symm.trans hm
          refine lv_iload_n hx hb dX8_hoursUntilGone_26 rfl (lv_at hl 1 rfl) ?_
          refine lv_aload_n hx hb dX8_hoursUntilGone_27 rfl (lv_at hl 2 rfl) ?_
          refine va_get (D := (dC, dI)) (ci := 8) (v := .ref a_this_home) (C := RX8) (T := TX8) (N := 1) hx hb ht iX8 hown hK.1 hP 0 rfl rfl 0 (by decide) (ht _ w_1_113) (fun _ h9 => h9) rfl dX8_hoursUntilGone_28 ?_
          refine lv_iload_n hx hb dX8_hoursUntilGone_31 rfl (lv_at hl 0 rfl) ?_
          refine pv_call (v := (mX1_rainBehind v_home_rains v_home_rainfall v_home_now (nI k_14))) (va_runV (As := [.int (nI k_14)]) (rest := [.int y2_14]) ⟨hx, hb, hml, hown, ht⟩ (kX1_rainBehind l dC dI cA cZ a_this_home a_this_home_rainfall a_this_home_doorA a_this_home_doorB a_this_home_doorSides a_this_home_doorOpen a_this_home_now a_this_home_now_row a_this_home_rainfall_cells a_this_home_now_row_cells v_home_rooms v_home_rains v_home_doors v_home_persons v_home_rainfall v_home_now (nI k_14)) (cwV 1 ht (gi_V (C := RX1) w_4_33 w_3_69 w_3_70 w_1_2 (gi_code w_3_71)) rfl rfl rfl ⟨rfl, h_X1_rainBehind⟩ ⟨Nat.le_of_ble_eq_true rfl, Nat.le_of_ble_eq_true rfl⟩) ⟨pp_blind, va_recv hK.1 hP (ci := 1) (q0 := 1) rfl rfl, pp_use (pc_sub (wc := [(a_this_home, .inr (1, [.ref a_this_home_rainfall, .ref a_this_home_doorA, .ref a_this_home_doorB, .ref a_this_home_doorSides, .ref a_this_home_doorOpen, .ref a_this_home_now, .int v_home_rooms, .int v_home_rains, .int v_home_doors, .int v_home_persons])), (a_this_home_now, .inr (7, [.ref a_this_home_now_row])), (a_this_home_rainfall, .inr (6, [.ref a_this_home_rainfall_cells])), (a_this_home_now_row, .inr (6, [.ref a_this_home_now_row_cells])), (a_this_home_rainfall_cells, .inl (cA, 12, .inl v_home_rainfall)), (a_this_home_now_row_cells, .inl (cA, 35, .inl v_home_now))]) hP [1, 2, 3, 4, 5, 6] rfl) hK⟩ rfl rfl hl.1 rfl (lv_room (Nat.le_of_ble_eq_true rfl)) dX8_hoursUntilGone_32 ⟨Nat.zero_le _, Nat.zero_le _⟩) ?_
          refine lv_isub hx hb dX8_hoursUntilGone_35 ?_
          refine lv_istore_n (lv' := [(2, .int (y2_14 - ((mX1_rainBehind v_home_rains v_home_rainfall v_home_now (nI k_14))))), (3, .int (nI k_14)), (0, .ref a_this), (1, .int x1)]) hx hb dX8_hoursUntilGone_36 rfl hl (by decide) rfl (fun ls hl => ?_)
          refine lv_iinc (v := nI (k_14 + 1)) (lv' := [(3, .int (nI (k_14 + 1))), (2, .int (y2_14 - ((mX1_rainBehind v_home_rains v_home_rainfall v_home_now (nI k_14))))), (0, .ref a_this), (1, .int x1)]) hx hb dX8_hoursUntilGone_37 hl (k := 1) rfl (nI_1 _) (by decide) rfl (fun ls hl => ?_)
          refine lv_goto (tgt := 14) hx hb dX8_hoursUntilGone_40 (by decide) ?_
          exact ih (k_14 + 1) (by omega) (y2_14 - ((mX1_rainBehind v_home_rains v_home_rainfall v_home_now (nI k_14)))) hm ls (lv_sub hl [0, 1, 2, 3] rfl)
        · have hm := (if_neg c_3).symm.trans hm
          refine lv_iload_n hx hb dX8_hoursUntilGone_24 rfl (lv_at hl 0 rfl) ?_
          exact W.iret (v := nI k_14) hx hb hr (fun t ht9 _ => ⟨_, rfl, hm, ht9⟩) (fun q hq => absurd hq List.not_mem_nil) dX8_hoursUntilGone_25
  exact L_14 100 0 (Nat.zero_add _) ((mX7_spoons v_home_now x1)) hm ls (lv_sub hl [0, 1, 2, 3] rfl)
theorem dX8_spoonsToMend_0 : decode cX8_spoonsToMend 0 = .ok (.iconst 0, 1) := by decide +kernel
theorem dX8_spoonsToMend_1 : decode cX8_spoonsToMend 1 = .ok (.istore_n 2, 1) := by decide +kernel
theorem dX8_spoonsToMend_2 : decode cX8_spoonsToMend 2 = .ok (.iconst 0, 1) := by decide +kernel
theorem dX8_spoonsToMend_3 : decode cX8_spoonsToMend 3 = .ok (.istore_n 3, 1) := by decide +kernel
theorem dX8_spoonsToMend_4 : decode cX8_spoonsToMend 4 = .ok (.iload_n 3, 1) := by decide +kernel
theorem dX8_spoonsToMend_5 : decode cX8_spoonsToMend 5 = .ok (.iload_n 1, 1) := by decide +kernel
theorem dX8_spoonsToMend_6 : decode cX8_spoonsToMend 6 = .ok (.if_icmp .ge 72, 3) := by decide +kernel
theorem dX8_spoonsToMend_9 : decode cX8_spoonsToMend 9 = .ok (.aload_n 0, 1) := by decide +kernel
theorem dX8_spoonsToMend_10 : decode cX8_spoonsToMend 10 = .ok (.getfield 9, 3) := by decide +kernel
theorem dX8_spoonsToMend_13 : decode cX8_spoonsToMend 13 = .ok (.iload_n 3, 1) := by decide +kernel
theorem dX8_spoonsToMend_14 : decode cX8_spoonsToMend 14 = .ok (.invokevirtual 94, 3) := by decide +kernel
theorem dX8_spoonsToMend_17 : decode cX8_spoonsToMend 17 = .ok (.istore 4, 2) := by decide +kernel
theorem dX8_spoonsToMend_19 : decode cX8_spoonsToMend 19 = .ok (.iconst 0, 1) := by decide +kernel
theorem dX8_spoonsToMend_20 : decode cX8_spoonsToMend 20 = .ok (.istore 5, 2) := by decide +kernel
theorem dX8_spoonsToMend_22 : decode cX8_spoonsToMend 22 = .ok (.iload 5, 2) := by decide +kernel
theorem dX8_spoonsToMend_24 : decode cX8_spoonsToMend 24 = .ok (.aload_n 0, 1) := by decide +kernel
theorem dX8_spoonsToMend_25 : decode cX8_spoonsToMend 25 = .ok (.getfield 9, 3) := by decide +kernel
theorem dX8_spoonsToMend_28 : decode cX8_spoonsToMend 28 = .ok (.getfield 15, 3) := by decide +kernel
theorem dX8_spoonsToMend_31 : decode cX8_spoonsToMend 31 = .ok (.if_icmp .ge 41, 3) := by decide +kernel
theorem dX8_spoonsToMend_34 : decode cX8_spoonsToMend 34 = .ok (.aload_n 0, 1) := by decide +kernel
theorem dX8_spoonsToMend_35 : decode cX8_spoonsToMend 35 = .ok (.getfield 9, 3) := by decide +kernel
theorem dX8_spoonsToMend_38 : decode cX8_spoonsToMend 38 = .ok (.iload 5, 2) := by decide +kernel
theorem dX8_spoonsToMend_40 : decode cX8_spoonsToMend 40 = .ok (.invokevirtual 97, 3) := by decide +kernel
theorem dX8_spoonsToMend_43 : decode cX8_spoonsToMend 43 = .ok (.ifCond .eq 23, 3) := by decide +kernel
theorem dX8_spoonsToMend_46 : decode cX8_spoonsToMend 46 = .ok (.iload_n 2, 1) := by decide +kernel
theorem dX8_spoonsToMend_47 : decode cX8_spoonsToMend 47 = .ok (.iload 4, 2) := by decide +kernel
theorem dX8_spoonsToMend_49 : decode cX8_spoonsToMend 49 = .ok (.aload_n 0, 1) := by decide +kernel
theorem dX8_spoonsToMend_50 : decode cX8_spoonsToMend 50 = .ok (.getfield 9, 3) := by decide +kernel
theorem dX8_spoonsToMend_53 : decode cX8_spoonsToMend 53 = .ok (.getfield 51, 3) := by decide +kernel
theorem dX8_spoonsToMend_56 : decode cX8_spoonsToMend 56 = .ok (.iload 5, 2) := by decide +kernel
theorem dX8_spoonsToMend_58 : decode cX8_spoonsToMend 58 = .ok (.invokevirtual 85, 3) := by decide +kernel
theorem dX8_spoonsToMend_61 : decode cX8_spoonsToMend 61 = .ok (.invokestatic 101, 3) := by decide +kernel
theorem dX8_spoonsToMend_64 : decode cX8_spoonsToMend 64 = .ok (.iadd, 1) := by decide +kernel
theorem dX8_spoonsToMend_65 : decode cX8_spoonsToMend 65 = .ok (.istore_n 2, 1) := by decide +kernel
theorem dX8_spoonsToMend_66 : decode cX8_spoonsToMend 66 = .ok (.iinc 5 1, 3) := by decide +kernel
theorem dX8_spoonsToMend_69 : decode cX8_spoonsToMend 69 = .ok (.goto (-47), 3) := by decide +kernel
theorem dX8_spoonsToMend_72 : decode cX8_spoonsToMend 72 = .ok (.iinc 3 1, 3) := by decide +kernel
theorem dX8_spoonsToMend_75 : decode cX8_spoonsToMend 75 = .ok (.goto (-71), 3) := by decide +kernel
theorem dX8_spoonsToMend_78 : decode cX8_spoonsToMend 78 = .ok (.iload_n 2, 1) := by decide +kernel
theorem dX8_spoonsToMend_79 : decode cX8_spoonsToMend 79 = .ok (.ireturn, 1) := by decide +kernel
theorem h_X8_spoonsToMend : yX8_spoonsToMend.cls ≠ "java/lang/invoke/MethodHandle" ∧ yX8_spoonsToMend.cls ≠ "java/lang/invoke/VarHandle" ∧ (parseMethodDescriptor yX8_spoonsToMend.desc).map (fun d => d.parameters.length) = some 1 := by decide +kernel
def mX8_spoonsToMend_l22 (v_home_rains : Int32) (v_home_doorOpen : Nat → Int32) (v_home_rainfall : Nat → Int32) (v_home_now : Nat → Int32) (k_4 : Nat) (k_22 : Nat) (y2_22 : Int32) : Int32 := (if ((mX1_isOpen v_home_doorOpen (nI k_22))) = 0 then y2_22 else y2_22 + ((mJ9_min_7cf53 ((mX1_rainBehind v_home_rains v_home_rainfall v_home_now (nI k_4))) ((mX7_spoons v_home_now (nI k_22))))))
def mX8_spoonsToMend_l4 (v_home_rains : Int32) (v_home_doors : Int32) (v_home_doorOpen : Nat → Int32) (v_home_rainfall : Nat → Int32) (v_home_now : Nat → Int32) (k_4 : Nat) (y2_4 : Int32) : Int32 := (iter (mX8_spoonsToMend_l22 v_home_rains v_home_doorOpen v_home_rainfall v_home_now k_4) v_home_doors.toNatClampNeg y2_4)
def mX8_spoonsToMend (v_home_rains : Int32) (v_home_doors : Int32) (v_home_doorOpen : Nat → Int32) (v_home_rainfall : Nat → Int32) (v_home_now : Nat → Int32) (x1 : Int32) : Int32 := (iter (mX8_spoonsToMend_l4 v_home_rains v_home_doors v_home_doorOpen v_home_rainfall v_home_now) x1.toNatClampNeg ((0 : Int32)))
set_option maxHeartbeats 4000000 in
set_option maxRecDepth 100000 in
theorem kX8_spoonsToMend (l : Launch) (dC : Nat → ClassId) (dI : Nat → Nat → Nat) (cA cZ : ClassId) (a_this a_this_home a_this_home_rainfall a_this_home_doorA a_this_home_doorB a_this_home_doorSides a_this_home_doorOpen a_this_home_now a_this_home_doorOpen_cells a_this_home_now_row a_this_home_rainfall_cells a_this_home_now_row_cells : Nat) (v_home_rooms : Int32) (v_home_rains : Int32) (v_home_doors : Int32) (v_home_persons : Int32) (v_home_doorOpen : Nat → Int32) (v_home_rainfall : Nat → Int32) (v_home_now : Nat → Int32) (x1 : Int32) : Met l yX8_spoonsToMend (Cond.code yX8_spoonsToMend cX8_spoonsToMend 6 (some .int) :: wt) ({ frames := 3, cells := 0, slots := 0, locals := 62 } : Room) (va_Pc [.ref a_this, .int x1] (PreP (dC, dI) [(cA, .int), (cZ, .boolean)] [(a_this, .inr (8, [.ref a_this_home])), (a_this_home, .inr (1, [.ref a_this_home_rainfall, .ref a_this_home_doorA, .ref a_this_home_doorB, .ref a_this_home_doorSides, .ref a_this_home_doorOpen, .ref a_this_home_now, .int v_home_rooms, .int v_home_rains, .int v_home_doors, .int v_home_persons])), (a_this_home_doorOpen, .inr (6, [.ref a_this_home_doorOpen_cells])), (a_this_home_now, .inr (7, [.ref a_this_home_now_row])), (a_this_home_rainfall, .inr (6, [.ref a_this_home_rainfall_cells])), (a_this_home_doorOpen_cells, .inl (cA, 10, .inl v_home_doorOpen)), (a_this_home_now_row, .inr (6, [.ref a_this_home_now_row_cells])), (a_this_home_rainfall_cells, .inl (cA, 12, .inl v_home_rainfall)), (a_this_home_now_row_cells, .inl (cA, 35, .inl v_home_now))])) (vp_Si (fun r => r = (mX8_spoonsToMend v_home_rains v_home_doors v_home_doorOpen v_home_rainfall v_home_now x1))) 0 0 (fun _ => False) := by
  refine Met.ofW (cc := cX8_spoonsToMend) (maxL := 6) (ret := (some .int)) (by decide) rfl ?_
  intro p e s m args below meth c s₁ B hml hv
  obtain ⟨ha, hP, hK⟩ := hv
  have hx := B.exec
  have hb := B.bytes
  have hr := B.returns
  have ht : ∀ w ∈ wt, w.before args s = true := fun w h => atoms_spec (ws := (Cond.code yX8_spoonsToMend cX8_spoonsToMend 6 (some .int) :: wt)) B.pre w (List.mem_cons_of_mem _ h)
  have hown : s.vm.findClass RX8 = some m.cls := findClass_of_methodNamed B.named
  have hlocks := B.notSynchronized
  have hl := lv_entry ([.ref a_this, .int x1]) (n := 6) (Nat.le_of_ble_eq_true rfl)
  rw [show entryFrame m args 6 = _ from (congrArg (fun a => entryFrame m a 6) ha).trans (lg_entry_eq m [.ref a_this, .int x1] 6)]
  generalize (lg_sl ([.ref a_this, .int x1]) ++ List.replicate (6 - (lg_sl ([.ref a_this, .int x1])).length) Slot.unset).toArray = ls at hl ⊢
  have hl : lv_has ls 6 [(0, .ref a_this), (1, .int x1)] := hl
  have hm : (mX8_spoonsToMend v_home_rains v_home_doors v_home_doorOpen v_home_rainfall v_home_now x1) = (mX8_spoonsToMend v_home_rains v_home_doors v_home_doorOpen v_home_rainfall v_home_now x1) := rfl
  refine lv_iconst (v := (0 : Int32)) hx hb dX8_spoonsToMend_0 (by decide) ?_
  refine lv_istore_n (lv' := [(2, .int ((0 : Int32))), (0, .ref a_this), (1, .int x1)]) hx hb dX8_spoonsToMend_1 rfl hl (by decide) rfl (fun ls hl => ?_)
  refine lv_iconst (v := (0 : Int32)) hx hb dX8_spoonsToMend_2 (by decide) ?_
  refine lv_istore_n (lv' := [(3, .int ((0 : Int32))), (2, .int ((0 : Int32))), (0, .ref a_this), (1, .int x1)]) hx hb dX8_spoonsToMend_3 rfl hl (by decide) rfl (fun ls hl => ?_)
  have L_4 : ∀ (n_4 k_4 : Nat), k_4 + n_4 = x1.toNatClampNeg → ∀ (y2_4 : Int32), y2_4 = (iter (mX8_spoonsToMend_l4 v_home_rains v_home_doors v_home_doorOpen v_home_rainfall v_home_now) k_4 ((0 : Int32))) → ∀ (ls : Array Slot), lv_has ls 6 [(3, .int (nI k_4)), (2, .int y2_4), (0, .ref a_this), (1, .int x1)] → W p l e (headSpec (Cond.code yX8_spoonsToMend cX8_spoonsToMend 6 (some .int) :: wt) ({ frames := 3, cells := 0, slots := 0, locals := 62 } : Room)).room s m args below meth c s.heap [] 0 0 (MQ below (vp_Si (fun r => r = (mX8_spoonsToMend v_home_rains v_home_doors v_home_doorOpen v_home_rainfall v_home_now x1))) args s 0 0 (fun _ => False)) (F0 m 4 ls []) := by
    intro n_4
    induction n_4 with
    | zero =>
      intro k_4 hk y2_4 ex0_4 ls hl
      obtain rfl : x1.toNatClampNeg = k_4 := by omega
      subst ex0_4
      refine lv_iload_n hx hb dX8_spoonsToMend_4 rfl (lv_at hl 0 rfl) ?_
      refine lv_iload_n hx hb dX8_spoonsToMend_5 rfl (lv_at hl 3 rfl) ?_
      refine lv_icmp_ge (tgt := 78) hx hb dX8_spoonsToMend_6 (by decide) (fun c_5 => ?_) (fun c_5 => ?_)
      · skip
        refine lv_iload_n hx hb dX8_spoonsToMend_78 rfl (lv_at hl 1 rfl) ?_
        exact W.iret (v := (iter (mX8_spoonsToMend_l4 v_home_rains v_home_doors v_home_doorOpen v_home_rainfall v_home_now) x1.toNatClampNeg ((0 : Int32)))) hx hb hr (fun t ht9 _ => ⟨_, rfl, hm, ht9⟩) (fun q hq => absurd hq List.not_mem_nil) dX8_spoonsToMend_79
      · exact absurd (lpE (by omega) (by have := clampLt x1; omega)) c_5
    | succ n_4 ih =>
      intro k_4 hk y2_4 ex0_4 ls hl
      have hm : (mX8_spoonsToMend_l4 v_home_rains v_home_doors v_home_doorOpen v_home_rainfall v_home_now) k_4 y2_4 = (iter (mX8_spoonsToMend_l4 v_home_rains v_home_doors v_home_doorOpen v_home_rainfall v_home_now) (k_4 + 1) ((0 : Int32))) := by rw [ex0_4]; rfl
      refine lv_iload_n hx hb dX8_spoonsToMend_4 rfl (lv_at hl 0 rfl) ?_
      refine lv_iload_n hx hb dX8_spoonsToMend_5 rfl (lv_at hl 3 rfl) ?_
      refine lv_icmp_ge (tgt := 78) hx hb dX8_spoonsToMend_6 (by decide) (fun c_1 => ?_) (fun c_1 => ?_)
      · exact absurd c_1 (lpN (by omega))
      · skip
        refine lv_aload_n hx hb dX8_spoonsToMend_9 rfl (lv_at hl 2 rfl) ?_
        refine va_get (D := (dC, dI)) (ci := 8) (v := .ref a_this_home) (C := RX8) (T := TX8) (N := 1) hx hb ht iX8 hown hK.1 hP 0 rfl rfl 0 (by decide) (ht _ w_1_113) (fun _ h9 => h9) rfl dX8_spoonsToMend_10 ?_
        refine lv_iload_n hx hb dX8_spoonsToMend_13 rfl (lv_at hl 0 rfl) ?_
        refine pv_call (v := (mX1_rainBehind v_home_rains v_home_rainfall v_home_now (nI k_4))) (va_runV (As := [.int (nI k_4)]) (rest := []) ⟨hx, hb, hml, hown, ht⟩ (kX1_rainBehind l dC dI cA cZ a_this_home a_this_home_rainfall a_this_home_doorA a_this_home_doorB a_this_home_doorSides a_this_home_doorOpen a_this_home_now a_this_home_now_row a_this_home_rainfall_cells a_this_home_now_row_cells v_home_rooms v_home_rains v_home_doors v_home_persons v_home_rainfall v_home_now (nI k_4)) (cwV 1 ht (gi_V (C := RX1) w_4_33 w_3_69 w_3_70 w_1_2 (gi_code w_3_71)) rfl rfl rfl ⟨rfl, h_X1_rainBehind⟩ ⟨Nat.le_of_ble_eq_true rfl, Nat.le_of_ble_eq_true rfl⟩) ⟨pp_blind, va_recv hK.1 hP (ci := 1) (q0 := 1) rfl rfl, pp_use (pc_sub (wc := [(a_this_home, .inr (1, [.ref a_this_home_rainfall, .ref a_this_home_doorA, .ref a_this_home_doorB, .ref a_this_home_doorSides, .ref a_this_home_doorOpen, .ref a_this_home_now, .int v_home_rooms, .int v_home_rains, .int v_home_doors, .int v_home_persons])), (a_this_home_now, .inr (7, [.ref a_this_home_now_row])), (a_this_home_rainfall, .inr (6, [.ref a_this_home_rainfall_cells])), (a_this_home_now_row, .inr (6, [.ref a_this_home_now_row_cells])), (a_this_home_rainfall_cells, .inl (cA, 12, .inl v_home_rainfall)), (a_this_home_now_row_cells, .inl (cA, 35, .inl v_home_now))]) hP [1, 3, 4, 6, 7, 8] rfl) hK⟩ rfl rfl hl.1 rfl (lv_room (Nat.le_of_ble_eq_true rfl)) dX8_spoonsToMend_14 ⟨Nat.zero_le _, Nat.zero_le _⟩) ?_
        refine lv_istore (lv' := [(4, .int ((mX1_rainBehind v_home_rains v_home_rainfall v_home_now (nI k_4)))), (3, .int (nI k_4)), (2, .int y2_4), (0, .ref a_this), (1, .int x1)]) hx hb dX8_spoonsToMend_17 hl (by decide) rfl (fun ls hl => ?_)
        refine lv_iconst (v := (0 : Int32)) hx hb dX8_spoonsToMend_19 (by decide) ?_
        refine lv_istore (lv' := [(5, .int ((0 : Int32))), (4, .int ((mX1_rainBehind v_home_rains v_home_rainfall v_home_now (nI k_4)))), (3, .int (nI k_4)), (2, .int y2_4), (0, .ref a_this), (1, .int x1)]) hx hb dX8_spoonsToMend_20 hl (by decide) rfl (fun ls hl => ?_)
        have L_22 : ∀ (n_22 k_22 : Nat), k_22 + n_22 = v_home_doors.toNatClampNeg → ∀ (y2_22 : Int32), y2_22 = (iter (mX8_spoonsToMend_l22 v_home_rains v_home_doorOpen v_home_rainfall v_home_now k_4) k_22 y2_4) → ∀ (ls : Array Slot), lv_has ls 6 [(5, .int (nI k_22)), (4, .int ((mX1_rainBehind v_home_rains v_home_rainfall v_home_now (nI k_4)))), (3, .int (nI k_4)), (2, .int y2_22), (0, .ref a_this), (1, .int x1)] → W p l e (headSpec (Cond.code yX8_spoonsToMend cX8_spoonsToMend 6 (some .int) :: wt) ({ frames := 3, cells := 0, slots := 0, locals := 62 } : Room)).room s m args below meth c s.heap [] 0 0 (MQ below (vp_Si (fun r => r = (mX8_spoonsToMend v_home_rains v_home_doors v_home_doorOpen v_home_rainfall v_home_now x1))) args s 0 0 (fun _ => False)) (F0 m 22 ls []) := by
          intro n_22
          induction n_22 with
          | zero =>
            intro k_22 hk y2_22 ex0_22 ls hl
            obtain rfl : v_home_doors.toNatClampNeg = k_22 := by omega
            subst ex0_22
            refine lv_iload hx hb dX8_spoonsToMend_22 (lv_at hl 0 rfl) ?_
            refine lv_aload_n hx hb dX8_spoonsToMend_24 rfl (lv_at hl 4 rfl) ?_
            refine va_get (D := (dC, dI)) (ci := 8) (v := .ref a_this_home) (C := RX8) (T := TX8) (N := 1) hx hb ht iX8 hown hK.1 hP 0 rfl rfl 0 (by decide) (ht _ w_1_113) (fun _ h9 => h9) rfl dX8_spoonsToMend_25 ?_
            refine va_get (D := (dC, dI)) (ci := 1) (v := .int v_home_doors) (C := RX1) (T := TX1) (N := 10) hx hb ht iX1 hown hK.1 hP 1 rfl rfl 8 (by decide) (ht _ w_1_76) (fun _ h9 => h9) rfl dX8_spoonsToMend_28 ?_
            refine lv_icmp_ge (tgt := 72) hx hb dX8_spoonsToMend_31 (by decide) (fun c_4 => ?_) (fun c_4 => ?_)
            · skip
              refine lv_iinc (v := nI (k_4 + 1)) (lv' := [(3, .int (nI (k_4 + 1))), (5, .int (nI v_home_doors.toNatClampNeg)), (4, .int ((mX1_rainBehind v_home_rains v_home_rainfall v_home_now (nI k_4)))), (2, .int ((iter (mX8_spoonsToMend_l22 v_home_rains v_home_doorOpen v_home_rainfall v_home_now k_4) v_home_doors.toNatClampNeg y2_4))), (0, .ref a_this), (1, .int x1)]) hx hb dX8_spoonsToMend_72 hl (k := 2) rfl (nI_1 _) (by decide) rfl (fun ls hl => ?_)
              refine lv_goto (tgt := 4) hx hb dX8_spoonsToMend_75 (by decide) ?_
              exact ih (k_4 + 1) (by omega) ((iter (mX8_spoonsToMend_l22 v_home_rains v_home_doorOpen v_home_rainfall v_home_now k_4) v_home_doors.toNatClampNeg y2_4)) hm ls (lv_sub hl [0, 3, 4, 5] rfl)
            · exact absurd (lpE (by omega) (by have := clampLt v_home_doors; omega)) c_4
          | succ n_22 ih =>
            intro k_22 hk y2_22 ex0_22 ls hl
            have hm : (mX8_spoonsToMend_l22 v_home_rains v_home_doorOpen v_home_rainfall v_home_now k_4) k_22 y2_22 = (iter (mX8_spoonsToMend_l22 v_home_rains v_home_doorOpen v_home_rainfall v_home_now k_4) (k_22 + 1) y2_4) := by rw [ex0_22]; rfl
            refine lv_iload hx hb dX8_spoonsToMend_22 (lv_at hl 0 rfl) ?_
            refine lv_aload_n hx hb dX8_spoonsToMend_24 rfl (lv_at hl 4 rfl) ?_
            refine va_get (D := (dC, dI)) (ci := 8) (v := .ref a_this_home) (C := RX8) (T := TX8) (N := 1) hx hb ht iX8 hown hK.1 hP 0 rfl rfl 0 (by decide) (ht _ w_1_113) (fun _ h9 => h9) rfl dX8_spoonsToMend_25 ?_
            refine va_get (D := (dC, dI)) (ci := 1) (v := .int v_home_doors) (C := RX1) (T := TX1) (N := 10) hx hb ht iX1 hown hK.1 hP 1 rfl rfl 8 (by decide) (ht _ w_1_76) (fun _ h9 => h9) rfl dX8_spoonsToMend_28 ?_
            refine lv_icmp_ge (tgt := 72) hx hb dX8_spoonsToMend_31 (by decide) (fun c_2 => ?_) (fun c_2 => ?_)
            · exact absurd c_2 (lpN (by omega))
            · skip
              refine lv_aload_n hx hb dX8_spoonsToMend_34 rfl (lv_at hl 4 rfl) ?_
              refine va_get (D := (dC, dI)) (ci := 8) (v := .ref a_this_home) (C := RX8) (T := TX8) (N := 1) hx hb ht iX8 hown hK.1 hP 0 rfl rfl 0 (by decide) (ht _ w_1_113) (fun _ h9 => h9) rfl dX8_spoonsToMend_35 ?_
              refine lv_iload hx hb dX8_spoonsToMend_38 (lv_at hl 0 rfl) ?_
              refine pv_call (v := (mX1_isOpen v_home_doorOpen (nI k_22))) (va_runV (As := [.int (nI k_22)]) (rest := []) ⟨hx, hb, hml, hown, ht⟩ (kX1_isOpen l dC dI cA cZ a_this_home a_this_home_rainfall a_this_home_doorA a_this_home_doorB a_this_home_doorSides a_this_home_doorOpen a_this_home_now a_this_home_doorOpen_cells v_home_rooms v_home_rains v_home_doors v_home_persons v_home_doorOpen (nI k_22)) (cwV 1 ht (gi_V (C := RX1) w_4_42 w_3_96 w_3_97 w_1_2 (gi_code w_3_98)) rfl rfl rfl ⟨rfl, h_X1_isOpen⟩ ⟨Nat.le_of_ble_eq_true rfl, Nat.le_of_ble_eq_true rfl⟩) ⟨pp_blind, va_recv hK.1 hP (ci := 1) (q0 := 1) rfl rfl, pp_use (pc_sub (wc := [(a_this_home, .inr (1, [.ref a_this_home_rainfall, .ref a_this_home_doorA, .ref a_this_home_doorB, .ref a_this_home_doorSides, .ref a_this_home_doorOpen, .ref a_this_home_now, .int v_home_rooms, .int v_home_rains, .int v_home_doors, .int v_home_persons])), (a_this_home_doorOpen, .inr (6, [.ref a_this_home_doorOpen_cells])), (a_this_home_doorOpen_cells, .inl (cA, 10, .inl v_home_doorOpen))]) hP [1, 2, 5] rfl) hK⟩ rfl rfl hl.1 rfl (lv_room (Nat.le_of_ble_eq_true rfl)) dX8_spoonsToMend_40 ⟨Nat.zero_le _, Nat.zero_le _⟩) ?_
              refine lv_if_eq (tgt := 66) hx hb dX8_spoonsToMend_43 (by decide) (fun c_3 => ?_) (fun c_3 => ?_)
              · have hm := (if_pos c_3).symm.trans hm
                refine lv_iinc (v := nI (k_22 + 1)) (lv' := [(5, .int (nI (k_22 + 1))), (4, .int ((mX1_rainBehind v_home_rains v_home_rainfall v_home_now (nI k_4)))), (3, .int (nI k_4)), (2, .int y2_22), (0, .ref a_this), (1, .int x1)]) hx hb dX8_spoonsToMend_66 hl (k := 0) rfl (nI_1 _) (by decide) rfl (fun ls hl => ?_)
                refine lv_goto (tgt := 22) hx hb dX8_spoonsToMend_69 (by decide) ?_
                exact ih (k_22 + 1) (by omega) y2_22 hm ls (lv_sub hl [0, 1, 2, 3, 4, 5] rfl)
              · have hm := (if_neg c_3).symm.trans hm
                refine lv_iload_n hx hb dX8_spoonsToMend_46 rfl (lv_at hl 3 rfl) ?_
                refine lv_iload hx hb dX8_spoonsToMend_47 (lv_at hl 1 rfl) ?_
                refine lv_aload_n hx hb dX8_spoonsToMend_49 rfl (lv_at hl 4 rfl) ?_
                refine va_get (D := (dC, dI)) (ci := 8) (v := .ref a_this_home) (C := RX8) (T := TX8) (N := 1) hx hb ht iX8 hown hK.1 hP 0 rfl rfl 0 (by decide) (ht _ w_1_113) (fun _ h9 => h9) rfl dX8_spoonsToMend_50 ?_
                refine va_get (D := (dC, dI)) (ci := 1) (v := .ref a_this_home_now) (C := RX1) (T := TX1) (N := 10) hx hb ht iX1 hown hK.1 hP 1 rfl rfl 5 (by decide) (ht _ w_1_68) (fun _ h9 => h9) rfl dX8_spoonsToMend_53 ?_
                refine lv_iload hx hb dX8_spoonsToMend_56 (lv_at hl 0 rfl) ?_
                refine pv_call (v := (mX7_spoons v_home_now (nI k_22))) (va_runV (As := [.int (nI k_22)]) (rest := [.int ((mX1_rainBehind v_home_rains v_home_rainfall v_home_now (nI k_4))), .int y2_22]) ⟨hx, hb, hml, hown, ht⟩ (kX7_spoons l dC dI cA cZ a_this_home_now a_this_home_now_row a_this_home_now_row_cells v_home_now (nI k_22)) (cwV 1 ht (gi_V (C := RX7) w_3_236 w_2_231 w_2_232 w_1_5 (gi_code w_2_233)) rfl rfl rfl ⟨rfl, h_X7_spoons⟩ ⟨Nat.le_of_ble_eq_true rfl, Nat.le_of_ble_eq_true rfl⟩) ⟨pp_blind, va_recv hK.1 hP (ci := 7) (q0 := 3) rfl rfl, pp_use (pc_sub (wc := [(a_this_home_now, .inr (7, [.ref a_this_home_now_row])), (a_this_home_now_row, .inr (6, [.ref a_this_home_now_row_cells])), (a_this_home_now_row_cells, .inl (cA, 35, .inl v_home_now))]) hP [3, 6, 8] rfl) hK⟩ rfl rfl hl.1 rfl (lv_room (Nat.le_of_ble_eq_true rfl)) dX8_spoonsToMend_58 ⟨Nat.zero_le _, Nat.zero_le _⟩) ?_
                refine pv_call (v := (mJ9_min_7cf53 ((mX1_rainBehind v_home_rains v_home_rainfall v_home_now (nI k_4))) ((mX7_spoons v_home_now (nI k_22))))) (va_runS (As := [.int ((mX1_rainBehind v_home_rains v_home_rainfall v_home_now (nI k_4))), .int ((mX7_spoons v_home_now (nI k_22)))]) (rest := [.int y2_22]) ⟨hx, hb, hml, hown, ht⟩ (kJ9_min_7cf53 l dC dI cA cZ ((mX1_rainBehind v_home_rains v_home_rainfall v_home_now (nI k_4))) ((mX7_spoons v_home_now (nI k_22)))) (va_cwS 2 ht (gi_S w_4_43 w_3_88 w_1_4 (gi_code w_3_89)) rfl rfl rfl h_J9_min_7cf53 ⟨Nat.le_of_ble_eq_true rfl, Nat.le_of_ble_eq_true rfl⟩) ⟨pp_blind, pp_use (ws := []) (fun _ _ h => by cases h) hK⟩ rfl rfl hl.1 rfl (lv_room (Nat.le_of_ble_eq_true rfl)) dX8_spoonsToMend_61 ⟨Nat.zero_le _, Nat.zero_le _⟩) ?_
                refine lv_iadd hx hb dX8_spoonsToMend_64 ?_
                refine lv_istore_n (lv' := [(2, .int (y2_22 + ((mJ9_min_7cf53 ((mX1_rainBehind v_home_rains v_home_rainfall v_home_now (nI k_4))) ((mX7_spoons v_home_now (nI k_22))))))), (5, .int (nI k_22)), (4, .int ((mX1_rainBehind v_home_rains v_home_rainfall v_home_now (nI k_4)))), (3, .int (nI k_4)), (0, .ref a_this), (1, .int x1)]) hx hb dX8_spoonsToMend_65 rfl hl (by decide) rfl (fun ls hl => ?_)
                refine lv_iinc (v := nI (k_22 + 1)) (lv' := [(5, .int (nI (k_22 + 1))), (2, .int (y2_22 + ((mJ9_min_7cf53 ((mX1_rainBehind v_home_rains v_home_rainfall v_home_now (nI k_4))) ((mX7_spoons v_home_now (nI k_22))))))), (4, .int ((mX1_rainBehind v_home_rains v_home_rainfall v_home_now (nI k_4)))), (3, .int (nI k_4)), (0, .ref a_this), (1, .int x1)]) hx hb dX8_spoonsToMend_66 hl (k := 1) rfl (nI_1 _) (by decide) rfl (fun ls hl => ?_)
                refine lv_goto (tgt := 22) hx hb dX8_spoonsToMend_69 (by decide) ?_
                exact ih (k_22 + 1) (by omega) (y2_22 + ((mJ9_min_7cf53 ((mX1_rainBehind v_home_rains v_home_rainfall v_home_now (nI k_4))) ((mX7_spoons v_home_now (nI k_22)))))) hm ls (lv_sub hl [0, 2, 3, 1, 4, 5] rfl)
        exact L_22 v_home_doors.toNatClampNeg 0 (Nat.zero_add _) y2_4 rfl ls (lv_sub hl [0, 1, 2, 3, 4, 5] rfl)
  exact L_4 x1.toNatClampNeg 0 (Nat.zero_add _) ((0 : Int32)) rfl ls (lv_sub hl [0, 1, 2, 3] rfl)
theorem dX8_goneFirst_0 : decode cX8_goneFirst 0 = .ok (.iconst (-1), 1) := by decide +kernel
theorem dX8_goneFirst_1 : decode cX8_goneFirst 1 = .ok (.istore_n 1, 1) := by decide +kernel
theorem dX8_goneFirst_2 : decode cX8_goneFirst 2 = .ok (.bipush 100, 2) := by decide +kernel
theorem dX8_goneFirst_4 : decode cX8_goneFirst 4 = .ok (.istore_n 2, 1) := by decide +kernel
theorem dX8_goneFirst_5 : decode cX8_goneFirst 5 = .ok (.iconst 0, 1) := by decide +kernel
theorem dX8_goneFirst_6 : decode cX8_goneFirst 6 = .ok (.istore_n 3, 1) := by decide +kernel
theorem dX8_goneFirst_7 : decode cX8_goneFirst 7 = .ok (.iload_n 3, 1) := by decide +kernel
theorem dX8_goneFirst_8 : decode cX8_goneFirst 8 = .ok (.aload_n 0, 1) := by decide +kernel
theorem dX8_goneFirst_9 : decode cX8_goneFirst 9 = .ok (.getfield 9, 3) := by decide +kernel
theorem dX8_goneFirst_12 : decode cX8_goneFirst 12 = .ok (.getfield 15, 3) := by decide +kernel
theorem dX8_goneFirst_15 : decode cX8_goneFirst 15 = .ok (.if_icmp .ge 61, 3) := by decide +kernel
theorem dX8_goneFirst_18 : decode cX8_goneFirst 18 = .ok (.aload_n 0, 1) := by decide +kernel
theorem dX8_goneFirst_19 : decode cX8_goneFirst 19 = .ok (.getfield 9, 3) := by decide +kernel
theorem dX8_goneFirst_22 : decode cX8_goneFirst 22 = .ok (.iload_n 3, 1) := by decide +kernel
theorem dX8_goneFirst_23 : decode cX8_goneFirst 23 = .ok (.invokevirtual 97, 3) := by decide +kernel
theorem dX8_goneFirst_26 : decode cX8_goneFirst 26 = .ok (.ifCond .eq 44, 3) := by decide +kernel
theorem dX8_goneFirst_29 : decode cX8_goneFirst 29 = .ok (.aload_n 0, 1) := by decide +kernel
theorem dX8_goneFirst_30 : decode cX8_goneFirst 30 = .ok (.getfield 9, 3) := by decide +kernel
theorem dX8_goneFirst_33 : decode cX8_goneFirst 33 = .ok (.getfield 51, 3) := by decide +kernel
theorem dX8_goneFirst_36 : decode cX8_goneFirst 36 = .ok (.iload_n 3, 1) := by decide +kernel
theorem dX8_goneFirst_37 : decode cX8_goneFirst 37 = .ok (.invokevirtual 85, 3) := by decide +kernel
theorem dX8_goneFirst_40 : decode cX8_goneFirst 40 = .ok (.ifCond .ne 6, 3) := by decide +kernel
theorem dX8_goneFirst_43 : decode cX8_goneFirst 43 = .ok (.goto 27, 3) := by decide +kernel
theorem dX8_goneFirst_46 : decode cX8_goneFirst 46 = .ok (.aload_n 0, 1) := by decide +kernel
theorem dX8_goneFirst_47 : decode cX8_goneFirst 47 = .ok (.iload_n 3, 1) := by decide +kernel
theorem dX8_goneFirst_48 : decode cX8_goneFirst 48 = .ok (.invokevirtual 106, 3) := by decide +kernel
theorem dX8_goneFirst_51 : decode cX8_goneFirst 51 = .ok (.istore 4, 2) := by decide +kernel
theorem dX8_goneFirst_53 : decode cX8_goneFirst 53 = .ok (.iload 4, 2) := by decide +kernel
theorem dX8_goneFirst_55 : decode cX8_goneFirst 55 = .ok (.iconst (-1), 1) := by decide +kernel
theorem dX8_goneFirst_56 : decode cX8_goneFirst 56 = .ok (.if_icmp .eq 14, 3) := by decide +kernel
theorem dX8_goneFirst_59 : decode cX8_goneFirst 59 = .ok (.iload 4, 2) := by decide +kernel
theorem dX8_goneFirst_61 : decode cX8_goneFirst 61 = .ok (.iload_n 2, 1) := by decide +kernel
theorem dX8_goneFirst_62 : decode cX8_goneFirst 62 = .ok (.if_icmp .ge 8, 3) := by decide +kernel
theorem dX8_goneFirst_65 : decode cX8_goneFirst 65 = .ok (.iload_n 3, 1) := by decide +kernel
theorem dX8_goneFirst_66 : decode cX8_goneFirst 66 = .ok (.istore_n 1, 1) := by decide +kernel
theorem dX8_goneFirst_67 : decode cX8_goneFirst 67 = .ok (.iload 4, 2) := by decide +kernel
theorem dX8_goneFirst_69 : decode cX8_goneFirst 69 = .ok (.istore_n 2, 1) := by decide +kernel
theorem dX8_goneFirst_70 : decode cX8_goneFirst 70 = .ok (.iinc 3 1, 3) := by decide +kernel
theorem dX8_goneFirst_73 : decode cX8_goneFirst 73 = .ok (.goto (-66), 3) := by decide +kernel
theorem dX8_goneFirst_76 : decode cX8_goneFirst 76 = .ok (.iload_n 1, 1) := by decide +kernel
theorem dX8_goneFirst_77 : decode cX8_goneFirst 77 = .ok (.ireturn, 1) := by decide +kernel
theorem h_X8_goneFirst : yX8_goneFirst.cls ≠ "java/lang/invoke/MethodHandle" ∧ yX8_goneFirst.cls ≠ "java/lang/invoke/VarHandle" ∧ (parseMethodDescriptor yX8_goneFirst.desc).map (fun d => d.parameters.length) = some 0 := by decide +kernel
def mX8_goneFirst_l7 (v_home_rains : Int32) (v_home_doorOpen : Nat → Int32) (v_home_rainfall : Nat → Int32) (v_home_now : Nat → Int32) (k_7 : Nat) (s : Int32 × Int32) : Int32 × Int32 := (if ((mX1_isOpen v_home_doorOpen (nI k_7))) = 0 then (s.1, s.2) else (if ((mX7_spoons v_home_now (nI k_7))) = 0 then (s.1, s.2) else (if ((mX8_hoursUntilGone v_home_rains v_home_rainfall v_home_now (nI k_7))) = ((-1 : Int32)) then (s.1, s.2) else (if s.2 ≤ ((mX8_hoursUntilGone v_home_rains v_home_rainfall v_home_now (nI k_7))) then (s.1, s.2) else (nI k_7, (mX8_hoursUntilGone v_home_rains v_home_rainfall v_home_now (nI k_7)))))))
def mX8_goneFirst (v_home_rains : Int32) (v_home_doors : Int32) (v_home_doorOpen : Nat → Int32) (v_home_rainfall : Nat → Int32) (v_home_now : Nat → Int32) : Int32 := ((iter (mX8_goneFirst_l7 v_home_rains v_home_doorOpen v_home_rainfall v_home_now) v_home_doors.toNatClampNeg (((-1 : Int32), (100 : Int32))))).1
set_option maxHeartbeats 4000000 in
set_option maxRecDepth 100000 in
theorem kX8_goneFirst (l : Launch) (dC : Nat → ClassId) (dI : Nat → Nat → Nat) (cA cZ : ClassId) (a_this a_this_home a_this_home_rainfall a_this_home_doorA a_this_home_doorB a_this_home_doorSides a_this_home_doorOpen a_this_home_now a_this_home_doorOpen_cells a_this_home_now_row a_this_home_rainfall_cells a_this_home_now_row_cells : Nat) (v_home_rooms : Int32) (v_home_rains : Int32) (v_home_doors : Int32) (v_home_persons : Int32) (v_home_doorOpen : Nat → Int32) (v_home_rainfall : Nat → Int32) (v_home_now : Nat → Int32) : Met l yX8_goneFirst (Cond.code yX8_goneFirst cX8_goneFirst 5 (some .int) :: wt) ({ frames := 4, cells := 0, slots := 0, locals := 85 } : Room) (va_Pc [.ref a_this] (PreP (dC, dI) [(cA, .int), (cZ, .boolean)] [(a_this, .inr (8, [.ref a_this_home])), (a_this_home, .inr (1, [.ref a_this_home_rainfall, .ref a_this_home_doorA, .ref a_this_home_doorB, .ref a_this_home_doorSides, .ref a_this_home_doorOpen, .ref a_this_home_now, .int v_home_rooms, .int v_home_rains, .int v_home_doors, .int v_home_persons])), (a_this_home_doorOpen, .inr (6, [.ref a_this_home_doorOpen_cells])), (a_this_home_now, .inr (7, [.ref a_this_home_now_row])), (a_this_home_rainfall, .inr (6, [.ref a_this_home_rainfall_cells])), (a_this_home_doorOpen_cells, .inl (cA, 10, .inl v_home_doorOpen)), (a_this_home_now_row, .inr (6, [.ref a_this_home_now_row_cells])), (a_this_home_rainfall_cells, .inl (cA, 12, .inl v_home_rainfall)), (a_this_home_now_row_cells, .inl (cA, 35, .inl v_home_now))])) (vp_Si (fun r => r = (mX8_goneFirst v_home_rains v_home_doors v_home_doorOpen v_home_rainfall v_home_now))) 0 0 (fun _ => False) := by
  refine Met.ofW (cc := cX8_goneFirst) (maxL := 5) (ret := (some .int)) (by decide) rfl ?_
  intro p e s m args below meth c s₁ B hml hv
  obtain ⟨ha, hP, hK⟩ := hv
  have hx := B.exec
  have hb := B.bytes
  have hr := B.returns
  have ht : ∀ w ∈ wt, w.before args s = true := fun w h => atoms_spec (ws := (Cond.code yX8_goneFirst cX8_goneFirst 5 (some .int) :: wt)) B.pre w (List.mem_cons_of_mem _ h)
  have hown : s.vm.findClass RX8 = some m.cls := findClass_of_methodNamed B.named
  have hlocks := B.notSynchronized
  have hl := lv_entry ([.ref a_this]) (n := 5) (Nat.le_of_ble_eq_true rfl)
  rw [show entryFrame m args 5 = _ from (congrArg (fun a => entryFrame m a 5) ha).trans (lg_entry_eq m [.ref a_this] 5)]
  generalize (lg_sl ([.ref a_this]) ++ List.replicate (5 - (lg_sl ([.ref a_this])).length) Slot.unset).toArray = ls at hl ⊢
  have hl : lv_has ls 5 [(0, .ref a_this)] := hl
  have hm : (mX8_goneFirst v_home_rains v_home_doors v_home_doorOpen v_home_rainfall v_home_now) = (mX8_goneFirst v_home_rains v_home_doors v_home_doorOpen v_home_rainfall v_home_now) := rfl
  refine lv_iconst (v := (-1 : Int32)) hx hb dX8_goneFirst_0 (by decide) ?_
  refine lv_istore_n (lv' := [(1, .int ((-1 : Int32))), (0, .ref a_this)]) hx hb dX8_goneFirst_1 rfl hl (by decide) rfl (fun ls hl => ?_)
  refine lv_bipush (v := (100 : Int32)) hx hb dX8_goneFirst_2 (by decide) ?_
  refine lv_istore_n (lv' := [(2, .int ((100 : Int32))), (1, .int ((-1 : Int32))), (0, .ref a_this)]) hx hb dX8_goneFirst_4 rfl hl (by decide) rfl (fun ls hl => ?_)
  refine lv_iconst (v := (0 : Int32)) hx hb dX8_goneFirst_5 (by decide) ?_
  refine lv_istore_n (lv' := [(3, .int ((0 : Int32))), (2, .int ((100 : Int32))), (1, .int ((-1 : Int32))), (0, .ref a_this)]) hx hb dX8_goneFirst_6 rfl hl (by decide) rfl (fun ls hl => ?_)
  have L_7 : ∀ (n_7 k_7 : Nat), k_7 + n_7 = v_home_doors.toNatClampNeg → ∀ (y1_7 : Int32) (y2_7 : Int32), y1_7 = ((iter (mX8_goneFirst_l7 v_home_rains v_home_doorOpen v_home_rainfall v_home_now) k_7 (((-1 : Int32), (100 : Int32))))).1 → y2_7 = ((iter (mX8_goneFirst_l7 v_home_rains v_home_doorOpen v_home_rainfall v_home_now) k_7 (((-1 : Int32), (100 : Int32))))).2 → ∀ (ls : Array Slot), lv_has ls 5 [(3, .int (nI k_7)), (2, .int y2_7), (1, .int y1_7), (0, .ref a_this)] → W p l e (headSpec (Cond.code yX8_goneFirst cX8_goneFirst 5 (some .int) :: wt) ({ frames := 4, cells := 0, slots := 0, locals := 85 } : Room)).room s m args below meth c s.heap [] 0 0 (MQ below (vp_Si (fun r => r = (mX8_goneFirst v_home_rains v_home_doors v_home_doorOpen v_home_rainfall v_home_now))) args s 0 0 (fun _ => False)) (F0 m 7 ls []) := by
    intro n_7
    induction n_7 with
    | zero =>
      intro k_7 hk y1_7 y2_7 ex0_7 ex1_7 ls hl
      obtain rfl : v_home_doors.toNatClampNeg = k_7 := by omega
      subst ex0_7 ex1_7
      refine lv_iload_n hx hb dX8_goneFirst_7 rfl (lv_at hl 0 rfl) ?_
      refine lv_aload_n hx hb dX8_goneFirst_8 rfl (lv_at hl 3 rfl) ?_
      refine va_get (D := (dC, dI)) (ci := 8) (v := .ref a_this_home) (C := RX8) (T := TX8) (N := 1) hx hb ht iX8 hown hK.1 hP 0 rfl rfl 0 (by decide) (ht _ w_1_113) (fun _ h9 => h9) rfl dX8_goneFirst_9 ?_
      refine va_get (D := (dC, dI)) (ci := 1) (v := .int v_home_doors) (C := RX1) (T := TX1) (N := 10) hx hb ht iX1 hown hK.1 hP 1 rfl rfl 8 (by decide) (ht _ w_1_76) (fun _ h9 => h9) rfl dX8_goneFirst_12 ?_
      refine lv_icmp_ge (tgt := 76) hx hb dX8_goneFirst_15 (by decide) (fun c_6 => ?_) (fun c_6 => ?_)
      · skip
        refine lv_iload_n hx hb dX8_goneFirst_76 rfl (lv_at hl 2 rfl) ?_
        exact W.iret (v := ((iter (mX8_goneFirst_l7 v_home_rains v_home_doorOpen v_home_rainfall v_home_now) v_home_doors.toNatClampNeg (((-1 : Int32), (100 : Int32))))).1) hx hb hr (fun t ht9 _ => ⟨_, rfl, hm, ht9⟩) (fun q hq => absurd hq List.not_mem_nil) dX8_goneFirst_77
      · exact absurd (lpE (by omega) (by have := clampLt v_home_doors; omega)) c_6
    | succ n_7 ih =>
      intro k_7 hk y1_7 y2_7 ex0_7 ex1_7 ls hl
      have hm : (mX8_goneFirst_l7 v_home_rains v_home_doorOpen v_home_rainfall v_home_now) k_7 (y1_7, y2_7) = (iter (mX8_goneFirst_l7 v_home_rains v_home_doorOpen v_home_rainfall v_home_now) (k_7 + 1) (((-1 : Int32), (100 : Int32)))) := by rw [ex0_7, ex1_7]; rfl
      refine lv_iload_n hx hb dX8_goneFirst_7 rfl (lv_at hl 0 rfl) ?_
      refine lv_aload_n hx hb dX8_goneFirst_8 rfl (lv_at hl 3 rfl) ?_
      refine va_get (D := (dC, dI)) (ci := 8) (v := .ref a_this_home) (C := RX8) (T := TX8) (N := 1) hx hb ht iX8 hown hK.1 hP 0 rfl rfl 0 (by decide) (ht _ w_1_113) (fun _ h9 => h9) rfl dX8_goneFirst_9 ?_
      refine va_get (D := (dC, dI)) (ci := 1) (v := .int v_home_doors) (C := RX1) (T := TX1) (N := 10) hx hb ht iX1 hown hK.1 hP 1 rfl rfl 8 (by decide) (ht _ w_1_76) (fun _ h9 => h9) rfl dX8_goneFirst_12 ?_
      refine lv_icmp_ge (tgt := 76) hx hb dX8_goneFirst_15 (by decide) (fun c_1 => ?_) (fun c_1 => ?_)
      · exact absurd c_1 (lpN (by omega))
      · skip
        refine lv_aload_n hx hb dX8_goneFirst_18 rfl (lv_at hl 3 rfl) ?_
        refine va_get (D := (dC, dI)) (ci := 8) (v := .ref a_this_home) (C := RX8) (T := TX8) (N := 1) hx hb ht iX8 hown hK.1 hP 0 rfl rfl 0 (by decide) (ht _ w_1_113) (fun _ h9 => h9) rfl dX8_goneFirst_19 ?_
        refine lv_iload_n hx hb dX8_goneFirst_22 rfl (lv_at hl 0 rfl) ?_
        refine pv_call (v := (mX1_isOpen v_home_doorOpen (nI k_7))) (va_runV (As := [.int (nI k_7)]) (rest := []) ⟨hx, hb, hml, hown, ht⟩ (kX1_isOpen l dC dI cA cZ a_this_home a_this_home_rainfall a_this_home_doorA a_this_home_doorB a_this_home_doorSides a_this_home_doorOpen a_this_home_now a_this_home_doorOpen_cells v_home_rooms v_home_rains v_home_doors v_home_persons v_home_doorOpen (nI k_7)) (cwV 1 ht (gi_V (C := RX1) w_4_42 w_3_96 w_3_97 w_1_2 (gi_code w_3_98)) rfl rfl rfl ⟨rfl, h_X1_isOpen⟩ ⟨Nat.le_of_ble_eq_true rfl, Nat.le_of_ble_eq_true rfl⟩) ⟨pp_blind, va_recv hK.1 hP (ci := 1) (q0 := 1) rfl rfl, pp_use (pc_sub (wc := [(a_this_home, .inr (1, [.ref a_this_home_rainfall, .ref a_this_home_doorA, .ref a_this_home_doorB, .ref a_this_home_doorSides, .ref a_this_home_doorOpen, .ref a_this_home_now, .int v_home_rooms, .int v_home_rains, .int v_home_doors, .int v_home_persons])), (a_this_home_doorOpen, .inr (6, [.ref a_this_home_doorOpen_cells])), (a_this_home_doorOpen_cells, .inl (cA, 10, .inl v_home_doorOpen))]) hP [1, 2, 5] rfl) hK⟩ rfl rfl hl.1 rfl (lv_room (Nat.le_of_ble_eq_true rfl)) dX8_goneFirst_23 ⟨Nat.zero_le _, Nat.zero_le _⟩) ?_
        refine lv_if_eq (tgt := 70) hx hb dX8_goneFirst_26 (by decide) (fun c_2 => ?_) (fun c_2 => ?_)
        · have hm := (if_pos c_2).symm.trans hm
          refine lv_iinc (v := nI (k_7 + 1)) (lv' := [(3, .int (nI (k_7 + 1))), (2, .int y2_7), (1, .int y1_7), (0, .ref a_this)]) hx hb dX8_goneFirst_70 hl (k := 0) rfl (nI_1 _) (by decide) rfl (fun ls hl => ?_)
          refine lv_goto (tgt := 7) hx hb dX8_goneFirst_73 (by decide) ?_
          exact ih (k_7 + 1) (by omega) y1_7 y2_7 (congrArg (fun z => z.1) hm) (congrArg (fun z => z.2) hm) ls (lv_sub hl [0, 1, 2, 3] rfl)
        · have hm := (if_neg c_2).symm.trans hm
          refine lv_aload_n hx hb dX8_goneFirst_29 rfl (lv_at hl 3 rfl) ?_
          refine va_get (D := (dC, dI)) (ci := 8) (v := .ref a_this_home) (C := RX8) (T := TX8) (N := 1) hx hb ht iX8 hown hK.1 hP 0 rfl rfl 0 (by decide) (ht _ w_1_113) (fun _ h9 => h9) rfl dX8_goneFirst_30 ?_
          refine va_get (D := (dC, dI)) (ci := 1) (v := .ref a_this_home_now) (C := RX1) (T := TX1) (N := 10) hx hb ht iX1 hown hK.1 hP 1 rfl rfl 5 (by decide) (ht _ w_1_68) (fun _ h9 => h9) rfl dX8_goneFirst_33 ?_
          refine lv_iload_n hx hb dX8_goneFirst_36 rfl (lv_at hl 0 rfl) ?_
          refine pv_call (v := (mX7_spoons v_home_now (nI k_7))) (va_runV (As := [.int (nI k_7)]) (rest := []) ⟨hx, hb, hml, hown, ht⟩ (kX7_spoons l dC dI cA cZ a_this_home_now a_this_home_now_row a_this_home_now_row_cells v_home_now (nI k_7)) (cwV 1 ht (gi_V (C := RX7) w_3_236 w_2_231 w_2_232 w_1_5 (gi_code w_2_233)) rfl rfl rfl ⟨rfl, h_X7_spoons⟩ ⟨Nat.le_of_ble_eq_true rfl, Nat.le_of_ble_eq_true rfl⟩) ⟨pp_blind, va_recv hK.1 hP (ci := 7) (q0 := 3) rfl rfl, pp_use (pc_sub (wc := [(a_this_home_now, .inr (7, [.ref a_this_home_now_row])), (a_this_home_now_row, .inr (6, [.ref a_this_home_now_row_cells])), (a_this_home_now_row_cells, .inl (cA, 35, .inl v_home_now))]) hP [3, 6, 8] rfl) hK⟩ rfl rfl hl.1 rfl (lv_room (Nat.le_of_ble_eq_true rfl)) dX8_goneFirst_37 ⟨Nat.zero_le _, Nat.zero_le _⟩) ?_
          refine lv_if_ne (tgt := 46) hx hb dX8_goneFirst_40 (by decide) (fun c_3 => ?_) (fun c_3 => ?_)
          · have hm := (if_neg c_3).symm.trans hm
            refine lv_aload_n hx hb dX8_goneFirst_46 rfl (lv_at hl 3 rfl) ?_
            refine lv_iload_n hx hb dX8_goneFirst_47 rfl (lv_at hl 0 rfl) ?_
            refine pv_call (v := (mX8_hoursUntilGone v_home_rains v_home_rainfall v_home_now (nI k_7))) (va_runV (As := [.int (nI k_7)]) (rest := []) ⟨hx, hb, hml, hown, ht⟩ (kX8_hoursUntilGone l dC dI cA cZ a_this a_this_home a_this_home_rainfall a_this_home_doorA a_this_home_doorB a_this_home_doorSides a_this_home_doorOpen a_this_home_now a_this_home_now_row a_this_home_rainfall_cells a_this_home_now_row_cells v_home_rooms v_home_rains v_home_doors v_home_persons v_home_rainfall v_home_now (nI k_7)) (cwV 1 ht (gi_V (C := RX8) w_4_52 w_4_30 w_4_31 w_1_6 (gi_code w_4_32)) rfl rfl rfl ⟨rfl, h_X8_hoursUntilGone⟩ ⟨Nat.le_of_ble_eq_true rfl, Nat.le_of_ble_eq_true rfl⟩) ⟨pp_blind, va_recv hK.1 hP (ci := 8) (q0 := 0) rfl rfl, pp_use (pc_sub (wc := [(a_this, .inr (8, [.ref a_this_home])), (a_this_home, .inr (1, [.ref a_this_home_rainfall, .ref a_this_home_doorA, .ref a_this_home_doorB, .ref a_this_home_doorSides, .ref a_this_home_doorOpen, .ref a_this_home_now, .int v_home_rooms, .int v_home_rains, .int v_home_doors, .int v_home_persons])), (a_this_home_now, .inr (7, [.ref a_this_home_now_row])), (a_this_home_rainfall, .inr (6, [.ref a_this_home_rainfall_cells])), (a_this_home_now_row, .inr (6, [.ref a_this_home_now_row_cells])), (a_this_home_rainfall_cells, .inl (cA, 12, .inl v_home_rainfall)), (a_this_home_now_row_cells, .inl (cA, 35, .inl v_home_now))]) hP [0, 1, 3, 4, 6, 7, 8] rfl) hK⟩ rfl rfl hl.1 rfl (lv_room (Nat.le_of_ble_eq_true rfl)) dX8_goneFirst_48 ⟨Nat.zero_le _, Nat.zero_le _⟩) ?_
            refine lv_istore (lv' := [(4, .int ((mX8_hoursUntilGone v_home_rains v_home_rainfall v_home_now (nI k_7)))), (3, .int (nI k_7)), (2, .int y2_7), (1, .int y1_7), (0, .ref a_this)]) hx hb dX8_goneFirst_51 hl (by decide) rfl (fun ls hl => ?_)
            refine lv_iload hx hb dX8_goneFirst_53 (lv_at hl 0 rfl) ?_
            refine lv_iconst (v := (-1 : Int32)) hx hb dX8_goneFirst_55 (by decide) ?_
            refine lv_icmp_eq (tgt := 70) hx hb dX8_goneFirst_56 (by decide) (fun c_4 => ?_) (fun c_4 => ?_)
            · have hm := (if_pos c_4).symm.trans hm
              refine lv_iinc (v := nI (k_7 + 1)) (lv' := [(3, .int (nI (k_7 + 1))), (4, .int ((mX8_hoursUntilGone v_home_rains v_home_rainfall v_home_now (nI k_7)))), (2, .int y2_7), (1, .int y1_7), (0, .ref a_this)]) hx hb dX8_goneFirst_70 hl (k := 1) rfl (nI_1 _) (by decide) rfl (fun ls hl => ?_)
              refine lv_goto (tgt := 7) hx hb dX8_goneFirst_73 (by decide) ?_
              exact ih (k_7 + 1) (by omega) y1_7 y2_7 (congrArg (fun z => z.1) hm) (congrArg (fun z => z.2) hm) ls (lv_sub hl [0, 2, 3, 4] rfl)
            · have hm := (if_neg c_4).symm.trans hm
              refine lv_iload hx hb dX8_goneFirst_59 (lv_at hl 0 rfl) ?_
              refine lv_iload_n hx hb dX8_goneFirst_61 rfl (lv_at hl 2 rfl) ?_
              refine lv_icmp_ge (tgt := 70) hx hb dX8_goneFirst_62 (by decide) (fun c_5 => ?_) (fun c_5 => ?_)
              · have hm := (if_pos c_5).symm.trans hm
                refine lv_iinc (v := nI (k_7 + 1)) (lv' := [(3, .int (nI (k_7 + 1))), (4, .int ((mX8_hoursUntilGone v_home_rains v_home_rainfall v_home_now (nI k_7)))), (2, .int y2_7), (1, .int y1_7), (0, .ref a_this)]) hx hb dX8_goneFirst_70 hl (k := 1) rfl (nI_1 _) (by decide) rfl (fun ls hl => ?_)
                refine lv_goto (tgt := 7) hx hb dX8_goneFirst_73 (by decide) ?_
                exact ih (k_7 + 1) (by omega) y1_7 y2_7 (congrArg (fun z => z.1) hm) (congrArg (fun z => z.2) hm) ls (lv_sub hl [0, 2, 3, 4] rfl)
              · have hm := (if_neg c_5).symm.trans hm
                refine lv_iload_n hx hb dX8_goneFirst_65 rfl (lv_at hl 1 rfl) ?_
                refine lv_istore_n (lv' := [(1, .int (nI k_7)), (4, .int ((mX8_hoursUntilGone v_home_rains v_home_rainfall v_home_now (nI k_7)))), (3, .int (nI k_7)), (2, .int y2_7), (0, .ref a_this)]) hx hb dX8_goneFirst_66 rfl hl (by decide) rfl (fun ls hl => ?_)
                refine lv_iload hx hb dX8_goneFirst_67 (lv_at hl 1 rfl) ?_
                refine lv_istore_n (lv' := [(2, .int ((mX8_hoursUntilGone v_home_rains v_home_rainfall v_home_now (nI k_7)))), (1, .int (nI k_7)), (4, .int ((mX8_hoursUntilGone v_home_rains v_home_rainfall v_home_now (nI k_7)))), (3, .int (nI k_7)), (0, .ref a_this)]) hx hb dX8_goneFirst_69 rfl hl (by decide) rfl (fun ls hl => ?_)
                refine lv_iinc (v := nI (k_7 + 1)) (lv' := [(3, .int (nI (k_7 + 1))), (2, .int ((mX8_hoursUntilGone v_home_rains v_home_rainfall v_home_now (nI k_7)))), (1, .int (nI k_7)), (4, .int ((mX8_hoursUntilGone v_home_rains v_home_rainfall v_home_now (nI k_7)))), (0, .ref a_this)]) hx hb dX8_goneFirst_70 hl (k := 3) rfl (nI_1 _) (by decide) rfl (fun ls hl => ?_)
                refine lv_goto (tgt := 7) hx hb dX8_goneFirst_73 (by decide) ?_
                exact ih (k_7 + 1) (by omega) (nI k_7) ((mX8_hoursUntilGone v_home_rains v_home_rainfall v_home_now (nI k_7))) (congrArg (fun z => z.1) hm) (congrArg (fun z => z.2) hm) ls (lv_sub hl [0, 1, 2, 4] rfl)
          · have hm := (if_pos c_3).symm.trans hm
            refine lv_goto (tgt := 70) hx hb dX8_goneFirst_43 (by decide) ?_
            refine lv_iinc (v := nI (k_7 + 1)) (lv' := [(3, .int (nI (k_7 + 1))), (2, .int y2_7), (1, .int y1_7), (0, .ref a_this)]) hx hb dX8_goneFirst_70 hl (k := 0) rfl (nI_1 _) (by decide) rfl (fun ls hl => ?_)
            refine lv_goto (tgt := 7) hx hb dX8_goneFirst_73 (by decide) ?_
            exact ih (k_7 + 1) (by omega) y1_7 y2_7 (congrArg (fun z => z.1) hm) (congrArg (fun z => z.2) hm) ls (lv_sub hl [0, 1, 2, 3] rfl)
  exact L_7 v_home_doors.toNatClampNeg 0 (Nat.zero_add _) ((-1 : Int32)) ((100 : Int32)) rfl rfl ls (lv_sub hl [0, 1, 2, 3] rfl)
theorem dX8_doorMostCrossed_0 : decode cX8_doorMostCrossed 0 = .ok (.iconst (-1), 1) := by decide +kernel
theorem dX8_doorMostCrossed_1 : decode cX8_doorMostCrossed 1 = .ok (.istore_n 1, 1) := by decide +kernel
theorem dX8_doorMostCrossed_2 : decode cX8_doorMostCrossed 2 = .ok (.iconst 0, 1) := by decide +kernel
theorem dX8_doorMostCrossed_3 : decode cX8_doorMostCrossed 3 = .ok (.istore_n 2, 1) := by decide +kernel
theorem dX8_doorMostCrossed_4 : decode cX8_doorMostCrossed 4 = .ok (.iconst 0, 1) := by decide +kernel
theorem dX8_doorMostCrossed_5 : decode cX8_doorMostCrossed 5 = .ok (.istore_n 3, 1) := by decide +kernel
theorem dX8_doorMostCrossed_6 : decode cX8_doorMostCrossed 6 = .ok (.iload_n 3, 1) := by decide +kernel
theorem dX8_doorMostCrossed_7 : decode cX8_doorMostCrossed 7 = .ok (.aload_n 0, 1) := by decide +kernel
theorem dX8_doorMostCrossed_8 : decode cX8_doorMostCrossed 8 = .ok (.getfield 9, 3) := by decide +kernel
theorem dX8_doorMostCrossed_11 : decode cX8_doorMostCrossed 11 = .ok (.getfield 15, 3) := by decide +kernel
theorem dX8_doorMostCrossed_14 : decode cX8_doorMostCrossed 14 = .ok (.if_icmp .ge 38, 3) := by decide +kernel
theorem dX8_doorMostCrossed_17 : decode cX8_doorMostCrossed 17 = .ok (.aload_n 0, 1) := by decide +kernel
theorem dX8_doorMostCrossed_18 : decode cX8_doorMostCrossed 18 = .ok (.getfield 9, 3) := by decide +kernel
theorem dX8_doorMostCrossed_21 : decode cX8_doorMostCrossed 21 = .ok (.getfield 51, 3) := by decide +kernel
theorem dX8_doorMostCrossed_24 : decode cX8_doorMostCrossed 24 = .ok (.iload_n 3, 1) := by decide +kernel
theorem dX8_doorMostCrossed_25 : decode cX8_doorMostCrossed 25 = .ok (.invokevirtual 109, 3) := by decide +kernel
theorem dX8_doorMostCrossed_28 : decode cX8_doorMostCrossed 28 = .ok (.iload_n 2, 1) := by decide +kernel
theorem dX8_doorMostCrossed_29 : decode cX8_doorMostCrossed 29 = .ok (.if_icmp .le 17, 3) := by decide +kernel
theorem dX8_doorMostCrossed_32 : decode cX8_doorMostCrossed 32 = .ok (.iload_n 3, 1) := by decide +kernel
theorem dX8_doorMostCrossed_33 : decode cX8_doorMostCrossed 33 = .ok (.istore_n 1, 1) := by decide +kernel
theorem dX8_doorMostCrossed_34 : decode cX8_doorMostCrossed 34 = .ok (.aload_n 0, 1) := by decide +kernel
theorem dX8_doorMostCrossed_35 : decode cX8_doorMostCrossed 35 = .ok (.getfield 9, 3) := by decide +kernel
theorem dX8_doorMostCrossed_38 : decode cX8_doorMostCrossed 38 = .ok (.getfield 51, 3) := by decide +kernel
theorem dX8_doorMostCrossed_41 : decode cX8_doorMostCrossed 41 = .ok (.iload_n 3, 1) := by decide +kernel
theorem dX8_doorMostCrossed_42 : decode cX8_doorMostCrossed 42 = .ok (.invokevirtual 109, 3) := by decide +kernel
theorem dX8_doorMostCrossed_45 : decode cX8_doorMostCrossed 45 = .ok (.istore_n 2, 1) := by decide +kernel
theorem dX8_doorMostCrossed_46 : decode cX8_doorMostCrossed 46 = .ok (.iinc 3 1, 3) := by decide +kernel
theorem dX8_doorMostCrossed_49 : decode cX8_doorMostCrossed 49 = .ok (.goto (-43), 3) := by decide +kernel
theorem dX8_doorMostCrossed_52 : decode cX8_doorMostCrossed 52 = .ok (.iload_n 1, 1) := by decide +kernel
theorem dX8_doorMostCrossed_53 : decode cX8_doorMostCrossed 53 = .ok (.ireturn, 1) := by decide +kernel
theorem h_X8_doorMostCrossed : yX8_doorMostCrossed.cls ≠ "java/lang/invoke/MethodHandle" ∧ yX8_doorMostCrossed.cls ≠ "java/lang/invoke/VarHandle" ∧ (parseMethodDescriptor yX8_doorMostCrossed.desc).map (fun d => d.parameters.length) = some 0 := by decide +kernel
def mX8_doorMostCrossed_l6 (v_home_now : Nat → Int32) (k_6 : Nat) (s : Int32 × Int32) : Int32 × Int32 := (if ((mX7_crossings v_home_now (nI k_6))) ≤ s.2 then (s.1, s.2) else (nI k_6, (mX7_crossings v_home_now (nI k_6))))
def mX8_doorMostCrossed (v_home_doors : Int32) (v_home_now : Nat → Int32) : Int32 := ((iter (mX8_doorMostCrossed_l6 v_home_now) v_home_doors.toNatClampNeg (((-1 : Int32), (0 : Int32))))).1
set_option maxHeartbeats 4000000 in
set_option maxRecDepth 100000 in
theorem kX8_doorMostCrossed (l : Launch) (dC : Nat → ClassId) (dI : Nat → Nat → Nat) (cA cZ : ClassId) (a_this a_this_home a_this_home_rainfall a_this_home_doorA a_this_home_doorB a_this_home_doorSides a_this_home_doorOpen a_this_home_now a_this_home_now_row a_this_home_now_row_cells : Nat) (v_home_rooms : Int32) (v_home_rains : Int32) (v_home_doors : Int32) (v_home_persons : Int32) (v_home_now : Nat → Int32) : Met l yX8_doorMostCrossed (Cond.code yX8_doorMostCrossed cX8_doorMostCrossed 4 (some .int) :: wt) ({ frames := 2, cells := 0, slots := 0, locals := 42 } : Room) (va_Pc [.ref a_this] (PreP (dC, dI) [(cA, .int), (cZ, .boolean)] [(a_this, .inr (8, [.ref a_this_home])), (a_this_home, .inr (1, [.ref a_this_home_rainfall, .ref a_this_home_doorA, .ref a_this_home_doorB, .ref a_this_home_doorSides, .ref a_this_home_doorOpen, .ref a_this_home_now, .int v_home_rooms, .int v_home_rains, .int v_home_doors, .int v_home_persons])), (a_this_home_now, .inr (7, [.ref a_this_home_now_row])), (a_this_home_now_row, .inr (6, [.ref a_this_home_now_row_cells])), (a_this_home_now_row_cells, .inl (cA, 35, .inl v_home_now))])) (vp_Si (fun r => r = (mX8_doorMostCrossed v_home_doors v_home_now))) 0 0 (fun _ => False) := by
  refine Met.ofW (cc := cX8_doorMostCrossed) (maxL := 4) (ret := (some .int)) (by decide) rfl ?_
  intro p e s m args below meth c s₁ B hml hv
  obtain ⟨ha, hP, hK⟩ := hv
  have hx := B.exec
  have hb := B.bytes
  have hr := B.returns
  have ht : ∀ w ∈ wt, w.before args s = true := fun w h => atoms_spec (ws := (Cond.code yX8_doorMostCrossed cX8_doorMostCrossed 4 (some .int) :: wt)) B.pre w (List.mem_cons_of_mem _ h)
  have hown : s.vm.findClass RX8 = some m.cls := findClass_of_methodNamed B.named
  have hlocks := B.notSynchronized
  have hl := lv_entry ([.ref a_this]) (n := 4) (Nat.le_of_ble_eq_true rfl)
  rw [show entryFrame m args 4 = _ from (congrArg (fun a => entryFrame m a 4) ha).trans (lg_entry_eq m [.ref a_this] 4)]
  generalize (lg_sl ([.ref a_this]) ++ List.replicate (4 - (lg_sl ([.ref a_this])).length) Slot.unset).toArray = ls at hl ⊢
  have hl : lv_has ls 4 [(0, .ref a_this)] := hl
  have hm : (mX8_doorMostCrossed v_home_doors v_home_now) = (mX8_doorMostCrossed v_home_doors v_home_now) := rfl
  refine lv_iconst (v := (-1 : Int32)) hx hb dX8_doorMostCrossed_0 (by decide) ?_
  refine lv_istore_n (lv' := [(1, .int ((-1 : Int32))), (0, .ref a_this)]) hx hb dX8_doorMostCrossed_1 rfl hl (by decide) rfl (fun ls hl => ?_)
  refine lv_iconst (v := (0 : Int32)) hx hb dX8_doorMostCrossed_2 (by decide) ?_
  refine lv_istore_n (lv' := [(2, .int ((0 : Int32))), (1, .int ((-1 : Int32))), (0, .ref a_this)]) hx hb dX8_doorMostCrossed_3 rfl hl (by decide) rfl (fun ls hl => ?_)
  refine lv_iconst (v := (0 : Int32)) hx hb dX8_doorMostCrossed_4 (by decide) ?_
  refine lv_istore_n (lv' := [(3, .int ((0 : Int32))), (2, .int ((0 : Int32))), (1, .int ((-1 : Int32))), (0, .ref a_this)]) hx hb dX8_doorMostCrossed_5 rfl hl (by decide) rfl (fun ls hl => ?_)
  have L_6 : ∀ (n_6 k_6 : Nat), k_6 + n_6 = v_home_doors.toNatClampNeg → ∀ (y1_6 : Int32) (y2_6 : Int32), y1_6 = ((iter (mX8_doorMostCrossed_l6 v_home_now) k_6 (((-1 : Int32), (0 : Int32))))).1 → y2_6 = ((iter (mX8_doorMostCrossed_l6 v_home_now) k_6 (((-1 : Int32), (0 : Int32))))).2 → ∀ (ls : Array Slot), lv_has ls 4 [(3, .int (nI k_6)), (2, .int y2_6), (1, .int y1_6), (0, .ref a_this)] → W p l e (headSpec (Cond.code yX8_doorMostCrossed cX8_doorMostCrossed 4 (some .int) :: wt) ({ frames := 2, cells := 0, slots := 0, locals := 42 } : Room)).room s m args below meth c s.heap [] 0 0 (MQ below (vp_Si (fun r => r = (mX8_doorMostCrossed v_home_doors v_home_now))) args s 0 0 (fun _ => False)) (F0 m 6 ls []) := by
    intro n_6
    induction n_6 with
    | zero =>
      intro k_6 hk y1_6 y2_6 ex0_6 ex1_6 ls hl
      obtain rfl : v_home_doors.toNatClampNeg = k_6 := by omega
      subst ex0_6 ex1_6
      refine lv_iload_n hx hb dX8_doorMostCrossed_6 rfl (lv_at hl 0 rfl) ?_
      refine lv_aload_n hx hb dX8_doorMostCrossed_7 rfl (lv_at hl 3 rfl) ?_
      refine va_get (D := (dC, dI)) (ci := 8) (v := .ref a_this_home) (C := RX8) (T := TX8) (N := 1) hx hb ht iX8 hown hK.1 hP 0 rfl rfl 0 (by decide) (ht _ w_1_113) (fun _ h9 => h9) rfl dX8_doorMostCrossed_8 ?_
      refine va_get (D := (dC, dI)) (ci := 1) (v := .int v_home_doors) (C := RX1) (T := TX1) (N := 10) hx hb ht iX1 hown hK.1 hP 1 rfl rfl 8 (by decide) (ht _ w_1_76) (fun _ h9 => h9) rfl dX8_doorMostCrossed_11 ?_
      refine lv_icmp_ge (tgt := 52) hx hb dX8_doorMostCrossed_14 (by decide) (fun c_3 => ?_) (fun c_3 => ?_)
      · skip
        refine lv_iload_n hx hb dX8_doorMostCrossed_52 rfl (lv_at hl 2 rfl) ?_
        exact W.iret (v := ((iter (mX8_doorMostCrossed_l6 v_home_now) v_home_doors.toNatClampNeg (((-1 : Int32), (0 : Int32))))).1) hx hb hr (fun t ht9 _ => ⟨_, rfl, hm, ht9⟩) (fun q hq => absurd hq List.not_mem_nil) dX8_doorMostCrossed_53
      · exact absurd (lpE (by omega) (by have := clampLt v_home_doors; omega)) c_3
    | succ n_6 ih =>
      intro k_6 hk y1_6 y2_6 ex0_6 ex1_6 ls hl
      have hm : (mX8_doorMostCrossed_l6 v_home_now) k_6 (y1_6, y2_6) = (iter (mX8_doorMostCrossed_l6 v_home_now) (k_6 + 1) (((-1 : Int32), (0 : Int32)))) := by rw [ex0_6, ex1_6]; rfl
      refine lv_iload_n hx hb dX8_doorMostCrossed_6 rfl (lv_at hl 0 rfl) ?_
      refine lv_aload_n hx hb dX8_doorMostCrossed_7 rfl (lv_at hl 3 rfl) ?_
      refine va_get (D := (dC, dI)) (ci := 8) (v := .ref a_this_home) (C := RX8) (T := TX8) (N := 1) hx hb ht iX8 hown hK.1 hP 0 rfl rfl 0 (by decide) (ht _ w_1_113) (fun _ h9 => h9) rfl dX8_doorMostCrossed_8 ?_
      refine va_get (D := (dC, dI)) (ci := 1) (v := .int v_home_doors) (C := RX1) (T := TX1) (N := 10) hx hb ht iX1 hown hK.1 hP 1 rfl rfl 8 (by decide) (ht _ w_1_76) (fun _ h9 => h9) rfl dX8_doorMostCrossed_11 ?_
      refine lv_icmp_ge (tgt := 52) hx hb dX8_doorMostCrossed_14 (by decide) (fun c_1 => ?_) (fun c_1 => ?_)
      · exact absurd c_1 (lpN (by omega))
      · skip
        refine lv_aload_n hx hb dX8_doorMostCrossed_17 rfl (lv_at hl 3 rfl) ?_
        refine va_get (D := (dC, dI)) (ci := 8) (v := .ref a_this_home) (C := RX8) (T := TX8) (N := 1) hx hb ht iX8 hown hK.1 hP 0 rfl rfl 0 (by decide) (ht _ w_1_113) (fun _ h9 => h9) rfl dX8_doorMostCrossed_18 ?_
        refine va_get (D := (dC, dI)) (ci := 1) (v := .ref a_this_home_now) (C := RX1) (T := TX1) (N := 10) hx hb ht iX1 hown hK.1 hP 1 rfl rfl 5 (by decide) (ht _ w_1_68) (fun _ h9 => h9) rfl dX8_doorMostCrossed_21 ?_
        refine lv_iload_n hx hb dX8_doorMostCrossed_24 rfl (lv_at hl 0 rfl) ?_
        refine pv_call (v := (mX7_crossings v_home_now (nI k_6))) (va_runV (As := [.int (nI k_6)]) (rest := []) ⟨hx, hb, hml, hown, ht⟩ (kX7_crossings l dC dI cA cZ a_this_home_now a_this_home_now_row a_this_home_now_row_cells v_home_now (nI k_6)) (cwV 1 ht (gi_V (C := RX7) w_4_61 w_2_191 w_2_192 w_1_5 (gi_code w_2_193)) rfl rfl rfl ⟨rfl, h_X7_crossings⟩ ⟨Nat.le_of_ble_eq_true rfl, Nat.le_of_ble_eq_true rfl⟩) ⟨pp_blind, va_recv hK.1 hP (ci := 7) (q0 := 2) rfl rfl, pp_use (pc_sub (wc := [(a_this_home_now, .inr (7, [.ref a_this_home_now_row])), (a_this_home_now_row, .inr (6, [.ref a_this_home_now_row_cells])), (a_this_home_now_row_cells, .inl (cA, 35, .inl v_home_now))]) hP [2, 3, 4] rfl) hK⟩ rfl rfl hl.1 rfl (lv_room (Nat.le_of_ble_eq_true rfl)) dX8_doorMostCrossed_25 ⟨Nat.zero_le _, Nat.zero_le _⟩) ?_
        refine lv_iload_n hx hb dX8_doorMostCrossed_28 rfl (lv_at hl 1 rfl) ?_
        refine lv_icmp_le (tgt := 46) hx hb dX8_doorMostCrossed_29 (by decide) (fun c_2 => ?_) (fun c_2 => ?_)
        · have hm := (if_pos c_2).symm.trans hm
          refine lv_iinc (v := nI (k_6 + 1)) (lv' := [(3, .int (nI (k_6 + 1))), (2, .int y2_6), (1, .int y1_6), (0, .ref a_this)]) hx hb dX8_doorMostCrossed_46 hl (k := 0) rfl (nI_1 _) (by decide) rfl (fun ls hl => ?_)
          refine lv_goto (tgt := 6) hx hb dX8_doorMostCrossed_49 (by decide) ?_
          exact ih (k_6 + 1) (by omega) y1_6 y2_6 (congrArg (fun z => z.1) hm) (congrArg (fun z => z.2) hm) ls (lv_sub hl [0, 1, 2, 3] rfl)
        · have hm := (if_neg c_2).symm.trans hm
          refine lv_iload_n hx hb dX8_doorMostCrossed_32 rfl (lv_at hl 0 rfl) ?_
          refine lv_istore_n (lv' := [(1, .int (nI k_6)), (3, .int (nI k_6)), (2, .int y2_6), (0, .ref a_this)]) hx hb dX8_doorMostCrossed_33 rfl hl (by decide) rfl (fun ls hl => ?_)
          refine lv_aload_n hx hb dX8_doorMostCrossed_34 rfl (lv_at hl 3 rfl) ?_
          refine va_get (D := (dC, dI)) (ci := 8) (v := .ref a_this_home) (C := RX8) (T := TX8) (N := 1) hx hb ht iX8 hown hK.1 hP 0 rfl rfl 0 (by decide) (ht _ w_1_113) (fun _ h9 => h9) rfl dX8_doorMostCrossed_35 ?_
          refine va_get (D := (dC, dI)) (ci := 1) (v := .ref a_this_home_now) (C := RX1) (T := TX1) (N := 10) hx hb ht iX1 hown hK.1 hP 1 rfl rfl 5 (by decide) (ht _ w_1_68) (fun _ h9 => h9) rfl dX8_doorMostCrossed_38 ?_
          refine lv_iload_n hx hb dX8_doorMostCrossed_41 rfl (lv_at hl 1 rfl) ?_
          refine pv_call (v := (mX7_crossings v_home_now (nI k_6))) (va_runV (As := [.int (nI k_6)]) (rest := []) ⟨hx, hb, hml, hown, ht⟩ (kX7_crossings l dC dI cA cZ a_this_home_now a_this_home_now_row a_this_home_now_row_cells v_home_now (nI k_6)) (cwV 1 ht (gi_V (C := RX7) w_4_61 w_2_191 w_2_192 w_1_5 (gi_code w_2_193)) rfl rfl rfl ⟨rfl, h_X7_crossings⟩ ⟨Nat.le_of_ble_eq_true rfl, Nat.le_of_ble_eq_true rfl⟩) ⟨pp_blind, va_recv hK.1 hP (ci := 7) (q0 := 2) rfl rfl, pp_use (pc_sub (wc := [(a_this_home_now, .inr (7, [.ref a_this_home_now_row])), (a_this_home_now_row, .inr (6, [.ref a_this_home_now_row_cells])), (a_this_home_now_row_cells, .inl (cA, 35, .inl v_home_now))]) hP [2, 3, 4] rfl) hK⟩ rfl rfl hl.1 rfl (lv_room (Nat.le_of_ble_eq_true rfl)) dX8_doorMostCrossed_42 ⟨Nat.zero_le _, Nat.zero_le _⟩) ?_
          refine lv_istore_n (lv' := [(2, .int ((mX7_crossings v_home_now (nI k_6)))), (1, .int (nI k_6)), (3, .int (nI k_6)), (0, .ref a_this)]) hx hb dX8_doorMostCrossed_45 rfl hl (by decide) rfl (fun ls hl => ?_)
          refine lv_iinc (v := nI (k_6 + 1)) (lv' := [(3, .int (nI (k_6 + 1))), (2, .int ((mX7_crossings v_home_now (nI k_6)))), (1, .int (nI k_6)), (0, .ref a_this)]) hx hb dX8_doorMostCrossed_46 hl (k := 2) rfl (nI_1 _) (by decide) rfl (fun ls hl => ?_)
          refine lv_goto (tgt := 6) hx hb dX8_doorMostCrossed_49 (by decide) ?_
          exact ih (k_6 + 1) (by omega) (nI k_6) ((mX7_crossings v_home_now (nI k_6))) (congrArg (fun z => z.1) hm) (congrArg (fun z => z.2) hm) ls (lv_sub hl [0, 1, 2, 3] rfl)
  exact L_6 v_home_doors.toNatClampNeg 0 (Nat.zero_add _) ((-1 : Int32)) ((0 : Int32)) rfl rfl ls (lv_sub hl [0, 1, 2, 3] rfl)
theorem dX8_bridges_0 : decode cX8_bridges 0 = .ok (.aload_n 0, 1) := by decide +kernel
theorem dX8_bridges_1 : decode cX8_bridges 1 = .ok (.getfield 9, 3) := by decide +kernel
theorem dX8_bridges_4 : decode cX8_bridges 4 = .ok (.getfield 15, 3) := by decide +kernel
theorem dX8_bridges_7 : decode cX8_bridges 7 = .ok (.invokestatic 35, 3) := by decide +kernel
theorem dX8_bridges_10 : decode cX8_bridges 10 = .ok (.iconst 1, 1) := by decide +kernel
theorem dX8_bridges_11 : decode cX8_bridges 11 = .ok (.isub, 1) := by decide +kernel
theorem dX8_bridges_12 : decode cX8_bridges 12 = .ok (.istore_n 1, 1) := by decide +kernel
theorem dX8_bridges_13 : decode cX8_bridges 13 = .ok (.iconst 0, 1) := by decide +kernel
theorem dX8_bridges_14 : decode cX8_bridges 14 = .ok (.istore_n 2, 1) := by decide +kernel
theorem dX8_bridges_15 : decode cX8_bridges 15 = .ok (.iconst 0, 1) := by decide +kernel
theorem dX8_bridges_16 : decode cX8_bridges 16 = .ok (.istore_n 3, 1) := by decide +kernel
theorem dX8_bridges_17 : decode cX8_bridges 17 = .ok (.iload_n 3, 1) := by decide +kernel
theorem dX8_bridges_18 : decode cX8_bridges 18 = .ok (.aload_n 0, 1) := by decide +kernel
theorem dX8_bridges_19 : decode cX8_bridges 19 = .ok (.getfield 9, 3) := by decide +kernel
theorem dX8_bridges_22 : decode cX8_bridges 22 = .ok (.getfield 15, 3) := by decide +kernel
theorem dX8_bridges_25 : decode cX8_bridges 25 = .ok (.if_icmp .ge 60, 3) := by decide +kernel
theorem dX8_bridges_28 : decode cX8_bridges 28 = .ok (.aload_n 0, 1) := by decide +kernel
theorem dX8_bridges_29 : decode cX8_bridges 29 = .ok (.aload_n 0, 1) := by decide +kernel
theorem dX8_bridges_30 : decode cX8_bridges 30 = .ok (.getfield 9, 3) := by decide +kernel
theorem dX8_bridges_33 : decode cX8_bridges 33 = .ok (.getfield 112, 3) := by decide +kernel
theorem dX8_bridges_36 : decode cX8_bridges 36 = .ok (.iload_n 3, 1) := by decide +kernel
theorem dX8_bridges_37 : decode cX8_bridges 37 = .ok (.invokevirtual 25, 3) := by decide +kernel
theorem dX8_bridges_40 : decode cX8_bridges 40 = .ok (.iload_n 1, 1) := by decide +kernel
theorem dX8_bridges_41 : decode cX8_bridges 41 = .ok (.iload_n 3, 1) := by decide +kernel
theorem dX8_bridges_42 : decode cX8_bridges 42 = .ok (.invokestatic 35, 3) := by decide +kernel
theorem dX8_bridges_45 : decode cX8_bridges 45 = .ok (.iconst (-1), 1) := by decide +kernel
theorem dX8_bridges_46 : decode cX8_bridges 46 = .ok (.ixor, 1) := by decide +kernel
theorem dX8_bridges_47 : decode cX8_bridges 47 = .ok (.iand, 1) := by decide +kernel
theorem dX8_bridges_48 : decode cX8_bridges 48 = .ok (.invokevirtual 48, 3) := by decide +kernel
theorem dX8_bridges_51 : decode cX8_bridges 51 = .ok (.istore 4, 2) := by decide +kernel
theorem dX8_bridges_53 : decode cX8_bridges 53 = .ok (.iload 4, 2) := by decide +kernel
theorem dX8_bridges_55 : decode cX8_bridges 55 = .ok (.aload_n 0, 1) := by decide +kernel
theorem dX8_bridges_56 : decode cX8_bridges 56 = .ok (.getfield 9, 3) := by decide +kernel
theorem dX8_bridges_59 : decode cX8_bridges 59 = .ok (.getfield 115, 3) := by decide +kernel
theorem dX8_bridges_62 : decode cX8_bridges 62 = .ok (.iload_n 3, 1) := by decide +kernel
theorem dX8_bridges_63 : decode cX8_bridges 63 = .ok (.invokevirtual 25, 3) := by decide +kernel
theorem dX8_bridges_66 : decode cX8_bridges 66 = .ok (.invokestatic 31, 3) := by decide +kernel
theorem dX8_bridges_69 : decode cX8_bridges 69 = .ok (.ifCond .ne 10, 3) := by decide +kernel
theorem dX8_bridges_72 : decode cX8_bridges 72 = .ok (.iload_n 2, 1) := by decide +kernel
theorem dX8_bridges_73 : decode cX8_bridges 73 = .ok (.iload_n 3, 1) := by decide +kernel
theorem dX8_bridges_74 : decode cX8_bridges 74 = .ok (.invokestatic 35, 3) := by decide +kernel
theorem dX8_bridges_77 : decode cX8_bridges 77 = .ok (.ior, 1) := by decide +kernel
theorem dX8_bridges_78 : decode cX8_bridges 78 = .ok (.istore_n 2, 1) := by decide +kernel
theorem dX8_bridges_79 : decode cX8_bridges 79 = .ok (.iinc 3 1, 3) := by decide +kernel
theorem dX8_bridges_82 : decode cX8_bridges 82 = .ok (.goto (-65), 3) := by decide +kernel
theorem dX8_bridges_85 : decode cX8_bridges 85 = .ok (.iload_n 2, 1) := by decide +kernel
theorem dX8_bridges_86 : decode cX8_bridges 86 = .ok (.ireturn, 1) := by decide +kernel
theorem h_X8_bridges : yX8_bridges.cls ≠ "java/lang/invoke/MethodHandle" ∧ yX8_bridges.cls ≠ "java/lang/invoke/VarHandle" ∧ (parseMethodDescriptor yX8_bridges.desc).map (fun d => d.parameters.length) = some 0 := by decide +kernel
def mX8_bridges_l17 (v_home_rooms : Int32) (v_home_doors : Int32) (v_home_doorA : Nat → Int32) (v_home_doorB : Nat → Int32) (v_home_doorSides : Nat → Int32) (k_17 : Nat) (y2_17 : Int32) : Int32 := (if ((mX9_inSet ((mX8_reach v_home_rooms v_home_doors v_home_doorSides ((mX6_get 10 v_home_doorA (nI k_17))) ((((mX9_only v_home_doors)) - ((1 : Int32))) &&& (((mX9_only (nI k_17))) ^^^ ((-1 : Int32)))))) ((mX6_get 10 v_home_doorB (nI k_17))))) = 0 then y2_17 ||| ((mX9_only (nI k_17))) else y2_17)
def mX8_bridges (v_home_rooms : Int32) (v_home_doors : Int32) (v_home_doorA : Nat → Int32) (v_home_doorB : Nat → Int32) (v_home_doorSides : Nat → Int32) : Int32 := (iter (mX8_bridges_l17 v_home_rooms v_home_doors v_home_doorA v_home_doorB v_home_doorSides) v_home_doors.toNatClampNeg ((0 : Int32)))
set_option maxHeartbeats 4000000 in
set_option maxRecDepth 100000 in
theorem kX8_bridges (l : Launch) (dC : Nat → ClassId) (dI : Nat → Nat → Nat) (cA cZ : ClassId) (a_this a_this_home a_this_home_rainfall a_this_home_doorA a_this_home_doorB a_this_home_doorSides a_this_home_doorOpen a_this_home_now a_this_home_doorA_cells a_this_home_doorB_cells a_this_home_doorSides_cells : Nat) (v_home_rooms : Int32) (v_home_rains : Int32) (v_home_doors : Int32) (v_home_persons : Int32) (v_home_doorA : Nat → Int32) (v_home_doorB : Nat → Int32) (v_home_doorSides : Nat → Int32) : Met l yX8_bridges (Cond.code yX8_bridges cX8_bridges 5 (some .int) :: wt) ({ frames := 3, cells := 0, slots := 0, locals := 70 } : Room) (va_Pc [.ref a_this] (PreP (dC, dI) [(cA, .int), (cZ, .boolean)] [(a_this, .inr (8, [.ref a_this_home])), (a_this_home, .inr (1, [.ref a_this_home_rainfall, .ref a_this_home_doorA, .ref a_this_home_doorB, .ref a_this_home_doorSides, .ref a_this_home_doorOpen, .ref a_this_home_now, .int v_home_rooms, .int v_home_rains, .int v_home_doors, .int v_home_persons])), (a_this_home_doorA, .inr (6, [.ref a_this_home_doorA_cells])), (a_this_home_doorB, .inr (6, [.ref a_this_home_doorB_cells])), (a_this_home_doorSides, .inr (6, [.ref a_this_home_doorSides_cells])), (a_this_home_doorA_cells, .inl (cA, 10, .inl v_home_doorA)), (a_this_home_doorB_cells, .inl (cA, 10, .inl v_home_doorB)), (a_this_home_doorSides_cells, .inl (cA, 10, .inl v_home_doorSides))])) (vp_Si (fun r => r = (mX8_bridges v_home_rooms v_home_doors v_home_doorA v_home_doorB v_home_doorSides))) 0 0 (fun _ => False) := by
  refine Met.ofW (cc := cX8_bridges) (maxL := 5) (ret := (some .int)) (by decide) rfl ?_
  intro p e s m args below meth c s₁ B hml hv
  obtain ⟨ha, hP, hK⟩ := hv
  have hx := B.exec
  have hb := B.bytes
  have hr := B.returns
  have ht : ∀ w ∈ wt, w.before args s = true := fun w h => atoms_spec (ws := (Cond.code yX8_bridges cX8_bridges 5 (some .int) :: wt)) B.pre w (List.mem_cons_of_mem _ h)
  have hown : s.vm.findClass RX8 = some m.cls := findClass_of_methodNamed B.named
  have hlocks := B.notSynchronized
  have hl := lv_entry ([.ref a_this]) (n := 5) (Nat.le_of_ble_eq_true rfl)
  rw [show entryFrame m args 5 = _ from (congrArg (fun a => entryFrame m a 5) ha).trans (lg_entry_eq m [.ref a_this] 5)]
  generalize (lg_sl ([.ref a_this]) ++ List.replicate (5 - (lg_sl ([.ref a_this])).length) Slot.unset).toArray = ls at hl ⊢
  have hl : lv_has ls 5 [(0, .ref a_this)] := hl
  have hm : (mX8_bridges v_home_rooms v_home_doors v_home_doorA v_home_doorB v_home_doorSides) = (mX8_bridges v_home_rooms v_home_doors v_home_doorA v_home_doorB v_home_doorSides) := rfl
  refine lv_aload_n hx hb dX8_bridges_0 rfl (lv_at hl 0 rfl) ?_
  refine va_get (D := (dC, dI)) (ci := 8) (v := .ref a_this_home) (C := RX8) (T := TX8) (N := 1) hx hb ht iX8 hown hK.1 hP 0 rfl rfl 0 (by decide) (ht _ w_1_113) (fun _ h9 => h9) rfl dX8_bridges_1 ?_
  refine va_get (D := (dC, dI)) (ci := 1) (v := .int v_home_doors) (C := RX1) (T := TX1) (N := 10) hx hb ht iX1 hown hK.1 hP 1 rfl rfl 8 (by decide) (ht _ w_1_76) (fun _ h9 => h9) rfl dX8_bridges_4 ?_
  refine pv_call (v := (mX9_only v_home_doors)) (va_runSN (As := [.int v_home_doors]) (rest := []) ⟨hx, hb, hml, hown, ht⟩ (kX9_only l dC dI cA cZ v_home_doors) ⟨va_cnB 1 ht (gi_code w_2_108) rfl rfl rfl (hK.2 _ nwi_10) (ht _ w_1_1) h_X9_only ⟨Nat.le_of_ble_eq_true rfl, Nat.le_of_ble_eq_true rfl⟩, ht _ w_2_107, trivial⟩ ⟨pp_blind, pp_use (ws := []) (fun _ _ h => by cases h) hK⟩ rfl rfl hl.1 rfl (lv_room (Nat.le_of_ble_eq_true rfl)) dX8_bridges_7 ⟨Nat.zero_le _, Nat.zero_le _⟩) ?_
  refine lv_iconst (v := (1 : Int32)) hx hb dX8_bridges_10 (by decide) ?_
  refine lv_isub hx hb dX8_bridges_11 ?_
  refine lv_istore_n (lv' := [(1, .int (((mX9_only v_home_doors)) - ((1 : Int32)))), (0, .ref a_this)]) hx hb dX8_bridges_12 rfl hl (by decide) rfl (fun ls hl => ?_)
  refine lv_iconst (v := (0 : Int32)) hx hb dX8_bridges_13 (by decide) ?_
  refine lv_istore_n (lv' := [(2, .int ((0 : Int32))), (1, .int (((mX9_only v_home_doors)) - ((1 : Int32)))), (0, .ref a_this)]) hx hb dX8_bridges_14 rfl hl (by decide) rfl (fun ls hl => ?_)
  refine lv_iconst (v := (0 : Int32)) hx hb dX8_bridges_15 (by decide) ?_
  refine lv_istore_n (lv' := [(3, .int ((0 : Int32))), (2, .int ((0 : Int32))), (1, .int (((mX9_only v_home_doors)) - ((1 : Int32)))), (0, .ref a_this)]) hx hb dX8_bridges_16 rfl hl (by decide) rfl (fun ls hl => ?_)
  have L_17 : ∀ (n_17 k_17 : Nat), k_17 + n_17 = v_home_doors.toNatClampNeg → ∀ (y2_17 : Int32), y2_17 = (iter (mX8_bridges_l17 v_home_rooms v_home_doors v_home_doorA v_home_doorB v_home_doorSides) k_17 ((0 : Int32))) → ∀ (ls : Array Slot), lv_has ls 5 [(3, .int (nI k_17)), (2, .int y2_17), (1, .int (((mX9_only v_home_doors)) - ((1 : Int32)))), (0, .ref a_this)] → W p l e (headSpec (Cond.code yX8_bridges cX8_bridges 5 (some .int) :: wt) ({ frames := 3, cells := 0, slots := 0, locals := 70 } : Room)).room s m args below meth c s.heap [] 0 0 (MQ below (vp_Si (fun r => r = (mX8_bridges v_home_rooms v_home_doors v_home_doorA v_home_doorB v_home_doorSides))) args s 0 0 (fun _ => False)) (F0 m 17 ls []) := by
    intro n_17
    induction n_17 with
    | zero =>
      intro k_17 hk y2_17 ex0_17 ls hl
      obtain rfl : v_home_doors.toNatClampNeg = k_17 := by omega
      subst ex0_17
      refine lv_iload_n hx hb dX8_bridges_17 rfl (lv_at hl 0 rfl) ?_
      refine lv_aload_n hx hb dX8_bridges_18 rfl (lv_at hl 3 rfl) ?_
      refine va_get (D := (dC, dI)) (ci := 8) (v := .ref a_this_home) (C := RX8) (T := TX8) (N := 1) hx hb ht iX8 hown hK.1 hP 0 rfl rfl 0 (by decide) (ht _ w_1_113) (fun _ h9 => h9) rfl dX8_bridges_19 ?_
      refine va_get (D := (dC, dI)) (ci := 1) (v := .int v_home_doors) (C := RX1) (T := TX1) (N := 10) hx hb ht iX1 hown hK.1 hP 1 rfl rfl 8 (by decide) (ht _ w_1_76) (fun _ h9 => h9) rfl dX8_bridges_22 ?_
      refine lv_icmp_ge (tgt := 85) hx hb dX8_bridges_25 (by decide) (fun c_3 => ?_) (fun c_3 => ?_)
      · skip
        refine lv_iload_n hx hb dX8_bridges_85 rfl (lv_at hl 1 rfl) ?_
        exact W.iret (v := (iter (mX8_bridges_l17 v_home_rooms v_home_doors v_home_doorA v_home_doorB v_home_doorSides) v_home_doors.toNatClampNeg ((0 : Int32)))) hx hb hr (fun t ht9 _ => ⟨_, rfl, hm, ht9⟩) (fun q hq => absurd hq List.not_mem_nil) dX8_bridges_86
      · exact absurd (lpE (by omega) (by have := clampLt v_home_doors; omega)) c_3
    | succ n_17 ih =>
      intro k_17 hk y2_17 ex0_17 ls hl
      have hm : (mX8_bridges_l17 v_home_rooms v_home_doors v_home_doorA v_home_doorB v_home_doorSides) k_17 y2_17 = (iter (mX8_bridges_l17 v_home_rooms v_home_doors v_home_doorA v_home_doorB v_home_doorSides) (k_17 + 1) ((0 : Int32))) := by rw [ex0_17]; rfl
      refine lv_iload_n hx hb dX8_bridges_17 rfl (lv_at hl 0 rfl) ?_
      refine lv_aload_n hx hb dX8_bridges_18 rfl (lv_at hl 3 rfl) ?_
      refine va_get (D := (dC, dI)) (ci := 8) (v := .ref a_this_home) (C := RX8) (T := TX8) (N := 1) hx hb ht iX8 hown hK.1 hP 0 rfl rfl 0 (by decide) (ht _ w_1_113) (fun _ h9 => h9) rfl dX8_bridges_19 ?_
      refine va_get (D := (dC, dI)) (ci := 1) (v := .int v_home_doors) (C := RX1) (T := TX1) (N := 10) hx hb ht iX1 hown hK.1 hP 1 rfl rfl 8 (by decide) (ht _ w_1_76) (fun _ h9 => h9) rfl dX8_bridges_22 ?_
      refine lv_icmp_ge (tgt := 85) hx hb dX8_bridges_25 (by decide) (fun c_1 => ?_) (fun c_1 => ?_)
      · exact absurd c_1 (lpN (by omega))
      · skip
        refine lv_aload_n hx hb dX8_bridges_28 rfl (lv_at hl 3 rfl) ?_
        refine lv_aload_n hx hb dX8_bridges_29 rfl (lv_at hl 3 rfl) ?_
        refine va_get (D := (dC, dI)) (ci := 8) (v := .ref a_this_home) (C := RX8) (T := TX8) (N := 1) hx hb ht iX8 hown hK.1 hP 0 rfl rfl 0 (by decide) (ht _ w_1_113) (fun _ h9 => h9) rfl dX8_bridges_30 ?_
        refine va_get (D := (dC, dI)) (ci := 1) (v := .ref a_this_home_doorA) (C := RX1) (T := TX1) (N := 10) hx hb ht iX1 hown hK.1 hP 1 rfl rfl 1 (by decide) (ht _ w_1_58) (fun _ h9 => h9) rfl dX8_bridges_33 ?_
        refine lv_iload_n hx hb dX8_bridges_36 rfl (lv_at hl 0 rfl) ?_
        refine pv_call (v := (mX6_get 10 v_home_doorA (nI k_17))) (va_runV (As := [.int (nI k_17)]) (rest := [.ref a_this]) ⟨hx, hb, hml, hown, ht⟩ (kX6_get l dC dI cA cZ a_this_home_doorA a_this_home_doorA_cells 10 v_home_doorA (nI k_17) (by decide)) (cwV 1 ht (gi_V (C := RX6) w_3_5 w_2_56 w_2_57 w_1_3 (gi_code w_2_58)) rfl rfl rfl ⟨rfl, h_X6_get⟩ ⟨Nat.le_of_ble_eq_true rfl, Nat.le_of_ble_eq_true rfl⟩) ⟨pp_blind, va_recv hK.1 hP (ci := 6) (q0 := 2) rfl rfl, pp_use (pc_sub (wc := [(a_this_home_doorA, .inr (6, [.ref a_this_home_doorA_cells])), (a_this_home_doorA_cells, .inl (cA, 10, .inl v_home_doorA))]) hP [2, 5] rfl) hK⟩ rfl rfl hl.1 rfl (lv_room (Nat.le_of_ble_eq_true rfl)) dX8_bridges_37 ⟨Nat.zero_le _, Nat.zero_le _⟩) ?_
        refine lv_iload_n hx hb dX8_bridges_40 rfl (lv_at hl 2 rfl) ?_
        refine lv_iload_n hx hb dX8_bridges_41 rfl (lv_at hl 0 rfl) ?_
        refine pv_call (v := (mX9_only (nI k_17))) (va_runSN (As := [.int (nI k_17)]) (rest := [.int (((mX9_only v_home_doors)) - ((1 : Int32))), .int ((mX6_get 10 v_home_doorA (nI k_17))), .ref a_this]) ⟨hx, hb, hml, hown, ht⟩ (kX9_only l dC dI cA cZ (nI k_17)) ⟨va_cnB 1 ht (gi_code w_2_108) rfl rfl rfl (hK.2 _ nwi_10) (ht _ w_1_1) h_X9_only ⟨Nat.le_of_ble_eq_true rfl, Nat.le_of_ble_eq_true rfl⟩, ht _ w_2_107, trivial⟩ ⟨pp_blind, pp_use (ws := []) (fun _ _ h => by cases h) hK⟩ rfl rfl hl.1 rfl (lv_room (Nat.le_of_ble_eq_true rfl)) dX8_bridges_42 ⟨Nat.zero_le _, Nat.zero_le _⟩) ?_
        refine lv_iconst (v := (-1 : Int32)) hx hb dX8_bridges_45 (by decide) ?_
        refine lv_ixor hx hb dX8_bridges_46 ?_
        refine lv_iand hx hb dX8_bridges_47 ?_
        refine pv_call (v := (mX8_reach v_home_rooms v_home_doors v_home_doorSides ((mX6_get 10 v_home_doorA (nI k_17))) ((((mX9_only v_home_doors)) - ((1 : Int32))) &&& (((mX9_only (nI k_17))) ^^^ ((-1 : Int32)))))) (va_runV (As := [.int ((mX6_get 10 v_home_doorA (nI k_17))), .int ((((mX9_only v_home_doors)) - ((1 : Int32))) &&& (((mX9_only (nI k_17))) ^^^ ((-1 : Int32))))]) (rest := []) ⟨hx, hb, hml, hown, ht⟩ (kX8_reach l dC dI cA cZ a_this a_this_home a_this_home_rainfall a_this_home_doorA a_this_home_doorB a_this_home_doorSides a_this_home_doorOpen a_this_home_now a_this_home_doorSides_cells v_home_rooms v_home_rains v_home_doors v_home_persons v_home_doorSides ((mX6_get 10 v_home_doorA (nI k_17))) ((((mX9_only v_home_doors)) - ((1 : Int32))) &&& (((mX9_only (nI k_17))) ^^^ ((-1 : Int32))))) (cwV 2 ht (gi_V (C := RX8) w_2_237 w_2_239 w_0_9 w_1_6 (gi_code w_3_0)) rfl rfl rfl ⟨rfl, h_X8_reach⟩ ⟨Nat.le_of_ble_eq_true rfl, Nat.le_of_ble_eq_true rfl⟩) ⟨pp_blind, va_recv hK.1 hP (ci := 8) (q0 := 0) rfl rfl, pp_use (pc_sub (wc := [(a_this, .inr (8, [.ref a_this_home])), (a_this_home, .inr (1, [.ref a_this_home_rainfall, .ref a_this_home_doorA, .ref a_this_home_doorB, .ref a_this_home_doorSides, .ref a_this_home_doorOpen, .ref a_this_home_now, .int v_home_rooms, .int v_home_rains, .int v_home_doors, .int v_home_persons])), (a_this_home_doorSides, .inr (6, [.ref a_this_home_doorSides_cells])), (a_this_home_doorSides_cells, .inl (cA, 10, .inl v_home_doorSides))]) hP [0, 1, 4, 7] rfl) hK⟩ rfl rfl hl.1 rfl (lv_room (Nat.le_of_ble_eq_true rfl)) dX8_bridges_48 ⟨Nat.zero_le _, Nat.zero_le _⟩) ?_
        refine lv_istore (lv' := [(4, .int ((mX8_reach v_home_rooms v_home_doors v_home_doorSides ((mX6_get 10 v_home_doorA (nI k_17))) ((((mX9_only v_home_doors)) - ((1 : Int32))) &&& (((mX9_only (nI k_17))) ^^^ ((-1 : Int32))))))), (3, .int (nI k_17)), (2, .int y2_17), (1, .int (((mX9_only v_home_doors)) - ((1 : Int32)))), (0, .ref a_this)]) hx hb dX8_bridges_51 hl (by decide) rfl (fun ls hl => ?_)
        refine lv_iload hx hb dX8_bridges_53 (lv_at hl 0 rfl) ?_
        refine lv_aload_n hx hb dX8_bridges_55 rfl (lv_at hl 4 rfl) ?_
        refine va_get (D := (dC, dI)) (ci := 8) (v := .ref a_this_home) (C := RX8) (T := TX8) (N := 1) hx hb ht iX8 hown hK.1 hP 0 rfl rfl 0 (by decide) (ht _ w_1_113) (fun _ h9 => h9) rfl dX8_bridges_56 ?_
        refine va_get (D := (dC, dI)) (ci := 1) (v := .ref a_this_home_doorB) (C := RX1) (T := TX1) (N := 10) hx hb ht iX1 hown hK.1 hP 1 rfl rfl 2 (by decide) (ht _ w_1_61) (fun _ h9 => h9) rfl dX8_bridges_59 ?_
        refine lv_iload_n hx hb dX8_bridges_62 rfl (lv_at hl 1 rfl) ?_
        refine pv_call (v := (mX6_get 10 v_home_doorB (nI k_17))) (va_runV (As := [.int (nI k_17)]) (rest := [.int ((mX8_reach v_home_rooms v_home_doors v_home_doorSides ((mX6_get 10 v_home_doorA (nI k_17))) ((((mX9_only v_home_doors)) - ((1 : Int32))) &&& (((mX9_only (nI k_17))) ^^^ ((-1 : Int32))))))]) ⟨hx, hb, hml, hown, ht⟩ (kX6_get l dC dI cA cZ a_this_home_doorB a_this_home_doorB_cells 10 v_home_doorB (nI k_17) (by decide)) (cwV 1 ht (gi_V (C := RX6) w_3_5 w_2_56 w_2_57 w_1_3 (gi_code w_2_58)) rfl rfl rfl ⟨rfl, h_X6_get⟩ ⟨Nat.le_of_ble_eq_true rfl, Nat.le_of_ble_eq_true rfl⟩) ⟨pp_blind, va_recv hK.1 hP (ci := 6) (q0 := 3) rfl rfl, pp_use (pc_sub (wc := [(a_this_home_doorB, .inr (6, [.ref a_this_home_doorB_cells])), (a_this_home_doorB_cells, .inl (cA, 10, .inl v_home_doorB))]) hP [3, 6] rfl) hK⟩ rfl rfl hl.1 rfl (lv_room (Nat.le_of_ble_eq_true rfl)) dX8_bridges_63 ⟨Nat.zero_le _, Nat.zero_le _⟩) ?_
        refine pv_call (v := (mX9_inSet ((mX8_reach v_home_rooms v_home_doors v_home_doorSides ((mX6_get 10 v_home_doorA (nI k_17))) ((((mX9_only v_home_doors)) - ((1 : Int32))) &&& (((mX9_only (nI k_17))) ^^^ ((-1 : Int32)))))) ((mX6_get 10 v_home_doorB (nI k_17))))) (va_runSN (As := [.int ((mX8_reach v_home_rooms v_home_doors v_home_doorSides ((mX6_get 10 v_home_doorA (nI k_17))) ((((mX9_only v_home_doors)) - ((1 : Int32))) &&& (((mX9_only (nI k_17))) ^^^ ((-1 : Int32)))))), .int ((mX6_get 10 v_home_doorB (nI k_17)))]) (rest := []) ⟨hx, hb, hml, hown, ht⟩ (kX9_inSet l dC dI cA cZ ((mX8_reach v_home_rooms v_home_doors v_home_doorSides ((mX6_get 10 v_home_doorA (nI k_17))) ((((mX9_only v_home_doors)) - ((1 : Int32))) &&& (((mX9_only (nI k_17))) ^^^ ((-1 : Int32)))))) ((mX6_get 10 v_home_doorB (nI k_17)))) ⟨va_cnB 2 ht (gi_code w_3_8) rfl rfl rfl (hK.2 _ nwi_13) (ht _ w_1_1) h_X9_inSet ⟨Nat.le_of_ble_eq_true rfl, Nat.le_of_ble_eq_true rfl⟩, ht _ w_3_7, trivial⟩ ⟨pp_blind, pp_use (ws := []) (fun _ _ h => by cases h) hK⟩ rfl rfl hl.1 rfl (lv_room (Nat.le_of_ble_eq_true rfl)) dX8_bridges_66 ⟨Nat.zero_le _, Nat.zero_le _⟩) ?_
        refine lv_if_ne (tgt := 79) hx hb dX8_bridges_69 (by decide) (fun c_2 => ?_) (fun c_2 => ?_)
        · have hm := (if_neg c_2).symm.trans hm
          refine lv_iinc (v := nI (k_17 + 1)) (lv' := [(3, .int (nI (k_17 + 1))), (4, .int ((mX8_reach v_home_rooms v_home_doors v_home_doorSides ((mX6_get 10 v_home_doorA (nI k_17))) ((((mX9_only v_home_doors)) - ((1 : Int32))) &&& (((mX9_only (nI k_17))) ^^^ ((-1 : Int32))))))), (2, .int y2_17), (1, .int (((mX9_only v_home_doors)) - ((1 : Int32)))), (0, .ref a_this)]) hx hb dX8_bridges_79 hl (k := 1) rfl (nI_1 _) (by decide) rfl (fun ls hl => ?_)
          refine lv_goto (tgt := 17) hx hb dX8_bridges_82 (by decide) ?_
          exact ih (k_17 + 1) (by omega) y2_17 hm ls (lv_sub hl [0, 2, 3, 4] rfl)
        · have hm := (if_pos c_2).symm.trans hm
          refine lv_iload_n hx hb dX8_bridges_72 rfl (lv_at hl 2 rfl) ?_
          refine lv_iload_n hx hb dX8_bridges_73 rfl (lv_at hl 1 rfl) ?_
          refine pv_call (v := (mX9_only (nI k_17))) (va_runSN (As := [.int (nI k_17)]) (rest := [.int y2_17]) ⟨hx, hb, hml, hown, ht⟩ (kX9_only l dC dI cA cZ (nI k_17)) ⟨va_cnB 1 ht (gi_code w_2_108) rfl rfl rfl (hK.2 _ nwi_10) (ht _ w_1_1) h_X9_only ⟨Nat.le_of_ble_eq_true rfl, Nat.le_of_ble_eq_true rfl⟩, ht _ w_2_107, trivial⟩ ⟨pp_blind, pp_use (ws := []) (fun _ _ h => by cases h) hK⟩ rfl rfl hl.1 rfl (lv_room (Nat.le_of_ble_eq_true rfl)) dX8_bridges_74 ⟨Nat.zero_le _, Nat.zero_le _⟩) ?_
          refine lv_ior hx hb dX8_bridges_77 ?_
          refine lv_istore_n (lv' := [(2, .int (y2_17 ||| ((mX9_only (nI k_17))))), (4, .int ((mX8_reach v_home_rooms v_home_doors v_home_doorSides ((mX6_get 10 v_home_doorA (nI k_17))) ((((mX9_only v_home_doors)) - ((1 : Int32))) &&& (((mX9_only (nI k_17))) ^^^ ((-1 : Int32))))))), (3, .int (nI k_17)), (1, .int (((mX9_only v_home_doors)) - ((1 : Int32)))), (0, .ref a_this)]) hx hb dX8_bridges_78 rfl hl (by decide) rfl (fun ls hl => ?_)
          refine lv_iinc (v := nI (k_17 + 1)) (lv' := [(3, .int (nI (k_17 + 1))), (2, .int (y2_17 ||| ((mX9_only (nI k_17))))), (4, .int ((mX8_reach v_home_rooms v_home_doors v_home_doorSides ((mX6_get 10 v_home_doorA (nI k_17))) ((((mX9_only v_home_doors)) - ((1 : Int32))) &&& (((mX9_only (nI k_17))) ^^^ ((-1 : Int32))))))), (1, .int (((mX9_only v_home_doors)) - ((1 : Int32)))), (0, .ref a_this)]) hx hb dX8_bridges_79 hl (k := 2) rfl (nI_1 _) (by decide) rfl (fun ls hl => ?_)
          refine lv_goto (tgt := 17) hx hb dX8_bridges_82 (by decide) ?_
          exact ih (k_17 + 1) (by omega) (y2_17 ||| ((mX9_only (nI k_17)))) hm ls (lv_sub hl [0, 1, 3, 4] rfl)
  exact L_17 v_home_doors.toNatClampNeg 0 (Nat.zero_add _) ((0 : Int32)) rfl ls (lv_sub hl [0, 1, 2, 3] rfl)
theorem dX8_worstComer_0 : decode cX8_worstComer 0 = .ok (.aload_n 0, 1) := by decide +kernel
theorem dX8_worstComer_1 : decode cX8_worstComer 1 = .ok (.iconst 0, 1) := by decide +kernel
theorem dX8_worstComer_2 : decode cX8_worstComer 2 = .ok (.invokevirtual 72, 3) := by decide +kernel
theorem dX8_worstComer_5 : decode cX8_worstComer 5 = .ok (.istore_n 1, 1) := by decide +kernel
theorem dX8_worstComer_6 : decode cX8_worstComer 6 = .ok (.iconst (-1), 1) := by decide +kernel
theorem dX8_worstComer_7 : decode cX8_worstComer 7 = .ok (.istore_n 2, 1) := by decide +kernel
theorem dX8_worstComer_8 : decode cX8_worstComer 8 = .ok (.iconst (-1), 1) := by decide +kernel
theorem dX8_worstComer_9 : decode cX8_worstComer 9 = .ok (.istore_n 3, 1) := by decide +kernel
theorem dX8_worstComer_10 : decode cX8_worstComer 10 = .ok (.iconst 0, 1) := by decide +kernel
theorem dX8_worstComer_11 : decode cX8_worstComer 11 = .ok (.istore 4, 2) := by decide +kernel
theorem dX8_worstComer_13 : decode cX8_worstComer 13 = .ok (.iload 4, 2) := by decide +kernel
theorem dX8_worstComer_15 : decode cX8_worstComer 15 = .ok (.aload_n 0, 1) := by decide +kernel
theorem dX8_worstComer_16 : decode cX8_worstComer 16 = .ok (.getfield 9, 3) := by decide +kernel
theorem dX8_worstComer_19 : decode cX8_worstComer 19 = .ok (.getfield 66, 3) := by decide +kernel
theorem dX8_worstComer_22 : decode cX8_worstComer 22 = .ok (.if_icmp .ge 50, 3) := by decide +kernel
theorem dX8_worstComer_25 : decode cX8_worstComer 25 = .ok (.iload_n 1, 1) := by decide +kernel
theorem dX8_worstComer_26 : decode cX8_worstComer 26 = .ok (.iload 4, 2) := by decide +kernel
theorem dX8_worstComer_28 : decode cX8_worstComer 28 = .ok (.invokestatic 31, 3) := by decide +kernel
theorem dX8_worstComer_31 : decode cX8_worstComer 31 = .ok (.ifCond .eq 35, 3) := by decide +kernel
theorem dX8_worstComer_34 : decode cX8_worstComer 34 = .ok (.aload_n 0, 1) := by decide +kernel
theorem dX8_worstComer_35 : decode cX8_worstComer 35 = .ok (.getfield 9, 3) := by decide +kernel
theorem dX8_worstComer_38 : decode cX8_worstComer 38 = .ok (.getfield 51, 3) := by decide +kernel
theorem dX8_worstComer_41 : decode cX8_worstComer 41 = .ok (.iload 4, 2) := by decide +kernel
theorem dX8_worstComer_43 : decode cX8_worstComer 43 = .ok (.invokevirtual 60, 3) := by decide +kernel
theorem dX8_worstComer_46 : decode cX8_worstComer 46 = .ok (.iload_n 3, 1) := by decide +kernel
theorem dX8_worstComer_47 : decode cX8_worstComer 47 = .ok (.if_icmp .le 19, 3) := by decide +kernel
theorem dX8_worstComer_50 : decode cX8_worstComer 50 = .ok (.iload 4, 2) := by decide +kernel
theorem dX8_worstComer_52 : decode cX8_worstComer 52 = .ok (.istore_n 2, 1) := by decide +kernel
theorem dX8_worstComer_53 : decode cX8_worstComer 53 = .ok (.aload_n 0, 1) := by decide +kernel
theorem dX8_worstComer_54 : decode cX8_worstComer 54 = .ok (.getfield 9, 3) := by decide +kernel
theorem dX8_worstComer_57 : decode cX8_worstComer 57 = .ok (.getfield 51, 3) := by decide +kernel
theorem dX8_worstComer_60 : decode cX8_worstComer 60 = .ok (.iload 4, 2) := by decide +kernel
theorem dX8_worstComer_62 : decode cX8_worstComer 62 = .ok (.invokevirtual 60, 3) := by decide +kernel
theorem dX8_worstComer_65 : decode cX8_worstComer 65 = .ok (.istore_n 3, 1) := by decide +kernel
theorem dX8_worstComer_66 : decode cX8_worstComer 66 = .ok (.iinc 4 1, 3) := by decide +kernel
theorem dX8_worstComer_69 : decode cX8_worstComer 69 = .ok (.goto (-56), 3) := by decide +kernel
theorem dX8_worstComer_72 : decode cX8_worstComer 72 = .ok (.iload_n 2, 1) := by decide +kernel
theorem dX8_worstComer_73 : decode cX8_worstComer 73 = .ok (.ireturn, 1) := by decide +kernel
theorem h_X8_worstComer : yX8_worstComer.cls ≠ "java/lang/invoke/MethodHandle" ∧ yX8_worstComer.cls ≠ "java/lang/invoke/VarHandle" ∧ (parseMethodDescriptor yX8_worstComer.desc).map (fun d => d.parameters.length) = some 0 := by decide +kernel
def mX8_worstComer_l13 (v_home_rooms : Int32) (v_home_doors : Int32) (v_home_persons : Int32) (v_home_doorSides : Nat → Int32) (v_home_now : Nat → Int32) (k_13 : Nat) (s : Int32 × Int32) : Int32 × Int32 := (if ((mX9_inSet ((mX8_comersTo v_home_rooms v_home_doors v_home_persons v_home_doorSides v_home_now ((0 : Int32)))) (nI k_13))) = 0 then (s.1, s.2) else (if ((mX7_ill v_home_now (nI k_13))) ≤ s.2 then (s.1, s.2) else (nI k_13, (mX7_ill v_home_now (nI k_13)))))
def mX8_worstComer (v_home_rooms : Int32) (v_home_doors : Int32) (v_home_persons : Int32) (v_home_doorSides : Nat → Int32) (v_home_now : Nat → Int32) : Int32 := ((iter (mX8_worstComer_l13 v_home_rooms v_home_doors v_home_persons v_home_doorSides v_home_now) v_home_persons.toNatClampNeg (((-1 : Int32), (-1 : Int32))))).1
set_option maxHeartbeats 4000000 in
set_option maxRecDepth 100000 in
theorem kX8_worstComer (l : Launch) (dC : Nat → ClassId) (dI : Nat → Nat → Nat) (cA cZ : ClassId) (a_this a_this_home a_this_home_rainfall a_this_home_doorA a_this_home_doorB a_this_home_doorSides a_this_home_doorOpen a_this_home_now a_this_home_doorSides_cells a_this_home_now_row a_this_home_now_row_cells : Nat) (v_home_rooms : Int32) (v_home_rains : Int32) (v_home_doors : Int32) (v_home_persons : Int32) (v_home_doorSides : Nat → Int32) (v_home_now : Nat → Int32) : Met l yX8_worstComer (Cond.code yX8_worstComer cX8_worstComer 5 (some .int) :: wt) ({ frames := 6, cells := 0, slots := 0, locals := 136 } : Room) (va_Pc [.ref a_this] (PreP (dC, dI) [(cA, .int), (cZ, .boolean)] [(a_this, .inr (8, [.ref a_this_home])), (a_this_home, .inr (1, [.ref a_this_home_rainfall, .ref a_this_home_doorA, .ref a_this_home_doorB, .ref a_this_home_doorSides, .ref a_this_home_doorOpen, .ref a_this_home_now, .int v_home_rooms, .int v_home_rains, .int v_home_doors, .int v_home_persons])), (a_this_home_doorSides, .inr (6, [.ref a_this_home_doorSides_cells])), (a_this_home_now, .inr (7, [.ref a_this_home_now_row])), (a_this_home_doorSides_cells, .inl (cA, 10, .inl v_home_doorSides)), (a_this_home_now_row, .inr (6, [.ref a_this_home_now_row_cells])), (a_this_home_now_row_cells, .inl (cA, 35, .inl v_home_now))])) (vp_Si (fun r => r = (mX8_worstComer v_home_rooms v_home_doors v_home_persons v_home_doorSides v_home_now))) 0 0 (fun _ => False) := by
  refine Met.ofW (cc := cX8_worstComer) (maxL := 5) (ret := (some .int)) (by decide) rfl ?_
  intro p e s m args below meth c s₁ B hml hv
  obtain ⟨ha, hP, hK⟩ := hv
  have hx := B.exec
  have hb := B.bytes
  have hr := B.returns
  have ht : ∀ w ∈ wt, w.before args s = true := fun w h => atoms_spec (ws := (Cond.code yX8_worstComer cX8_worstComer 5 (some .int) :: wt)) B.pre w (List.mem_cons_of_mem _ h)
  have hown : s.vm.findClass RX8 = some m.cls := findClass_of_methodNamed B.named
  have hlocks := B.notSynchronized
  have hl := lv_entry ([.ref a_this]) (n := 5) (Nat.le_of_ble_eq_true rfl)
  rw [show entryFrame m args 5 = _ from (congrArg (fun a => entryFrame m a 5) ha).trans (lg_entry_eq m [.ref a_this] 5)]
  generalize (lg_sl ([.ref a_this]) ++ List.replicate (5 - (lg_sl ([.ref a_this])).length) Slot.unset).toArray = ls at hl ⊢
  have hl : lv_has ls 5 [(0, .ref a_this)] := hl
  have hm : (mX8_worstComer v_home_rooms v_home_doors v_home_persons v_home_doorSides v_home_now) = (mX8_worstComer v_home_rooms v_home_doors v_home_persons v_home_doorSides v_home_now) := rfl
  refine lv_aload_n hx hb dX8_worstComer_0 rfl (lv_at hl 0 rfl) ?_
  refine lv_iconst (v := (0 : Int32)) hx hb dX8_worstComer_1 (by decide) ?_
  refine pv_call (v := (mX8_comersTo v_home_rooms v_home_doors v_home_persons v_home_doorSides v_home_now ((0 : Int32)))) (va_runV (As := [.int ((0 : Int32))]) (rest := []) ⟨hx, hb, hml, hown, ht⟩ (kX8_comersTo l dC dI cA cZ a_this a_this_home a_this_home_rainfall a_this_home_doorA a_this_home_doorB a_this_home_doorSides a_this_home_doorOpen a_this_home_now a_this_home_doorSides_cells a_this_home_now_row a_this_home_now_row_cells v_home_rooms v_home_rains v_home_doors v_home_persons v_home_doorSides v_home_now ((0 : Int32))) (cwV 1 ht (gi_V (C := RX8) w_2_199 w_2_200 w_2_201 w_1_6 (gi_code w_2_202)) rfl rfl rfl ⟨rfl, h_X8_comersTo⟩ ⟨Nat.le_of_ble_eq_true rfl, Nat.le_of_ble_eq_true rfl⟩) ⟨pp_blind, va_recv hK.1 hP (ci := 8) (q0 := 0) rfl rfl, pp_use hP hK⟩ rfl rfl hl.1 rfl (lv_room (Nat.le_of_ble_eq_true rfl)) dX8_worstComer_2 ⟨Nat.zero_le _, Nat.zero_le _⟩) ?_
  refine lv_istore_n (lv' := [(1, .int ((mX8_comersTo v_home_rooms v_home_doors v_home_persons v_home_doorSides v_home_now ((0 : Int32))))), (0, .ref a_this)]) hx hb dX8_worstComer_5 rfl hl (by decide) rfl (fun ls hl => ?_)
  refine lv_iconst (v := (-1 : Int32)) hx hb dX8_worstComer_6 (by decide) ?_
  refine lv_istore_n (lv' := [(2, .int ((-1 : Int32))), (1, .int ((mX8_comersTo v_home_rooms v_home_doors v_home_persons v_home_doorSides v_home_now ((0 : Int32))))), (0, .ref a_this)]) hx hb dX8_worstComer_7 rfl hl (by decide) rfl (fun ls hl => ?_)
  refine lv_iconst (v := (-1 : Int32)) hx hb dX8_worstComer_8 (by decide) ?_
  refine lv_istore_n (lv' := [(3, .int ((-1 : Int32))), (2, .int ((-1 : Int32))), (1, .int ((mX8_comersTo v_home_rooms v_home_doors v_home_persons v_home_doorSides v_home_now ((0 : Int32))))), (0, .ref a_this)]) hx hb dX8_worstComer_9 rfl hl (by decide) rfl (fun ls hl => ?_)
  refine lv_iconst (v := (0 : Int32)) hx hb dX8_worstComer_10 (by decide) ?_
  refine lv_istore (lv' := [(4, .int ((0 : Int32))), (3, .int ((-1 : Int32))), (2, .int ((-1 : Int32))), (1, .int ((mX8_comersTo v_home_rooms v_home_doors v_home_persons v_home_doorSides v_home_now ((0 : Int32))))), (0, .ref a_this)]) hx hb dX8_worstComer_11 hl (by decide) rfl (fun ls hl => ?_)
  have L_13 : ∀ (n_13 k_13 : Nat), k_13 + n_13 = v_home_persons.toNatClampNeg → ∀ (y2_13 : Int32) (y3_13 : Int32), y2_13 = ((iter (mX8_worstComer_l13 v_home_rooms v_home_doors v_home_persons v_home_doorSides v_home_now) k_13 (((-1 : Int32), (-1 : Int32))))).1 → y3_13 = ((iter (mX8_worstComer_l13 v_home_rooms v_home_doors v_home_persons v_home_doorSides v_home_now) k_13 (((-1 : Int32), (-1 : Int32))))).2 → ∀ (ls : Array Slot), lv_has ls 5 [(4, .int (nI k_13)), (3, .int y3_13), (2, .int y2_13), (1, .int ((mX8_comersTo v_home_rooms v_home_doors v_home_persons v_home_doorSides v_home_now ((0 : Int32))))), (0, .ref a_this)] → W p l e (headSpec (Cond.code yX8_worstComer cX8_worstComer 5 (some .int) :: wt) ({ frames := 6, cells := 0, slots := 0, locals := 136 } : Room)).room s m args below meth c s.heap [] 0 0 (MQ below (vp_Si (fun r => r = (mX8_worstComer v_home_rooms v_home_doors v_home_persons v_home_doorSides v_home_now))) args s 0 0 (fun _ => False)) (F0 m 13 ls []) := by
    intro n_13
    induction n_13 with
    | zero =>
      intro k_13 hk y2_13 y3_13 ex0_13 ex1_13 ls hl
      obtain rfl : v_home_persons.toNatClampNeg = k_13 := by omega
      subst ex0_13 ex1_13
      refine lv_iload hx hb dX8_worstComer_13 (lv_at hl 0 rfl) ?_
      refine lv_aload_n hx hb dX8_worstComer_15 rfl (lv_at hl 4 rfl) ?_
      refine va_get (D := (dC, dI)) (ci := 8) (v := .ref a_this_home) (C := RX8) (T := TX8) (N := 1) hx hb ht iX8 hown hK.1 hP 0 rfl rfl 0 (by decide) (ht _ w_1_113) (fun _ h9 => h9) rfl dX8_worstComer_16 ?_
      refine va_get (D := (dC, dI)) (ci := 1) (v := .int v_home_persons) (C := RX1) (T := TX1) (N := 10) hx hb ht iX1 hown hK.1 hP 1 rfl rfl 9 (by decide) (ht _ w_1_85) (fun _ h9 => h9) rfl dX8_worstComer_19 ?_
      refine lv_icmp_ge (tgt := 72) hx hb dX8_worstComer_22 (by decide) (fun c_4 => ?_) (fun c_4 => ?_)
      · skip
        refine lv_iload_n hx hb dX8_worstComer_72 rfl (lv_at hl 2 rfl) ?_
        exact W.iret (v := ((iter (mX8_worstComer_l13 v_home_rooms v_home_doors v_home_persons v_home_doorSides v_home_now) v_home_persons.toNatClampNeg (((-1 : Int32), (-1 : Int32))))).1) hx hb hr (fun t ht9 _ => ⟨_, rfl, hm, ht9⟩) (fun q hq => absurd hq List.not_mem_nil) dX8_worstComer_73
      · exact absurd (lpE (by omega) (by have := clampLt v_home_persons; omega)) c_4
    | succ n_13 ih =>
      intro k_13 hk y2_13 y3_13 ex0_13 ex1_13 ls hl
      have hm : (mX8_worstComer_l13 v_home_rooms v_home_doors v_home_persons v_home_doorSides v_home_now) k_13 (y2_13, y3_13) = (iter (mX8_worstComer_l13 v_home_rooms v_home_doors v_home_persons v_home_doorSides v_home_now) (k_13 + 1) (((-1 : Int32), (-1 : Int32)))) := by rw [ex0_13, ex1_13]; rfl
      refine lv_iload hx hb dX8_worstComer_13 (lv_at hl 0 rfl) ?_
      refine lv_aload_n hx hb dX8_worstComer_15 rfl (lv_at hl 4 rfl) ?_
      refine va_get (D := (dC, dI)) (ci := 8) (v := .ref a_this_home) (C := RX8) (T := TX8) (N := 1) hx hb ht iX8 hown hK.1 hP 0 rfl rfl 0 (by decide) (ht _ w_1_113) (fun _ h9 => h9) rfl dX8_worstComer_16 ?_
      refine va_get (D := (dC, dI)) (ci := 1) (v := .int v_home_persons) (C := RX1) (T := TX1) (N := 10) hx hb ht iX1 hown hK.1 hP 1 rfl rfl 9 (by decide) (ht _ w_1_85) (fun _ h9 => h9) rfl dX8_worstComer_19 ?_
      refine lv_icmp_ge (tgt := 72) hx hb dX8_worstComer_22 (by decide) (fun c_1 => ?_) (fun c_1 => ?_)
      · exact absurd c_1 (lpN (by omega))
      · skip
        refine lv_iload_n hx hb dX8_worstComer_25 rfl (lv_at hl 3 rfl) ?_
        refine lv_iload hx hb dX8_worstComer_26 (lv_at hl 0 rfl) ?_
        refine pv_call (v := (mX9_inSet ((mX8_comersTo v_home_rooms v_home_doors v_home_persons v_home_doorSides v_home_now ((0 : Int32)))) (nI k_13))) (va_runSN (As := [.int ((mX8_comersTo v_home_rooms v_home_doors v_home_persons v_home_doorSides v_home_now ((0 : Int32)))), .int (nI k_13)]) (rest := []) ⟨hx, hb, hml, hown, ht⟩ (kX9_inSet l dC dI cA cZ ((mX8_comersTo v_home_rooms v_home_doors v_home_persons v_home_doorSides v_home_now ((0 : Int32)))) (nI k_13)) ⟨va_cnB 2 ht (gi_code w_3_8) rfl rfl rfl (hK.2 _ nwi_13) (ht _ w_1_1) h_X9_inSet ⟨Nat.le_of_ble_eq_true rfl, Nat.le_of_ble_eq_true rfl⟩, ht _ w_3_7, trivial⟩ ⟨pp_blind, pp_use (ws := []) (fun _ _ h => by cases h) hK⟩ rfl rfl hl.1 rfl (lv_room (Nat.le_of_ble_eq_true rfl)) dX8_worstComer_28 ⟨Nat.zero_le _, Nat.zero_le _⟩) ?_
        refine lv_if_eq (tgt := 66) hx hb dX8_worstComer_31 (by decide) (fun c_2 => ?_) (fun c_2 => ?_)
        · have hm := (if_pos c_2).symm.trans hm
          refine lv_iinc (v := nI (k_13 + 1)) (lv' := [(4, .int (nI (k_13 + 1))), (3, .int y3_13), (2, .int y2_13), (1, .int ((mX8_comersTo v_home_rooms v_home_doors v_home_persons v_home_doorSides v_home_now ((0 : Int32))))), (0, .ref a_this)]) hx hb dX8_worstComer_66 hl (k := 0) rfl (nI_1 _) (by decide) rfl (fun ls hl => ?_)
          refine lv_goto (tgt := 13) hx hb dX8_worstComer_69 (by decide) ?_
          exact ih (k_13 + 1) (by omega) y2_13 y3_13 (congrArg (fun z => z.1) hm) (congrArg (fun z => z.2) hm) ls (lv_sub hl [0, 1, 2, 3, 4] rfl)
        · have hm := (if_neg c_2).symm.trans hm
          refine lv_aload_n hx hb dX8_worstComer_34 rfl (lv_at hl 4 rfl) ?_
          refine va_get (D := (dC, dI)) (ci := 8) (v := .ref a_this_home) (C := RX8) (T := TX8) (N := 1) hx hb ht iX8 hown hK.1 hP 0 rfl rfl 0 (by decide) (ht _ w_1_113) (fun _ h9 => h9) rfl dX8_worstComer_35 ?_
          refine va_get (D := (dC, dI)) (ci := 1) (v := .ref a_this_home_now) (C := RX1) (T := TX1) (N := 10) hx hb ht iX1 hown hK.1 hP 1 rfl rfl 5 (by decide) (ht _ w_1_68) (fun _ h9 => h9) rfl dX8_worstComer_38 ?_
          refine lv_iload hx hb dX8_worstComer_41 (lv_at hl 0 rfl) ?_
          refine pv_call (v := (mX7_ill v_home_now (nI k_13))) (va_runV (As := [.int (nI k_13)]) (rest := []) ⟨hx, hb, hml, hown, ht⟩ (kX7_ill l dC dI cA cZ a_this_home_now a_this_home_now_row a_this_home_now_row_cells v_home_now (nI k_13)) (cwV 1 ht (gi_V (C := RX7) w_2_211 w_2_212 w_2_213 w_1_5 (gi_code w_2_214)) rfl rfl rfl ⟨rfl, h_X7_ill⟩ ⟨Nat.le_of_ble_eq_true rfl, Nat.le_of_ble_eq_true rfl⟩) ⟨pp_blind, va_recv hK.1 hP (ci := 7) (q0 := 3) rfl rfl, pp_use (pc_sub (wc := [(a_this_home_now, .inr (7, [.ref a_this_home_now_row])), (a_this_home_now_row, .inr (6, [.ref a_this_home_now_row_cells])), (a_this_home_now_row_cells, .inl (cA, 35, .inl v_home_now))]) hP [3, 5, 6] rfl) hK⟩ rfl rfl hl.1 rfl (lv_room (Nat.le_of_ble_eq_true rfl)) dX8_worstComer_43 ⟨Nat.zero_le _, Nat.zero_le _⟩) ?_
          refine lv_iload_n hx hb dX8_worstComer_46 rfl (lv_at hl 1 rfl) ?_
          refine lv_icmp_le (tgt := 66) hx hb dX8_worstComer_47 (by decide) (fun c_3 => ?_) (fun c_3 => ?_)
          · have hm := (if_pos c_3).symm.trans hm
            refine lv_iinc (v := nI (k_13 + 1)) (lv' := [(4, .int (nI (k_13 + 1))), (3, .int y3_13), (2, .int y2_13), (1, .int ((mX8_comersTo v_home_rooms v_home_doors v_home_persons v_home_doorSides v_home_now ((0 : Int32))))), (0, .ref a_this)]) hx hb dX8_worstComer_66 hl (k := 0) rfl (nI_1 _) (by decide) rfl (fun ls hl => ?_)
            refine lv_goto (tgt := 13) hx hb dX8_worstComer_69 (by decide) ?_
            exact ih (k_13 + 1) (by omega) y2_13 y3_13 (congrArg (fun z => z.1) hm) (congrArg (fun z => z.2) hm) ls (lv_sub hl [0, 1, 2, 3, 4] rfl)
          · have hm := (if_neg c_3).symm.trans hm
            refine lv_iload hx hb dX8_worstComer_50 (lv_at hl 0 rfl) ?_
            refine lv_istore_n (lv' := [(2, .int (nI k_13)), (4, .int (nI k_13)), (3, .int y3_13), (1, .int ((mX8_comersTo v_home_rooms v_home_doors v_home_persons v_home_doorSides v_home_now ((0 : Int32))))), (0, .ref a_this)]) hx hb dX8_worstComer_52 rfl hl (by decide) rfl (fun ls hl => ?_)
            refine lv_aload_n hx hb dX8_worstComer_53 rfl (lv_at hl 4 rfl) ?_
            refine va_get (D := (dC, dI)) (ci := 8) (v := .ref a_this_home) (C := RX8) (T := TX8) (N := 1) hx hb ht iX8 hown hK.1 hP 0 rfl rfl 0 (by decide) (ht _ w_1_113) (fun _ h9 => h9) rfl dX8_worstComer_54 ?_
            refine va_get (D := (dC, dI)) (ci := 1) (v := .ref a_this_home_now) (C := RX1) (T := TX1) (N := 10) hx hb ht iX1 hown hK.1 hP 1 rfl rfl 5 (by decide) (ht _ w_1_68) (fun _ h9 => h9) rfl dX8_worstComer_57 ?_
            refine lv_iload hx hb dX8_worstComer_60 (lv_at hl 1 rfl) ?_
            refine pv_call (v := (mX7_ill v_home_now (nI k_13))) (va_runV (As := [.int (nI k_13)]) (rest := []) ⟨hx, hb, hml, hown, ht⟩ (kX7_ill l dC dI cA cZ a_this_home_now a_this_home_now_row a_this_home_now_row_cells v_home_now (nI k_13)) (cwV 1 ht (gi_V (C := RX7) w_2_211 w_2_212 w_2_213 w_1_5 (gi_code w_2_214)) rfl rfl rfl ⟨rfl, h_X7_ill⟩ ⟨Nat.le_of_ble_eq_true rfl, Nat.le_of_ble_eq_true rfl⟩) ⟨pp_blind, va_recv hK.1 hP (ci := 7) (q0 := 3) rfl rfl, pp_use (pc_sub (wc := [(a_this_home_now, .inr (7, [.ref a_this_home_now_row])), (a_this_home_now_row, .inr (6, [.ref a_this_home_now_row_cells])), (a_this_home_now_row_cells, .inl (cA, 35, .inl v_home_now))]) hP [3, 5, 6] rfl) hK⟩ rfl rfl hl.1 rfl (lv_room (Nat.le_of_ble_eq_true rfl)) dX8_worstComer_62 ⟨Nat.zero_le _, Nat.zero_le _⟩) ?_
            refine lv_istore_n (lv' := [(3, .int ((mX7_ill v_home_now (nI k_13)))), (2, .int (nI k_13)), (4, .int (nI k_13)), (1, .int ((mX8_comersTo v_home_rooms v_home_doors v_home_persons v_home_doorSides v_home_now ((0 : Int32))))), (0, .ref a_this)]) hx hb dX8_worstComer_65 rfl hl (by decide) rfl (fun ls hl => ?_)
            refine lv_iinc (v := nI (k_13 + 1)) (lv' := [(4, .int (nI (k_13 + 1))), (3, .int ((mX7_ill v_home_now (nI k_13)))), (2, .int (nI k_13)), (1, .int ((mX8_comersTo v_home_rooms v_home_doors v_home_persons v_home_doorSides v_home_now ((0 : Int32))))), (0, .ref a_this)]) hx hb dX8_worstComer_66 hl (k := 2) rfl (nI_1 _) (by decide) rfl (fun ls hl => ?_)
            refine lv_goto (tgt := 13) hx hb dX8_worstComer_69 (by decide) ?_
            exact ih (k_13 + 1) (by omega) (nI k_13) ((mX7_ill v_home_now (nI k_13))) (congrArg (fun z => z.1) hm) (congrArg (fun z => z.2) hm) ls (lv_sub hl [0, 1, 2, 3, 4] rfl)
  exact L_13 v_home_persons.toNatClampNeg 0 (Nat.zero_add _) ((-1 : Int32)) ((-1 : Int32)) rfl rfl ls (lv_sub hl [0, 1, 2, 3, 4] rfl)
theorem dX8_space_0 : decode cX8_space 0 = .ok (.bipush 9, 2) := by decide +kernel
theorem dX8_space_2 : decode cX8_space 2 = .ok (.aload_n 0, 1) := by decide +kernel
theorem dX8_space_3 : decode cX8_space 3 = .ok (.getfield 9, 3) := by decide +kernel
theorem dX8_space_6 : decode cX8_space 6 = .ok (.getfield 51, 3) := by decide +kernel
theorem dX8_space_9 : decode cX8_space 9 = .ok (.iload_n 1, 1) := by decide +kernel
theorem dX8_space_10 : decode cX8_space 10 = .ok (.invokevirtual 85, 3) := by decide +kernel
theorem dX8_space_13 : decode cX8_space 13 = .ok (.isub, 1) := by decide +kernel
theorem dX8_space_14 : decode cX8_space 14 = .ok (.ireturn, 1) := by decide +kernel
theorem h_X8_space : yX8_space.cls ≠ "java/lang/invoke/MethodHandle" ∧ yX8_space.cls ≠ "java/lang/invoke/VarHandle" ∧ (parseMethodDescriptor yX8_space.desc).map (fun d => d.parameters.length) = some 1 := by decide +kernel
def mX8_space (v_home_now : Nat → Int32) (x1 : Int32) : Int32 := ((9 : Int32)) - ((mX7_spoons v_home_now x1))
set_option maxHeartbeats 4000000 in
set_option maxRecDepth 100000 in
theorem kX8_space (l : Launch) (dC : Nat → ClassId) (dI : Nat → Nat → Nat) (cA cZ : ClassId) (a_this a_this_home a_this_home_rainfall a_this_home_doorA a_this_home_doorB a_this_home_doorSides a_this_home_doorOpen a_this_home_now a_this_home_now_row a_this_home_now_row_cells : Nat) (v_home_rooms : Int32) (v_home_rains : Int32) (v_home_doors : Int32) (v_home_persons : Int32) (v_home_now : Nat → Int32) (x1 : Int32) : Met l yX8_space (Cond.code yX8_space cX8_space 2 (some .int) :: wt) ({ frames := 2, cells := 0, slots := 0, locals := 42 } : Room) (va_Pc [.ref a_this, .int x1] (PreP (dC, dI) [(cA, .int), (cZ, .boolean)] [(a_this, .inr (8, [.ref a_this_home])), (a_this_home, .inr (1, [.ref a_this_home_rainfall, .ref a_this_home_doorA, .ref a_this_home_doorB, .ref a_this_home_doorSides, .ref a_this_home_doorOpen, .ref a_this_home_now, .int v_home_rooms, .int v_home_rains, .int v_home_doors, .int v_home_persons])), (a_this_home_now, .inr (7, [.ref a_this_home_now_row])), (a_this_home_now_row, .inr (6, [.ref a_this_home_now_row_cells])), (a_this_home_now_row_cells, .inl (cA, 35, .inl v_home_now))])) (vp_Si (fun r => r = (mX8_space v_home_now x1))) 0 0 (fun _ => False) := by
  refine Met.ofW (cc := cX8_space) (maxL := 2) (ret := (some .int)) (by decide) rfl ?_
  intro p e s m args below meth c s₁ B hml hv
  obtain ⟨ha, hP, hK⟩ := hv
  have hx := B.exec
  have hb := B.bytes
  have hr := B.returns
  have ht : ∀ w ∈ wt, w.before args s = true := fun w h => atoms_spec (ws := (Cond.code yX8_space cX8_space 2 (some .int) :: wt)) B.pre w (List.mem_cons_of_mem _ h)
  have hown : s.vm.findClass RX8 = some m.cls := findClass_of_methodNamed B.named
  have hlocks := B.notSynchronized
  have hl := lv_entry ([.ref a_this, .int x1]) (n := 2) (Nat.le_of_ble_eq_true rfl)
  rw [show entryFrame m args 2 = _ from (congrArg (fun a => entryFrame m a 2) ha).trans (lg_entry_eq m [.ref a_this, .int x1] 2)]
  generalize (lg_sl ([.ref a_this, .int x1]) ++ List.replicate (2 - (lg_sl ([.ref a_this, .int x1])).length) Slot.unset).toArray = ls at hl ⊢
  have hl : lv_has ls 2 [(0, .ref a_this), (1, .int x1)] := hl
  have hm : (mX8_space v_home_now x1) = (mX8_space v_home_now x1) := rfl
  refine lv_bipush (v := (9 : Int32)) hx hb dX8_space_0 (by decide) ?_
  refine lv_aload_n hx hb dX8_space_2 rfl (lv_at hl 0 rfl) ?_
  refine va_get (D := (dC, dI)) (ci := 8) (v := .ref a_this_home) (C := RX8) (T := TX8) (N := 1) hx hb ht iX8 hown hK.1 hP 0 rfl rfl 0 (by decide) (ht _ w_1_113) (fun _ h9 => h9) rfl dX8_space_3 ?_
  refine va_get (D := (dC, dI)) (ci := 1) (v := .ref a_this_home_now) (C := RX1) (T := TX1) (N := 10) hx hb ht iX1 hown hK.1 hP 1 rfl rfl 5 (by decide) (ht _ w_1_68) (fun _ h9 => h9) rfl dX8_space_6 ?_
  refine lv_iload_n hx hb dX8_space_9 rfl (lv_at hl 1 rfl) ?_
  refine pv_call (v := (mX7_spoons v_home_now x1)) (va_runV (As := [.int x1]) (rest := [.int ((9 : Int32))]) ⟨hx, hb, hml, hown, ht⟩ (kX7_spoons l dC dI cA cZ a_this_home_now a_this_home_now_row a_this_home_now_row_cells v_home_now x1) (cwV 1 ht (gi_V (C := RX7) w_3_236 w_2_231 w_2_232 w_1_5 (gi_code w_2_233)) rfl rfl rfl ⟨rfl, h_X7_spoons⟩ ⟨Nat.le_of_ble_eq_true rfl, Nat.le_of_ble_eq_true rfl⟩) ⟨pp_blind, va_recv hK.1 hP (ci := 7) (q0 := 2) rfl rfl, pp_use (pc_sub (wc := [(a_this_home_now, .inr (7, [.ref a_this_home_now_row])), (a_this_home_now_row, .inr (6, [.ref a_this_home_now_row_cells])), (a_this_home_now_row_cells, .inl (cA, 35, .inl v_home_now))]) hP [2, 3, 4] rfl) hK⟩ rfl rfl hl.1 rfl (lv_room (Nat.le_of_ble_eq_true rfl)) dX8_space_10 ⟨Nat.zero_le _, Nat.zero_le _⟩) ?_
  refine lv_isub hx hb dX8_space_13 ?_
  exact W.iret (v := ((9 : Int32)) - ((mX7_spoons v_home_now x1))) hx hb hr (fun t ht9 _ => ⟨_, rfl, hm, ht9⟩) (fun q hq => absurd hq List.not_mem_nil) dX8_space_14
theorem dX8_sharedUntilFull_0 : decode cX8_sharedUntilFull 0 = .ok (.iconst 0, 1) := by decide +kernel
theorem dX8_sharedUntilFull_1 : decode cX8_sharedUntilFull 1 = .ok (.istore_n 2, 1) := by decide +kernel
theorem dX8_sharedUntilFull_2 : decode cX8_sharedUntilFull 2 = .ok (.iconst 0, 1) := by decide +kernel
theorem dX8_sharedUntilFull_3 : decode cX8_sharedUntilFull 3 = .ok (.istore_n 3, 1) := by decide +kernel
theorem dX8_sharedUntilFull_4 : decode cX8_sharedUntilFull 4 = .ok (.iload_n 3, 1) := by decide +kernel
theorem dX8_sharedUntilFull_5 : decode cX8_sharedUntilFull 5 = .ok (.aload_n 0, 1) := by decide +kernel
theorem dX8_sharedUntilFull_6 : decode cX8_sharedUntilFull 6 = .ok (.getfield 9, 3) := by decide +kernel
theorem dX8_sharedUntilFull_9 : decode cX8_sharedUntilFull 9 = .ok (.getfield 15, 3) := by decide +kernel
theorem dX8_sharedUntilFull_12 : decode cX8_sharedUntilFull 12 = .ok (.if_icmp .ge 44, 3) := by decide +kernel
theorem dX8_sharedUntilFull_15 : decode cX8_sharedUntilFull 15 = .ok (.iload_n 3, 1) := by decide +kernel
theorem dX8_sharedUntilFull_16 : decode cX8_sharedUntilFull 16 = .ok (.iload_n 1, 1) := by decide +kernel
theorem dX8_sharedUntilFull_17 : decode cX8_sharedUntilFull 17 = .ok (.if_icmp .gt 11, 3) := by decide +kernel
theorem dX8_sharedUntilFull_20 : decode cX8_sharedUntilFull 20 = .ok (.aload_n 0, 1) := by decide +kernel
theorem dX8_sharedUntilFull_21 : decode cX8_sharedUntilFull 21 = .ok (.iload_n 1, 1) := by decide +kernel
theorem dX8_sharedUntilFull_22 : decode cX8_sharedUntilFull 22 = .ok (.invokevirtual 118, 3) := by decide +kernel
theorem dX8_sharedUntilFull_25 : decode cX8_sharedUntilFull 25 = .ok (.goto 10, 3) := by decide +kernel
theorem dX8_sharedUntilFull_28 : decode cX8_sharedUntilFull 28 = .ok (.aload_n 0, 1) := by decide +kernel
theorem dX8_sharedUntilFull_29 : decode cX8_sharedUntilFull 29 = .ok (.iload_n 1, 1) := by decide +kernel
theorem dX8_sharedUntilFull_30 : decode cX8_sharedUntilFull 30 = .ok (.invokevirtual 118, 3) := by decide +kernel
theorem dX8_sharedUntilFull_33 : decode cX8_sharedUntilFull 33 = .ok (.iconst 1, 1) := by decide +kernel
theorem dX8_sharedUntilFull_34 : decode cX8_sharedUntilFull 34 = .ok (.isub, 1) := by decide +kernel
theorem dX8_sharedUntilFull_35 : decode cX8_sharedUntilFull 35 = .ok (.istore 4, 2) := by decide +kernel
theorem dX8_sharedUntilFull_37 : decode cX8_sharedUntilFull 37 = .ok (.iload_n 2, 1) := by decide +kernel
theorem dX8_sharedUntilFull_38 : decode cX8_sharedUntilFull 38 = .ok (.aload_n 0, 1) := by decide +kernel
theorem dX8_sharedUntilFull_39 : decode cX8_sharedUntilFull 39 = .ok (.iload_n 3, 1) := by decide +kernel
theorem dX8_sharedUntilFull_40 : decode cX8_sharedUntilFull 40 = .ok (.invokevirtual 118, 3) := by decide +kernel
theorem dX8_sharedUntilFull_43 : decode cX8_sharedUntilFull 43 = .ok (.iload 4, 2) := by decide +kernel
theorem dX8_sharedUntilFull_45 : decode cX8_sharedUntilFull 45 = .ok (.invokestatic 101, 3) := by decide +kernel
theorem dX8_sharedUntilFull_48 : decode cX8_sharedUntilFull 48 = .ok (.iadd, 1) := by decide +kernel
theorem dX8_sharedUntilFull_49 : decode cX8_sharedUntilFull 49 = .ok (.istore_n 2, 1) := by decide +kernel
theorem dX8_sharedUntilFull_50 : decode cX8_sharedUntilFull 50 = .ok (.iinc 3 1, 3) := by decide +kernel
theorem dX8_sharedUntilFull_53 : decode cX8_sharedUntilFull 53 = .ok (.goto (-49), 3) := by decide +kernel
theorem dX8_sharedUntilFull_56 : decode cX8_sharedUntilFull 56 = .ok (.iload_n 2, 1) := by decide +kernel
theorem dX8_sharedUntilFull_57 : decode cX8_sharedUntilFull 57 = .ok (.ireturn, 1) := by decide +kernel
theorem h_X8_sharedUntilFull : yX8_sharedUntilFull.cls ≠ "java/lang/invoke/MethodHandle" ∧ yX8_sharedUntilFull.cls ≠ "java/lang/invoke/VarHandle" ∧ (parseMethodDescriptor yX8_sharedUntilFull.desc).map (fun d => d.parameters.length) = some 1 := by decide +kernel
def mX8_sharedUntilFull_l4 (v_home_now : Nat → Int32) (x1 : Int32) (k_4 : Nat) (y2_4 : Int32) : Int32 := (if x1 < (nI k_4) then y2_4 + ((mJ9_min_7cf53 ((mX8_space v_home_now (nI k_4))) (((mX8_space v_home_now x1)) - ((1 : Int32))))) else y2_4 + ((mJ9_min_7cf53 ((mX8_space v_home_now (nI k_4))) ((mX8_space v_home_now x1)))))
def mX8_sharedUntilFull (v_home_doors : Int32) (v_home_now : Nat → Int32) (x1 : Int32) : Int32 := (iter (mX8_sharedUntilFull_l4 v_home_now x1) v_home_doors.toNatClampNeg ((0 : Int32)))
set_option maxHeartbeats 4000000 in
set_option maxRecDepth 100000 in
theorem kX8_sharedUntilFull (l : Launch) (dC : Nat → ClassId) (dI : Nat → Nat → Nat) (cA cZ : ClassId) (a_this a_this_home a_this_home_rainfall a_this_home_doorA a_this_home_doorB a_this_home_doorSides a_this_home_doorOpen a_this_home_now a_this_home_now_row a_this_home_now_row_cells : Nat) (v_home_rooms : Int32) (v_home_rains : Int32) (v_home_doors : Int32) (v_home_persons : Int32) (v_home_now : Nat → Int32) (x1 : Int32) : Met l yX8_sharedUntilFull (Cond.code yX8_sharedUntilFull cX8_sharedUntilFull 5 (some .int) :: wt) ({ frames := 3, cells := 0, slots := 0, locals := 63 } : Room) (va_Pc [.ref a_this, .int x1] (PreP (dC, dI) [(cA, .int), (cZ, .boolean)] [(a_this, .inr (8, [.ref a_this_home])), (a_this_home, .inr (1, [.ref a_this_home_rainfall, .ref a_this_home_doorA, .ref a_this_home_doorB, .ref a_this_home_doorSides, .ref a_this_home_doorOpen, .ref a_this_home_now, .int v_home_rooms, .int v_home_rains, .int v_home_doors, .int v_home_persons])), (a_this_home_now, .inr (7, [.ref a_this_home_now_row])), (a_this_home_now_row, .inr (6, [.ref a_this_home_now_row_cells])), (a_this_home_now_row_cells, .inl (cA, 35, .inl v_home_now))])) (vp_Si (fun r => r = (mX8_sharedUntilFull v_home_doors v_home_now x1))) 0 0 (fun _ => False) := by
  refine Met.ofW (cc := cX8_sharedUntilFull) (maxL := 5) (ret := (some .int)) (by decide) rfl ?_
  intro p e s m args below meth c s₁ B hml hv
  obtain ⟨ha, hP, hK⟩ := hv
  have hx := B.exec
  have hb := B.bytes
  have hr := B.returns
  have ht : ∀ w ∈ wt, w.before args s = true := fun w h => atoms_spec (ws := (Cond.code yX8_sharedUntilFull cX8_sharedUntilFull 5 (some .int) :: wt)) B.pre w (List.mem_cons_of_mem _ h)
  have hown : s.vm.findClass RX8 = some m.cls := findClass_of_methodNamed B.named
  have hlocks := B.notSynchronized
  have hl := lv_entry ([.ref a_this, .int x1]) (n := 5) (Nat.le_of_ble_eq_true rfl)
  rw [show entryFrame m args 5 = _ from (congrArg (fun a => entryFrame m a 5) ha).trans (lg_entry_eq m [.ref a_this, .int x1] 5)]
  generalize (lg_sl ([.ref a_this, .int x1]) ++ List.replicate (5 - (lg_sl ([.ref a_this, .int x1])).length) Slot.unset).toArray = ls at hl ⊢
  have hl : lv_has ls 5 [(0, .ref a_this), (1, .int x1)] := hl
  have hm : (mX8_sharedUntilFull v_home_doors v_home_now x1) = (mX8_sharedUntilFull v_home_doors v_home_now x1) := rfl
  refine lv_iconst (v := (0 : Int32)) hx hb dX8_sharedUntilFull_0 (by decide) ?_
  refine lv_istore_n (lv' := [(2, .int ((0 : Int32))), (0, .ref a_this), (1, .int x1)]) hx hb dX8_sharedUntilFull_1 rfl hl (by decide) rfl (fun ls hl => ?_)
  refine lv_iconst (v := (0 : Int32)) hx hb dX8_sharedUntilFull_2 (by decide) ?_
  refine lv_istore_n (lv' := [(3, .int ((0 : Int32))), (2, .int ((0 : Int32))), (0, .ref a_this), (1, .int x1)]) hx hb dX8_sharedUntilFull_3 rfl hl (by decide) rfl (fun ls hl => ?_)
  have L_4 : ∀ (n_4 k_4 : Nat), k_4 + n_4 = v_home_doors.toNatClampNeg → ∀ (y2_4 : Int32), y2_4 = (iter (mX8_sharedUntilFull_l4 v_home_now x1) k_4 ((0 : Int32))) → ∀ (ls : Array Slot), lv_has ls 5 [(3, .int (nI k_4)), (2, .int y2_4), (0, .ref a_this), (1, .int x1)] → W p l e (headSpec (Cond.code yX8_sharedUntilFull cX8_sharedUntilFull 5 (some .int) :: wt) ({ frames := 3, cells := 0, slots := 0, locals := 63 } : Room)).room s m args below meth c s.heap [] 0 0 (MQ below (vp_Si (fun r => r = (mX8_sharedUntilFull v_home_doors v_home_now x1))) args s 0 0 (fun _ => False)) (F0 m 4 ls []) := by
    intro n_4
    induction n_4 with
    | zero =>
      intro k_4 hk y2_4 ex0_4 ls hl
      obtain rfl : v_home_doors.toNatClampNeg = k_4 := by omega
      subst ex0_4
      refine lv_iload_n hx hb dX8_sharedUntilFull_4 rfl (lv_at hl 0 rfl) ?_
      refine lv_aload_n hx hb dX8_sharedUntilFull_5 rfl (lv_at hl 2 rfl) ?_
      refine va_get (D := (dC, dI)) (ci := 8) (v := .ref a_this_home) (C := RX8) (T := TX8) (N := 1) hx hb ht iX8 hown hK.1 hP 0 rfl rfl 0 (by decide) (ht _ w_1_113) (fun _ h9 => h9) rfl dX8_sharedUntilFull_6 ?_
      refine va_get (D := (dC, dI)) (ci := 1) (v := .int v_home_doors) (C := RX1) (T := TX1) (N := 10) hx hb ht iX1 hown hK.1 hP 1 rfl rfl 8 (by decide) (ht _ w_1_76) (fun _ h9 => h9) rfl dX8_sharedUntilFull_9 ?_
      refine lv_icmp_ge (tgt := 56) hx hb dX8_sharedUntilFull_12 (by decide) (fun c_3 => ?_) (fun c_3 => ?_)
      · skip
        refine lv_iload_n hx hb dX8_sharedUntilFull_56 rfl (lv_at hl 1 rfl) ?_
        exact W.iret (v := (iter (mX8_sharedUntilFull_l4 v_home_now x1) v_home_doors.toNatClampNeg ((0 : Int32)))) hx hb hr (fun t ht9 _ => ⟨_, rfl, hm, ht9⟩) (fun q hq => absurd hq List.not_mem_nil) dX8_sharedUntilFull_57
      · exact absurd (lpE (by omega) (by have := clampLt v_home_doors; omega)) c_3
    | succ n_4 ih =>
      intro k_4 hk y2_4 ex0_4 ls hl
      have hm : (mX8_sharedUntilFull_l4 v_home_now x1) k_4 y2_4 = (iter (mX8_sharedUntilFull_l4 v_home_now x1) (k_4 + 1) ((0 : Int32))) := by rw [ex0_4]; rfl
      refine lv_iload_n hx hb dX8_sharedUntilFull_4 rfl (lv_at hl 0 rfl) ?_
      refine lv_aload_n hx hb dX8_sharedUntilFull_5 rfl (lv_at hl 2 rfl) ?_
      refine va_get (D := (dC, dI)) (ci := 8) (v := .ref a_this_home) (C := RX8) (T := TX8) (N := 1) hx hb ht iX8 hown hK.1 hP 0 rfl rfl 0 (by decide) (ht _ w_1_113) (fun _ h9 => h9) rfl dX8_sharedUntilFull_6 ?_
      refine va_get (D := (dC, dI)) (ci := 1) (v := .int v_home_doors) (C := RX1) (T := TX1) (N := 10) hx hb ht iX1 hown hK.1 hP 1 rfl rfl 8 (by decide) (ht _ w_1_76) (fun _ h9 => h9) rfl dX8_sharedUntilFull_9 ?_
      refine lv_icmp_ge (tgt := 56) hx hb dX8_sharedUntilFull_12 (by decide) (fun c_1 => ?_) (fun c_1 => ?_)
      · exact absurd c_1 (lpN (by omega))
      · skip
        refine lv_iload_n hx hb dX8_sharedUntilFull_15 rfl (lv_at hl 0 rfl) ?_
        refine lv_iload_n hx hb dX8_sharedUntilFull_16 rfl (lv_at hl 3 rfl) ?_
        refine lv_icmp_gt (tgt := 28) hx hb dX8_sharedUntilFull_17 (by decide) (fun c_2 => ?_) (fun c_2 => ?_)
        · have hm := (if_pos c_2).symm.trans hm
          refine lv_aload_n hx hb dX8_sharedUntilFull_28 rfl (lv_at hl 2 rfl) ?_
          refine lv_iload_n hx hb dX8_sharedUntilFull_29 rfl (lv_at hl 3 rfl) ?_
          refine pv_call (v := (mX8_space v_home_now x1)) (va_runV (As := [.int x1]) (rest := []) ⟨hx, hb, hml, hown, ht⟩ (kX8_space l dC dI cA cZ a_this a_this_home a_this_home_rainfall a_this_home_doorA a_this_home_doorB a_this_home_doorSides a_this_home_doorOpen a_this_home_now a_this_home_now_row a_this_home_now_row_cells v_home_rooms v_home_rains v_home_doors v_home_persons v_home_now x1) (cwV 1 ht (gi_V (C := RX8) w_4_86 w_4_88 w_0_16 w_1_6 (gi_code w_4_89)) rfl rfl rfl ⟨rfl, h_X8_space⟩ ⟨Nat.le_of_ble_eq_true rfl, Nat.le_of_ble_eq_true rfl⟩) ⟨pp_blind, va_recv hK.1 hP (ci := 8) (q0 := 0) rfl rfl, pp_use hP hK⟩ rfl rfl hl.1 rfl (lv_room (Nat.le_of_ble_eq_true rfl)) dX8_sharedUntilFull_30 ⟨Nat.zero_le _, Nat.zero_le _⟩) ?_
          refine lv_iconst (v := (1 : Int32)) hx hb dX8_sharedUntilFull_33 (by decide) ?_
          refine lv_isub hx hb dX8_sharedUntilFull_34 ?_
          refine lv_istore (lv' := [(4, .int (((mX8_space v_home_now x1)) - ((1 : Int32)))), (3, .int (nI k_4)), (2, .int y2_4), (0, .ref a_this), (1, .int x1)]) hx hb dX8_sharedUntilFull_35 hl (by decide) rfl (fun ls hl => ?_)
          refine lv_iload_n hx hb dX8_sharedUntilFull_37 rfl (lv_at hl 2 rfl) ?_
          refine lv_aload_n hx hb dX8_sharedUntilFull_38 rfl (lv_at hl 3 rfl) ?_
          refine lv_iload_n hx hb dX8_sharedUntilFull_39 rfl (lv_at hl 1 rfl) ?_
          refine pv_call (v := (mX8_space v_home_now (nI k_4))) (va_runV (As := [.int (nI k_4)]) (rest := [.int y2_4]) ⟨hx, hb, hml, hown, ht⟩ (kX8_space l dC dI cA cZ a_this a_this_home a_this_home_rainfall a_this_home_doorA a_this_home_doorB a_this_home_doorSides a_this_home_doorOpen a_this_home_now a_this_home_now_row a_this_home_now_row_cells v_home_rooms v_home_rains v_home_doors v_home_persons v_home_now (nI k_4)) (cwV 1 ht (gi_V (C := RX8) w_4_86 w_4_88 w_0_16 w_1_6 (gi_code w_4_89)) rfl rfl rfl ⟨rfl, h_X8_space⟩ ⟨Nat.le_of_ble_eq_true rfl, Nat.le_of_ble_eq_true rfl⟩) ⟨pp_blind, va_recv hK.1 hP (ci := 8) (q0 := 0) rfl rfl, pp_use hP hK⟩ rfl rfl hl.1 rfl (lv_room (Nat.le_of_ble_eq_true rfl)) dX8_sharedUntilFull_40 ⟨Nat.zero_le _, Nat.zero_le _⟩) ?_
          refine lv_iload hx hb dX8_sharedUntilFull_43 (lv_at hl 0 rfl) ?_
          refine pv_call (v := (mJ9_min_7cf53 ((mX8_space v_home_now (nI k_4))) (((mX8_space v_home_now x1)) - ((1 : Int32))))) (va_runS (As := [.int ((mX8_space v_home_now (nI k_4))), .int (((mX8_space v_home_now x1)) - ((1 : Int32)))]) (rest := [.int y2_4]) ⟨hx, hb, hml, hown, ht⟩ (kJ9_min_7cf53 l dC dI cA cZ ((mX8_space v_home_now (nI k_4))) (((mX8_space v_home_now x1)) - ((1 : Int32)))) (va_cwS 2 ht (gi_S w_4_43 w_3_88 w_1_4 (gi_code w_3_89)) rfl rfl rfl h_J9_min_7cf53 ⟨Nat.le_of_ble_eq_true rfl, Nat.le_of_ble_eq_true rfl⟩) ⟨pp_blind, pp_use (ws := []) (fun _ _ h => by cases h) hK⟩ rfl rfl hl.1 rfl (lv_room (Nat.le_of_ble_eq_true rfl)) dX8_sharedUntilFull_45 ⟨Nat.zero_le _, Nat.zero_le _⟩) ?_
          refine lv_iadd hx hb dX8_sharedUntilFull_48 ?_
          refine lv_istore_n (lv' := [(2, .int (y2_4 + ((mJ9_min_7cf53 ((mX8_space v_home_now (nI k_4))) (((mX8_space v_home_now x1)) - ((1 : Int32))))))), (4, .int (((mX8_space v_home_now x1)) - ((1 : Int32)))), (3, .int (nI k_4)), (0, .ref a_this), (1, .int x1)]) hx hb dX8_sharedUntilFull_49 rfl hl (by decide) rfl (fun ls hl => ?_)
          refine lv_iinc (v := nI (k_4 + 1)) (lv' := [(3, .int (nI (k_4 + 1))), (2, .int (y2_4 + ((mJ9_min_7cf53 ((mX8_space v_home_now (nI k_4))) (((mX8_space v_home_now x1)) - ((1 : Int32))))))), (4, .int (((mX8_space v_home_now x1)) - ((1 : Int32)))), (0, .ref a_this), (1, .int x1)]) hx hb dX8_sharedUntilFull_50 hl (k := 2) rfl (nI_1 _) (by decide) rfl (fun ls hl => ?_)
          refine lv_goto (tgt := 4) hx hb dX8_sharedUntilFull_53 (by decide) ?_
          exact ih (k_4 + 1) (by omega) (y2_4 + ((mJ9_min_7cf53 ((mX8_space v_home_now (nI k_4))) (((mX8_space v_home_now x1)) - ((1 : Int32)))))) hm ls (lv_sub hl [0, 1, 3, 4] rfl)
        · have hm := (if_neg c_2).symm.trans hm
          refine lv_aload_n hx hb dX8_sharedUntilFull_20 rfl (lv_at hl 2 rfl) ?_
          refine lv_iload_n hx hb dX8_sharedUntilFull_21 rfl (lv_at hl 3 rfl) ?_
          refine pv_call (v := (mX8_space v_home_now x1)) (va_runV (As := [.int x1]) (rest := []) ⟨hx, hb, hml, hown, ht⟩ (kX8_space l dC dI cA cZ a_this a_this_home a_this_home_rainfall a_this_home_doorA a_this_home_doorB a_this_home_doorSides a_this_home_doorOpen a_this_home_now a_this_home_now_row a_this_home_now_row_cells v_home_rooms v_home_rains v_home_doors v_home_persons v_home_now x1) (cwV 1 ht (gi_V (C := RX8) w_4_86 w_4_88 w_0_16 w_1_6 (gi_code w_4_89)) rfl rfl rfl ⟨rfl, h_X8_space⟩ ⟨Nat.le_of_ble_eq_true rfl, Nat.le_of_ble_eq_true rfl⟩) ⟨pp_blind, va_recv hK.1 hP (ci := 8) (q0 := 0) rfl rfl, pp_use hP hK⟩ rfl rfl hl.1 rfl (lv_room (Nat.le_of_ble_eq_true rfl)) dX8_sharedUntilFull_22 ⟨Nat.zero_le _, Nat.zero_le _⟩) ?_
          refine lv_goto (tgt := 35) hx hb dX8_sharedUntilFull_25 (by decide) ?_
          refine lv_istore (lv' := [(4, .int ((mX8_space v_home_now x1))), (3, .int (nI k_4)), (2, .int y2_4), (0, .ref a_this), (1, .int x1)]) hx hb dX8_sharedUntilFull_35 hl (by decide) rfl (fun ls hl => ?_)
          refine lv_iload_n hx hb dX8_sharedUntilFull_37 rfl (lv_at hl 2 rfl) ?_
          refine lv_aload_n hx hb dX8_sharedUntilFull_38 rfl (lv_at hl 3 rfl) ?_
          refine lv_iload_n hx hb dX8_sharedUntilFull_39 rfl (lv_at hl 1 rfl) ?_
          refine pv_call (v := (mX8_space v_home_now (nI k_4))) (va_runV (As := [.int (nI k_4)]) (rest := [.int y2_4]) ⟨hx, hb, hml, hown, ht⟩ (kX8_space l dC dI cA cZ a_this a_this_home a_this_home_rainfall a_this_home_doorA a_this_home_doorB a_this_home_doorSides a_this_home_doorOpen a_this_home_now a_this_home_now_row a_this_home_now_row_cells v_home_rooms v_home_rains v_home_doors v_home_persons v_home_now (nI k_4)) (cwV 1 ht (gi_V (C := RX8) w_4_86 w_4_88 w_0_16 w_1_6 (gi_code w_4_89)) rfl rfl rfl ⟨rfl, h_X8_space⟩ ⟨Nat.le_of_ble_eq_true rfl, Nat.le_of_ble_eq_true rfl⟩) ⟨pp_blind, va_recv hK.1 hP (ci := 8) (q0 := 0) rfl rfl, pp_use hP hK⟩ rfl rfl hl.1 rfl (lv_room (Nat.le_of_ble_eq_true rfl)) dX8_sharedUntilFull_40 ⟨Nat.zero_le _, Nat.zero_le _⟩) ?_
          refine lv_iload hx hb dX8_sharedUntilFull_43 (lv_at hl 0 rfl) ?_
          refine pv_call (v := (mJ9_min_7cf53 ((mX8_space v_home_now (nI k_4))) ((mX8_space v_home_now x1)))) (va_runS (As := [.int ((mX8_space v_home_now (nI k_4))), .int ((mX8_space v_home_now x1))]) (rest := [.int y2_4]) ⟨hx, hb, hml, hown, ht⟩ (kJ9_min_7cf53 l dC dI cA cZ ((mX8_space v_home_now (nI k_4))) ((mX8_space v_home_now x1))) (va_cwS 2 ht (gi_S w_4_43 w_3_88 w_1_4 (gi_code w_3_89)) rfl rfl rfl h_J9_min_7cf53 ⟨Nat.le_of_ble_eq_true rfl, Nat.le_of_ble_eq_true rfl⟩) ⟨pp_blind, pp_use (ws := []) (fun _ _ h => by cases h) hK⟩ rfl rfl hl.1 rfl (lv_room (Nat.le_of_ble_eq_true rfl)) dX8_sharedUntilFull_45 ⟨Nat.zero_le _, Nat.zero_le _⟩) ?_
          refine lv_iadd hx hb dX8_sharedUntilFull_48 ?_
          refine lv_istore_n (lv' := [(2, .int (y2_4 + ((mJ9_min_7cf53 ((mX8_space v_home_now (nI k_4))) ((mX8_space v_home_now x1)))))), (4, .int ((mX8_space v_home_now x1))), (3, .int (nI k_4)), (0, .ref a_this), (1, .int x1)]) hx hb dX8_sharedUntilFull_49 rfl hl (by decide) rfl (fun ls hl => ?_)
          refine lv_iinc (v := nI (k_4 + 1)) (lv' := [(3, .int (nI (k_4 + 1))), (2, .int (y2_4 + ((mJ9_min_7cf53 ((mX8_space v_home_now (nI k_4))) ((mX8_space v_home_now x1)))))), (4, .int ((mX8_space v_home_now x1))), (0, .ref a_this), (1, .int x1)]) hx hb dX8_sharedUntilFull_50 hl (k := 2) rfl (nI_1 _) (by decide) rfl (fun ls hl => ?_)
          refine lv_goto (tgt := 4) hx hb dX8_sharedUntilFull_53 (by decide) ?_
          exact ih (k_4 + 1) (by omega) (y2_4 + ((mJ9_min_7cf53 ((mX8_space v_home_now (nI k_4))) ((mX8_space v_home_now x1))))) hm ls (lv_sub hl [0, 1, 3, 4] rfl)
  exact L_4 v_home_doors.toNatClampNeg 0 (Nat.zero_add _) ((0 : Int32)) rfl ls (lv_sub hl [0, 1, 2, 3] rfl)
theorem dX8_fullIfShared_0 : decode cX8_fullIfShared 0 = .ok (.iconst 0, 1) := by decide +kernel
theorem dX8_fullIfShared_1 : decode cX8_fullIfShared 1 = .ok (.istore_n 2, 1) := by decide +kernel
theorem dX8_fullIfShared_2 : decode cX8_fullIfShared 2 = .ok (.iconst 0, 1) := by decide +kernel
theorem dX8_fullIfShared_3 : decode cX8_fullIfShared 3 = .ok (.istore_n 3, 1) := by decide +kernel
theorem dX8_fullIfShared_4 : decode cX8_fullIfShared 4 = .ok (.iload_n 3, 1) := by decide +kernel
theorem dX8_fullIfShared_5 : decode cX8_fullIfShared 5 = .ok (.aload_n 0, 1) := by decide +kernel
theorem dX8_fullIfShared_6 : decode cX8_fullIfShared 6 = .ok (.getfield 9, 3) := by decide +kernel
theorem dX8_fullIfShared_9 : decode cX8_fullIfShared 9 = .ok (.getfield 15, 3) := by decide +kernel
theorem dX8_fullIfShared_12 : decode cX8_fullIfShared 12 = .ok (.if_icmp .ge 29, 3) := by decide +kernel
theorem dX8_fullIfShared_15 : decode cX8_fullIfShared 15 = .ok (.aload_n 0, 1) := by decide +kernel
theorem dX8_fullIfShared_16 : decode cX8_fullIfShared 16 = .ok (.iload_n 3, 1) := by decide +kernel
theorem dX8_fullIfShared_17 : decode cX8_fullIfShared 17 = .ok (.invokevirtual 118, 3) := by decide +kernel
theorem dX8_fullIfShared_20 : decode cX8_fullIfShared 20 = .ok (.ifCond .eq 12, 3) := by decide +kernel
theorem dX8_fullIfShared_23 : decode cX8_fullIfShared 23 = .ok (.aload_n 0, 1) := by decide +kernel
theorem dX8_fullIfShared_24 : decode cX8_fullIfShared 24 = .ok (.iload_n 3, 1) := by decide +kernel
theorem dX8_fullIfShared_25 : decode cX8_fullIfShared 25 = .ok (.invokevirtual 121, 3) := by decide +kernel
theorem dX8_fullIfShared_28 : decode cX8_fullIfShared 28 = .ok (.iload_n 1, 1) := by decide +kernel
theorem dX8_fullIfShared_29 : decode cX8_fullIfShared 29 = .ok (.if_icmp .gt 6, 3) := by decide +kernel
theorem dX8_fullIfShared_32 : decode cX8_fullIfShared 32 = .ok (.iinc 2 1, 3) := by decide +kernel
theorem dX8_fullIfShared_35 : decode cX8_fullIfShared 35 = .ok (.iinc 3 1, 3) := by decide +kernel
theorem dX8_fullIfShared_38 : decode cX8_fullIfShared 38 = .ok (.goto (-34), 3) := by decide +kernel
theorem dX8_fullIfShared_41 : decode cX8_fullIfShared 41 = .ok (.iload_n 2, 1) := by decide +kernel
theorem dX8_fullIfShared_42 : decode cX8_fullIfShared 42 = .ok (.ireturn, 1) := by decide +kernel
theorem h_X8_fullIfShared : yX8_fullIfShared.cls ≠ "java/lang/invoke/MethodHandle" ∧ yX8_fullIfShared.cls ≠ "java/lang/invoke/VarHandle" ∧ (parseMethodDescriptor yX8_fullIfShared.desc).map (fun d => d.parameters.length) = some 1 := by decide +kernel
def mX8_fullIfShared_l4 (v_home_doors : Int32) (v_home_now : Nat → Int32) (x1 : Int32) (k_4 : Nat) (y2_4 : Int32) : Int32 := (if ((mX8_space v_home_now (nI k_4))) = 0 then y2_4 + 1 else (if x1 < ((mX8_sharedUntilFull v_home_doors v_home_now (nI k_4))) then y2_4 else y2_4 + 1))
def mX8_fullIfShared (v_home_doors : Int32) (v_home_now : Nat → Int32) (x1 : Int32) : Int32 := (iter (mX8_fullIfShared_l4 v_home_doors v_home_now x1) v_home_doors.toNatClampNeg ((0 : Int32)))
set_option maxHeartbeats 4000000 in
set_option maxRecDepth 100000 in
theorem kX8_fullIfShared (l : Launch) (dC : Nat → ClassId) (dI : Nat → Nat → Nat) (cA cZ : ClassId) (a_this a_this_home a_this_home_rainfall a_this_home_doorA a_this_home_doorB a_this_home_doorSides a_this_home_doorOpen a_this_home_now a_this_home_now_row a_this_home_now_row_cells : Nat) (v_home_rooms : Int32) (v_home_rains : Int32) (v_home_doors : Int32) (v_home_persons : Int32) (v_home_now : Nat → Int32) (x1 : Int32) : Met l yX8_fullIfShared (Cond.code yX8_fullIfShared cX8_fullIfShared 4 (some .int) :: wt) ({ frames := 4, cells := 0, slots := 0, locals := 87 } : Room) (va_Pc [.ref a_this, .int x1] (PreP (dC, dI) [(cA, .int), (cZ, .boolean)] [(a_this, .inr (8, [.ref a_this_home])), (a_this_home, .inr (1, [.ref a_this_home_rainfall, .ref a_this_home_doorA, .ref a_this_home_doorB, .ref a_this_home_doorSides, .ref a_this_home_doorOpen, .ref a_this_home_now, .int v_home_rooms, .int v_home_rains, .int v_home_doors, .int v_home_persons])), (a_this_home_now, .inr (7, [.ref a_this_home_now_row])), (a_this_home_now_row, .inr (6, [.ref a_this_home_now_row_cells])), (a_this_home_now_row_cells, .inl (cA, 35, .inl v_home_now))])) (vp_Si (fun r => r = (mX8_fullIfShared v_home_doors v_home_now x1))) 0 0 (fun _ => False) := by
  refine Met.ofW (cc := cX8_fullIfShared) (maxL := 4) (ret := (some .int)) (by decide) rfl ?_
  intro p e s m args below meth c s₁ B hml hv
  obtain ⟨ha, hP, hK⟩ := hv
  have hx := B.exec
  have hb := B.bytes
  have hr := B.returns
  have ht : ∀ w ∈ wt, w.before args s = true := fun w h => atoms_spec (ws := (Cond.code yX8_fullIfShared cX8_fullIfShared 4 (some .int) :: wt)) B.pre w (List.mem_cons_of_mem _ h)
  have hown : s.vm.findClass RX8 = some m.cls := findClass_of_methodNamed B.named
  have hlocks := B.notSynchronized
  have hl := lv_entry ([.ref a_this, .int x1]) (n := 4) (Nat.le_of_ble_eq_true rfl)
  rw [show entryFrame m args 4 = _ from (congrArg (fun a => entryFrame m a 4) ha).trans (lg_entry_eq m [.ref a_this, .int x1] 4)]
  generalize (lg_sl ([.ref a_this, .int x1]) ++ List.replicate (4 - (lg_sl ([.ref a_this, .int x1])).length) Slot.unset).toArray = ls at hl ⊢
  have hl : lv_has ls 4 [(0, .ref a_this), (1, .int x1)] := hl
  have hm : (mX8_fullIfShared v_home_doors v_home_now x1) = (mX8_fullIfShared v_home_doors v_home_now x1) := rfl
  refine lv_iconst (v := (0 : Int32)) hx hb dX8_fullIfShared_0 (by decide) ?_
  refine lv_istore_n (lv' := [(2, .int ((0 : Int32))), (0, .ref a_this), (1, .int x1)]) hx hb dX8_fullIfShared_1 rfl hl (by decide) rfl (fun ls hl => ?_)
  refine lv_iconst (v := (0 : Int32)) hx hb dX8_fullIfShared_2 (by decide) ?_
  refine lv_istore_n (lv' := [(3, .int ((0 : Int32))), (2, .int ((0 : Int32))), (0, .ref a_this), (1, .int x1)]) hx hb dX8_fullIfShared_3 rfl hl (by decide) rfl (fun ls hl => ?_)
  have L_4 : ∀ (n_4 k_4 : Nat), k_4 + n_4 = v_home_doors.toNatClampNeg → ∀ (y2_4 : Int32), y2_4 = (iter (mX8_fullIfShared_l4 v_home_doors v_home_now x1) k_4 ((0 : Int32))) → ∀ (ls : Array Slot), lv_has ls 4 [(3, .int (nI k_4)), (2, .int y2_4), (0, .ref a_this), (1, .int x1)] → W p l e (headSpec (Cond.code yX8_fullIfShared cX8_fullIfShared 4 (some .int) :: wt) ({ frames := 4, cells := 0, slots := 0, locals := 87 } : Room)).room s m args below meth c s.heap [] 0 0 (MQ below (vp_Si (fun r => r = (mX8_fullIfShared v_home_doors v_home_now x1))) args s 0 0 (fun _ => False)) (F0 m 4 ls []) := by
    intro n_4
    induction n_4 with
    | zero =>
      intro k_4 hk y2_4 ex0_4 ls hl
      obtain rfl : v_home_doors.toNatClampNeg = k_4 := by omega
      subst ex0_4
      refine lv_iload_n hx hb dX8_fullIfShared_4 rfl (lv_at hl 0 rfl) ?_
      refine lv_aload_n hx hb dX8_fullIfShared_5 rfl (lv_at hl 2 rfl) ?_
      refine va_get (D := (dC, dI)) (ci := 8) (v := .ref a_this_home) (C := RX8) (T := TX8) (N := 1) hx hb ht iX8 hown hK.1 hP 0 rfl rfl 0 (by decide) (ht _ w_1_113) (fun _ h9 => h9) rfl dX8_fullIfShared_6 ?_
      refine va_get (D := (dC, dI)) (ci := 1) (v := .int v_home_doors) (C := RX1) (T := TX1) (N := 10) hx hb ht iX1 hown hK.1 hP 1 rfl rfl 8 (by decide) (ht _ w_1_76) (fun _ h9 => h9) rfl dX8_fullIfShared_9 ?_
      refine lv_icmp_ge (tgt := 41) hx hb dX8_fullIfShared_12 (by decide) (fun c_4 => ?_) (fun c_4 => ?_)
      · skip
        refine lv_iload_n hx hb dX8_fullIfShared_41 rfl (lv_at hl 1 rfl) ?_
        exact W.iret (v := (iter (mX8_fullIfShared_l4 v_home_doors v_home_now x1) v_home_doors.toNatClampNeg ((0 : Int32)))) hx hb hr (fun t ht9 _ => ⟨_, rfl, hm, ht9⟩) (fun q hq => absurd hq List.not_mem_nil) dX8_fullIfShared_42
      · exact absurd (lpE (by omega) (by have := clampLt v_home_doors; omega)) c_4
    | succ n_4 ih =>
      intro k_4 hk y2_4 ex0_4 ls hl
      have hm : (mX8_fullIfShared_l4 v_home_doors v_home_now x1) k_4 y2_4 = (iter (mX8_fullIfShared_l4 v_home_doors v_home_now x1) (k_4 + 1) ((0 : Int32))) := by rw [ex0_4]; rfl
      refine lv_iload_n hx hb dX8_fullIfShared_4 rfl (lv_at hl 0 rfl) ?_
      refine lv_aload_n hx hb dX8_fullIfShared_5 rfl (lv_at hl 2 rfl) ?_
      refine va_get (D := (dC, dI)) (ci := 8) (v := .ref a_this_home) (C := RX8) (T := TX8) (N := 1) hx hb ht iX8 hown hK.1 hP 0 rfl rfl 0 (by decide) (ht _ w_1_113) (fun _ h9 => h9) rfl dX8_fullIfShared_6 ?_
      refine va_get (D := (dC, dI)) (ci := 1) (v := .int v_home_doors) (C := RX1) (T := TX1) (N := 10) hx hb ht iX1 hown hK.1 hP 1 rfl rfl 8 (by decide) (ht _ w_1_76) (fun _ h9 => h9) rfl dX8_fullIfShared_9 ?_
      refine lv_icmp_ge (tgt := 41) hx hb dX8_fullIfShared_12 (by decide) (fun c_1 => ?_) (fun c_1 => ?_)
      · exact absurd c_1 (lpN (by omega))
      · skip
        refine lv_aload_n hx hb dX8_fullIfShared_15 rfl (lv_at hl 2 rfl) ?_
        refine lv_iload_n hx hb dX8_fullIfShared_16 rfl (lv_at hl 0 rfl) ?_
        refine pv_call (v := (mX8_space v_home_now (nI k_4))) (va_runV (As := [.int (nI k_4)]) (rest := []) ⟨hx, hb, hml, hown, ht⟩ (kX8_space l dC dI cA cZ a_this a_this_home a_this_home_rainfall a_this_home_doorA a_this_home_doorB a_this_home_doorSides a_this_home_doorOpen a_this_home_now a_this_home_now_row a_this_home_now_row_cells v_home_rooms v_home_rains v_home_doors v_home_persons v_home_now (nI k_4)) (cwV 1 ht (gi_V (C := RX8) w_4_86 w_4_88 w_0_16 w_1_6 (gi_code w_4_89)) rfl rfl rfl ⟨rfl, h_X8_space⟩ ⟨Nat.le_of_ble_eq_true rfl, Nat.le_of_ble_eq_true rfl⟩) ⟨pp_blind, va_recv hK.1 hP (ci := 8) (q0 := 0) rfl rfl, pp_use hP hK⟩ rfl rfl hl.1 rfl (lv_room (Nat.le_of_ble_eq_true rfl)) dX8_fullIfShared_17 ⟨Nat.zero_le _, Nat.zero_le _⟩) ?_
        refine lv_if_eq (tgt := 32) hx hb dX8_fullIfShared_20 (by decide) (fun c_2 => ?_) (fun c_2 => ?_)
        · have hm := (if_pos c_2).symm.trans hm
          refine lv_iinc (v := y2_4 + 1) (lv' := [(2, .int (y2_4 + 1)), (3, .int (nI k_4)), (0, .ref a_this), (1, .int x1)]) hx hb dX8_fullIfShared_32 hl (k := 1) rfl rfl (by decide) rfl (fun ls hl => ?_)
          refine lv_iinc (v := nI (k_4 + 1)) (lv' := [(3, .int (nI (k_4 + 1))), (2, .int (y2_4 + 1)), (0, .ref a_this), (1, .int x1)]) hx hb dX8_fullIfShared_35 hl (k := 1) rfl (nI_1 _) (by decide) rfl (fun ls hl => ?_)
          refine lv_goto (tgt := 4) hx hb dX8_fullIfShared_38 (by decide) ?_
          exact ih (k_4 + 1) (by omega) (y2_4 + 1) hm ls (lv_sub hl [0, 1, 2, 3] rfl)
        · have hm := (if_neg c_2).symm.trans hm
          refine lv_aload_n hx hb dX8_fullIfShared_23 rfl (lv_at hl 2 rfl) ?_
          refine lv_iload_n hx hb dX8_fullIfShared_24 rfl (lv_at hl 0 rfl) ?_
          refine pv_call (v := (mX8_sharedUntilFull v_home_doors v_home_now (nI k_4))) (va_runV (As := [.int (nI k_4)]) (rest := []) ⟨hx, hb, hml, hown, ht⟩ (kX8_sharedUntilFull l dC dI cA cZ a_this a_this_home a_this_home_rainfall a_this_home_doorA a_this_home_doorB a_this_home_doorSides a_this_home_doorOpen a_this_home_now a_this_home_now_row a_this_home_now_row_cells v_home_rooms v_home_rains v_home_doors v_home_persons v_home_now (nI k_4)) (cwV 1 ht (gi_V (C := RX8) w_4_90 w_4_92 w_0_17 w_1_6 (gi_code w_4_93)) rfl rfl rfl ⟨rfl, h_X8_sharedUntilFull⟩ ⟨Nat.le_of_ble_eq_true rfl, Nat.le_of_ble_eq_true rfl⟩) ⟨pp_blind, va_recv hK.1 hP (ci := 8) (q0 := 0) rfl rfl, pp_use hP hK⟩ rfl rfl hl.1 rfl (lv_room (Nat.le_of_ble_eq_true rfl)) dX8_fullIfShared_25 ⟨Nat.zero_le _, Nat.zero_le _⟩) ?_
          refine lv_iload_n hx hb dX8_fullIfShared_28 rfl (lv_at hl 3 rfl) ?_
          refine lv_icmp_gt (tgt := 35) hx hb dX8_fullIfShared_29 (by decide) (fun c_3 => ?_) (fun c_3 => ?_)
          · have hm := (if_pos c_3).symm.trans hm
            refine lv_iinc (v := nI (k_4 + 1)) (lv' := [(3, .int (nI (k_4 + 1))), (2, .int y2_4), (0, .ref a_this), (1, .int x1)]) hx hb dX8_fullIfShared_35 hl (k := 0) rfl (nI_1 _) (by decide) rfl (fun ls hl => ?_)
            refine lv_goto (tgt := 4) hx hb dX8_fullIfShared_38 (by decide) ?_
            exact ih (k_4 + 1) (by omega) y2_4 hm ls (lv_sub hl [0, 1, 2, 3] rfl)
          · have hm := (if_neg c_3).symm.trans hm
            refine lv_iinc (v := y2_4 + 1) (lv' := [(2, .int (y2_4 + 1)), (3, .int (nI k_4)), (0, .ref a_this), (1, .int x1)]) hx hb dX8_fullIfShared_32 hl (k := 1) rfl rfl (by decide) rfl (fun ls hl => ?_)
            refine lv_iinc (v := nI (k_4 + 1)) (lv' := [(3, .int (nI (k_4 + 1))), (2, .int (y2_4 + 1)), (0, .ref a_this), (1, .int x1)]) hx hb dX8_fullIfShared_35 hl (k := 1) rfl (nI_1 _) (by decide) rfl (fun ls hl => ?_)
            refine lv_goto (tgt := 4) hx hb dX8_fullIfShared_38 (by decide) ?_
            exact ih (k_4 + 1) (by omega) (y2_4 + 1) hm ls (lv_sub hl [0, 1, 2, 3] rfl)
  exact L_4 v_home_doors.toNatClampNeg 0 (Nat.zero_add _) ((0 : Int32)) rfl ls (lv_sub hl [0, 1, 2, 3] rfl)
theorem dX8_leftIfShared_0 : decode cX8_leftIfShared 0 = .ok (.iload_n 1, 1) := by decide +kernel
theorem dX8_leftIfShared_1 : decode cX8_leftIfShared 1 = .ok (.istore_n 2, 1) := by decide +kernel
theorem dX8_leftIfShared_2 : decode cX8_leftIfShared 2 = .ok (.iconst 0, 1) := by decide +kernel
theorem dX8_leftIfShared_3 : decode cX8_leftIfShared 3 = .ok (.istore_n 3, 1) := by decide +kernel
theorem dX8_leftIfShared_4 : decode cX8_leftIfShared 4 = .ok (.iload_n 3, 1) := by decide +kernel
theorem dX8_leftIfShared_5 : decode cX8_leftIfShared 5 = .ok (.aload_n 0, 1) := by decide +kernel
theorem dX8_leftIfShared_6 : decode cX8_leftIfShared 6 = .ok (.getfield 9, 3) := by decide +kernel
theorem dX8_leftIfShared_9 : decode cX8_leftIfShared 9 = .ok (.getfield 15, 3) := by decide +kernel
theorem dX8_leftIfShared_12 : decode cX8_leftIfShared 12 = .ok (.if_icmp .ge 17, 3) := by decide +kernel
theorem dX8_leftIfShared_15 : decode cX8_leftIfShared 15 = .ok (.iload_n 2, 1) := by decide +kernel
theorem dX8_leftIfShared_16 : decode cX8_leftIfShared 16 = .ok (.aload_n 0, 1) := by decide +kernel
theorem dX8_leftIfShared_17 : decode cX8_leftIfShared 17 = .ok (.iload_n 3, 1) := by decide +kernel
theorem dX8_leftIfShared_18 : decode cX8_leftIfShared 18 = .ok (.invokevirtual 118, 3) := by decide +kernel
theorem dX8_leftIfShared_21 : decode cX8_leftIfShared 21 = .ok (.isub, 1) := by decide +kernel
theorem dX8_leftIfShared_22 : decode cX8_leftIfShared 22 = .ok (.istore_n 2, 1) := by decide +kernel
theorem dX8_leftIfShared_23 : decode cX8_leftIfShared 23 = .ok (.iinc 3 1, 3) := by decide +kernel
theorem dX8_leftIfShared_26 : decode cX8_leftIfShared 26 = .ok (.goto (-22), 3) := by decide +kernel
theorem dX8_leftIfShared_29 : decode cX8_leftIfShared 29 = .ok (.iconst 0, 1) := by decide +kernel
theorem dX8_leftIfShared_30 : decode cX8_leftIfShared 30 = .ok (.iload_n 2, 1) := by decide +kernel
theorem dX8_leftIfShared_31 : decode cX8_leftIfShared 31 = .ok (.invokestatic 124, 3) := by decide +kernel
theorem dX8_leftIfShared_34 : decode cX8_leftIfShared 34 = .ok (.ireturn, 1) := by decide +kernel
theorem h_X8_leftIfShared : yX8_leftIfShared.cls ≠ "java/lang/invoke/MethodHandle" ∧ yX8_leftIfShared.cls ≠ "java/lang/invoke/VarHandle" ∧ (parseMethodDescriptor yX8_leftIfShared.desc).map (fun d => d.parameters.length) = some 1 := by decide +kernel
def mX8_leftIfShared_l4 (v_home_now : Nat → Int32) (k_4 : Nat) (y2_4 : Int32) : Int32 := y2_4 - ((mX8_space v_home_now (nI k_4)))
def mX8_leftIfShared (v_home_doors : Int32) (v_home_now : Nat → Int32) (x1 : Int32) : Int32 := (mJ9_max_7cf53 ((0 : Int32)) ((iter (mX8_leftIfShared_l4 v_home_now) v_home_doors.toNatClampNeg x1)))
set_option maxHeartbeats 4000000 in
set_option maxRecDepth 100000 in
theorem kX8_leftIfShared (l : Launch) (dC : Nat → ClassId) (dI : Nat → Nat → Nat) (cA cZ : ClassId) (a_this a_this_home a_this_home_rainfall a_this_home_doorA a_this_home_doorB a_this_home_doorSides a_this_home_doorOpen a_this_home_now a_this_home_now_row a_this_home_now_row_cells : Nat) (v_home_rooms : Int32) (v_home_rains : Int32) (v_home_doors : Int32) (v_home_persons : Int32) (v_home_now : Nat → Int32) (x1 : Int32) : Met l yX8_leftIfShared (Cond.code yX8_leftIfShared cX8_leftIfShared 4 (some .int) :: wt) ({ frames := 3, cells := 0, slots := 0, locals := 63 } : Room) (va_Pc [.ref a_this, .int x1] (PreP (dC, dI) [(cA, .int), (cZ, .boolean)] [(a_this, .inr (8, [.ref a_this_home])), (a_this_home, .inr (1, [.ref a_this_home_rainfall, .ref a_this_home_doorA, .ref a_this_home_doorB, .ref a_this_home_doorSides, .ref a_this_home_doorOpen, .ref a_this_home_now, .int v_home_rooms, .int v_home_rains, .int v_home_doors, .int v_home_persons])), (a_this_home_now, .inr (7, [.ref a_this_home_now_row])), (a_this_home_now_row, .inr (6, [.ref a_this_home_now_row_cells])), (a_this_home_now_row_cells, .inl (cA, 35, .inl v_home_now))])) (vp_Si (fun r => r = (mX8_leftIfShared v_home_doors v_home_now x1))) 0 0 (fun _ => False) := by
  refine Met.ofW (cc := cX8_leftIfShared) (maxL := 4) (ret := (some .int)) (by decide) rfl ?_
  intro p e s m args below meth c s₁ B hml hv
  obtain ⟨ha, hP, hK⟩ := hv
  have hx := B.exec
  have hb := B.bytes
  have hr := B.returns
  have ht : ∀ w ∈ wt, w.before args s = true := fun w h => atoms_spec (ws := (Cond.code yX8_leftIfShared cX8_leftIfShared 4 (some .int) :: wt)) B.pre w (List.mem_cons_of_mem _ h)
  have hown : s.vm.findClass RX8 = some m.cls := findClass_of_methodNamed B.named
  have hlocks := B.notSynchronized
  have hl := lv_entry ([.ref a_this, .int x1]) (n := 4) (Nat.le_of_ble_eq_true rfl)
  rw [show entryFrame m args 4 = _ from (congrArg (fun a => entryFrame m a 4) ha).trans (lg_entry_eq m [.ref a_this, .int x1] 4)]
  generalize (lg_sl ([.ref a_this, .int x1]) ++ List.replicate (4 - (lg_sl ([.ref a_this, .int x1])).length) Slot.unset).toArray = ls at hl ⊢
  have hl : lv_has ls 4 [(0, .ref a_this), (1, .int x1)] := hl
  have hm : (mX8_leftIfShared v_home_doors v_home_now x1) = (mX8_leftIfShared v_home_doors v_home_now x1) := rfl
  refine lv_iload_n hx hb dX8_leftIfShared_0 rfl (lv_at hl 1 rfl) ?_
  refine lv_istore_n (lv' := [(2, .int x1), (0, .ref a_this), (1, .int x1)]) hx hb dX8_leftIfShared_1 rfl hl (by decide) rfl (fun ls hl => ?_)
  refine lv_iconst (v := (0 : Int32)) hx hb dX8_leftIfShared_2 (by decide) ?_
  refine lv_istore_n (lv' := [(3, .int ((0 : Int32))), (2, .int x1), (0, .ref a_this), (1, .int x1)]) hx hb dX8_leftIfShared_3 rfl hl (by decide) rfl (fun ls hl => ?_)
  have L_4 : ∀ (n_4 k_4 : Nat), k_4 + n_4 = v_home_doors.toNatClampNeg → ∀ (y2_4 : Int32), y2_4 = (iter (mX8_leftIfShared_l4 v_home_now) k_4 x1) → ∀ (ls : Array Slot), lv_has ls 4 [(3, .int (nI k_4)), (2, .int y2_4), (0, .ref a_this), (1, .int x1)] → W p l e (headSpec (Cond.code yX8_leftIfShared cX8_leftIfShared 4 (some .int) :: wt) ({ frames := 3, cells := 0, slots := 0, locals := 63 } : Room)).room s m args below meth c s.heap [] 0 0 (MQ below (vp_Si (fun r => r = (mX8_leftIfShared v_home_doors v_home_now x1))) args s 0 0 (fun _ => False)) (F0 m 4 ls []) := by
    intro n_4
    induction n_4 with
    | zero =>
      intro k_4 hk y2_4 ex0_4 ls hl
      obtain rfl : v_home_doors.toNatClampNeg = k_4 := by omega
      subst ex0_4
      refine lv_iload_n hx hb dX8_leftIfShared_4 rfl (lv_at hl 0 rfl) ?_
      refine lv_aload_n hx hb dX8_leftIfShared_5 rfl (lv_at hl 2 rfl) ?_
      refine va_get (D := (dC, dI)) (ci := 8) (v := .ref a_this_home) (C := RX8) (T := TX8) (N := 1) hx hb ht iX8 hown hK.1 hP 0 rfl rfl 0 (by decide) (ht _ w_1_113) (fun _ h9 => h9) rfl dX8_leftIfShared_6 ?_
      refine va_get (D := (dC, dI)) (ci := 1) (v := .int v_home_doors) (C := RX1) (T := TX1) (N := 10) hx hb ht iX1 hown hK.1 hP 1 rfl rfl 8 (by decide) (ht _ w_1_76) (fun _ h9 => h9) rfl dX8_leftIfShared_9 ?_
      refine lv_icmp_ge (tgt := 29) hx hb dX8_leftIfShared_12 (by decide) (fun c_2 => ?_) (fun c_2 => ?_)
      · skip
        refine lv_iconst (v := (0 : Int32)) hx hb dX8_leftIfShared_29 (by decide) ?_
        refine lv_iload_n hx hb dX8_leftIfShared_30 rfl (lv_at hl 1 rfl) ?_
        refine pv_call (v := (mJ9_max_7cf53 ((0 : Int32)) ((iter (mX8_leftIfShared_l4 v_home_now) v_home_doors.toNatClampNeg x1)))) (va_runS (As := [.int ((0 : Int32)), .int ((iter (mX8_leftIfShared_l4 v_home_now) v_home_doors.toNatClampNeg x1))]) (rest := []) ⟨hx, hb, hml, hown, ht⟩ (kJ9_max_7cf53 l dC dI cA cZ ((0 : Int32)) ((iter (mX8_leftIfShared_l4 v_home_now) v_home_doors.toNatClampNeg x1))) (va_cwS 2 ht (gi_S w_4_98 w_1_36 w_1_4 (gi_code w_1_37)) rfl rfl rfl h_J9_max_7cf53 ⟨Nat.le_of_ble_eq_true rfl, Nat.le_of_ble_eq_true rfl⟩) ⟨pp_blind, pp_use (ws := []) (fun _ _ h => by cases h) hK⟩ rfl rfl hl.1 rfl (lv_room (Nat.le_of_ble_eq_true rfl)) dX8_leftIfShared_31 ⟨Nat.zero_le _, Nat.zero_le _⟩) ?_
        exact W.iret (v := (mJ9_max_7cf53 ((0 : Int32)) ((iter (mX8_leftIfShared_l4 v_home_now) v_home_doors.toNatClampNeg x1)))) hx hb hr (fun t ht9 _ => ⟨_, rfl, hm, ht9⟩) (fun q hq => absurd hq List.not_mem_nil) dX8_leftIfShared_34
      · exact absurd (lpE (by omega) (by have := clampLt v_home_doors; omega)) c_2
    | succ n_4 ih =>
      intro k_4 hk y2_4 ex0_4 ls hl
      have hm : (mX8_leftIfShared_l4 v_home_now) k_4 y2_4 = (iter (mX8_leftIfShared_l4 v_home_now) (k_4 + 1) x1) := by rw [ex0_4]; rfl
      refine lv_iload_n hx hb dX8_leftIfShared_4 rfl (lv_at hl 0 rfl) ?_
      refine lv_aload_n hx hb dX8_leftIfShared_5 rfl (lv_at hl 2 rfl) ?_
      refine va_get (D := (dC, dI)) (ci := 8) (v := .ref a_this_home) (C := RX8) (T := TX8) (N := 1) hx hb ht iX8 hown hK.1 hP 0 rfl rfl 0 (by decide) (ht _ w_1_113) (fun _ h9 => h9) rfl dX8_leftIfShared_6 ?_
      refine va_get (D := (dC, dI)) (ci := 1) (v := .int v_home_doors) (C := RX1) (T := TX1) (N := 10) hx hb ht iX1 hown hK.1 hP 1 rfl rfl 8 (by decide) (ht _ w_1_76) (fun _ h9 => h9) rfl dX8_leftIfShared_9 ?_
      refine lv_icmp_ge (tgt := 29) hx hb dX8_leftIfShared_12 (by decide) (fun c_1 => ?_) (fun c_1 => ?_)
      · exact absurd c_1 (lpN (by omega))
      · skip
        refine lv_iload_n hx hb dX8_leftIfShared_15 rfl (lv_at hl 1 rfl) ?_
        refine lv_aload_n hx hb dX8_leftIfShared_16 rfl (lv_at hl 2 rfl) ?_
        refine lv_iload_n hx hb dX8_leftIfShared_17 rfl (lv_at hl 0 rfl) ?_
        refine pv_call (v := (mX8_space v_home_now (nI k_4))) (va_runV (As := [.int (nI k_4)]) (rest := [.int y2_4]) ⟨hx, hb, hml, hown, ht⟩ (kX8_space l dC dI cA cZ a_this a_this_home a_this_home_rainfall a_this_home_doorA a_this_home_doorB a_this_home_doorSides a_this_home_doorOpen a_this_home_now a_this_home_now_row a_this_home_now_row_cells v_home_rooms v_home_rains v_home_doors v_home_persons v_home_now (nI k_4)) (cwV 1 ht (gi_V (C := RX8) w_4_86 w_4_88 w_0_16 w_1_6 (gi_code w_4_89)) rfl rfl rfl ⟨rfl, h_X8_space⟩ ⟨Nat.le_of_ble_eq_true rfl, Nat.le_of_ble_eq_true rfl⟩) ⟨pp_blind, va_recv hK.1 hP (ci := 8) (q0 := 0) rfl rfl, pp_use hP hK⟩ rfl rfl hl.1 rfl (lv_room (Nat.le_of_ble_eq_true rfl)) dX8_leftIfShared_18 ⟨Nat.zero_le _, Nat.zero_le _⟩) ?_
        refine lv_isub hx hb dX8_leftIfShared_21 ?_
        refine lv_istore_n (lv' := [(2, .int (y2_4 - ((mX8_space v_home_now (nI k_4))))), (3, .int (nI k_4)), (0, .ref a_this), (1, .int x1)]) hx hb dX8_leftIfShared_22 rfl hl (by decide) rfl (fun ls hl => ?_)
        refine lv_iinc (v := nI (k_4 + 1)) (lv' := [(3, .int (nI (k_4 + 1))), (2, .int (y2_4 - ((mX8_space v_home_now (nI k_4))))), (0, .ref a_this), (1, .int x1)]) hx hb dX8_leftIfShared_23 hl (k := 1) rfl (nI_1 _) (by decide) rfl (fun ls hl => ?_)
        refine lv_goto (tgt := 4) hx hb dX8_leftIfShared_26 (by decide) ?_
        exact ih (k_4 + 1) (by omega) (y2_4 - ((mX8_space v_home_now (nI k_4)))) hm ls (lv_sub hl [0, 1, 2, 3] rfl)
  exact L_4 v_home_doors.toNatClampNeg 0 (Nat.zero_add _) x1 rfl ls (lv_sub hl [0, 1, 2, 3] rfl)
