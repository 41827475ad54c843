theorem dX10_comesBy_0 : decode cX10_comesBy 0 = .ok (.iconst 1, 1) := by decide +kernel
theorem dX10_comesBy_1 : decode cX10_comesBy 1 = .ok (.iload_n 2, 1) := by decide +kernel
theorem dX10_comesBy_2 : decode cX10_comesBy 2 = .ok (.ishl, 1) := by decide +kernel
theorem dX10_comesBy_3 : decode cX10_comesBy 3 = .ok (.istore 5, 2) := by decide +kernel
theorem dX10_comesBy_5 : decode cX10_comesBy 5 = .ok (.iconst 0, 1) := by decide +kernel
theorem dX10_comesBy_6 : decode cX10_comesBy 6 = .ok (.istore 6, 2) := by decide +kernel
theorem dX10_comesBy_8 : decode cX10_comesBy 8 = .ok (.iload 6, 2) := by decide +kernel
theorem dX10_comesBy_10 : decode cX10_comesBy 10 = .ok (.bipush 8, 2) := by decide +kernel
theorem dX10_comesBy_12 : decode cX10_comesBy 12 = .ok (.if_icmp .ge 117, 3) := by decide +kernel
theorem dX10_comesBy_15 : decode cX10_comesBy 15 = .ok (.iconst 0, 1) := by decide +kernel
theorem dX10_comesBy_16 : decode cX10_comesBy 16 = .ok (.istore 7, 2) := by decide +kernel
theorem dX10_comesBy_18 : decode cX10_comesBy 18 = .ok (.iload 7, 2) := by decide +kernel
theorem dX10_comesBy_20 : decode cX10_comesBy 20 = .ok (.aload_n 0, 1) := by decide +kernel
theorem dX10_comesBy_21 : decode cX10_comesBy 21 = .ok (.getfield 64, 3) := by decide +kernel
theorem dX10_comesBy_24 : decode cX10_comesBy 24 = .ok (.if_icmp .ge 99, 3) := by decide +kernel
theorem dX10_comesBy_27 : decode cX10_comesBy 27 = .ok (.iconst 1, 1) := by decide +kernel
theorem dX10_comesBy_28 : decode cX10_comesBy 28 = .ok (.aload_n 0, 1) := by decide +kernel
theorem dX10_comesBy_29 : decode cX10_comesBy 29 = .ok (.getfield 29, 3) := by decide +kernel
theorem dX10_comesBy_32 : decode cX10_comesBy 32 = .ok (.iconst 4, 1) := by decide +kernel
theorem dX10_comesBy_33 : decode cX10_comesBy 33 = .ok (.iload 7, 2) := by decide +kernel
theorem dX10_comesBy_35 : decode cX10_comesBy 35 = .ok (.imul, 1) := by decide +kernel
theorem dX10_comesBy_36 : decode cX10_comesBy 36 = .ok (.iaload, 1) := by decide +kernel
theorem dX10_comesBy_37 : decode cX10_comesBy 37 = .ok (.ishl, 1) := by decide +kernel
theorem dX10_comesBy_38 : decode cX10_comesBy 38 = .ok (.iconst 1, 1) := by decide +kernel
theorem dX10_comesBy_39 : decode cX10_comesBy 39 = .ok (.aload_n 0, 1) := by decide +kernel
theorem dX10_comesBy_40 : decode cX10_comesBy 40 = .ok (.getfield 29, 3) := by decide +kernel
theorem dX10_comesBy_43 : decode cX10_comesBy 43 = .ok (.iconst 4, 1) := by decide +kernel
theorem dX10_comesBy_44 : decode cX10_comesBy 44 = .ok (.iload 7, 2) := by decide +kernel
theorem dX10_comesBy_46 : decode cX10_comesBy 46 = .ok (.imul, 1) := by decide +kernel
theorem dX10_comesBy_47 : decode cX10_comesBy 47 = .ok (.iconst 1, 1) := by decide +kernel
theorem dX10_comesBy_48 : decode cX10_comesBy 48 = .ok (.iadd, 1) := by decide +kernel
theorem dX10_comesBy_49 : decode cX10_comesBy 49 = .ok (.iaload, 1) := by decide +kernel
theorem dX10_comesBy_50 : decode cX10_comesBy 50 = .ok (.ishl, 1) := by decide +kernel
theorem dX10_comesBy_51 : decode cX10_comesBy 51 = .ok (.ior, 1) := by decide +kernel
theorem dX10_comesBy_52 : decode cX10_comesBy 52 = .ok (.istore 8, 2) := by decide +kernel
theorem dX10_comesBy_54 : decode cX10_comesBy 54 = .ok (.iload 7, 2) := by decide +kernel
theorem dX10_comesBy_56 : decode cX10_comesBy 56 = .ok (.iload_n 3, 1) := by decide +kernel
theorem dX10_comesBy_57 : decode cX10_comesBy 57 = .ok (.if_icmp .eq 33, 3) := by decide +kernel
theorem dX10_comesBy_60 : decode cX10_comesBy 60 = .ok (.iload 4, 2) := by decide +kernel
theorem dX10_comesBy_62 : decode cX10_comesBy 62 = .ok (.iload 7, 2) := by decide +kernel
theorem dX10_comesBy_64 : decode cX10_comesBy 64 = .ok (.invokestatic 161, 3) := by decide +kernel
theorem dX10_comesBy_67 : decode cX10_comesBy 67 = .ok (.ifCond .ne 23, 3) := by decide +kernel
theorem dX10_comesBy_70 : decode cX10_comesBy 70 = .ok (.aload_n 0, 1) := by decide +kernel
theorem dX10_comesBy_71 : decode cX10_comesBy 71 = .ok (.getfield 32, 3) := by decide +kernel
theorem dX10_comesBy_74 : decode cX10_comesBy 74 = .ok (.iconst 3, 1) := by decide +kernel
theorem dX10_comesBy_75 : decode cX10_comesBy 75 = .ok (.iload 7, 2) := by decide +kernel
theorem dX10_comesBy_77 : decode cX10_comesBy 77 = .ok (.iadd, 1) := by decide +kernel
theorem dX10_comesBy_78 : decode cX10_comesBy 78 = .ok (.iaload, 1) := by decide +kernel
theorem dX10_comesBy_79 : decode cX10_comesBy 79 = .ok (.iload_n 1, 1) := by decide +kernel
theorem dX10_comesBy_80 : decode cX10_comesBy 80 = .ok (.invokestatic 158, 3) := by decide +kernel
theorem dX10_comesBy_83 : decode cX10_comesBy 83 = .ok (.ifCond .ne 7, 3) := by decide +kernel
theorem dX10_comesBy_86 : decode cX10_comesBy 86 = .ok (.iconst 1, 1) := by decide +kernel
theorem dX10_comesBy_87 : decode cX10_comesBy 87 = .ok (.goto 4, 3) := by decide +kernel
theorem dX10_comesBy_90 : decode cX10_comesBy 90 = .ok (.iconst 0, 1) := by decide +kernel
theorem dX10_comesBy_91 : decode cX10_comesBy 91 = .ok (.istore 9, 2) := by decide +kernel
theorem dX10_comesBy_93 : decode cX10_comesBy 93 = .ok (.iload 5, 2) := by decide +kernel
theorem dX10_comesBy_95 : decode cX10_comesBy 95 = .ok (.iload 9, 2) := by decide +kernel
theorem dX10_comesBy_97 : decode cX10_comesBy 97 = .ok (.ifCond .eq 16, 3) := by decide +kernel
theorem dX10_comesBy_100 : decode cX10_comesBy 100 = .ok (.iload 5, 2) := by decide +kernel
theorem dX10_comesBy_102 : decode cX10_comesBy 102 = .ok (.iload 8, 2) := by decide +kernel
theorem dX10_comesBy_104 : decode cX10_comesBy 104 = .ok (.iand, 1) := by decide +kernel
theorem dX10_comesBy_105 : decode cX10_comesBy 105 = .ok (.ifCond .eq 8, 3) := by decide +kernel
theorem dX10_comesBy_108 : decode cX10_comesBy 108 = .ok (.iload 8, 2) := by decide +kernel
theorem dX10_comesBy_110 : decode cX10_comesBy 110 = .ok (.goto 4, 3) := by decide +kernel
theorem dX10_comesBy_113 : decode cX10_comesBy 113 = .ok (.iconst 0, 1) := by decide +kernel
theorem dX10_comesBy_114 : decode cX10_comesBy 114 = .ok (.ior, 1) := by decide +kernel
theorem dX10_comesBy_115 : decode cX10_comesBy 115 = .ok (.istore 5, 2) := by decide +kernel
theorem dX10_comesBy_117 : decode cX10_comesBy 117 = .ok (.iinc 7 1, 3) := by decide +kernel
theorem dX10_comesBy_120 : decode cX10_comesBy 120 = .ok (.goto (-102), 3) := by decide +kernel
theorem dX10_comesBy_123 : decode cX10_comesBy 123 = .ok (.iinc 6 1, 3) := by decide +kernel
theorem dX10_comesBy_126 : decode cX10_comesBy 126 = .ok (.goto (-118), 3) := by decide +kernel
theorem dX10_comesBy_129 : decode cX10_comesBy 129 = .ok (.iload 5, 2) := by decide +kernel
theorem dX10_comesBy_131 : decode cX10_comesBy 131 = .ok (.ireturn, 1) := by decide +kernel
theorem h_X10_comesBy : yX10_comesBy.cls ≠ "java/lang/invoke/MethodHandle" ∧ yX10_comesBy.cls ≠ "java/lang/invoke/VarHandle" ∧ (parseMethodDescriptor yX10_comesBy.desc).map (fun d => d.parameters.length) = some 4 := by decide +kernel
def mX10_comesBy_l18 (v_door : Nat → Int32) (v_now : Nat → Int32) (x1 : Int32) (x3 : Int32) (x4 : Int32) (k_18 : Nat) (y5_18 : Int32) : Int32 := (if (nI k_18) = x3 then y5_18 ||| (nI 0) else (if ((mX10_has x4 (nI k_18))) = 0 then (if ((mX10_stopsBy (v_now (3 + k_18)) x1)) = 0 then (if (y5_18 &&& (((nI 1) <<< ((v_door (4 * k_18)) &&& 31)) ||| ((nI 1) <<< ((v_door (4 * k_18 + 1)) &&& 31)))) = 0 then y5_18 ||| (nI 0) else y5_18 ||| (((nI 1) <<< ((v_door (4 * k_18)) &&& 31)) ||| ((nI 1) <<< ((v_door (4 * k_18 + 1)) &&& 31)))) else y5_18 ||| (nI 0)) else y5_18 ||| (nI 0)))
def mX10_comesBy_l8 (v_doors : Nat) (v_door : Nat → Int32) (v_now : Nat → Int32) (x1 : Int32) (x3 : Int32) (x4 : Int32) (k_8 : Nat) (y5_8 : Int32) : Int32 := (iter (mX10_comesBy_l18 v_door v_now x1 x3 x4) v_doors y5_8)
def mX10_comesBy (v_doors : Nat) (v_door : Nat → Int32) (v_now : Nat → Int32) (x1 : Int32) (x2 : Int32) (x3 : Int32) (x4 : Int32) : Int32 := (iter (mX10_comesBy_l8 v_doors v_door v_now x1 x3 x4) 8 ((nI 1) <<< (x2 &&& 31)))
set_option maxHeartbeats 4000000 in
set_option maxRecDepth 100000 in
theorem kX10_comesBy (l : Launch) (dC : Nat → ClassId) (dI : Nat → Nat → Nat) (cA cZ : ClassId) (a_this a_this_text a_this_readRain a_this_readDoor a_this_readPerson a_this_rain a_this_door a_this_now a_this_tried a_this_backOf a_this_image a_this_imageSeed a_this_isKept a_this_sight a_this_entry : Nat) (v_letters : Nat) (v_position : Nat) (v_tokenAt : Nat) (v_token : Int32) (v_number : Int32) (v_figures : Nat) (v_faultAt : Int32) (v_faultIs : Int32) (v_readRooms : Int32) (v_readStore : Int32) (v_readRains : Nat) (v_readDoors : Nat) (v_readPersons : Nat) (v_rooms : Int32) (v_rains : Nat) (v_doors : Nat) (v_persons : Nat) (v_backs : Nat) (v_seed : Int32) (v_seen : Nat) (v_entries : Nat) (v_door : Nat → Int32) (v_now : Nat → Int32) (x1 : Int32) (x2 : Int32) (x3 : Int32) (x4 : Int32) (hD : v_doors ≤ 10) : Met l yX10_comesBy (Cond.code yX10_comesBy cX10_comesBy 10 (some .int) :: wt) ({ frames := 1, cells := 0, slots := 0, locals := 21 } : Room) (va_Pc [.ref a_this, .int x1, .int x2, .int x3, .int x4] (PreP (dC, dI) [(cA, .int), (cZ, .boolean)] [(a_this, .inr (10, [.int (nI v_letters), .ref a_this_text, .int (nI v_position), .int (nI v_tokenAt), .int v_token, .int v_number, .int (nI v_figures), .int v_faultAt, .int v_faultIs, .int v_readRooms, .int v_readStore, .int (nI v_readRains), .int (nI v_readDoors), .int (nI v_readPersons), .ref a_this_readRain, .ref a_this_readDoor, .ref a_this_readPerson, .int v_rooms, .int (nI v_rains), .int (nI v_doors), .int (nI v_persons), .ref a_this_rain, .ref a_this_door, .ref a_this_now, .ref a_this_tried, .ref a_this_backOf, .int (nI v_backs), .ref a_this_image, .ref a_this_imageSeed, .ref a_this_isKept, .int v_seed, .int (nI v_seen), .ref a_this_sight, .int (nI v_entries), .ref a_this_entry])), (a_this_door, .inl (cA, 40, .inl v_door)), (a_this_now, .inl (cA, 35, .inl v_now))])) (vp_Si (fun r => r = (mX10_comesBy v_doors v_door v_now x1 x2 x3 x4))) 0 0 (fun _ => False) := by
  refine Met.ofW (cc := cX10_comesBy) (maxL := 10) (ret := (some .int)) (by decide) rfl ?_
  intro p e s m args below meth c s₁ B hml hv
  obtain ⟨ha, hP, hK⟩ := hv
  have hx := B.exec
  have hb := B.bytes
  have hr := B.returns
  have ht : ∀ w ∈ wt, w.before args s = true := fun w h => atoms_spec (ws := (Cond.code yX10_comesBy cX10_comesBy 10 (some .int) :: wt)) B.pre w (List.mem_cons_of_mem _ h)
  have hown : s.vm.findClass RX10 = some m.cls := findClass_of_methodNamed B.named
  have hlocks := B.notSynchronized
  have hl := lv_entry ([.ref a_this, .int x1, .int x2, .int x3, .int x4]) (n := 10) (Nat.le_of_ble_eq_true rfl)
  rw [show entryFrame m args 10 = _ from (congrArg (fun a => entryFrame m a 10) ha).trans (lg_entry_eq m [.ref a_this, .int x1, .int x2, .int x3, .int x4] 10)]
  generalize (lg_sl ([.ref a_this, .int x1, .int x2, .int x3, .int x4]) ++ List.replicate (10 - (lg_sl ([.ref a_this, .int x1, .int x2, .int x3, .int x4])).length) Slot.unset).toArray = ls at hl ⊢
  have hl : lv_has ls 10 [(0, .ref a_this), (1, .int x1), (2, .int x2), (3, .int x3), (4, .int x4)] := hl
  have hm : (iter (mX10_comesBy_l8 v_doors v_door v_now x1 x3 x4) 8 ((nI 1) <<< (x2 &&& 31))) = (mX10_comesBy v_doors v_door v_now x1 x2 x3 x4) := rfl
  refine lv_iconst (v := nI 1) hx hb dX10_comesBy_0 (by decide) ?_
  refine lv_iload_n hx hb dX10_comesBy_1 rfl (lv_at hl 2 rfl) ?_
  refine lv_ishl hx hb dX10_comesBy_2 ?_
  refine lv_istore (lv' := [(5, .int ((nI 1) <<< (x2 &&& 31))), (0, .ref a_this), (1, .int x1), (2, .int x2), (3, .int x3), (4, .int x4)]) hx hb dX10_comesBy_3 hl (by decide) rfl (fun ls hl => ?_)
  refine lv_iconst (v := nI 0) hx hb dX10_comesBy_5 (by decide) ?_
  refine lv_istore (lv' := [(6, .int (nI 0)), (5, .int ((nI 1) <<< (x2 &&& 31))), (0, .ref a_this), (1, .int x1), (2, .int x2), (3, .int x3), (4, .int x4)]) hx hb dX10_comesBy_6 hl (by decide) rfl (fun ls hl => ?_)
  have L_8 : ∀ (n_8 k_8 : Nat), k_8 + n_8 = 8 → ∀ (y5_8 : Int32), y5_8 = (iter (mX10_comesBy_l8 v_doors v_door v_now x1 x3 x4) k_8 ((nI 1) <<< (x2 &&& 31))) → ∀ (ls : Array Slot), lv_has ls 10 [(6, .int (nI k_8)), (5, .int y5_8), (0, .ref a_this), (1, .int x1), (2, .int x2), (3, .int x3), (4, .int x4)] → W p l e (headSpec (Cond.code yX10_comesBy cX10_comesBy 10 (some .int) :: wt) ({ frames := 1, cells := 0, slots := 0, locals := 21 } : Room)).room s m args below meth c s.heap [] 0 0 (MQ below (vp_Si (fun r => r = (mX10_comesBy v_doors v_door v_now x1 x2 x3 x4))) args s 0 0 (fun _ => False)) (F0 m 8 ls []) := by
    intro n_8
    induction n_8 with
    | zero =>
      intro k_8 hk y5_8 ex0_8 ls hl
      obtain rfl : 8 = k_8 := by omega
      subst ex0_8
      refine lv_iload hx hb dX10_comesBy_8 (lv_at hl 0 rfl) ?_
      refine lv_bipush (v := nI 8) hx hb dX10_comesBy_10 (by decide) ?_
      refine lv_icmp_ge (tgt := 129) hx hb dX10_comesBy_12 (by decide) (fun c_12 => ?_) (fun c_12 => ?_)
      · skip
        refine lv_iload hx hb dX10_comesBy_129 (lv_at hl 1 rfl) ?_
        exact W.iret (v := (iter (mX10_comesBy_l8 v_doors v_door v_now x1 x3 x4) 8 ((nI 1) <<< (x2 &&& 31)))) hx hb hr (fun t ht9 _ => ⟨_, rfl, hm, ht9⟩) (fun q hq => absurd hq List.not_mem_nil) dX10_comesBy_131
      · exact absurd (nI_le (by omega) (by omega)) c_12
    | succ n_8 ih =>
      intro k_8 hk y5_8 ex0_8 ls hl
      have hm : (mX10_comesBy_l8 v_doors v_door v_now x1 x3 x4) k_8 y5_8 = (iter (mX10_comesBy_l8 v_doors v_door v_now x1 x3 x4) (k_8 + 1) ((nI 1) <<< (x2 &&& 31))) := by rw [ex0_8]; rfl
      have hm : (iter (mX10_comesBy_l18 v_door v_now x1 x3 x4) v_doors y5_8) = (iter (mX10_comesBy_l8 v_doors v_door v_now x1 x3 x4) (k_8 + 1) ((nI 1) <<< (x2 &&& 31))) := hm
      refine lv_iload hx hb dX10_comesBy_8 (lv_at hl 0 rfl) ?_
      refine lv_bipush (v := nI 8) hx hb dX10_comesBy_10 (by decide) ?_
      refine lv_icmp_ge (tgt := 129) hx hb dX10_comesBy_12 (by decide) (fun c_1 => ?_) (fun c_1 => ?_)
      · exact absurd c_1 (nI_ge (by omega) (by omega))
      · skip
        refine lv_iconst (v := nI 0) hx hb dX10_comesBy_15 (by decide) ?_
        refine lv_istore (lv' := [(7, .int (nI 0)), (6, .int (nI k_8)), (5, .int y5_8), (0, .ref a_this), (1, .int x1), (2, .int x2), (3, .int x3), (4, .int x4)]) hx hb dX10_comesBy_16 hl (by decide) rfl (fun ls hl => ?_)
        have L_18 : ∀ (n_18 k_18 : Nat), k_18 + n_18 = v_doors → ∀ (y5_18 : Int32), y5_18 = (iter (mX10_comesBy_l18 v_door v_now x1 x3 x4) k_18 y5_8) → ∀ (ls : Array Slot), lv_has ls 10 [(7, .int (nI k_18)), (6, .int (nI k_8)), (5, .int y5_18), (0, .ref a_this), (1, .int x1), (2, .int x2), (3, .int x3), (4, .int x4)] → W p l e (headSpec (Cond.code yX10_comesBy cX10_comesBy 10 (some .int) :: wt) ({ frames := 1, cells := 0, slots := 0, locals := 21 } : Room)).room s m args below meth c s.heap [] 0 0 (MQ below (vp_Si (fun r => r = (mX10_comesBy v_doors v_door v_now x1 x2 x3 x4))) args s 0 0 (fun _ => False)) (F0 m 18 ls []) := by
          intro n_18
          induction n_18 with
          | zero =>
            intro k_18 hk y5_18 ex0_18 ls hl
            obtain rfl : v_doors = k_18 := by omega
            subst ex0_18
            refine lv_iload hx hb dX10_comesBy_18 (lv_at hl 0 rfl) ?_
            refine lv_aload_n hx hb dX10_comesBy_20 rfl (lv_at hl 3 rfl) ?_
            refine va_get (D := (dC, dI)) (ci := 10) (v := .int (nI v_doors)) (C := RX10) (T := TX10) (N := 35) hx hb ht iX10 hown hK.1 hP 0 rfl rfl 19 (by decide) (ht _ w_4_222) (fun _ h9 => h9) rfl dX10_comesBy_21 ?_
            refine lv_icmp_ge (tgt := 123) hx hb dX10_comesBy_24 (by decide) (fun c_11 => ?_) (fun c_11 => ?_)
            · skip
              refine lv_iinc (v := nI (k_8 + 1)) (lv' := [(6, .int (nI (k_8 + 1))), (7, .int (nI v_doors)), (5, .int ((iter (mX10_comesBy_l18 v_door v_now x1 x3 x4) v_doors y5_8))), (0, .ref a_this), (1, .int x1), (2, .int x2), (3, .int x3), (4, .int x4)]) hx hb dX10_comesBy_123 hl (k := 1) rfl (nI_1 _) (by decide) rfl (fun ls hl => ?_)
              refine lv_goto (tgt := 8) hx hb dX10_comesBy_126 (by decide) ?_
              exact ih (k_8 + 1) (by omega) ((iter (mX10_comesBy_l18 v_door v_now x1 x3 x4) v_doors y5_8)) hm ls (lv_sub hl [0, 2, 3, 4, 5, 6, 7] rfl)
            · exact absurd (nI_le (by omega) (by omega)) c_11
          | succ n_18 ih =>
            intro k_18 hk y5_18 ex0_18 ls hl
            have hm : (mX10_comesBy_l18 v_door v_now x1 x3 x4) k_18 y5_18 = (iter (mX10_comesBy_l18 v_door v_now x1 x3 x4) (k_18 + 1) y5_8) := by rw [ex0_18]; rfl
            have hm : (if (nI k_18) = x3 then y5_18 ||| (nI 0) else (if ((mX10_has x4 (nI k_18))) = 0 then (if ((mX10_stopsBy (v_now (3 + k_18)) x1)) = 0 then (if (y5_18 &&& (((nI 1) <<< ((v_door (4 * k_18)) &&& 31)) ||| ((nI 1) <<< ((v_door (4 * k_18 + 1)) &&& 31)))) = 0 then y5_18 ||| (nI 0) else y5_18 ||| (((nI 1) <<< ((v_door (4 * k_18)) &&& 31)) ||| ((nI 1) <<< ((v_door (4 * k_18 + 1)) &&& 31)))) else y5_18 ||| (nI 0)) else y5_18 ||| (nI 0))) = (iter (mX10_comesBy_l18 v_door v_now x1 x3 x4) (k_18 + 1) y5_8) := hm
            refine lv_iload hx hb dX10_comesBy_18 (lv_at hl 0 rfl) ?_
            refine lv_aload_n hx hb dX10_comesBy_20 rfl (lv_at hl 3 rfl) ?_
            refine va_get (D := (dC, dI)) (ci := 10) (v := .int (nI v_doors)) (C := RX10) (T := TX10) (N := 35) hx hb ht iX10 hown hK.1 hP 0 rfl rfl 19 (by decide) (ht _ w_4_222) (fun _ h9 => h9) rfl dX10_comesBy_21 ?_
            refine lv_icmp_ge (tgt := 123) hx hb dX10_comesBy_24 (by decide) (fun c_2 => ?_) (fun c_2 => ?_)
            · exact absurd c_2 (nI_ge (by omega) (by omega))
            · skip
              refine lv_iconst (v := nI 1) hx hb dX10_comesBy_27 (by decide) ?_
              refine lv_aload_n hx hb dX10_comesBy_28 rfl (lv_at hl 3 rfl) ?_
              refine va_get (D := (dC, dI)) (ci := 10) (v := .ref a_this_door) (C := RX10) (T := TX10) (N := 35) hx hb ht iX10 hown hK.1 hP 0 rfl rfl 22 (by decide) (ht _ w_4_225) (fun _ h9 => h9) rfl dX10_comesBy_29 ?_
              refine lv_iconst (v := nI 4) hx hb dX10_comesBy_32 (by decide) ?_
              refine lv_iload hx hb dX10_comesBy_33 (lv_at hl 0 rfl) ?_
              refine nv_imul hx hb dX10_comesBy_35 ?_
              refine nv_iald (e := 4 * k_18) (by omega) (by omega) hx hb hK.1 hP 1 0 rfl rfl dX10_comesBy_36 ?_
              refine lv_ishl hx hb dX10_comesBy_37 ?_
              refine lv_iconst (v := nI 1) hx hb dX10_comesBy_38 (by decide) ?_
              refine lv_aload_n hx hb dX10_comesBy_39 rfl (lv_at hl 3 rfl) ?_
              refine va_get (D := (dC, dI)) (ci := 10) (v := .ref a_this_door) (C := RX10) (T := TX10) (N := 35) hx hb ht iX10 hown hK.1 hP 0 rfl rfl 22 (by decide) (ht _ w_4_225) (fun _ h9 => h9) rfl dX10_comesBy_40 ?_
              refine lv_iconst (v := nI 4) hx hb dX10_comesBy_43 (by decide) ?_
              refine lv_iload hx hb dX10_comesBy_44 (lv_at hl 0 rfl) ?_
              refine nv_imul hx hb dX10_comesBy_46 ?_
              refine lv_iconst (v := nI 1) hx hb dX10_comesBy_47 (by decide) ?_
              refine nv_iadd hx hb dX10_comesBy_48 ?_
              refine nv_iald (e := 4 * k_18 + 1) (by omega) (by omega) hx hb hK.1 hP 1 0 rfl rfl dX10_comesBy_49 ?_
              refine lv_ishl hx hb dX10_comesBy_50 ?_
              refine lv_ior hx hb dX10_comesBy_51 ?_
              refine lv_istore (lv' := [(8, .int (((nI 1) <<< ((v_door (4 * k_18)) &&& 31)) ||| ((nI 1) <<< ((v_door (4 * k_18 + 1)) &&& 31)))), (7, .int (nI k_18)), (6, .int (nI k_8)), (5, .int y5_18), (0, .ref a_this), (1, .int x1), (2, .int x2), (3, .int x3), (4, .int x4)]) hx hb dX10_comesBy_52 hl (by decide) rfl (fun ls hl => ?_)
              refine lv_iload hx hb dX10_comesBy_54 (lv_at hl 1 rfl) ?_
              refine lv_iload_n hx hb dX10_comesBy_56 rfl (lv_at hl 7 rfl) ?_
              refine lv_icmp_eq (tgt := 90) hx hb dX10_comesBy_57 (by decide) (fun c_3 => ?_) (fun c_3 => ?_)
              · have hm := (if_pos c_3).symm.trans hm
                refine lv_iconst (v := nI 0) hx hb dX10_comesBy_90 (by decide) ?_
                refine lv_istore (lv' := [(9, .int (nI 0)), (8, .int (((nI 1) <<< ((v_door (4 * k_18)) &&& 31)) ||| ((nI 1) <<< ((v_door (4 * k_18 + 1)) &&& 31)))), (7, .int (nI k_18)), (6, .int (nI k_8)), (5, .int y5_18), (0, .ref a_this), (1, .int x1), (2, .int x2), (3, .int x3), (4, .int x4)]) hx hb dX10_comesBy_91 hl (by decide) rfl (fun ls hl => ?_)
                refine lv_iload hx hb dX10_comesBy_93 (lv_at hl 4 rfl) ?_
                refine lv_iload hx hb dX10_comesBy_95 (lv_at hl 0 rfl) ?_
                refine lv_if_eq (tgt := 113) hx hb dX10_comesBy_97 (by decide) (fun c_4 => ?_) (fun c_4 => ?_)
                · skip
                  refine lv_iconst (v := nI 0) hx hb dX10_comesBy_113 (by decide) ?_
                  refine lv_ior hx hb dX10_comesBy_114 ?_
                  refine lv_istore (lv' := [(5, .int (y5_18 ||| (nI 0))), (9, .int (nI 0)), (8, .int (((nI 1) <<< ((v_door (4 * k_18)) &&& 31)) ||| ((nI 1) <<< ((v_door (4 * k_18 + 1)) &&& 31)))), (7, .int (nI k_18)), (6, .int (nI k_8)), (0, .ref a_this), (1, .int x1), (2, .int x2), (3, .int x3), (4, .int x4)]) hx hb dX10_comesBy_115 hl (by decide) rfl (fun ls hl => ?_)
                  refine lv_iinc (v := nI (k_18 + 1)) (lv' := [(7, .int (nI (k_18 + 1))), (5, .int (y5_18 ||| (nI 0))), (9, .int (nI 0)), (8, .int (((nI 1) <<< ((v_door (4 * k_18)) &&& 31)) ||| ((nI 1) <<< ((v_door (4 * k_18 + 1)) &&& 31)))), (6, .int (nI k_8)), (0, .ref a_this), (1, .int x1), (2, .int x2), (3, .int x3), (4, .int x4)]) hx hb dX10_comesBy_117 hl (k := 3) rfl (nI_1 _) (by decide) rfl (fun ls hl => ?_)
                  refine lv_goto (tgt := 18) hx hb dX10_comesBy_120 (by decide) ?_
                  exact ih (k_18 + 1) (by omega) (y5_18 ||| (nI 0)) hm ls (lv_sub hl [0, 4, 1, 5, 6, 7, 8, 9] rfl)
                · exact absurd c_4 (by decide)
              · have hm := (if_neg c_3).symm.trans hm
                refine lv_iload hx hb dX10_comesBy_60 (lv_at hl 8 rfl) ?_
                refine lv_iload hx hb dX10_comesBy_62 (lv_at hl 1 rfl) ?_
                refine pv_call (v := (mX10_has x4 (nI k_18))) (va_runS (As := [.int x4, .int (nI k_18)]) (rest := []) ⟨hx, hb, hml, hown, ht⟩ (kX10_has l dC dI cA cZ x4 (nI k_18)) (va_cwS 2 ht (gi_S w_5_149 w_5_150 w_1_12 (gi_code w_5_151)) rfl rfl rfl h_X10_has ⟨Nat.le_of_ble_eq_true rfl, Nat.le_of_ble_eq_true rfl⟩) ⟨pp_blind, pp_use (ws := []) (fun _ _ h => by cases h) hK⟩ rfl rfl hl.1 rfl (lv_room (Nat.le_of_ble_eq_true rfl)) dX10_comesBy_64 ⟨Nat.zero_le _, Nat.zero_le _⟩) ?_
                refine lv_if_ne (tgt := 90) hx hb dX10_comesBy_67 (by decide) (fun c_5 => ?_) (fun c_5 => ?_)
                · have hm := (if_neg c_5).symm.trans hm
                  refine lv_iconst (v := nI 0) hx hb dX10_comesBy_90 (by decide) ?_
                  refine lv_istore (lv' := [(9, .int (nI 0)), (8, .int (((nI 1) <<< ((v_door (4 * k_18)) &&& 31)) ||| ((nI 1) <<< ((v_door (4 * k_18 + 1)) &&& 31)))), (7, .int (nI k_18)), (6, .int (nI k_8)), (5, .int y5_18), (0, .ref a_this), (1, .int x1), (2, .int x2), (3, .int x3), (4, .int x4)]) hx hb dX10_comesBy_91 hl (by decide) rfl (fun ls hl => ?_)
                  refine lv_iload hx hb dX10_comesBy_93 (lv_at hl 4 rfl) ?_
                  refine lv_iload hx hb dX10_comesBy_95 (lv_at hl 0 rfl) ?_
                  refine lv_if_eq (tgt := 113) hx hb dX10_comesBy_97 (by decide) (fun c_6 => ?_) (fun c_6 => ?_)
                  · skip
                    refine lv_iconst (v := nI 0) hx hb dX10_comesBy_113 (by decide) ?_
                    refine lv_ior hx hb dX10_comesBy_114 ?_
                    refine lv_istore (lv' := [(5, .int (y5_18 ||| (nI 0))), (9, .int (nI 0)), (8, .int (((nI 1) <<< ((v_door (4 * k_18)) &&& 31)) ||| ((nI 1) <<< ((v_door (4 * k_18 + 1)) &&& 31)))), (7, .int (nI k_18)), (6, .int (nI k_8)), (0, .ref a_this), (1, .int x1), (2, .int x2), (3, .int x3), (4, .int x4)]) hx hb dX10_comesBy_115 hl (by decide) rfl (fun ls hl => ?_)
                    refine lv_iinc (v := nI (k_18 + 1)) (lv' := [(7, .int (nI (k_18 + 1))), (5, .int (y5_18 ||| (nI 0))), (9, .int (nI 0)), (8, .int (((nI 1) <<< ((v_door (4 * k_18)) &&& 31)) ||| ((nI 1) <<< ((v_door (4 * k_18 + 1)) &&& 31)))), (6, .int (nI k_8)), (0, .ref a_this), (1, .int x1), (2, .int x2), (3, .int x3), (4, .int x4)]) hx hb dX10_comesBy_117 hl (k := 3) rfl (nI_1 _) (by decide) rfl (fun ls hl => ?_)
                    refine lv_goto (tgt := 18) hx hb dX10_comesBy_120 (by decide) ?_
                    exact ih (k_18 + 1) (by omega) (y5_18 ||| (nI 0)) hm ls (lv_sub hl [0, 4, 1, 5, 6, 7, 8, 9] rfl)
                  · exact absurd c_6 (by decide)
                · have hm := (if_pos c_5).symm.trans hm
                  refine lv_aload_n hx hb dX10_comesBy_70 rfl (lv_at hl 4 rfl) ?_
                  refine va_get (D := (dC, dI)) (ci := 10) (v := .ref a_this_now) (C := RX10) (T := TX10) (N := 35) hx hb ht iX10 hown hK.1 hP 0 rfl rfl 23 (by decide) (ht _ w_4_226) (fun _ h9 => h9) rfl dX10_comesBy_71 ?_
                  refine lv_iconst (v := nI 3) hx hb dX10_comesBy_74 (by decide) ?_
                  refine lv_iload hx hb dX10_comesBy_75 (lv_at hl 1 rfl) ?_
                  refine nv_iadd hx hb dX10_comesBy_77 ?_
                  refine nv_iald (e := 3 + k_18) (by omega) (by omega) hx hb hK.1 hP 2 0 rfl rfl dX10_comesBy_78 ?_
                  refine lv_iload_n hx hb dX10_comesBy_79 rfl (lv_at hl 5 rfl) ?_
                  refine pv_call (v := (mX10_stopsBy (v_now (3 + k_18)) x1)) (va_runS (As := [.int (v_now (3 + k_18)), .int x1]) (rest := []) ⟨hx, hb, hml, hown, ht⟩ (kX10_stopsBy l dC dI cA cZ (v_now (3 + k_18)) x1) (va_cwS 2 ht (gi_S w_5_152 w_5_153 w_1_12 (gi_code w_5_154)) rfl rfl rfl h_X10_stopsBy ⟨Nat.le_of_ble_eq_true rfl, Nat.le_of_ble_eq_true rfl⟩) ⟨pp_blind, pp_use (ws := []) (fun _ _ h => by cases h) hK⟩ rfl rfl hl.1 rfl (lv_room (Nat.le_of_ble_eq_true rfl)) dX10_comesBy_80 ⟨Nat.zero_le _, Nat.zero_le _⟩) ?_
                  refine lv_if_ne (tgt := 90) hx hb dX10_comesBy_83 (by decide) (fun c_7 => ?_) (fun c_7 => ?_)
                  · have hm := (if_neg c_7).symm.trans hm
                    refine lv_iconst (v := nI 0) hx hb dX10_comesBy_90 (by decide) ?_
                    refine lv_istore (lv' := [(9, .int (nI 0)), (8, .int (((nI 1) <<< ((v_door (4 * k_18)) &&& 31)) ||| ((nI 1) <<< ((v_door (4 * k_18 + 1)) &&& 31)))), (7, .int (nI k_18)), (6, .int (nI k_8)), (5, .int y5_18), (0, .ref a_this), (1, .int x1), (2, .int x2), (3, .int x3), (4, .int x4)]) hx hb dX10_comesBy_91 hl (by decide) rfl (fun ls hl => ?_)
                    refine lv_iload hx hb dX10_comesBy_93 (lv_at hl 4 rfl) ?_
                    refine lv_iload hx hb dX10_comesBy_95 (lv_at hl 0 rfl) ?_
                    refine lv_if_eq (tgt := 113) hx hb dX10_comesBy_97 (by decide) (fun c_8 => ?_) (fun c_8 => ?_)
                    · skip
                      refine lv_iconst (v := nI 0) hx hb dX10_comesBy_113 (by decide) ?_
                      refine lv_ior hx hb dX10_comesBy_114 ?_
                      refine lv_istore (lv' := [(5, .int (y5_18 ||| (nI 0))), (9, .int (nI 0)), (8, .int (((nI 1) <<< ((v_door (4 * k_18)) &&& 31)) ||| ((nI 1) <<< ((v_door (4 * k_18 + 1)) &&& 31)))), (7, .int (nI k_18)), (6, .int (nI k_8)), (0, .ref a_this), (1, .int x1), (2, .int x2), (3, .int x3), (4, .int x4)]) hx hb dX10_comesBy_115 hl (by decide) rfl (fun ls hl => ?_)
                      refine lv_iinc (v := nI (k_18 + 1)) (lv' := [(7, .int (nI (k_18 + 1))), (5, .int (y5_18 ||| (nI 0))), (9, .int (nI 0)), (8, .int (((nI 1) <<< ((v_door (4 * k_18)) &&& 31)) ||| ((nI 1) <<< ((v_door (4 * k_18 + 1)) &&& 31)))), (6, .int (nI k_8)), (0, .ref a_this), (1, .int x1), (2, .int x2), (3, .int x3), (4, .int x4)]) hx hb dX10_comesBy_117 hl (k := 3) rfl (nI_1 _) (by decide) rfl (fun ls hl => ?_)
                      refine lv_goto (tgt := 18) hx hb dX10_comesBy_120 (by decide) ?_
                      exact ih (k_18 + 1) (by omega) (y5_18 ||| (nI 0)) hm ls (lv_sub hl [0, 4, 1, 5, 6, 7, 8, 9] rfl)
                    · exact absurd c_8 (by decide)
                  · have hm := (if_pos c_7).symm.trans hm
                    refine lv_iconst (v := nI 1) hx hb dX10_comesBy_86 (by decide) ?_
                    refine lv_goto (tgt := 91) hx hb dX10_comesBy_87 (by decide) ?_
                    refine lv_istore (lv' := [(9, .int (nI 1)), (8, .int (((nI 1) <<< ((v_door (4 * k_18)) &&& 31)) ||| ((nI 1) <<< ((v_door (4 * k_18 + 1)) &&& 31)))), (7, .int (nI k_18)), (6, .int (nI k_8)), (5, .int y5_18), (0, .ref a_this), (1, .int x1), (2, .int x2), (3, .int x3), (4, .int x4)]) hx hb dX10_comesBy_91 hl (by decide) rfl (fun ls hl => ?_)
                    refine lv_iload hx hb dX10_comesBy_93 (lv_at hl 4 rfl) ?_
                    refine lv_iload hx hb dX10_comesBy_95 (lv_at hl 0 rfl) ?_
                    refine lv_if_eq (tgt := 113) hx hb dX10_comesBy_97 (by decide) (fun c_9 => ?_) (fun c_9 => ?_)
                    · exact absurd c_9 (by decide)
                    · skip
                      refine lv_iload hx hb dX10_comesBy_100 (lv_at hl 4 rfl) ?_
                      refine lv_iload hx hb dX10_comesBy_102 (lv_at hl 1 rfl) ?_
                      refine lv_iand hx hb dX10_comesBy_104 ?_
                      refine lv_if_eq (tgt := 113) hx hb dX10_comesBy_105 (by decide) (fun c_10 => ?_) (fun c_10 => ?_)
                      · have hm := (if_pos c_10).symm.trans hm
                        refine lv_iconst (v := nI 0) hx hb dX10_comesBy_113 (by decide) ?_
                        refine lv_ior hx hb dX10_comesBy_114 ?_
                        refine lv_istore (lv' := [(5, .int (y5_18 ||| (nI 0))), (9, .int (nI 1)), (8, .int (((nI 1) <<< ((v_door (4 * k_18)) &&& 31)) ||| ((nI 1) <<< ((v_door (4 * k_18 + 1)) &&& 31)))), (7, .int (nI k_18)), (6, .int (nI k_8)), (0, .ref a_this), (1, .int x1), (2, .int x2), (3, .int x3), (4, .int x4)]) hx hb dX10_comesBy_115 hl (by decide) rfl (fun ls hl => ?_)
                        refine lv_iinc (v := nI (k_18 + 1)) (lv' := [(7, .int (nI (k_18 + 1))), (5, .int (y5_18 ||| (nI 0))), (9, .int (nI 1)), (8, .int (((nI 1) <<< ((v_door (4 * k_18)) &&& 31)) ||| ((nI 1) <<< ((v_door (4 * k_18 + 1)) &&& 31)))), (6, .int (nI k_8)), (0, .ref a_this), (1, .int x1), (2, .int x2), (3, .int x3), (4, .int x4)]) hx hb dX10_comesBy_117 hl (k := 3) rfl (nI_1 _) (by decide) rfl (fun ls hl => ?_)
                        refine lv_goto (tgt := 18) hx hb dX10_comesBy_120 (by decide) ?_
                        exact ih (k_18 + 1) (by omega) (y5_18 ||| (nI 0)) hm ls (lv_sub hl [0, 4, 1, 5, 6, 7, 8, 9] rfl)
                      · have hm := (if_neg c_10).symm.trans hm
                        refine lv_iload hx hb dX10_comesBy_108 (lv_at hl 1 rfl) ?_
                        refine lv_goto (tgt := 114) hx hb dX10_comesBy_110 (by decide) ?_
                        refine lv_ior hx hb dX10_comesBy_114 ?_
                        refine lv_istore (lv' := [(5, .int (y5_18 ||| (((nI 1) <<< ((v_door (4 * k_18)) &&& 31)) ||| ((nI 1) <<< ((v_door (4 * k_18 + 1)) &&& 31))))), (9, .int (nI 1)), (8, .int (((nI 1) <<< ((v_door (4 * k_18)) &&& 31)) ||| ((nI 1) <<< ((v_door (4 * k_18 + 1)) &&& 31)))), (7, .int (nI k_18)), (6, .int (nI k_8)), (0, .ref a_this), (1, .int x1), (2, .int x2), (3, .int x3), (4, .int x4)]) hx hb dX10_comesBy_115 hl (by decide) rfl (fun ls hl => ?_)
                        refine lv_iinc (v := nI (k_18 + 1)) (lv' := [(7, .int (nI (k_18 + 1))), (5, .int (y5_18 ||| (((nI 1) <<< ((v_door (4 * k_18)) &&& 31)) ||| ((nI 1) <<< ((v_door (4 * k_18 + 1)) &&& 31))))), (9, .int (nI 1)), (8, .int (((nI 1) <<< ((v_door (4 * k_18)) &&& 31)) ||| ((nI 1) <<< ((v_door (4 * k_18 + 1)) &&& 31)))), (6, .int (nI k_8)), (0, .ref a_this), (1, .int x1), (2, .int x2), (3, .int x3), (4, .int x4)]) hx hb dX10_comesBy_117 hl (k := 3) rfl (nI_1 _) (by decide) rfl (fun ls hl => ?_)
                        refine lv_goto (tgt := 18) hx hb dX10_comesBy_120 (by decide) ?_
                        exact ih (k_18 + 1) (by omega) (y5_18 ||| (((nI 1) <<< ((v_door (4 * k_18)) &&& 31)) ||| ((nI 1) <<< ((v_door (4 * k_18 + 1)) &&& 31)))) hm ls (lv_sub hl [0, 4, 1, 5, 6, 7, 8, 9] rfl)
        exact L_18 v_doors 0 (Nat.zero_add _) y5_8 rfl ls (lv_sub hl [0, 1, 2, 3, 4, 5, 6, 7] rfl)
  exact L_8 8 0 (Nat.zero_add _) ((nI 1) <<< (x2 &&& 31)) rfl ls (lv_sub hl [0, 1, 2, 3, 4, 5, 6] rfl)
theorem dX10_comesOf_0 : decode cX10_comesOf 0 = .ok (.aload_n 0, 1) := by decide +kernel
theorem dX10_comesOf_1 : decode cX10_comesOf 1 = .ok (.aload_n 0, 1) := by decide +kernel
theorem dX10_comesOf_2 : decode cX10_comesOf 2 = .ok (.getfield 32, 3) := by decide +kernel
theorem dX10_comesOf_5 : decode cX10_comesOf 5 = .ok (.iload_n 1, 1) := by decide +kernel
theorem dX10_comesOf_6 : decode cX10_comesOf 6 = .ok (.invokestatic 154, 3) := by decide +kernel
theorem dX10_comesOf_9 : decode cX10_comesOf 9 = .ok (.aload_n 0, 1) := by decide +kernel
theorem dX10_comesOf_10 : decode cX10_comesOf 10 = .ok (.getfield 32, 3) := by decide +kernel
theorem dX10_comesOf_13 : decode cX10_comesOf 13 = .ok (.bipush 23, 2) := by decide +kernel
theorem dX10_comesOf_15 : decode cX10_comesOf 15 = .ok (.iload_n 1, 1) := by decide +kernel
theorem dX10_comesOf_16 : decode cX10_comesOf 16 = .ok (.iadd, 1) := by decide +kernel
theorem dX10_comesOf_17 : decode cX10_comesOf 17 = .ok (.iaload, 1) := by decide +kernel
theorem dX10_comesOf_18 : decode cX10_comesOf 18 = .ok (.iconst (-1), 1) := by decide +kernel
theorem dX10_comesOf_19 : decode cX10_comesOf 19 = .ok (.iconst 0, 1) := by decide +kernel
theorem dX10_comesOf_20 : decode cX10_comesOf 20 = .ok (.invokevirtual 164, 3) := by decide +kernel
theorem dX10_comesOf_23 : decode cX10_comesOf 23 = .ok (.ireturn, 1) := by decide +kernel
theorem h_X10_comesOf : yX10_comesOf.cls ≠ "java/lang/invoke/MethodHandle" ∧ yX10_comesOf.cls ≠ "java/lang/invoke/VarHandle" ∧ (parseMethodDescriptor yX10_comesOf.desc).map (fun d => d.parameters.length) = some 1 := by decide +kernel
def mX10_comesOf (v_doors : Nat) (v_door : Nat → Int32) (v_now : Nat → Int32) (x1 : Nat) : Int32 := (mX10_comesBy v_doors v_door v_now ((mX10_illOf v_now x1)) (v_now (23 + x1)) ((-1 : Int32)) (nI 0))
set_option maxHeartbeats 4000000 in
set_option maxRecDepth 100000 in
theorem kX10_comesOf (l : Launch) (dC : Nat → ClassId) (dI : Nat → Nat → Nat) (cA cZ : ClassId) (a_this a_this_text a_this_readRain a_this_readDoor a_this_readPerson a_this_rain a_this_door a_this_now a_this_tried a_this_backOf a_this_image a_this_imageSeed a_this_isKept a_this_sight a_this_entry : Nat) (v_letters : Nat) (v_position : Nat) (v_tokenAt : Nat) (v_token : Int32) (v_number : Int32) (v_figures : Nat) (v_faultAt : Int32) (v_faultIs : Int32) (v_readRooms : Int32) (v_readStore : Int32) (v_readRains : Nat) (v_readDoors : Nat) (v_readPersons : Nat) (v_rooms : Int32) (v_rains : Nat) (v_doors : Nat) (v_persons : Nat) (v_backs : Nat) (v_seed : Int32) (v_seen : Nat) (v_entries : Nat) (v_door : Nat → Int32) (v_now : Nat → Int32) (x1 : Nat) (hD : v_doors ≤ 10) (hp : x1 < 6) : Met l yX10_comesOf (Cond.code yX10_comesOf cX10_comesOf 2 (some .int) :: wt) ({ frames := 2, cells := 0, slots := 0, locals := 50 } : Room) (va_Pc [.ref a_this, .int (nI x1)] (PreP (dC, dI) [(cA, .int), (cZ, .boolean)] [(a_this, .inr (10, [.int (nI v_letters), .ref a_this_text, .int (nI v_position), .int (nI v_tokenAt), .int v_token, .int v_number, .int (nI v_figures), .int v_faultAt, .int v_faultIs, .int v_readRooms, .int v_readStore, .int (nI v_readRains), .int (nI v_readDoors), .int (nI v_readPersons), .ref a_this_readRain, .ref a_this_readDoor, .ref a_this_readPerson, .int v_rooms, .int (nI v_rains), .int (nI v_doors), .int (nI v_persons), .ref a_this_rain, .ref a_this_door, .ref a_this_now, .ref a_this_tried, .ref a_this_backOf, .int (nI v_backs), .ref a_this_image, .ref a_this_imageSeed, .ref a_this_isKept, .int v_seed, .int (nI v_seen), .ref a_this_sight, .int (nI v_entries), .ref a_this_entry])), (a_this_door, .inl (cA, 40, .inl v_door)), (a_this_now, .inl (cA, 35, .inl v_now))])) (vp_Si (fun r => r = (mX10_comesOf v_doors v_door v_now x1))) 0 0 (fun _ => False) := by
  refine Met.ofW (cc := cX10_comesOf) (maxL := 2) (ret := (some .int)) (by decide) rfl ?_
  intro p e s m args below meth c s₁ B hml hv
  obtain ⟨ha, hP, hK⟩ := hv
  have hx := B.exec
  have hb := B.bytes
  have hr := B.returns
  have ht : ∀ w ∈ wt, w.before args s = true := fun w h => atoms_spec (ws := (Cond.code yX10_comesOf cX10_comesOf 2 (some .int) :: wt)) B.pre w (List.mem_cons_of_mem _ h)
  have hown : s.vm.findClass RX10 = some m.cls := findClass_of_methodNamed B.named
  have hlocks := B.notSynchronized
  have hl := lv_entry ([.ref a_this, .int (nI x1)]) (n := 2) (Nat.le_of_ble_eq_true rfl)
  rw [show entryFrame m args 2 = _ from (congrArg (fun a => entryFrame m a 2) ha).trans (lg_entry_eq m [.ref a_this, .int (nI x1)] 2)]
  generalize (lg_sl ([.ref a_this, .int (nI x1)]) ++ List.replicate (2 - (lg_sl ([.ref a_this, .int (nI x1)])).length) Slot.unset).toArray = ls at hl ⊢
  have hl : lv_has ls 2 [(0, .ref a_this), (1, .int (nI x1))] := hl
  have hm : (mX10_comesBy v_doors v_door v_now ((mX10_illOf v_now x1)) (v_now (23 + x1)) ((-1 : Int32)) (nI 0)) = (mX10_comesOf v_doors v_door v_now x1) := rfl
  refine lv_aload_n hx hb dX10_comesOf_0 rfl (lv_at hl 0 rfl) ?_
  refine lv_aload_n hx hb dX10_comesOf_1 rfl (lv_at hl 0 rfl) ?_
  refine va_get (D := (dC, dI)) (ci := 10) (v := .ref a_this_now) (C := RX10) (T := TX10) (N := 35) hx hb ht iX10 hown hK.1 hP 0 rfl rfl 23 (by decide) (ht _ w_4_226) (fun _ h9 => h9) rfl dX10_comesOf_2 ?_
  refine lv_iload_n hx hb dX10_comesOf_5 rfl (lv_at hl 1 rfl) ?_
  refine pv_call (v := (mX10_illOf v_now x1)) (va_runS (As := [.ref a_this_now, .int (nI x1)]) (rest := [.ref a_this]) ⟨hx, hb, hml, hown, ht⟩ (kX10_illOf l dC dI cA cZ a_this_now v_now x1 (by omega)) (va_cwS 2 ht (gi_S w_5_142 w_5_143 w_1_12 (gi_code w_5_144)) rfl rfl rfl h_X10_illOf ⟨Nat.le_of_ble_eq_true rfl, Nat.le_of_ble_eq_true rfl⟩) ⟨pp_blind, pp_use (pc_sub (wc := [(a_this_now, .inl (cA, 35, .inl v_now))]) hP [2] rfl) hK⟩ rfl rfl hl.1 rfl (lv_room (Nat.le_of_ble_eq_true rfl)) dX10_comesOf_6 ⟨Nat.zero_le _, Nat.zero_le _⟩) ?_
  refine lv_aload_n hx hb dX10_comesOf_9 rfl (lv_at hl 0 rfl) ?_
  refine va_get (D := (dC, dI)) (ci := 10) (v := .ref a_this_now) (C := RX10) (T := TX10) (N := 35) hx hb ht iX10 hown hK.1 hP 0 rfl rfl 23 (by decide) (ht _ w_4_226) (fun _ h9 => h9) rfl dX10_comesOf_10 ?_
  refine lv_bipush (v := nI 23) hx hb dX10_comesOf_13 (by decide) ?_
  refine lv_iload_n hx hb dX10_comesOf_15 rfl (lv_at hl 1 rfl) ?_
  refine nv_iadd hx hb dX10_comesOf_16 ?_
  refine nv_iald (e := 23 + x1) (by omega) (by omega) hx hb hK.1 hP 2 0 rfl rfl dX10_comesOf_17 ?_
  refine lv_iconst (v := (-1 : Int32)) hx hb dX10_comesOf_18 (by decide) ?_
  refine lv_iconst (v := nI 0) hx hb dX10_comesOf_19 (by decide) ?_
  refine pv_call (v := (mX10_comesBy v_doors v_door v_now ((mX10_illOf v_now x1)) (v_now (23 + x1)) ((-1 : Int32)) (nI 0))) (va_runV (As := [.int ((mX10_illOf v_now x1)), .int (v_now (23 + x1)), .int ((-1 : Int32)), .int (nI 0)]) (rest := []) ⟨hx, hb, hml, hown, ht⟩ (kX10_comesBy l dC dI cA cZ a_this a_this_text a_this_readRain a_this_readDoor a_this_readPerson a_this_rain a_this_door a_this_now a_this_tried a_this_backOf a_this_image a_this_imageSeed a_this_isKept a_this_sight a_this_entry v_letters v_position v_tokenAt v_token v_number v_figures v_faultAt v_faultIs v_readRooms v_readStore v_readRains v_readDoors v_readPersons v_rooms v_rains v_doors v_persons v_backs v_seed v_seen v_entries v_door v_now ((mX10_illOf v_now x1)) (v_now (23 + x1)) ((-1 : Int32)) (nI 0) (by omega)) (cwV 4 ht (gi_V (C := RX10) w_5_145 w_5_147 w_0_30 w_1_12 (gi_code w_5_148)) rfl rfl rfl ⟨rfl, h_X10_comesBy⟩ ⟨Nat.le_of_ble_eq_true rfl, Nat.le_of_ble_eq_true rfl⟩) ⟨pp_blind, va_recv hK.1 hP (ci := 10) (q0 := 0) rfl rfl, pp_use hP hK⟩ rfl rfl hl.1 rfl (lv_room (Nat.le_of_ble_eq_true rfl)) dX10_comesOf_20 ⟨Nat.zero_le _, Nat.zero_le _⟩) ?_
  exact W.iret (v := (mX10_comesBy v_doors v_door v_now ((mX10_illOf v_now x1)) (v_now (23 + x1)) ((-1 : Int32)) (nI 0))) hx hb hr (fun t ht9 _ => ⟨_, rfl, hm, ht9⟩) (fun q hq => absurd hq List.not_mem_nil) dX10_comesOf_23
theorem dX10_shutIn_0 : decode cX10_shutIn 0 = .ok (.iconst 0, 1) := by decide +kernel
theorem dX10_shutIn_1 : decode cX10_shutIn 1 = .ok (.istore_n 1, 1) := by decide +kernel
theorem dX10_shutIn_2 : decode cX10_shutIn 2 = .ok (.iconst 0, 1) := by decide +kernel
theorem dX10_shutIn_3 : decode cX10_shutIn 3 = .ok (.istore_n 2, 1) := by decide +kernel
theorem dX10_shutIn_4 : decode cX10_shutIn 4 = .ok (.iload_n 2, 1) := by decide +kernel
theorem dX10_shutIn_5 : decode cX10_shutIn 5 = .ok (.aload_n 0, 1) := by decide +kernel
theorem dX10_shutIn_6 : decode cX10_shutIn 6 = .ok (.getfield 67, 3) := by decide +kernel
theorem dX10_shutIn_9 : decode cX10_shutIn 9 = .ok (.if_icmp .ge 31, 3) := by decide +kernel
theorem dX10_shutIn_12 : decode cX10_shutIn 12 = .ok (.iload_n 1, 1) := by decide +kernel
theorem dX10_shutIn_13 : decode cX10_shutIn 13 = .ok (.aload_n 0, 1) := by decide +kernel
theorem dX10_shutIn_14 : decode cX10_shutIn 14 = .ok (.iload_n 2, 1) := by decide +kernel
theorem dX10_shutIn_15 : decode cX10_shutIn 15 = .ok (.invokevirtual 168, 3) := by decide +kernel
theorem dX10_shutIn_18 : decode cX10_shutIn 18 = .ok (.iconst 0, 1) := by decide +kernel
theorem dX10_shutIn_19 : decode cX10_shutIn 19 = .ok (.invokestatic 161, 3) := by decide +kernel
theorem dX10_shutIn_22 : decode cX10_shutIn 22 = .ok (.ifCond .eq 7, 3) := by decide +kernel
theorem dX10_shutIn_25 : decode cX10_shutIn 25 = .ok (.iconst 0, 1) := by decide +kernel
theorem dX10_shutIn_26 : decode cX10_shutIn 26 = .ok (.goto 6, 3) := by decide +kernel
theorem dX10_shutIn_29 : decode cX10_shutIn 29 = .ok (.iconst 1, 1) := by decide +kernel
theorem dX10_shutIn_30 : decode cX10_shutIn 30 = .ok (.iload_n 2, 1) := by decide +kernel
theorem dX10_shutIn_31 : decode cX10_shutIn 31 = .ok (.ishl, 1) := by decide +kernel
theorem dX10_shutIn_32 : decode cX10_shutIn 32 = .ok (.ior, 1) := by decide +kernel
theorem dX10_shutIn_33 : decode cX10_shutIn 33 = .ok (.istore_n 1, 1) := by decide +kernel
theorem dX10_shutIn_34 : decode cX10_shutIn 34 = .ok (.iinc 2 1, 3) := by decide +kernel
theorem dX10_shutIn_37 : decode cX10_shutIn 37 = .ok (.goto (-33), 3) := by decide +kernel
theorem dX10_shutIn_40 : decode cX10_shutIn 40 = .ok (.iload_n 1, 1) := by decide +kernel
theorem dX10_shutIn_41 : decode cX10_shutIn 41 = .ok (.ireturn, 1) := by decide +kernel
theorem h_X10_shutIn : yX10_shutIn.cls ≠ "java/lang/invoke/MethodHandle" ∧ yX10_shutIn.cls ≠ "java/lang/invoke/VarHandle" ∧ (parseMethodDescriptor yX10_shutIn.desc).map (fun d => d.parameters.length) = some 0 := by decide +kernel
def mX10_shutIn_l4 (v_doors : Nat) (v_door : Nat → Int32) (v_now : Nat → Int32) (k_4 : Nat) (y1_4 : Int32) : Int32 := (if ((mX10_has ((mX10_comesOf v_doors v_door v_now k_4)) (nI 0))) = 0 then y1_4 ||| ((nI 1) <<< ((nI k_4) &&& 31)) else y1_4 ||| (nI 0))
def mX10_shutIn (v_doors : Nat) (v_persons : Nat) (v_door : Nat → Int32) (v_now : Nat → Int32) : Int32 := (iter (mX10_shutIn_l4 v_doors v_door v_now) v_persons (nI 0))
set_option maxHeartbeats 4000000 in
set_option maxRecDepth 100000 in
theorem kX10_shutIn (l : Launch) (dC : Nat → ClassId) (dI : Nat → Nat → Nat) (cA cZ : ClassId) (a_this a_this_text a_this_readRain a_this_readDoor a_this_readPerson a_this_rain a_this_door a_this_now a_this_tried a_this_backOf a_this_image a_this_imageSeed a_this_isKept a_this_sight a_this_entry : Nat) (v_letters : Nat) (v_position : Nat) (v_tokenAt : Nat) (v_token : Int32) (v_number : Int32) (v_figures : Nat) (v_faultAt : Int32) (v_faultIs : Int32) (v_readRooms : Int32) (v_readStore : Int32) (v_readRains : Nat) (v_readDoors : Nat) (v_readPersons : Nat) (v_rooms : Int32) (v_rains : Nat) (v_doors : Nat) (v_persons : Nat) (v_backs : Nat) (v_seed : Int32) (v_seen : Nat) (v_entries : Nat) (v_door : Nat → Int32) (v_now : Nat → Int32) (hD : v_doors ≤ 10) (hPn : v_persons ≤ 6) : Met l yX10_shutIn (Cond.code yX10_shutIn cX10_shutIn 3 (some .int) :: wt) ({ frames := 3, cells := 0, slots := 0, locals := 71 } : Room) (va_Pc [.ref a_this] (PreP (dC, dI) [(cA, .int), (cZ, .boolean)] [(a_this, .inr (10, [.int (nI v_letters), .ref a_this_text, .int (nI v_position), .int (nI v_tokenAt), .int v_token, .int v_number, .int (nI v_figures), .int v_faultAt, .int v_faultIs, .int v_readRooms, .int v_readStore, .int (nI v_readRains), .int (nI v_readDoors), .int (nI v_readPersons), .ref a_this_readRain, .ref a_this_readDoor, .ref a_this_readPerson, .int v_rooms, .int (nI v_rains), .int (nI v_doors), .int (nI v_persons), .ref a_this_rain, .ref a_this_door, .ref a_this_now, .ref a_this_tried, .ref a_this_backOf, .int (nI v_backs), .ref a_this_image, .ref a_this_imageSeed, .ref a_this_isKept, .int v_seed, .int (nI v_seen), .ref a_this_sight, .int (nI v_entries), .ref a_this_entry])), (a_this_door, .inl (cA, 40, .inl v_door)), (a_this_now, .inl (cA, 35, .inl v_now))])) (vp_Si (fun r => r = (mX10_shutIn v_doors v_persons v_door v_now))) 0 0 (fun _ => False) := by
  refine Met.ofW (cc := cX10_shutIn) (maxL := 3) (ret := (some .int)) (by decide) rfl ?_
  intro p e s m args below meth c s₁ B hml hv
  obtain ⟨ha, hP, hK⟩ := hv
  have hx := B.exec
  have hb := B.bytes
  have hr := B.returns
  have ht : ∀ w ∈ wt, w.before args s = true := fun w h => atoms_spec (ws := (Cond.code yX10_shutIn cX10_shutIn 3 (some .int) :: wt)) B.pre w (List.mem_cons_of_mem _ h)
  have hown : s.vm.findClass RX10 = some m.cls := findClass_of_methodNamed B.named
  have hlocks := B.notSynchronized
  have hl := lv_entry ([.ref a_this]) (n := 3) (Nat.le_of_ble_eq_true rfl)
  rw [show entryFrame m args 3 = _ from (congrArg (fun a => entryFrame m a 3) ha).trans (lg_entry_eq m [.ref a_this] 3)]
  generalize (lg_sl ([.ref a_this]) ++ List.replicate (3 - (lg_sl ([.ref a_this])).length) Slot.unset).toArray = ls at hl ⊢
  have hl : lv_has ls 3 [(0, .ref a_this)] := hl
  have hm : (iter (mX10_shutIn_l4 v_doors v_door v_now) v_persons (nI 0)) = (mX10_shutIn v_doors v_persons v_door v_now) := rfl
  refine lv_iconst (v := nI 0) hx hb dX10_shutIn_0 (by decide) ?_
  refine lv_istore_n (lv' := [(1, .int (nI 0)), (0, .ref a_this)]) hx hb dX10_shutIn_1 rfl hl (by decide) rfl (fun ls hl => ?_)
  refine lv_iconst (v := nI 0) hx hb dX10_shutIn_2 (by decide) ?_
  refine lv_istore_n (lv' := [(2, .int (nI 0)), (1, .int (nI 0)), (0, .ref a_this)]) hx hb dX10_shutIn_3 rfl hl (by decide) rfl (fun ls hl => ?_)
  have L_4 : ∀ (n_4 k_4 : Nat), k_4 + n_4 = v_persons → ∀ (y1_4 : Int32), y1_4 = (iter (mX10_shutIn_l4 v_doors v_door v_now) k_4 (nI 0)) → ∀ (ls : Array Slot), lv_has ls 3 [(2, .int (nI k_4)), (1, .int y1_4), (0, .ref a_this)] → W p l e (headSpec (Cond.code yX10_shutIn cX10_shutIn 3 (some .int) :: wt) ({ frames := 3, cells := 0, slots := 0, locals := 71 } : Room)).room s m args below meth c s.heap [] 0 0 (MQ below (vp_Si (fun r => r = (mX10_shutIn v_doors v_persons v_door v_now))) args s 0 0 (fun _ => False)) (F0 m 4 ls []) := by
    intro n_4
    induction n_4 with
    | zero =>
      intro k_4 hk y1_4 ex0_4 ls hl
      obtain rfl : v_persons = k_4 := by omega
      subst ex0_4
      refine lv_iload_n hx hb dX10_shutIn_4 rfl (lv_at hl 0 rfl) ?_
      refine lv_aload_n hx hb dX10_shutIn_5 rfl (lv_at hl 2 rfl) ?_
      refine va_get (D := (dC, dI)) (ci := 10) (v := .int (nI v_persons)) (C := RX10) (T := TX10) (N := 35) hx hb ht iX10 hown hK.1 hP 0 rfl rfl 20 (by decide) (ht _ w_4_223) (fun _ h9 => h9) rfl dX10_shutIn_6 ?_
      refine lv_icmp_ge (tgt := 40) hx hb dX10_shutIn_9 (by decide) (fun c_3 => ?_) (fun c_3 => ?_)
      · skip
        refine lv_iload_n hx hb dX10_shutIn_40 rfl (lv_at hl 1 rfl) ?_
        exact W.iret (v := (iter (mX10_shutIn_l4 v_doors v_door v_now) v_persons (nI 0))) hx hb hr (fun t ht9 _ => ⟨_, rfl, hm, ht9⟩) (fun q hq => absurd hq List.not_mem_nil) dX10_shutIn_41
      · exact absurd (nI_le (by omega) (by omega)) c_3
    | succ n_4 ih =>
      intro k_4 hk y1_4 ex0_4 ls hl
      have hm : (mX10_shutIn_l4 v_doors v_door v_now) k_4 y1_4 = (iter (mX10_shutIn_l4 v_doors v_door v_now) (k_4 + 1) (nI 0)) := by rw [ex0_4]; rfl
      have hm : (if ((mX10_has ((mX10_comesOf v_doors v_door v_now k_4)) (nI 0))) = 0 then y1_4 ||| ((nI 1) <<< ((nI k_4) &&& 31)) else y1_4 ||| (nI 0)) = (iter (mX10_shutIn_l4 v_doors v_door v_now) (k_4 + 1) (nI 0)) := hm
      refine lv_iload_n hx hb dX10_shutIn_4 rfl (lv_at hl 0 rfl) ?_
      refine lv_aload_n hx hb dX10_shutIn_5 rfl (lv_at hl 2 rfl) ?_
      refine va_get (D := (dC, dI)) (ci := 10) (v := .int (nI v_persons)) (C := RX10) (T := TX10) (N := 35) hx hb ht iX10 hown hK.1 hP 0 rfl rfl 20 (by decide) (ht _ w_4_223) (fun _ h9 => h9) rfl dX10_shutIn_6 ?_
      refine lv_icmp_ge (tgt := 40) hx hb dX10_shutIn_9 (by decide) (fun c_1 => ?_) (fun c_1 => ?_)
      · exact absurd c_1 (nI_ge (by omega) (by omega))
      · skip
        refine lv_iload_n hx hb dX10_shutIn_12 rfl (lv_at hl 1 rfl) ?_
        refine lv_aload_n hx hb dX10_shutIn_13 rfl (lv_at hl 2 rfl) ?_
        refine lv_iload_n hx hb dX10_shutIn_14 rfl (lv_at hl 0 rfl) ?_
        refine pv_call (v := (mX10_comesOf v_doors v_door v_now k_4)) (va_runV (As := [.int (nI k_4)]) (rest := [.int y1_4]) ⟨hx, hb, hml, hown, ht⟩ (kX10_comesOf l dC dI cA cZ a_this a_this_text a_this_readRain a_this_readDoor a_this_readPerson a_this_rain a_this_door a_this_now a_this_tried a_this_backOf a_this_image a_this_imageSeed a_this_isKept a_this_sight a_this_entry v_letters v_position v_tokenAt v_token v_number v_figures v_faultAt v_faultIs v_readRooms v_readStore v_readRains v_readDoors v_readPersons v_rooms v_rains v_doors v_persons v_backs v_seed v_seen v_entries v_door v_now k_4 (by omega) (by omega)) (cwV 1 ht (gi_V (C := RX10) w_5_138 w_5_140 w_0_29 w_1_12 (gi_code w_5_141)) rfl rfl rfl ⟨rfl, h_X10_comesOf⟩ ⟨Nat.le_of_ble_eq_true rfl, Nat.le_of_ble_eq_true rfl⟩) ⟨pp_blind, va_recv hK.1 hP (ci := 10) (q0 := 0) rfl rfl, pp_use hP hK⟩ rfl rfl hl.1 rfl (lv_room (Nat.le_of_ble_eq_true rfl)) dX10_shutIn_15 ⟨Nat.zero_le _, Nat.zero_le _⟩) ?_
        refine lv_iconst (v := nI 0) hx hb dX10_shutIn_18 (by decide) ?_
        refine pv_call (v := (mX10_has ((mX10_comesOf v_doors v_door v_now k_4)) (nI 0))) (va_runS (As := [.int ((mX10_comesOf v_doors v_door v_now k_4)), .int (nI 0)]) (rest := [.int y1_4]) ⟨hx, hb, hml, hown, ht⟩ (kX10_has l dC dI cA cZ ((mX10_comesOf v_doors v_door v_now k_4)) (nI 0)) (va_cwS 2 ht (gi_S w_5_149 w_5_150 w_1_12 (gi_code w_5_151)) rfl rfl rfl h_X10_has ⟨Nat.le_of_ble_eq_true rfl, Nat.le_of_ble_eq_true rfl⟩) ⟨pp_blind, pp_use (ws := []) (fun _ _ h => by cases h) hK⟩ rfl rfl hl.1 rfl (lv_room (Nat.le_of_ble_eq_true rfl)) dX10_shutIn_19 ⟨Nat.zero_le _, Nat.zero_le _⟩) ?_
        refine lv_if_eq (tgt := 29) hx hb dX10_shutIn_22 (by decide) (fun c_2 => ?_) (fun c_2 => ?_)
        · have hm := (if_pos c_2).symm.trans hm
          refine lv_iconst (v := nI 1) hx hb dX10_shutIn_29 (by decide) ?_
          refine lv_iload_n hx hb dX10_shutIn_30 rfl (lv_at hl 0 rfl) ?_
          refine lv_ishl hx hb dX10_shutIn_31 ?_
          refine lv_ior hx hb dX10_shutIn_32 ?_
          refine lv_istore_n (lv' := [(1, .int (y1_4 ||| ((nI 1) <<< ((nI k_4) &&& 31)))), (2, .int (nI k_4)), (0, .ref a_this)]) hx hb dX10_shutIn_33 rfl hl (by decide) rfl (fun ls hl => ?_)
          refine lv_iinc (v := nI (k_4 + 1)) (lv' := [(2, .int (nI (k_4 + 1))), (1, .int (y1_4 ||| ((nI 1) <<< ((nI k_4) &&& 31)))), (0, .ref a_this)]) hx hb dX10_shutIn_34 hl (k := 1) rfl (nI_1 _) (by decide) rfl (fun ls hl => ?_)
          refine lv_goto (tgt := 4) hx hb dX10_shutIn_37 (by decide) ?_
          exact ih (k_4 + 1) (by omega) (y1_4 ||| ((nI 1) <<< ((nI k_4) &&& 31))) hm ls (lv_sub hl [0, 1, 2] rfl)
        · have hm := (if_neg c_2).symm.trans hm
          refine lv_iconst (v := nI 0) hx hb dX10_shutIn_25 (by decide) ?_
          refine lv_goto (tgt := 32) hx hb dX10_shutIn_26 (by decide) ?_
          refine lv_ior hx hb dX10_shutIn_32 ?_
          refine lv_istore_n (lv' := [(1, .int (y1_4 ||| (nI 0))), (2, .int (nI k_4)), (0, .ref a_this)]) hx hb dX10_shutIn_33 rfl hl (by decide) rfl (fun ls hl => ?_)
          refine lv_iinc (v := nI (k_4 + 1)) (lv' := [(2, .int (nI (k_4 + 1))), (1, .int (y1_4 ||| (nI 0))), (0, .ref a_this)]) hx hb dX10_shutIn_34 hl (k := 1) rfl (nI_1 _) (by decide) rfl (fun ls hl => ?_)
          refine lv_goto (tgt := 4) hx hb dX10_shutIn_37 (by decide) ?_
          exact ih (k_4 + 1) (by omega) (y1_4 ||| (nI 0)) hm ls (lv_sub hl [0, 1, 2] rfl)
  exact L_4 v_persons 0 (Nat.zero_add _) (nI 0) rfl ls (lv_sub hl [0, 1, 2] rfl)
theorem dX10_allSpoons_0 : decode cX10_allSpoons 0 = .ok (.iconst 0, 1) := by decide +kernel
theorem dX10_allSpoons_1 : decode cX10_allSpoons 1 = .ok (.istore_n 1, 1) := by decide +kernel
theorem dX10_allSpoons_2 : decode cX10_allSpoons 2 = .ok (.iconst 0, 1) := by decide +kernel
theorem dX10_allSpoons_3 : decode cX10_allSpoons 3 = .ok (.istore_n 2, 1) := by decide +kernel
theorem dX10_allSpoons_4 : decode cX10_allSpoons 4 = .ok (.iload_n 2, 1) := by decide +kernel
theorem dX10_allSpoons_5 : decode cX10_allSpoons 5 = .ok (.aload_n 0, 1) := by decide +kernel
theorem dX10_allSpoons_6 : decode cX10_allSpoons 6 = .ok (.getfield 64, 3) := by decide +kernel
theorem dX10_allSpoons_9 : decode cX10_allSpoons 9 = .ok (.if_icmp .ge 20, 3) := by decide +kernel
theorem dX10_allSpoons_12 : decode cX10_allSpoons 12 = .ok (.iload_n 1, 1) := by decide +kernel
theorem dX10_allSpoons_13 : decode cX10_allSpoons 13 = .ok (.aload_n 0, 1) := by decide +kernel
theorem dX10_allSpoons_14 : decode cX10_allSpoons 14 = .ok (.getfield 32, 3) := by decide +kernel
theorem dX10_allSpoons_17 : decode cX10_allSpoons 17 = .ok (.iconst 3, 1) := by decide +kernel
theorem dX10_allSpoons_18 : decode cX10_allSpoons 18 = .ok (.iload_n 2, 1) := by decide +kernel
theorem dX10_allSpoons_19 : decode cX10_allSpoons 19 = .ok (.iadd, 1) := by decide +kernel
theorem dX10_allSpoons_20 : decode cX10_allSpoons 20 = .ok (.iaload, 1) := by decide +kernel
theorem dX10_allSpoons_21 : decode cX10_allSpoons 21 = .ok (.iadd, 1) := by decide +kernel
theorem dX10_allSpoons_22 : decode cX10_allSpoons 22 = .ok (.istore_n 1, 1) := by decide +kernel
theorem dX10_allSpoons_23 : decode cX10_allSpoons 23 = .ok (.iinc 2 1, 3) := by decide +kernel
theorem dX10_allSpoons_26 : decode cX10_allSpoons 26 = .ok (.goto (-22), 3) := by decide +kernel
theorem dX10_allSpoons_29 : decode cX10_allSpoons 29 = .ok (.iload_n 1, 1) := by decide +kernel
theorem dX10_allSpoons_30 : decode cX10_allSpoons 30 = .ok (.ireturn, 1) := by decide +kernel
theorem h_X10_allSpoons : yX10_allSpoons.cls ≠ "java/lang/invoke/MethodHandle" ∧ yX10_allSpoons.cls ≠ "java/lang/invoke/VarHandle" ∧ (parseMethodDescriptor yX10_allSpoons.desc).map (fun d => d.parameters.length) = some 0 := by decide +kernel
def mX10_allSpoons_l4 (v_now : Nat → Int32) (k_4 : Nat) (y1_4 : Int32) : Int32 := y1_4 + (v_now (3 + k_4))
def mX10_allSpoons (v_doors : Nat) (v_now : Nat → Int32) : Int32 := (iter (mX10_allSpoons_l4 v_now) v_doors (nI 0))
set_option maxHeartbeats 4000000 in
set_option maxRecDepth 100000 in
theorem kX10_allSpoons (l : Launch) (dC : Nat → ClassId) (dI : Nat → Nat → Nat) (cA cZ : ClassId) (a_this a_this_text a_this_readRain a_this_readDoor a_this_readPerson a_this_rain a_this_door a_this_now a_this_tried a_this_backOf a_this_image a_this_imageSeed a_this_isKept a_this_sight a_this_entry : Nat) (v_letters : Nat) (v_position : Nat) (v_tokenAt : Nat) (v_token : Int32) (v_number : Int32) (v_figures : Nat) (v_faultAt : Int32) (v_faultIs : Int32) (v_readRooms : Int32) (v_readStore : Int32) (v_readRains : Nat) (v_readDoors : Nat) (v_readPersons : Nat) (v_rooms : Int32) (v_rains : Nat) (v_doors : Nat) (v_persons : Nat) (v_backs : Nat) (v_seed : Int32) (v_seen : Nat) (v_entries : Nat) (v_now : Nat → Int32) (hD : v_doors ≤ 10) : Met l yX10_allSpoons (Cond.code yX10_allSpoons cX10_allSpoons 3 (some .int) :: wt) ({ frames := 0, cells := 0, slots := 0, locals := 0 } : Room) (va_Pc [.ref a_this] (PreP (dC, dI) [(cA, .int), (cZ, .boolean)] [(a_this, .inr (10, [.int (nI v_letters), .ref a_this_text, .int (nI v_position), .int (nI v_tokenAt), .int v_token, .int v_number, .int (nI v_figures), .int v_faultAt, .int v_faultIs, .int v_readRooms, .int v_readStore, .int (nI v_readRains), .int (nI v_readDoors), .int (nI v_readPersons), .ref a_this_readRain, .ref a_this_readDoor, .ref a_this_readPerson, .int v_rooms, .int (nI v_rains), .int (nI v_doors), .int (nI v_persons), .ref a_this_rain, .ref a_this_door, .ref a_this_now, .ref a_this_tried, .ref a_this_backOf, .int (nI v_backs), .ref a_this_image, .ref a_this_imageSeed, .ref a_this_isKept, .int v_seed, .int (nI v_seen), .ref a_this_sight, .int (nI v_entries), .ref a_this_entry])), (a_this_now, .inl (cA, 35, .inl v_now))])) (vp_Si (fun r => r = (mX10_allSpoons v_doors v_now))) 0 0 (fun _ => False) := by
  refine Met.ofW (cc := cX10_allSpoons) (maxL := 3) (ret := (some .int)) (by decide) rfl ?_
  intro p e s m args below meth c s₁ B hml hv
  obtain ⟨ha, hP, hK⟩ := hv
  have hx := B.exec
  have hb := B.bytes
  have hr := B.returns
  have ht : ∀ w ∈ wt, w.before args s = true := fun w h => atoms_spec (ws := (Cond.code yX10_allSpoons cX10_allSpoons 3 (some .int) :: wt)) B.pre w (List.mem_cons_of_mem _ h)
  have hown : s.vm.findClass RX10 = some m.cls := findClass_of_methodNamed B.named
  have hlocks := B.notSynchronized
  have hl := lv_entry ([.ref a_this]) (n := 3) (Nat.le_of_ble_eq_true rfl)
  rw [show entryFrame m args 3 = _ from (congrArg (fun a => entryFrame m a 3) ha).trans (lg_entry_eq m [.ref a_this] 3)]
  generalize (lg_sl ([.ref a_this]) ++ List.replicate (3 - (lg_sl ([.ref a_this])).length) Slot.unset).toArray = ls at hl ⊢
  have hl : lv_has ls 3 [(0, .ref a_this)] := hl
  have hm : (iter (mX10_allSpoons_l4 v_now) v_doors (nI 0)) = (mX10_allSpoons v_doors v_now) := rfl
  refine lv_iconst (v := nI 0) hx hb dX10_allSpoons_0 (by decide) ?_
  refine lv_istore_n (lv' := [(1, .int (nI 0)), (0, .ref a_this)]) hx hb dX10_allSpoons_1 rfl hl (by decide) rfl (fun ls hl => ?_)
  refine lv_iconst (v := nI 0) hx hb dX10_allSpoons_2 (by decide) ?_
  refine lv_istore_n (lv' := [(2, .int (nI 0)), (1, .int (nI 0)), (0, .ref a_this)]) hx hb dX10_allSpoons_3 rfl hl (by decide) rfl (fun ls hl => ?_)
  have L_4 : ∀ (n_4 k_4 : Nat), k_4 + n_4 = v_doors → ∀ (y1_4 : Int32), y1_4 = (iter (mX10_allSpoons_l4 v_now) k_4 (nI 0)) → ∀ (ls : Array Slot), lv_has ls 3 [(2, .int (nI k_4)), (1, .int y1_4), (0, .ref a_this)] → W p l e (headSpec (Cond.code yX10_allSpoons cX10_allSpoons 3 (some .int) :: wt) ({ frames := 0, cells := 0, slots := 0, locals := 0 } : Room)).room s m args below meth c s.heap [] 0 0 (MQ below (vp_Si (fun r => r = (mX10_allSpoons v_doors v_now))) args s 0 0 (fun _ => False)) (F0 m 4 ls []) := by
    intro n_4
    induction n_4 with
    | zero =>
      intro k_4 hk y1_4 ex0_4 ls hl
      obtain rfl : v_doors = k_4 := by omega
      subst ex0_4
      refine lv_iload_n hx hb dX10_allSpoons_4 rfl (lv_at hl 0 rfl) ?_
      refine lv_aload_n hx hb dX10_allSpoons_5 rfl (lv_at hl 2 rfl) ?_
      refine va_get (D := (dC, dI)) (ci := 10) (v := .int (nI v_doors)) (C := RX10) (T := TX10) (N := 35) hx hb ht iX10 hown hK.1 hP 0 rfl rfl 19 (by decide) (ht _ w_4_222) (fun _ h9 => h9) rfl dX10_allSpoons_6 ?_
      refine lv_icmp_ge (tgt := 29) hx hb dX10_allSpoons_9 (by decide) (fun c_2 => ?_) (fun c_2 => ?_)
      · skip
        refine lv_iload_n hx hb dX10_allSpoons_29 rfl (lv_at hl 1 rfl) ?_
        exact W.iret (v := (iter (mX10_allSpoons_l4 v_now) v_doors (nI 0))) hx hb hr (fun t ht9 _ => ⟨_, rfl, hm, ht9⟩) (fun q hq => absurd hq List.not_mem_nil) dX10_allSpoons_30
      · exact absurd (nI_le (by omega) (by omega)) c_2
    | succ n_4 ih =>
      intro k_4 hk y1_4 ex0_4 ls hl
      have hm : (mX10_allSpoons_l4 v_now) k_4 y1_4 = (iter (mX10_allSpoons_l4 v_now) (k_4 + 1) (nI 0)) := by rw [ex0_4]; rfl
      have hm : y1_4 + (v_now (3 + k_4)) = (iter (mX10_allSpoons_l4 v_now) (k_4 + 1) (nI 0)) := hm
      refine lv_iload_n hx hb dX10_allSpoons_4 rfl (lv_at hl 0 rfl) ?_
      refine lv_aload_n hx hb dX10_allSpoons_5 rfl (lv_at hl 2 rfl) ?_
      refine va_get (D := (dC, dI)) (ci := 10) (v := .int (nI v_doors)) (C := RX10) (T := TX10) (N := 35) hx hb ht iX10 hown hK.1 hP 0 rfl rfl 19 (by decide) (ht _ w_4_222) (fun _ h9 => h9) rfl dX10_allSpoons_6 ?_
      refine lv_icmp_ge (tgt := 29) hx hb dX10_allSpoons_9 (by decide) (fun c_1 => ?_) (fun c_1 => ?_)
      · exact absurd c_1 (nI_ge (by omega) (by omega))
      · skip
        refine lv_iload_n hx hb dX10_allSpoons_12 rfl (lv_at hl 1 rfl) ?_
        refine lv_aload_n hx hb dX10_allSpoons_13 rfl (lv_at hl 2 rfl) ?_
        refine va_get (D := (dC, dI)) (ci := 10) (v := .ref a_this_now) (C := RX10) (T := TX10) (N := 35) hx hb ht iX10 hown hK.1 hP 0 rfl rfl 23 (by decide) (ht _ w_4_226) (fun _ h9 => h9) rfl dX10_allSpoons_14 ?_
        refine lv_iconst (v := nI 3) hx hb dX10_allSpoons_17 (by decide) ?_
        refine lv_iload_n hx hb dX10_allSpoons_18 rfl (lv_at hl 0 rfl) ?_
        refine nv_iadd hx hb dX10_allSpoons_19 ?_
        refine nv_iald (e := 3 + k_4) (by omega) (by omega) hx hb hK.1 hP 1 0 rfl rfl dX10_allSpoons_20 ?_
        refine lv_iadd hx hb dX10_allSpoons_21 ?_
        refine lv_istore_n (lv' := [(1, .int (y1_4 + (v_now (3 + k_4)))), (2, .int (nI k_4)), (0, .ref a_this)]) hx hb dX10_allSpoons_22 rfl hl (by decide) rfl (fun ls hl => ?_)
        refine lv_iinc (v := nI (k_4 + 1)) (lv' := [(2, .int (nI (k_4 + 1))), (1, .int (y1_4 + (v_now (3 + k_4)))), (0, .ref a_this)]) hx hb dX10_allSpoons_23 hl (k := 1) rfl (nI_1 _) (by decide) rfl (fun ls hl => ?_)
        refine lv_goto (tgt := 4) hx hb dX10_allSpoons_26 (by decide) ?_
        exact ih (k_4 + 1) (by omega) (y1_4 + (v_now (3 + k_4))) hm ls (lv_sub hl [0, 1, 2] rfl)
  exact L_4 v_doors 0 (Nat.zero_add _) (nI 0) rfl ls (lv_sub hl [0, 1, 2] rfl)
theorem dX10_allCrossed_0 : decode cX10_allCrossed 0 = .ok (.iconst 0, 1) := by decide +kernel
theorem dX10_allCrossed_1 : decode cX10_allCrossed 1 = .ok (.istore_n 1, 1) := by decide +kernel
theorem dX10_allCrossed_2 : decode cX10_allCrossed 2 = .ok (.iconst 0, 1) := by decide +kernel
theorem dX10_allCrossed_3 : decode cX10_allCrossed 3 = .ok (.istore_n 2, 1) := by decide +kernel
theorem dX10_allCrossed_4 : decode cX10_allCrossed 4 = .ok (.iload_n 2, 1) := by decide +kernel
theorem dX10_allCrossed_5 : decode cX10_allCrossed 5 = .ok (.aload_n 0, 1) := by decide +kernel
theorem dX10_allCrossed_6 : decode cX10_allCrossed 6 = .ok (.getfield 64, 3) := by decide +kernel
theorem dX10_allCrossed_9 : decode cX10_allCrossed 9 = .ok (.if_icmp .ge 21, 3) := by decide +kernel
theorem dX10_allCrossed_12 : decode cX10_allCrossed 12 = .ok (.iload_n 1, 1) := by decide +kernel
theorem dX10_allCrossed_13 : decode cX10_allCrossed 13 = .ok (.aload_n 0, 1) := by decide +kernel
theorem dX10_allCrossed_14 : decode cX10_allCrossed 14 = .ok (.getfield 32, 3) := by decide +kernel
theorem dX10_allCrossed_17 : decode cX10_allCrossed 17 = .ok (.bipush 13, 2) := by decide +kernel
theorem dX10_allCrossed_19 : decode cX10_allCrossed 19 = .ok (.iload_n 2, 1) := by decide +kernel
theorem dX10_allCrossed_20 : decode cX10_allCrossed 20 = .ok (.iadd, 1) := by decide +kernel
theorem dX10_allCrossed_21 : decode cX10_allCrossed 21 = .ok (.iaload, 1) := by decide +kernel
theorem dX10_allCrossed_22 : decode cX10_allCrossed 22 = .ok (.iadd, 1) := by decide +kernel
theorem dX10_allCrossed_23 : decode cX10_allCrossed 23 = .ok (.istore_n 1, 1) := by decide +kernel
theorem dX10_allCrossed_24 : decode cX10_allCrossed 24 = .ok (.iinc 2 1, 3) := by decide +kernel
theorem dX10_allCrossed_27 : decode cX10_allCrossed 27 = .ok (.goto (-23), 3) := by decide +kernel
theorem dX10_allCrossed_30 : decode cX10_allCrossed 30 = .ok (.iload_n 1, 1) := by decide +kernel
theorem dX10_allCrossed_31 : decode cX10_allCrossed 31 = .ok (.ireturn, 1) := by decide +kernel
theorem h_X10_allCrossed : yX10_allCrossed.cls ≠ "java/lang/invoke/MethodHandle" ∧ yX10_allCrossed.cls ≠ "java/lang/invoke/VarHandle" ∧ (parseMethodDescriptor yX10_allCrossed.desc).map (fun d => d.parameters.length) = some 0 := by decide +kernel
def mX10_allCrossed_l4 (v_now : Nat → Int32) (k_4 : Nat) (y1_4 : Int32) : Int32 := y1_4 + (v_now (13 + k_4))
def mX10_allCrossed (v_doors : Nat) (v_now : Nat → Int32) : Int32 := (iter (mX10_allCrossed_l4 v_now) v_doors (nI 0))
set_option maxHeartbeats 4000000 in
set_option maxRecDepth 100000 in
theorem kX10_allCrossed (l : Launch) (dC : Nat → ClassId) (dI : Nat → Nat → Nat) (cA cZ : ClassId) (a_this a_this_text a_this_readRain a_this_readDoor a_this_readPerson a_this_rain a_this_door a_this_now a_this_tried a_this_backOf a_this_image a_this_imageSeed a_this_isKept a_this_sight a_this_entry : Nat) (v_letters : Nat) (v_position : Nat) (v_tokenAt : Nat) (v_token : Int32) (v_number : Int32) (v_figures : Nat) (v_faultAt : Int32) (v_faultIs : Int32) (v_readRooms : Int32) (v_readStore : Int32) (v_readRains : Nat) (v_readDoors : Nat) (v_readPersons : Nat) (v_rooms : Int32) (v_rains : Nat) (v_doors : Nat) (v_persons : Nat) (v_backs : Nat) (v_seed : Int32) (v_seen : Nat) (v_entries : Nat) (v_now : Nat → Int32) (hD : v_doors ≤ 10) : Met l yX10_allCrossed (Cond.code yX10_allCrossed cX10_allCrossed 3 (some .int) :: wt) ({ frames := 0, cells := 0, slots := 0, locals := 0 } : Room) (va_Pc [.ref a_this] (PreP (dC, dI) [(cA, .int), (cZ, .boolean)] [(a_this, .inr (10, [.int (nI v_letters), .ref a_this_text, .int (nI v_position), .int (nI v_tokenAt), .int v_token, .int v_number, .int (nI v_figures), .int v_faultAt, .int v_faultIs, .int v_readRooms, .int v_readStore, .int (nI v_readRains), .int (nI v_readDoors), .int (nI v_readPersons), .ref a_this_readRain, .ref a_this_readDoor, .ref a_this_readPerson, .int v_rooms, .int (nI v_rains), .int (nI v_doors), .int (nI v_persons), .ref a_this_rain, .ref a_this_door, .ref a_this_now, .ref a_this_tried, .ref a_this_backOf, .int (nI v_backs), .ref a_this_image, .ref a_this_imageSeed, .ref a_this_isKept, .int v_seed, .int (nI v_seen), .ref a_this_sight, .int (nI v_entries), .ref a_this_entry])), (a_this_now, .inl (cA, 35, .inl v_now))])) (vp_Si (fun r => r = (mX10_allCrossed v_doors v_now))) 0 0 (fun _ => False) := by
  refine Met.ofW (cc := cX10_allCrossed) (maxL := 3) (ret := (some .int)) (by decide) rfl ?_
  intro p e s m args below meth c s₁ B hml hv
  obtain ⟨ha, hP, hK⟩ := hv
  have hx := B.exec
  have hb := B.bytes
  have hr := B.returns
  have ht : ∀ w ∈ wt, w.before args s = true := fun w h => atoms_spec (ws := (Cond.code yX10_allCrossed cX10_allCrossed 3 (some .int) :: wt)) B.pre w (List.mem_cons_of_mem _ h)
  have hown : s.vm.findClass RX10 = some m.cls := findClass_of_methodNamed B.named
  have hlocks := B.notSynchronized
  have hl := lv_entry ([.ref a_this]) (n := 3) (Nat.le_of_ble_eq_true rfl)
  rw [show entryFrame m args 3 = _ from (congrArg (fun a => entryFrame m a 3) ha).trans (lg_entry_eq m [.ref a_this] 3)]
  generalize (lg_sl ([.ref a_this]) ++ List.replicate (3 - (lg_sl ([.ref a_this])).length) Slot.unset).toArray = ls at hl ⊢
  have hl : lv_has ls 3 [(0, .ref a_this)] := hl
  have hm : (iter (mX10_allCrossed_l4 v_now) v_doors (nI 0)) = (mX10_allCrossed v_doors v_now) := rfl
  refine lv_iconst (v := nI 0) hx hb dX10_allCrossed_0 (by decide) ?_
  refine lv_istore_n (lv' := [(1, .int (nI 0)), (0, .ref a_this)]) hx hb dX10_allCrossed_1 rfl hl (by decide) rfl (fun ls hl => ?_)
  refine lv_iconst (v := nI 0) hx hb dX10_allCrossed_2 (by decide) ?_
  refine lv_istore_n (lv' := [(2, .int (nI 0)), (1, .int (nI 0)), (0, .ref a_this)]) hx hb dX10_allCrossed_3 rfl hl (by decide) rfl (fun ls hl => ?_)
  have L_4 : ∀ (n_4 k_4 : Nat), k_4 + n_4 = v_doors → ∀ (y1_4 : Int32), y1_4 = (iter (mX10_allCrossed_l4 v_now) k_4 (nI 0)) → ∀ (ls : Array Slot), lv_has ls 3 [(2, .int (nI k_4)), (1, .int y1_4), (0, .ref a_this)] → W p l e (headSpec (Cond.code yX10_allCrossed cX10_allCrossed 3 (some .int) :: wt) ({ frames := 0, cells := 0, slots := 0, locals := 0 } : Room)).room s m args below meth c s.heap [] 0 0 (MQ below (vp_Si (fun r => r = (mX10_allCrossed v_doors v_now))) args s 0 0 (fun _ => False)) (F0 m 4 ls []) := by
    intro n_4
    induction n_4 with
    | zero =>
      intro k_4 hk y1_4 ex0_4 ls hl
      obtain rfl : v_doors = k_4 := by omega
      subst ex0_4
      refine lv_iload_n hx hb dX10_allCrossed_4 rfl (lv_at hl 0 rfl) ?_
      refine lv_aload_n hx hb dX10_allCrossed_5 rfl (lv_at hl 2 rfl) ?_
      refine va_get (D := (dC, dI)) (ci := 10) (v := .int (nI v_doors)) (C := RX10) (T := TX10) (N := 35) hx hb ht iX10 hown hK.1 hP 0 rfl rfl 19 (by decide) (ht _ w_4_222) (fun _ h9 => h9) rfl dX10_allCrossed_6 ?_
      refine lv_icmp_ge (tgt := 30) hx hb dX10_allCrossed_9 (by decide) (fun c_2 => ?_) (fun c_2 => ?_)
      · skip
        refine lv_iload_n hx hb dX10_allCrossed_30 rfl (lv_at hl 1 rfl) ?_
        exact W.iret (v := (iter (mX10_allCrossed_l4 v_now) v_doors (nI 0))) hx hb hr (fun t ht9 _ => ⟨_, rfl, hm, ht9⟩) (fun q hq => absurd hq List.not_mem_nil) dX10_allCrossed_31
      · exact absurd (nI_le (by omega) (by omega)) c_2
    | succ n_4 ih =>
      intro k_4 hk y1_4 ex0_4 ls hl
      have hm : (mX10_allCrossed_l4 v_now) k_4 y1_4 = (iter (mX10_allCrossed_l4 v_now) (k_4 + 1) (nI 0)) := by rw [ex0_4]; rfl
      have hm : y1_4 + (v_now (13 + k_4)) = (iter (mX10_allCrossed_l4 v_now) (k_4 + 1) (nI 0)) := hm
      refine lv_iload_n hx hb dX10_allCrossed_4 rfl (lv_at hl 0 rfl) ?_
      refine lv_aload_n hx hb dX10_allCrossed_5 rfl (lv_at hl 2 rfl) ?_
      refine va_get (D := (dC, dI)) (ci := 10) (v := .int (nI v_doors)) (C := RX10) (T := TX10) (N := 35) hx hb ht iX10 hown hK.1 hP 0 rfl rfl 19 (by decide) (ht _ w_4_222) (fun _ h9 => h9) rfl dX10_allCrossed_6 ?_
      refine lv_icmp_ge (tgt := 30) hx hb dX10_allCrossed_9 (by decide) (fun c_1 => ?_) (fun c_1 => ?_)
      · exact absurd c_1 (nI_ge (by omega) (by omega))
      · skip
        refine lv_iload_n hx hb dX10_allCrossed_12 rfl (lv_at hl 1 rfl) ?_
        refine lv_aload_n hx hb dX10_allCrossed_13 rfl (lv_at hl 2 rfl) ?_
        refine va_get (D := (dC, dI)) (ci := 10) (v := .ref a_this_now) (C := RX10) (T := TX10) (N := 35) hx hb ht iX10 hown hK.1 hP 0 rfl rfl 23 (by decide) (ht _ w_4_226) (fun _ h9 => h9) rfl dX10_allCrossed_14 ?_
        refine lv_bipush (v := nI 13) hx hb dX10_allCrossed_17 (by decide) ?_
        refine lv_iload_n hx hb dX10_allCrossed_19 rfl (lv_at hl 0 rfl) ?_
        refine nv_iadd hx hb dX10_allCrossed_20 ?_
        refine nv_iald (e := 13 + k_4) (by omega) (by omega) hx hb hK.1 hP 1 0 rfl rfl dX10_allCrossed_21 ?_
        refine lv_iadd hx hb dX10_allCrossed_22 ?_
        refine lv_istore_n (lv' := [(1, .int (y1_4 + (v_now (13 + k_4)))), (2, .int (nI k_4)), (0, .ref a_this)]) hx hb dX10_allCrossed_23 rfl hl (by decide) rfl (fun ls hl => ?_)
        refine lv_iinc (v := nI (k_4 + 1)) (lv' := [(2, .int (nI (k_4 + 1))), (1, .int (y1_4 + (v_now (13 + k_4)))), (0, .ref a_this)]) hx hb dX10_allCrossed_24 hl (k := 1) rfl (nI_1 _) (by decide) rfl (fun ls hl => ?_)
        refine lv_goto (tgt := 4) hx hb dX10_allCrossed_27 (by decide) ?_
        exact ih (k_4 + 1) (by omega) (y1_4 + (v_now (13 + k_4))) hm ls (lv_sub hl [0, 1, 2] rfl)
  exact L_4 v_doors 0 (Nat.zero_add _) (nI 0) rfl ls (lv_sub hl [0, 1, 2] rfl)
theorem dX10_told_0 : decode cX10_told 0 = .ok (.iload_n 1, 1) := by decide +kernel
theorem dX10_told_1 : decode cX10_told 1 = .ok (.tableswitch 147 0 13 #[71, 76, 81, 86, 91, 96, 103, 110, 117, 122, 127, 132, 137, 142], 71) := by decide +kernel
theorem dX10_told_72 : decode cX10_told 72 = .ok (.aload_n 0, 1) := by decide +kernel
theorem dX10_told_73 : decode cX10_told 73 = .ok (.getfield 57, 3) := by decide +kernel
theorem dX10_told_76 : decode cX10_told 76 = .ok (.ireturn, 1) := by decide +kernel
theorem dX10_told_77 : decode cX10_told 77 = .ok (.aload_n 0, 1) := by decide +kernel
theorem dX10_told_78 : decode cX10_told 78 = .ok (.getfield 138, 3) := by decide +kernel
theorem dX10_told_81 : decode cX10_told 81 = .ok (.ireturn, 1) := by decide +kernel
theorem dX10_told_82 : decode cX10_told 82 = .ok (.aload_n 0, 1) := by decide +kernel
theorem dX10_told_83 : decode cX10_told 83 = .ok (.getfield 64, 3) := by decide +kernel
theorem dX10_told_86 : decode cX10_told 86 = .ok (.ireturn, 1) := by decide +kernel
theorem dX10_told_87 : decode cX10_told 87 = .ok (.aload_n 0, 1) := by decide +kernel
theorem dX10_told_88 : decode cX10_told 88 = .ok (.getfield 67, 3) := by decide +kernel
theorem dX10_told_91 : decode cX10_told 91 = .ok (.ireturn, 1) := by decide +kernel
theorem dX10_told_92 : decode cX10_told 92 = .ok (.aload_n 0, 1) := by decide +kernel
theorem dX10_told_93 : decode cX10_told 93 = .ok (.getfield 71, 3) := by decide +kernel
theorem dX10_told_96 : decode cX10_told 96 = .ok (.ireturn, 1) := by decide +kernel
theorem dX10_told_97 : decode cX10_told 97 = .ok (.aload_n 0, 1) := by decide +kernel
theorem dX10_told_98 : decode cX10_told 98 = .ok (.getfield 32, 3) := by decide +kernel
theorem dX10_told_101 : decode cX10_told 101 = .ok (.iconst 1, 1) := by decide +kernel
theorem dX10_told_102 : decode cX10_told 102 = .ok (.iaload, 1) := by decide +kernel
theorem dX10_told_103 : decode cX10_told 103 = .ok (.ireturn, 1) := by decide +kernel
theorem dX10_told_104 : decode cX10_told 104 = .ok (.aload_n 0, 1) := by decide +kernel
theorem dX10_told_105 : decode cX10_told 105 = .ok (.getfield 32, 3) := by decide +kernel
theorem dX10_told_108 : decode cX10_told 108 = .ok (.iconst 0, 1) := by decide +kernel
theorem dX10_told_109 : decode cX10_told 109 = .ok (.iaload, 1) := by decide +kernel
theorem dX10_told_110 : decode cX10_told 110 = .ok (.ireturn, 1) := by decide +kernel
theorem dX10_told_111 : decode cX10_told 111 = .ok (.aload_n 0, 1) := by decide +kernel
theorem dX10_told_112 : decode cX10_told 112 = .ok (.getfield 32, 3) := by decide +kernel
theorem dX10_told_115 : decode cX10_told 115 = .ok (.iconst 2, 1) := by decide +kernel
theorem dX10_told_116 : decode cX10_told 116 = .ok (.iaload, 1) := by decide +kernel
theorem dX10_told_117 : decode cX10_told 117 = .ok (.ireturn, 1) := by decide +kernel
theorem dX10_told_118 : decode cX10_told 118 = .ok (.aload_n 0, 1) := by decide +kernel
theorem dX10_told_119 : decode cX10_told 119 = .ok (.invokevirtual 172, 3) := by decide +kernel
theorem dX10_told_122 : decode cX10_told 122 = .ok (.ireturn, 1) := by decide +kernel
theorem dX10_told_123 : decode cX10_told 123 = .ok (.aload_n 0, 1) := by decide +kernel
theorem dX10_told_124 : decode cX10_told 124 = .ok (.invokevirtual 176, 3) := by decide +kernel
theorem dX10_told_127 : decode cX10_told 127 = .ok (.ireturn, 1) := by decide +kernel
theorem dX10_told_128 : decode cX10_told 128 = .ok (.aload_n 0, 1) := by decide +kernel
theorem dX10_told_129 : decode cX10_told 129 = .ok (.invokevirtual 179, 3) := by decide +kernel
theorem dX10_told_132 : decode cX10_told 132 = .ok (.ireturn, 1) := by decide +kernel
theorem dX10_told_133 : decode cX10_told 133 = .ok (.aload_n 0, 1) := by decide +kernel
theorem dX10_told_134 : decode cX10_told 134 = .ok (.getfield 145, 3) := by decide +kernel
theorem dX10_told_137 : decode cX10_told 137 = .ok (.ireturn, 1) := by decide +kernel
theorem dX10_told_138 : decode cX10_told 138 = .ok (.aload_n 0, 1) := by decide +kernel
theorem dX10_told_139 : decode cX10_told 139 = .ok (.getfield 148, 3) := by decide +kernel
theorem dX10_told_142 : decode cX10_told 142 = .ok (.ireturn, 1) := by decide +kernel
theorem dX10_told_143 : decode cX10_told 143 = .ok (.aload_n 0, 1) := by decide +kernel
theorem dX10_told_144 : decode cX10_told 144 = .ok (.getfield 151, 3) := by decide +kernel
theorem dX10_told_147 : decode cX10_told 147 = .ok (.ireturn, 1) := by decide +kernel
theorem dX10_told_148 : decode cX10_told 148 = .ok (.ldc 70, 2) := by decide +kernel
theorem dX10_told_150 : decode cX10_told 150 = .ok (.ireturn, 1) := by decide +kernel
theorem h_X10_told : yX10_told.cls ≠ "java/lang/invoke/MethodHandle" ∧ yX10_told.cls ≠ "java/lang/invoke/VarHandle" ∧ (parseMethodDescriptor yX10_told.desc).map (fun d => d.parameters.length) = some 1 := by decide +kernel
def mX10_told (v_letters : Nat) (v_rooms : Int32) (v_rains : Nat) (v_doors : Nat) (v_persons : Nat) (v_backs : Nat) (v_seen : Nat) (v_entries : Nat) (v_door : Nat → Int32) (v_now : Nat → Int32) (x1 : Int32) : Int32 := (if x1 = 0 then v_rooms else if x1 = 1 then nI v_rains else if x1 = 2 then nI v_doors else if x1 = 3 then nI v_persons else if x1 = 4 then nI v_letters else if x1 = 5 then v_now 1 else if x1 = 6 then v_now 0 else if x1 = 7 then v_now 2 else if x1 = 8 then (mX10_allCrossed v_doors v_now) else if x1 = 9 then (mX10_shutIn v_doors v_persons v_door v_now) else if x1 = 10 then (mX10_allSpoons v_doors v_now) else if x1 = 11 then nI v_seen else if x1 = 12 then nI v_entries else if x1 = 13 then nI v_backs else (-1000000002 : Int32))
set_option maxHeartbeats 4000000 in
set_option maxRecDepth 100000 in
theorem kX10_told (l : Launch) (dC : Nat → ClassId) (dI : Nat → Nat → Nat) (cA cZ : ClassId) (a_this a_this_text a_this_readRain a_this_readDoor a_this_readPerson a_this_rain a_this_door a_this_now a_this_tried a_this_backOf a_this_image a_this_imageSeed a_this_isKept a_this_sight a_this_entry : Nat) (v_letters : Nat) (v_position : Nat) (v_tokenAt : Nat) (v_token : Int32) (v_number : Int32) (v_figures : Nat) (v_faultAt : Int32) (v_faultIs : Int32) (v_readRooms : Int32) (v_readStore : Int32) (v_readRains : Nat) (v_readDoors : Nat) (v_readPersons : Nat) (v_rooms : Int32) (v_rains : Nat) (v_doors : Nat) (v_persons : Nat) (v_backs : Nat) (v_seed : Int32) (v_seen : Nat) (v_entries : Nat) (v_door : Nat → Int32) (v_now : Nat → Int32) (x1 : Int32) (hD : v_doors ≤ 10) (hPn : v_persons ≤ 6) : Met l yX10_told (Cond.code yX10_told cX10_told 2 (some .int) :: wt) ({ frames := 4, cells := 0, slots := 0, locals := 93 } : Room) (va_Pc [.ref a_this, .int x1] (PreP (dC, dI) [(cA, .int), (cZ, .boolean)] [(a_this, .inr (10, [.int (nI v_letters), .ref a_this_text, .int (nI v_position), .int (nI v_tokenAt), .int v_token, .int v_number, .int (nI v_figures), .int v_faultAt, .int v_faultIs, .int v_readRooms, .int v_readStore, .int (nI v_readRains), .int (nI v_readDoors), .int (nI v_readPersons), .ref a_this_readRain, .ref a_this_readDoor, .ref a_this_readPerson, .int v_rooms, .int (nI v_rains), .int (nI v_doors), .int (nI v_persons), .ref a_this_rain, .ref a_this_door, .ref a_this_now, .ref a_this_tried, .ref a_this_backOf, .int (nI v_backs), .ref a_this_image, .ref a_this_imageSeed, .ref a_this_isKept, .int v_seed, .int (nI v_seen), .ref a_this_sight, .int (nI v_entries), .ref a_this_entry])), (a_this_door, .inl (cA, 40, .inl v_door)), (a_this_now, .inl (cA, 35, .inl v_now))])) (vp_Si (fun r => r = (mX10_told v_letters v_rooms v_rains v_doors v_persons v_backs v_seen v_entries v_door v_now x1))) 0 0 (fun _ => False) := by
  refine Met.ofW (cc := cX10_told) (maxL := 2) (ret := (some .int)) (by decide) rfl ?_
  intro p e s m args below meth c s₁ B hml hv
  obtain ⟨ha, hP, hK⟩ := hv
  have hx := B.exec
  have hb := B.bytes
  have hr := B.returns
  have ht : ∀ w ∈ wt, w.before args s = true := fun w h => atoms_spec (ws := (Cond.code yX10_told cX10_told 2 (some .int) :: wt)) B.pre w (List.mem_cons_of_mem _ h)
  have hown : s.vm.findClass RX10 = some m.cls := findClass_of_methodNamed B.named
  have hlocks := B.notSynchronized
  have hl := lv_entry ([.ref a_this, .int x1]) (n := 2) (Nat.le_of_ble_eq_true rfl)
  rw [show entryFrame m args 2 = _ from (congrArg (fun a => entryFrame m a 2) ha).trans (lg_entry_eq m [.ref a_this, .int x1] 2)]
  generalize (lg_sl ([.ref a_this, .int x1]) ++ List.replicate (2 - (lg_sl ([.ref a_this, .int x1])).length) Slot.unset).toArray = ls at hl ⊢
  have hl : lv_has ls 2 [(0, .ref a_this), (1, .int x1)] := hl
  have hm : (if x1 = 0 then v_rooms else if x1 = 1 then nI v_rains else if x1 = 2 then nI v_doors else if x1 = 3 then nI v_persons else if x1 = 4 then nI v_letters else if x1 = 5 then v_now 1 else if x1 = 6 then v_now 0 else if x1 = 7 then v_now 2 else if x1 = 8 then (mX10_allCrossed v_doors v_now) else if x1 = 9 then (mX10_shutIn v_doors v_persons v_door v_now) else if x1 = 10 then (mX10_allSpoons v_doors v_now) else if x1 = 11 then nI v_seen else if x1 = 12 then nI v_entries else if x1 = 13 then nI v_backs else (-1000000002 : Int32)) = (mX10_told v_letters v_rooms v_rains v_doors v_persons v_backs v_seen v_entries v_door v_now x1) := rfl
  refine lv_iload_n hx hb dX10_told_0 rfl (lv_at hl 1 rfl) ?_
  by_cases c_1 : x1 = 0
  · have hm := (if_pos c_1).symm.trans hm
    refine lv_tableIn (tgt := 72) hx hb dX10_told_1 (by rw [c_1]; decide) (by rw [c_1]; decide) (by rw [c_1]; rfl) (by decide) ?_
    have hl : lv_has ls 2 [(0, .ref a_this), (1, .int (nI 0))] := by rw [show x1 = nI 0 from c_1] at hl; exact hl
    refine lv_aload_n hx hb dX10_told_72 rfl (lv_at hl 0 rfl) ?_
    refine va_get (D := (dC, dI)) (ci := 10) (v := .int v_rooms) (C := RX10) (T := TX10) (N := 35) hx hb ht iX10 hown hK.1 hP 0 rfl rfl 17 (by decide) (ht _ w_4_220) (fun _ h9 => h9) rfl dX10_told_73 ?_
    exact W.iret (v := v_rooms) hx hb hr (fun t ht9 _ => ⟨_, rfl, hm, ht9⟩) (fun q hq => absurd hq List.not_mem_nil) dX10_told_76
  have hm := (if_neg c_1).symm.trans hm
  by_cases c_2 : x1 = 1
  · have hm := (if_pos c_2).symm.trans hm
    refine lv_tableIn (tgt := 77) hx hb dX10_told_1 (by rw [c_2]; decide) (by rw [c_2]; decide) (by rw [c_2]; rfl) (by decide) ?_
    have hl : lv_has ls 2 [(0, .ref a_this), (1, .int (nI 1))] := by rw [show x1 = nI 1 from c_2] at hl; exact hl
    refine lv_aload_n hx hb dX10_told_77 rfl (lv_at hl 0 rfl) ?_
    refine va_get (D := (dC, dI)) (ci := 10) (v := .int (nI v_rains)) (C := RX10) (T := TX10) (N := 35) hx hb ht iX10 hown hK.1 hP 0 rfl rfl 18 (by decide) (ht _ w_4_221) (fun _ h9 => h9) rfl dX10_told_78 ?_
    exact W.iret (v := nI v_rains) hx hb hr (fun t ht9 _ => ⟨_, rfl, hm, ht9⟩) (fun q hq => absurd hq List.not_mem_nil) dX10_told_81
  have hm := (if_neg c_2).symm.trans hm
  by_cases c_3 : x1 = 2
  · have hm := (if_pos c_3).symm.trans hm
    refine lv_tableIn (tgt := 82) hx hb dX10_told_1 (by rw [c_3]; decide) (by rw [c_3]; decide) (by rw [c_3]; rfl) (by decide) ?_
    have hl : lv_has ls 2 [(0, .ref a_this), (1, .int (nI 2))] := by rw [show x1 = nI 2 from c_3] at hl; exact hl
    refine lv_aload_n hx hb dX10_told_82 rfl (lv_at hl 0 rfl) ?_
    refine va_get (D := (dC, dI)) (ci := 10) (v := .int (nI v_doors)) (C := RX10) (T := TX10) (N := 35) hx hb ht iX10 hown hK.1 hP 0 rfl rfl 19 (by decide) (ht _ w_4_222) (fun _ h9 => h9) rfl dX10_told_83 ?_
    exact W.iret (v := nI v_doors) hx hb hr (fun t ht9 _ => ⟨_, rfl, hm, ht9⟩) (fun q hq => absurd hq List.not_mem_nil) dX10_told_86
  have hm := (if_neg c_3).symm.trans hm
  by_cases c_4 : x1 = 3
  · have hm := (if_pos c_4).symm.trans hm
    refine lv_tableIn (tgt := 87) hx hb dX10_told_1 (by rw [c_4]; decide) (by rw [c_4]; decide) (by rw [c_4]; rfl) (by decide) ?_
    have hl : lv_has ls 2 [(0, .ref a_this), (1, .int (nI 3))] := by rw [show x1 = nI 3 from c_4] at hl; exact hl
    refine lv_aload_n hx hb dX10_told_87 rfl (lv_at hl 0 rfl) ?_
    refine va_get (D := (dC, dI)) (ci := 10) (v := .int (nI v_persons)) (C := RX10) (T := TX10) (N := 35) hx hb ht iX10 hown hK.1 hP 0 rfl rfl 20 (by decide) (ht _ w_4_223) (fun _ h9 => h9) rfl dX10_told_88 ?_
    exact W.iret (v := nI v_persons) hx hb hr (fun t ht9 _ => ⟨_, rfl, hm, ht9⟩) (fun q hq => absurd hq List.not_mem_nil) dX10_told_91
  have hm := (if_neg c_4).symm.trans hm
  by_cases c_5 : x1 = 4
  · have hm := (if_pos c_5).symm.trans hm
    refine lv_tableIn (tgt := 92) hx hb dX10_told_1 (by rw [c_5]; decide) (by rw [c_5]; decide) (by rw [c_5]; rfl) (by decide) ?_
    have hl : lv_has ls 2 [(0, .ref a_this), (1, .int (nI 4))] := by rw [show x1 = nI 4 from c_5] at hl; exact hl
    refine lv_aload_n hx hb dX10_told_92 rfl (lv_at hl 0 rfl) ?_
    refine va_get (D := (dC, dI)) (ci := 10) (v := .int (nI v_letters)) (C := RX10) (T := TX10) (N := 35) hx hb ht iX10 hown hK.1 hP 0 rfl rfl 0 (by decide) (ht _ w_4_203) (fun _ h9 => h9) rfl dX10_told_93 ?_
    exact W.iret (v := nI v_letters) hx hb hr (fun t ht9 _ => ⟨_, rfl, hm, ht9⟩) (fun q hq => absurd hq List.not_mem_nil) dX10_told_96
  have hm := (if_neg c_5).symm.trans hm
  by_cases c_6 : x1 = 5
  · have hm := (if_pos c_6).symm.trans hm
    refine lv_tableIn (tgt := 97) hx hb dX10_told_1 (by rw [c_6]; decide) (by rw [c_6]; decide) (by rw [c_6]; rfl) (by decide) ?_
    have hl : lv_has ls 2 [(0, .ref a_this), (1, .int (nI 5))] := by rw [show x1 = nI 5 from c_6] at hl; exact hl
    refine lv_aload_n hx hb dX10_told_97 rfl (lv_at hl 0 rfl) ?_
    refine va_get (D := (dC, dI)) (ci := 10) (v := .ref a_this_now) (C := RX10) (T := TX10) (N := 35) hx hb ht iX10 hown hK.1 hP 0 rfl rfl 23 (by decide) (ht _ w_4_226) (fun _ h9 => h9) rfl dX10_told_98 ?_
    refine lv_iconst (v := nI 1) hx hb dX10_told_101 (by decide) ?_
    refine nv_iald (e := 1) (by omega) (by omega) hx hb hK.1 hP 2 0 rfl rfl dX10_told_102 ?_
    exact W.iret (v := v_now 1) hx hb hr (fun t ht9 _ => ⟨_, rfl, hm, ht9⟩) (fun q hq => absurd hq List.not_mem_nil) dX10_told_103
  have hm := (if_neg c_6).symm.trans hm
  by_cases c_7 : x1 = 6
  · have hm := (if_pos c_7).symm.trans hm
    refine lv_tableIn (tgt := 104) hx hb dX10_told_1 (by rw [c_7]; decide) (by rw [c_7]; decide) (by rw [c_7]; rfl) (by decide) ?_
    have hl : lv_has ls 2 [(0, .ref a_this), (1, .int (nI 6))] := by rw [show x1 = nI 6 from c_7] at hl; exact hl
    refine lv_aload_n hx hb dX10_told_104 rfl (lv_at hl 0 rfl) ?_
    refine va_get (D := (dC, dI)) (ci := 10) (v := .ref a_this_now) (C := RX10) (T := TX10) (N := 35) hx hb ht iX10 hown hK.1 hP 0 rfl rfl 23 (by decide) (ht _ w_4_226) (fun _ h9 => h9) rfl dX10_told_105 ?_
    refine lv_iconst (v := nI 0) hx hb dX10_told_108 (by decide) ?_
    refine nv_iald (e := 0) (by omega) (by omega) hx hb hK.1 hP 2 0 rfl rfl dX10_told_109 ?_
    exact W.iret (v := v_now 0) hx hb hr (fun t ht9 _ => ⟨_, rfl, hm, ht9⟩) (fun q hq => absurd hq List.not_mem_nil) dX10_told_110
  have hm := (if_neg c_7).symm.trans hm
  by_cases c_8 : x1 = 7
  · have hm := (if_pos c_8).symm.trans hm
    refine lv_tableIn (tgt := 111) hx hb dX10_told_1 (by rw [c_8]; decide) (by rw [c_8]; decide) (by rw [c_8]; rfl) (by decide) ?_
    have hl : lv_has ls 2 [(0, .ref a_this), (1, .int (nI 7))] := by rw [show x1 = nI 7 from c_8] at hl; exact hl
    refine lv_aload_n hx hb dX10_told_111 rfl (lv_at hl 0 rfl) ?_
    refine va_get (D := (dC, dI)) (ci := 10) (v := .ref a_this_now) (C := RX10) (T := TX10) (N := 35) hx hb ht iX10 hown hK.1 hP 0 rfl rfl 23 (by decide) (ht _ w_4_226) (fun _ h9 => h9) rfl dX10_told_112 ?_
    refine lv_iconst (v := nI 2) hx hb dX10_told_115 (by decide) ?_
    refine nv_iald (e := 2) (by omega) (by omega) hx hb hK.1 hP 2 0 rfl rfl dX10_told_116 ?_
    exact W.iret (v := v_now 2) hx hb hr (fun t ht9 _ => ⟨_, rfl, hm, ht9⟩) (fun q hq => absurd hq List.not_mem_nil) dX10_told_117
  have hm := (if_neg c_8).symm.trans hm
  by_cases c_9 : x1 = 8
  · have hm := (if_pos c_9).symm.trans hm
    refine lv_tableIn (tgt := 118) hx hb dX10_told_1 (by rw [c_9]; decide) (by rw [c_9]; decide) (by rw [c_9]; rfl) (by decide) ?_
    have hl : lv_has ls 2 [(0, .ref a_this), (1, .int (nI 8))] := by rw [show x1 = nI 8 from c_9] at hl; exact hl
    refine lv_aload_n hx hb dX10_told_118 rfl (lv_at hl 0 rfl) ?_
    refine pv_call (v := (mX10_allCrossed v_doors v_now)) (va_runV (As := []) (rest := []) ⟨hx, hb, hml, hown, ht⟩ (kX10_allCrossed l dC dI cA cZ a_this a_this_text a_this_readRain a_this_readDoor a_this_readPerson a_this_rain a_this_door a_this_now a_this_tried a_this_backOf a_this_image a_this_imageSeed a_this_isKept a_this_sight a_this_entry v_letters v_position v_tokenAt v_token v_number v_figures v_faultAt v_faultIs v_readRooms v_readStore v_readRains v_readDoors v_readPersons v_rooms v_rains v_doors v_persons v_backs v_seed v_seen v_entries v_now (by omega)) (cwV 0 ht (gi_V (C := RX10) w_5_130 w_5_132 w_0_27 w_1_12 (gi_code w_5_133)) rfl rfl rfl ⟨rfl, h_X10_allCrossed⟩ ⟨Nat.le_of_ble_eq_true rfl, Nat.le_of_ble_eq_true rfl⟩) ⟨pp_blind, va_recv hK.1 hP (ci := 10) (q0 := 0) rfl rfl, pp_use (pc_sub (wc := [(a_this, .inr (10, [.int (nI v_letters), .ref a_this_text, .int (nI v_position), .int (nI v_tokenAt), .int v_token, .int v_number, .int (nI v_figures), .int v_faultAt, .int v_faultIs, .int v_readRooms, .int v_readStore, .int (nI v_readRains), .int (nI v_readDoors), .int (nI v_readPersons), .ref a_this_readRain, .ref a_this_readDoor, .ref a_this_readPerson, .int v_rooms, .int (nI v_rains), .int (nI v_doors), .int (nI v_persons), .ref a_this_rain, .ref a_this_door, .ref a_this_now, .ref a_this_tried, .ref a_this_backOf, .int (nI v_backs), .ref a_this_image, .ref a_this_imageSeed, .ref a_this_isKept, .int v_seed, .int (nI v_seen), .ref a_this_sight, .int (nI v_entries), .ref a_this_entry])), (a_this_now, .inl (cA, 35, .inl v_now))]) hP [0, 2] rfl) hK⟩ rfl rfl hl.1 rfl (lv_room (Nat.le_of_ble_eq_true rfl)) dX10_told_119 ⟨Nat.zero_le _, Nat.zero_le _⟩) ?_
    exact W.iret (v := (mX10_allCrossed v_doors v_now)) hx hb hr (fun t ht9 _ => ⟨_, rfl, hm, ht9⟩) (fun q hq => absurd hq List.not_mem_nil) dX10_told_122
  have hm := (if_neg c_9).symm.trans hm
  by_cases c_10 : x1 = 9
  · have hm := (if_pos c_10).symm.trans hm
    refine lv_tableIn (tgt := 123) hx hb dX10_told_1 (by rw [c_10]; decide) (by rw [c_10]; decide) (by rw [c_10]; rfl) (by decide) ?_
    have hl : lv_has ls 2 [(0, .ref a_this), (1, .int (nI 9))] := by rw [show x1 = nI 9 from c_10] at hl; exact hl
    refine lv_aload_n hx hb dX10_told_123 rfl (lv_at hl 0 rfl) ?_
    refine pv_call (v := (mX10_shutIn v_doors v_persons v_door v_now)) (va_runV (As := []) (rest := []) ⟨hx, hb, hml, hown, ht⟩ (kX10_shutIn l dC dI cA cZ a_this a_this_text a_this_readRain a_this_readDoor a_this_readPerson a_this_rain a_this_door a_this_now a_this_tried a_this_backOf a_this_image a_this_imageSeed a_this_isKept a_this_sight a_this_entry v_letters v_position v_tokenAt v_token v_number v_figures v_faultAt v_faultIs v_readRooms v_readStore v_readRains v_readDoors v_readPersons v_rooms v_rains v_doors v_persons v_backs v_seed v_seen v_entries v_door v_now (by omega) (by omega)) (cwV 0 ht (gi_V (C := RX10) w_5_134 w_5_136 w_0_28 w_1_12 (gi_code w_5_137)) rfl rfl rfl ⟨rfl, h_X10_shutIn⟩ ⟨Nat.le_of_ble_eq_true rfl, Nat.le_of_ble_eq_true rfl⟩) ⟨pp_blind, va_recv hK.1 hP (ci := 10) (q0 := 0) rfl rfl, pp_use hP hK⟩ rfl rfl hl.1 rfl (lv_room (Nat.le_of_ble_eq_true rfl)) dX10_told_124 ⟨Nat.zero_le _, Nat.zero_le _⟩) ?_
    exact W.iret (v := (mX10_shutIn v_doors v_persons v_door v_now)) hx hb hr (fun t ht9 _ => ⟨_, rfl, hm, ht9⟩) (fun q hq => absurd hq List.not_mem_nil) dX10_told_127
  have hm := (if_neg c_10).symm.trans hm
  by_cases c_11 : x1 = 10
  · have hm := (if_pos c_11).symm.trans hm
    refine lv_tableIn (tgt := 128) hx hb dX10_told_1 (by rw [c_11]; decide) (by rw [c_11]; decide) (by rw [c_11]; rfl) (by decide) ?_
    have hl : lv_has ls 2 [(0, .ref a_this), (1, .int (nI 10))] := by rw [show x1 = nI 10 from c_11] at hl; exact hl
    refine lv_aload_n hx hb dX10_told_128 rfl (lv_at hl 0 rfl) ?_
    refine pv_call (v := (mX10_allSpoons v_doors v_now)) (va_runV (As := []) (rest := []) ⟨hx, hb, hml, hown, ht⟩ (kX10_allSpoons l dC dI cA cZ a_this a_this_text a_this_readRain a_this_readDoor a_this_readPerson a_this_rain a_this_door a_this_now a_this_tried a_this_backOf a_this_image a_this_imageSeed a_this_isKept a_this_sight a_this_entry v_letters v_position v_tokenAt v_token v_number v_figures v_faultAt v_faultIs v_readRooms v_readStore v_readRains v_readDoors v_readPersons v_rooms v_rains v_doors v_persons v_backs v_seed v_seen v_entries v_now (by omega)) (cwV 0 ht (gi_V (C := RX10) w_5_155 w_5_157 w_0_31 w_1_12 (gi_code w_5_158)) rfl rfl rfl ⟨rfl, h_X10_allSpoons⟩ ⟨Nat.le_of_ble_eq_true rfl, Nat.le_of_ble_eq_true rfl⟩) ⟨pp_blind, va_recv hK.1 hP (ci := 10) (q0 := 0) rfl rfl, pp_use (pc_sub (wc := [(a_this, .inr (10, [.int (nI v_letters), .ref a_this_text, .int (nI v_position), .int (nI v_tokenAt), .int v_token, .int v_number, .int (nI v_figures), .int v_faultAt, .int v_faultIs, .int v_readRooms, .int v_readStore, .int (nI v_readRains), .int (nI v_readDoors), .int (nI v_readPersons), .ref a_this_readRain, .ref a_this_readDoor, .ref a_this_readPerson, .int v_rooms, .int (nI v_rains), .int (nI v_doors), .int (nI v_persons), .ref a_this_rain, .ref a_this_door, .ref a_this_now, .ref a_this_tried, .ref a_this_backOf, .int (nI v_backs), .ref a_this_image, .ref a_this_imageSeed, .ref a_this_isKept, .int v_seed, .int (nI v_seen), .ref a_this_sight, .int (nI v_entries), .ref a_this_entry])), (a_this_now, .inl (cA, 35, .inl v_now))]) hP [0, 2] rfl) hK⟩ rfl rfl hl.1 rfl (lv_room (Nat.le_of_ble_eq_true rfl)) dX10_told_129 ⟨Nat.zero_le _, Nat.zero_le _⟩) ?_
    exact W.iret (v := (mX10_allSpoons v_doors v_now)) hx hb hr (fun t ht9 _ => ⟨_, rfl, hm, ht9⟩) (fun q hq => absurd hq List.not_mem_nil) dX10_told_132
  have hm := (if_neg c_11).symm.trans hm
  by_cases c_12 : x1 = 11
  · have hm := (if_pos c_12).symm.trans hm
    refine lv_tableIn (tgt := 133) hx hb dX10_told_1 (by rw [c_12]; decide) (by rw [c_12]; decide) (by rw [c_12]; rfl) (by decide) ?_
    have hl : lv_has ls 2 [(0, .ref a_this), (1, .int (nI 11))] := by rw [show x1 = nI 11 from c_12] at hl; exact hl
    refine lv_aload_n hx hb dX10_told_133 rfl (lv_at hl 0 rfl) ?_
    refine va_get (D := (dC, dI)) (ci := 10) (v := .int (nI v_seen)) (C := RX10) (T := TX10) (N := 35) hx hb ht iX10 hown hK.1 hP 0 rfl rfl 31 (by decide) (ht _ w_4_234) (fun _ h9 => h9) rfl dX10_told_134 ?_
    exact W.iret (v := nI v_seen) hx hb hr (fun t ht9 _ => ⟨_, rfl, hm, ht9⟩) (fun q hq => absurd hq List.not_mem_nil) dX10_told_137
  have hm := (if_neg c_12).symm.trans hm
  by_cases c_13 : x1 = 12
  · have hm := (if_pos c_13).symm.trans hm
    refine lv_tableIn (tgt := 138) hx hb dX10_told_1 (by rw [c_13]; decide) (by rw [c_13]; decide) (by rw [c_13]; rfl) (by decide) ?_
    have hl : lv_has ls 2 [(0, .ref a_this), (1, .int (nI 12))] := by rw [show x1 = nI 12 from c_13] at hl; exact hl
    refine lv_aload_n hx hb dX10_told_138 rfl (lv_at hl 0 rfl) ?_
    refine va_get (D := (dC, dI)) (ci := 10) (v := .int (nI v_entries)) (C := RX10) (T := TX10) (N := 35) hx hb ht iX10 hown hK.1 hP 0 rfl rfl 33 (by decide) (ht _ w_4_236) (fun _ h9 => h9) rfl dX10_told_139 ?_
    exact W.iret (v := nI v_entries) hx hb hr (fun t ht9 _ => ⟨_, rfl, hm, ht9⟩) (fun q hq => absurd hq List.not_mem_nil) dX10_told_142
  have hm := (if_neg c_13).symm.trans hm
  by_cases c_14 : x1 = 13
  · have hm := (if_pos c_14).symm.trans hm
    refine lv_tableIn (tgt := 143) hx hb dX10_told_1 (by rw [c_14]; decide) (by rw [c_14]; decide) (by rw [c_14]; rfl) (by decide) ?_
    have hl : lv_has ls 2 [(0, .ref a_this), (1, .int (nI 13))] := by rw [show x1 = nI 13 from c_14] at hl; exact hl
    refine lv_aload_n hx hb dX10_told_143 rfl (lv_at hl 0 rfl) ?_
    refine va_get (D := (dC, dI)) (ci := 10) (v := .int (nI v_backs)) (C := RX10) (T := TX10) (N := 35) hx hb ht iX10 hown hK.1 hP 0 rfl rfl 26 (by decide) (ht _ w_4_229) (fun _ h9 => h9) rfl dX10_told_144 ?_
    exact W.iret (v := nI v_backs) hx hb hr (fun t ht9 _ => ⟨_, rfl, hm, ht9⟩) (fun q hq => absurd hq List.not_mem_nil) dX10_told_147
  have hm := (if_neg c_14).symm.trans hm
  refine lv_tableOut (tgt := 148) hx hb dX10_told_1 (sw_out 14 (fun k hk => by match k, hk with | 0, _ => exact c_1 | 1, _ => exact c_2 | 2, _ => exact c_3 | 3, _ => exact c_4 | 4, _ => exact c_5 | 5, _ => exact c_6 | 6, _ => exact c_7 | 7, _ => exact c_8 | 8, _ => exact c_9 | 9, _ => exact c_10 | 10, _ => exact c_11 | 11, _ => exact c_12 | 12, _ => exact c_13 | 13, _ => exact c_14)) (by decide) ?_
  refine lv_ldc (v := (-1000000002 : Int32)) hx hb hown (ht _ w_5_77) dX10_told_148 ?_
  exact W.iret (v := (-1000000002 : Int32)) hx hb hr (fun t ht9 _ => ⟨_, rfl, hm, ht9⟩) (fun q hq => absurd hq List.not_mem_nil) dX10_told_150
theorem dX10_door_0 : decode cX10_door 0 = .ok (.aload_n 0, 1) := by decide +kernel
theorem dX10_door_1 : decode cX10_door 1 = .ok (.iload_n 1, 1) := by decide +kernel
theorem dX10_door_2 : decode cX10_door 2 = .ok (.invokevirtual 182, 3) := by decide +kernel
theorem dX10_door_5 : decode cX10_door 5 = .ok (.ifCond .ne 6, 3) := by decide +kernel
theorem dX10_door_8 : decode cX10_door 8 = .ok (.ldc 185, 2) := by decide +kernel
theorem dX10_door_10 : decode cX10_door 10 = .ok (.ireturn, 1) := by decide +kernel
theorem dX10_door_11 : decode cX10_door 11 = .ok (.iconst 0, 1) := by decide +kernel
theorem dX10_door_12 : decode cX10_door 12 = .ok (.istore_n 3, 1) := by decide +kernel
theorem dX10_door_13 : decode cX10_door 13 = .ok (.iload_n 2, 1) := by decide +kernel
theorem dX10_door_14 : decode cX10_door 14 = .ok (.tableswitch 112 0 5 #[38, 38, 49, 38, 58, 68], 38) := by decide +kernel
theorem dX10_door_52 : decode cX10_door 52 = .ok (.aload_n 0, 1) := by decide +kernel
theorem dX10_door_53 : decode cX10_door 53 = .ok (.getfield 29, 3) := by decide +kernel
theorem dX10_door_56 : decode cX10_door 56 = .ok (.iconst 4, 1) := by decide +kernel
theorem dX10_door_57 : decode cX10_door 57 = .ok (.iload_n 1, 1) := by decide +kernel
theorem dX10_door_58 : decode cX10_door 58 = .ok (.imul, 1) := by decide +kernel
theorem dX10_door_59 : decode cX10_door 59 = .ok (.iload_n 2, 1) := by decide +kernel
theorem dX10_door_60 : decode cX10_door 60 = .ok (.iadd, 1) := by decide +kernel
theorem dX10_door_61 : decode cX10_door 61 = .ok (.iaload, 1) := by decide +kernel
theorem dX10_door_62 : decode cX10_door 62 = .ok (.ireturn, 1) := by decide +kernel
theorem dX10_door_63 : decode cX10_door 63 = .ok (.aload_n 0, 1) := by decide +kernel
theorem dX10_door_64 : decode cX10_door 64 = .ok (.getfield 32, 3) := by decide +kernel
theorem dX10_door_67 : decode cX10_door 67 = .ok (.iconst 3, 1) := by decide +kernel
theorem dX10_door_68 : decode cX10_door 68 = .ok (.iload_n 1, 1) := by decide +kernel
theorem dX10_door_69 : decode cX10_door 69 = .ok (.iadd, 1) := by decide +kernel
theorem dX10_door_70 : decode cX10_door 70 = .ok (.iaload, 1) := by decide +kernel
theorem dX10_door_71 : decode cX10_door 71 = .ok (.ireturn, 1) := by decide +kernel
theorem dX10_door_72 : decode cX10_door 72 = .ok (.aload_n 0, 1) := by decide +kernel
theorem dX10_door_73 : decode cX10_door 73 = .ok (.getfield 32, 3) := by decide +kernel
theorem dX10_door_76 : decode cX10_door 76 = .ok (.bipush 13, 2) := by decide +kernel
theorem dX10_door_78 : decode cX10_door 78 = .ok (.iload_n 1, 1) := by decide +kernel
theorem dX10_door_79 : decode cX10_door 79 = .ok (.iadd, 1) := by decide +kernel
theorem dX10_door_80 : decode cX10_door 80 = .ok (.iaload, 1) := by decide +kernel
theorem dX10_door_81 : decode cX10_door 81 = .ok (.ireturn, 1) := by decide +kernel
theorem dX10_door_82 : decode cX10_door 82 = .ok (.iconst 0, 1) := by decide +kernel
theorem dX10_door_83 : decode cX10_door 83 = .ok (.istore 4, 2) := by decide +kernel
theorem dX10_door_85 : decode cX10_door 85 = .ok (.iload 4, 2) := by decide +kernel
theorem dX10_door_87 : decode cX10_door 87 = .ok (.aload_n 0, 1) := by decide +kernel
theorem dX10_door_88 : decode cX10_door 88 = .ok (.getfield 67, 3) := by decide +kernel
theorem dX10_door_91 : decode cX10_door 91 = .ok (.if_icmp .ge 33, 3) := by decide +kernel
theorem dX10_door_94 : decode cX10_door 94 = .ok (.iload_n 3, 1) := by decide +kernel
theorem dX10_door_95 : decode cX10_door 95 = .ok (.aload_n 0, 1) := by decide +kernel
theorem dX10_door_96 : decode cX10_door 96 = .ok (.getfield 32, 3) := by decide +kernel
theorem dX10_door_99 : decode cX10_door 99 = .ok (.iload 4, 2) := by decide +kernel
theorem dX10_door_101 : decode cX10_door 101 = .ok (.iload_n 1, 1) := by decide +kernel
theorem dX10_door_102 : decode cX10_door 102 = .ok (.invokestatic 186, 3) := by decide +kernel
theorem dX10_door_105 : decode cX10_door 105 = .ok (.ifCond .eq 10, 3) := by decide +kernel
theorem dX10_door_108 : decode cX10_door 108 = .ok (.iconst 1, 1) := by decide +kernel
theorem dX10_door_109 : decode cX10_door 109 = .ok (.iload 4, 2) := by decide +kernel
theorem dX10_door_111 : decode cX10_door 111 = .ok (.ishl, 1) := by decide +kernel
theorem dX10_door_112 : decode cX10_door 112 = .ok (.goto 4, 3) := by decide +kernel
theorem dX10_door_115 : decode cX10_door 115 = .ok (.iconst 0, 1) := by decide +kernel
theorem dX10_door_116 : decode cX10_door 116 = .ok (.ior, 1) := by decide +kernel
theorem dX10_door_117 : decode cX10_door 117 = .ok (.istore_n 3, 1) := by decide +kernel
theorem dX10_door_118 : decode cX10_door 118 = .ok (.iinc 4 1, 3) := by decide +kernel
theorem dX10_door_121 : decode cX10_door 121 = .ok (.goto (-36), 3) := by decide +kernel
theorem dX10_door_124 : decode cX10_door 124 = .ok (.iload_n 3, 1) := by decide +kernel
theorem dX10_door_125 : decode cX10_door 125 = .ok (.ireturn, 1) := by decide +kernel
theorem dX10_door_126 : decode cX10_door 126 = .ok (.ldc 70, 2) := by decide +kernel
theorem dX10_door_128 : decode cX10_door 128 = .ok (.ireturn, 1) := by decide +kernel
theorem h_X10_door : yX10_door.cls ≠ "java/lang/invoke/MethodHandle" ∧ yX10_door.cls ≠ "java/lang/invoke/VarHandle" ∧ (parseMethodDescriptor yX10_door.desc).map (fun d => d.parameters.length) = some 2 := by decide +kernel
def mX10_door_l85 (v_now : Nat → Int32) (x1 : Int32) (k_85 : Nat) (y3_85 : Int32) : Int32 := (if ((mX10_stopsIn v_now k_85 x1.toNatClampNeg)) = 0 then y3_85 ||| (nI 0) else y3_85 ||| ((nI 1) <<< ((nI k_85) &&& 31)))
def mX10_door (v_doors : Nat) (v_persons : Nat) (v_door : Nat → Int32) (v_now : Nat → Int32) (x1 : Int32) (x2 : Int32) : Int32 := (if ((mX10_isDoor v_doors x1)) = 0 then (-1000000001 : Int32) else (if x2 = 0 then v_door (4 * x1.toNatClampNeg + 0) else if x2 = 1 then v_door (4 * x1.toNatClampNeg + 1) else if x2 = 2 then v_now (3 + x1.toNatClampNeg) else if x2 = 3 then v_door (4 * x1.toNatClampNeg + 3) else if x2 = 4 then v_now (13 + x1.toNatClampNeg) else if x2 = 5 then (iter (mX10_door_l85 v_now x1) v_persons (nI 0)) else (-1000000002 : Int32)))
set_option maxHeartbeats 4000000 in
set_option maxRecDepth 100000 in
theorem kX10_door (l : Launch) (dC : Nat → ClassId) (dI : Nat → Nat → Nat) (cA cZ : ClassId) (a_this a_this_text a_this_readRain a_this_readDoor a_this_readPerson a_this_rain a_this_door a_this_now a_this_tried a_this_backOf a_this_image a_this_imageSeed a_this_isKept a_this_sight a_this_entry : Nat) (v_letters : Nat) (v_position : Nat) (v_tokenAt : Nat) (v_token : Int32) (v_number : Int32) (v_figures : Nat) (v_faultAt : Int32) (v_faultIs : Int32) (v_readRooms : Int32) (v_readStore : Int32) (v_readRains : Nat) (v_readDoors : Nat) (v_readPersons : Nat) (v_rooms : Int32) (v_rains : Nat) (v_doors : Nat) (v_persons : Nat) (v_backs : Nat) (v_seed : Int32) (v_seen : Nat) (v_entries : Nat) (v_door : Nat → Int32) (v_now : Nat → Int32) (x1 : Int32) (x2 : Int32) (hD : v_doors ≤ 10) (hPn : v_persons ≤ 6) : Met l yX10_door (Cond.code yX10_door cX10_door 5 (some .int) :: wt) ({ frames := 2, cells := 0, slots := 0, locals := 43 } : Room) (va_Pc [.ref a_this, .int x1, .int x2] (PreP (dC, dI) [(cA, .int), (cZ, .boolean)] [(a_this, .inr (10, [.int (nI v_letters), .ref a_this_text, .int (nI v_position), .int (nI v_tokenAt), .int v_token, .int v_number, .int (nI v_figures), .int v_faultAt, .int v_faultIs, .int v_readRooms, .int v_readStore, .int (nI v_readRains), .int (nI v_readDoors), .int (nI v_readPersons), .ref a_this_readRain, .ref a_this_readDoor, .ref a_this_readPerson, .int v_rooms, .int (nI v_rains), .int (nI v_doors), .int (nI v_persons), .ref a_this_rain, .ref a_this_door, .ref a_this_now, .ref a_this_tried, .ref a_this_backOf, .int (nI v_backs), .ref a_this_image, .ref a_this_imageSeed, .ref a_this_isKept, .int v_seed, .int (nI v_seen), .ref a_this_sight, .int (nI v_entries), .ref a_this_entry])), (a_this_door, .inl (cA, 40, .inl v_door)), (a_this_now, .inl (cA, 35, .inl v_now))])) (vp_Si (fun r => r = (mX10_door v_doors v_persons v_door v_now x1 x2))) 0 0 (fun _ => False) := by
  refine Met.ofW (cc := cX10_door) (maxL := 5) (ret := (some .int)) (by decide) rfl ?_
  intro p e s m args below meth c s₁ B hml hv
  obtain ⟨ha, hP, hK⟩ := hv
  have hx := B.exec
  have hb := B.bytes
  have hr := B.returns
  have ht : ∀ w ∈ wt, w.before args s = true := fun w h => atoms_spec (ws := (Cond.code yX10_door cX10_door 5 (some .int) :: wt)) B.pre w (List.mem_cons_of_mem _ h)
  have hown : s.vm.findClass RX10 = some m.cls := findClass_of_methodNamed B.named
  have hlocks := B.notSynchronized
  have hl := lv_entry ([.ref a_this, .int x1, .int x2]) (n := 5) (Nat.le_of_ble_eq_true rfl)
  rw [show entryFrame m args 5 = _ from (congrArg (fun a => entryFrame m a 5) ha).trans (lg_entry_eq m [.ref a_this, .int x1, .int x2] 5)]
  generalize (lg_sl ([.ref a_this, .int x1, .int x2]) ++ List.replicate (5 - (lg_sl ([.ref a_this, .int x1, .int x2])).length) Slot.unset).toArray = ls at hl ⊢
  have hl : lv_has ls 5 [(0, .ref a_this), (1, .int x1), (2, .int x2)] := hl
  have hm : (if ((mX10_isDoor v_doors x1)) = 0 then (-1000000001 : Int32) else (if x2 = 0 then v_door (4 * x1.toNatClampNeg + 0) else if x2 = 1 then v_door (4 * x1.toNatClampNeg + 1) else if x2 = 2 then v_now (3 + x1.toNatClampNeg) else if x2 = 3 then v_door (4 * x1.toNatClampNeg + 3) else if x2 = 4 then v_now (13 + x1.toNatClampNeg) else if x2 = 5 then (iter (mX10_door_l85 v_now x1) v_persons (nI 0)) else (-1000000002 : Int32))) = (mX10_door v_doors v_persons v_door v_now x1 x2) := rfl
  refine lv_aload_n hx hb dX10_door_0 rfl (lv_at hl 0 rfl) ?_
  refine lv_iload_n hx hb dX10_door_1 rfl (lv_at hl 1 rfl) ?_
  refine pv_call (v := (mX10_isDoor v_doors x1)) (va_runV (As := [.int x1]) (rest := []) ⟨hx, hb, hml, hown, ht⟩ (kX10_isDoor l dC dI cA cZ a_this a_this_text a_this_readRain a_this_readDoor a_this_readPerson a_this_rain a_this_door a_this_now a_this_tried a_this_backOf a_this_image a_this_imageSeed a_this_isKept a_this_sight a_this_entry v_letters v_position v_tokenAt v_token v_number v_figures v_faultAt v_faultIs v_readRooms v_readStore v_readRains v_readDoors v_readPersons v_rooms v_rains v_doors v_persons v_backs v_seed v_seen v_entries x1) (cwV 1 ht (gi_V (C := RX10) w_5_163 w_5_165 w_0_32 w_1_12 (gi_code w_5_166)) rfl rfl rfl ⟨rfl, h_X10_isDoor⟩ ⟨Nat.le_of_ble_eq_true rfl, Nat.le_of_ble_eq_true rfl⟩) ⟨pp_blind, va_recv hK.1 hP (ci := 10) (q0 := 0) rfl rfl, pp_use (pc_sub (wc := [(a_this, .inr (10, [.int (nI v_letters), .ref a_this_text, .int (nI v_position), .int (nI v_tokenAt), .int v_token, .int v_number, .int (nI v_figures), .int v_faultAt, .int v_faultIs, .int v_readRooms, .int v_readStore, .int (nI v_readRains), .int (nI v_readDoors), .int (nI v_readPersons), .ref a_this_readRain, .ref a_this_readDoor, .ref a_this_readPerson, .int v_rooms, .int (nI v_rains), .int (nI v_doors), .int (nI v_persons), .ref a_this_rain, .ref a_this_door, .ref a_this_now, .ref a_this_tried, .ref a_this_backOf, .int (nI v_backs), .ref a_this_image, .ref a_this_imageSeed, .ref a_this_isKept, .int v_seed, .int (nI v_seen), .ref a_this_sight, .int (nI v_entries), .ref a_this_entry]))]) hP [0] rfl) hK⟩ rfl rfl hl.1 rfl (lv_room (Nat.le_of_ble_eq_true rfl)) dX10_door_2 ⟨Nat.zero_le _, Nat.zero_le _⟩) ?_
  refine lv_if_ne (tgt := 11) hx hb dX10_door_5 (by decide) (fun c_1 => ?_) (fun c_1 => ?_)
  · have hm := (if_neg c_1).symm.trans hm
    obtain ⟨hj1, hx1⟩ := isDoor_spec (by omega) c_1
    have hl : lv_has ls 5 [(0, .ref a_this), (1, .int (nI x1.toNatClampNeg)), (2, .int x2)] := by rw [← hx1]; exact hl
    refine lv_iconst (v := nI 0) hx hb dX10_door_11 (by decide) ?_
    refine lv_istore_n (lv' := [(3, .int (nI 0)), (0, .ref a_this), (1, .int (nI x1.toNatClampNeg)), (2, .int x2)]) hx hb dX10_door_12 rfl hl (by decide) rfl (fun ls hl => ?_)
    refine lv_iload_n hx hb dX10_door_13 rfl (lv_at hl 3 rfl) ?_
    by_cases c_2 : x2 = 0
    · have hm := (if_pos c_2).symm.trans hm
      refine lv_tableIn (tgt := 52) hx hb dX10_door_14 (by rw [c_2]; decide) (by rw [c_2]; decide) (by rw [c_2]; rfl) (by decide) ?_
      have hl : lv_has ls 5 [(3, .int (nI 0)), (0, .ref a_this), (1, .int (nI x1.toNatClampNeg)), (2, .int (nI 0))] := by rw [show x2 = nI 0 from c_2] at hl; exact hl
      refine lv_aload_n hx hb dX10_door_52 rfl (lv_at hl 1 rfl) ?_
      refine va_get (D := (dC, dI)) (ci := 10) (v := .ref a_this_door) (C := RX10) (T := TX10) (N := 35) hx hb ht iX10 hown hK.1 hP 0 rfl rfl 22 (by decide) (ht _ w_4_225) (fun _ h9 => h9) rfl dX10_door_53 ?_
      refine lv_iconst (v := nI 4) hx hb dX10_door_56 (by decide) ?_
      refine lv_iload_n hx hb dX10_door_57 rfl (lv_at hl 2 rfl) ?_
      refine nv_imul hx hb dX10_door_58 ?_
      refine lv_iload_n hx hb dX10_door_59 rfl (lv_at hl 3 rfl) ?_
      refine nv_iadd hx hb dX10_door_60 ?_
      refine nv_iald (e := 4 * x1.toNatClampNeg + 0) (by omega) (by omega) hx hb hK.1 hP 1 0 rfl rfl dX10_door_61 ?_
      exact W.iret (v := v_door (4 * x1.toNatClampNeg + 0)) hx hb hr (fun t ht9 _ => ⟨_, rfl, hm, ht9⟩) (fun q hq => absurd hq List.not_mem_nil) dX10_door_62
    have hm := (if_neg c_2).symm.trans hm
    by_cases c_3 : x2 = 1
    · have hm := (if_pos c_3).symm.trans hm
      refine lv_tableIn (tgt := 52) hx hb dX10_door_14 (by rw [c_3]; decide) (by rw [c_3]; decide) (by rw [c_3]; rfl) (by decide) ?_
      have hl : lv_has ls 5 [(3, .int (nI 0)), (0, .ref a_this), (1, .int (nI x1.toNatClampNeg)), (2, .int (nI 1))] := by rw [show x2 = nI 1 from c_3] at hl; exact hl
      refine lv_aload_n hx hb dX10_door_52 rfl (lv_at hl 1 rfl) ?_
      refine va_get (D := (dC, dI)) (ci := 10) (v := .ref a_this_door) (C := RX10) (T := TX10) (N := 35) hx hb ht iX10 hown hK.1 hP 0 rfl rfl 22 (by decide) (ht _ w_4_225) (fun _ h9 => h9) rfl dX10_door_53 ?_
      refine lv_iconst (v := nI 4) hx hb dX10_door_56 (by decide) ?_
      refine lv_iload_n hx hb dX10_door_57 rfl (lv_at hl 2 rfl) ?_
      refine nv_imul hx hb dX10_door_58 ?_
      refine lv_iload_n hx hb dX10_door_59 rfl (lv_at hl 3 rfl) ?_
      refine nv_iadd hx hb dX10_door_60 ?_
      refine nv_iald (e := 4 * x1.toNatClampNeg + 1) (by omega) (by omega) hx hb hK.1 hP 1 0 rfl rfl dX10_door_61 ?_
      exact W.iret (v := v_door (4 * x1.toNatClampNeg + 1)) hx hb hr (fun t ht9 _ => ⟨_, rfl, hm, ht9⟩) (fun q hq => absurd hq List.not_mem_nil) dX10_door_62
    have hm := (if_neg c_3).symm.trans hm
    by_cases c_4 : x2 = 2
    · have hm := (if_pos c_4).symm.trans hm
      refine lv_tableIn (tgt := 63) hx hb dX10_door_14 (by rw [c_4]; decide) (by rw [c_4]; decide) (by rw [c_4]; rfl) (by decide) ?_
      have hl : lv_has ls 5 [(3, .int (nI 0)), (0, .ref a_this), (1, .int (nI x1.toNatClampNeg)), (2, .int (nI 2))] := by rw [show x2 = nI 2 from c_4] at hl; exact hl
      refine lv_aload_n hx hb dX10_door_63 rfl (lv_at hl 1 rfl) ?_
      refine va_get (D := (dC, dI)) (ci := 10) (v := .ref a_this_now) (C := RX10) (T := TX10) (N := 35) hx hb ht iX10 hown hK.1 hP 0 rfl rfl 23 (by decide) (ht _ w_4_226) (fun _ h9 => h9) rfl dX10_door_64 ?_
      refine lv_iconst (v := nI 3) hx hb dX10_door_67 (by decide) ?_
      refine lv_iload_n hx hb dX10_door_68 rfl (lv_at hl 2 rfl) ?_
      refine nv_iadd hx hb dX10_door_69 ?_
      refine nv_iald (e := 3 + x1.toNatClampNeg) (by omega) (by omega) hx hb hK.1 hP 2 0 rfl rfl dX10_door_70 ?_
      exact W.iret (v := v_now (3 + x1.toNatClampNeg)) hx hb hr (fun t ht9 _ => ⟨_, rfl, hm, ht9⟩) (fun q hq => absurd hq List.not_mem_nil) dX10_door_71
    have hm := (if_neg c_4).symm.trans hm
    by_cases c_5 : x2 = 3
    · have hm := (if_pos c_5).symm.trans hm
      refine lv_tableIn (tgt := 52) hx hb dX10_door_14 (by rw [c_5]; decide) (by rw [c_5]; decide) (by rw [c_5]; rfl) (by decide) ?_
      have hl : lv_has ls 5 [(3, .int (nI 0)), (0, .ref a_this), (1, .int (nI x1.toNatClampNeg)), (2, .int (nI 3))] := by rw [show x2 = nI 3 from c_5] at hl; exact hl
      refine lv_aload_n hx hb dX10_door_52 rfl (lv_at hl 1 rfl) ?_
      refine va_get (D := (dC, dI)) (ci := 10) (v := .ref a_this_door) (C := RX10) (T := TX10) (N := 35) hx hb ht iX10 hown hK.1 hP 0 rfl rfl 22 (by decide) (ht _ w_4_225) (fun _ h9 => h9) rfl dX10_door_53 ?_
      refine lv_iconst (v := nI 4) hx hb dX10_door_56 (by decide) ?_
      refine lv_iload_n hx hb dX10_door_57 rfl (lv_at hl 2 rfl) ?_
      refine nv_imul hx hb dX10_door_58 ?_
      refine lv_iload_n hx hb dX10_door_59 rfl (lv_at hl 3 rfl) ?_
      refine nv_iadd hx hb dX10_door_60 ?_
      refine nv_iald (e := 4 * x1.toNatClampNeg + 3) (by omega) (by omega) hx hb hK.1 hP 1 0 rfl rfl dX10_door_61 ?_
      exact W.iret (v := v_door (4 * x1.toNatClampNeg + 3)) hx hb hr (fun t ht9 _ => ⟨_, rfl, hm, ht9⟩) (fun q hq => absurd hq List.not_mem_nil) dX10_door_62
    have hm := (if_neg c_5).symm.trans hm
    by_cases c_6 : x2 = 4
    · have hm := (if_pos c_6).symm.trans hm
      refine lv_tableIn (tgt := 72) hx hb dX10_door_14 (by rw [c_6]; decide) (by rw [c_6]; decide) (by rw [c_6]; rfl) (by decide) ?_
      have hl : lv_has ls 5 [(3, .int (nI 0)), (0, .ref a_this), (1, .int (nI x1.toNatClampNeg)), (2, .int (nI 4))] := by rw [show x2 = nI 4 from c_6] at hl; exact hl
      refine lv_aload_n hx hb dX10_door_72 rfl (lv_at hl 1 rfl) ?_
      refine va_get (D := (dC, dI)) (ci := 10) (v := .ref a_this_now) (C := RX10) (T := TX10) (N := 35) hx hb ht iX10 hown hK.1 hP 0 rfl rfl 23 (by decide) (ht _ w_4_226) (fun _ h9 => h9) rfl dX10_door_73 ?_
      refine lv_bipush (v := nI 13) hx hb dX10_door_76 (by decide) ?_
      refine lv_iload_n hx hb dX10_door_78 rfl (lv_at hl 2 rfl) ?_
      refine nv_iadd hx hb dX10_door_79 ?_
      refine nv_iald (e := 13 + x1.toNatClampNeg) (by omega) (by omega) hx hb hK.1 hP 2 0 rfl rfl dX10_door_80 ?_
      exact W.iret (v := v_now (13 + x1.toNatClampNeg)) hx hb hr (fun t ht9 _ => ⟨_, rfl, hm, ht9⟩) (fun q hq => absurd hq List.not_mem_nil) dX10_door_81
    have hm := (if_neg c_6).symm.trans hm
    by_cases c_7 : x2 = 5
    · have hm := (if_pos c_7).symm.trans hm
      refine lv_tableIn (tgt := 82) hx hb dX10_door_14 (by rw [c_7]; decide) (by rw [c_7]; decide) (by rw [c_7]; rfl) (by decide) ?_
      have hl : lv_has ls 5 [(3, .int (nI 0)), (0, .ref a_this), (1, .int (nI x1.toNatClampNeg)), (2, .int (nI 5))] := by rw [show x2 = nI 5 from c_7] at hl; exact hl
      refine lv_iconst (v := nI 0) hx hb dX10_door_82 (by decide) ?_
      refine lv_istore (lv' := [(4, .int (nI 0)), (3, .int (nI 0)), (0, .ref a_this), (1, .int (nI x1.toNatClampNeg)), (2, .int (nI 5))]) hx hb dX10_door_83 hl (by decide) rfl (fun ls hl => ?_)
      have L_85 : ∀ (n_85 k_85 : Nat), k_85 + n_85 = v_persons → ∀ (y3_85 : Int32), y3_85 = (iter (mX10_door_l85 v_now x1) k_85 (nI 0)) → ∀ (ls : Array Slot), lv_has ls 5 [(4, .int (nI k_85)), (3, .int y3_85), (0, .ref a_this), (1, .int (nI x1.toNatClampNeg)), (2, .int (nI 5))] → W p l e (headSpec (Cond.code yX10_door cX10_door 5 (some .int) :: wt) ({ frames := 2, cells := 0, slots := 0, locals := 43 } : Room)).room s m args below meth c s.heap [] 0 0 (MQ below (vp_Si (fun r => r = (mX10_door v_doors v_persons v_door v_now x1 x2))) args s 0 0 (fun _ => False)) (F0 m 85 ls []) := by
        intro n_85
        induction n_85 with
        | zero =>
          intro k_85 hk y3_85 ex0_85 ls hl
          obtain rfl : v_persons = k_85 := by omega
          subst ex0_85
          refine lv_iload hx hb dX10_door_85 (lv_at hl 0 rfl) ?_
          refine lv_aload_n hx hb dX10_door_87 rfl (lv_at hl 2 rfl) ?_
          refine va_get (D := (dC, dI)) (ci := 10) (v := .int (nI v_persons)) (C := RX10) (T := TX10) (N := 35) hx hb ht iX10 hown hK.1 hP 0 rfl rfl 20 (by decide) (ht _ w_4_223) (fun _ h9 => h9) rfl dX10_door_88 ?_
          refine lv_icmp_ge (tgt := 124) hx hb dX10_door_91 (by decide) (fun c_10 => ?_) (fun c_10 => ?_)
          · skip
            refine lv_iload_n hx hb dX10_door_124 rfl (lv_at hl 1 rfl) ?_
            exact W.iret (v := (iter (mX10_door_l85 v_now x1) v_persons (nI 0))) hx hb hr (fun t ht9 _ => ⟨_, rfl, hm, ht9⟩) (fun q hq => absurd hq List.not_mem_nil) dX10_door_125
          · exact absurd (nI_le (by omega) (by omega)) c_10
        | succ n_85 ih =>
          intro k_85 hk y3_85 ex0_85 ls hl
          have hm : (mX10_door_l85 v_now x1) k_85 y3_85 = (iter (mX10_door_l85 v_now x1) (k_85 + 1) (nI 0)) := by rw [ex0_85]; rfl
          have hm : (if ((mX10_stopsIn v_now k_85 x1.toNatClampNeg)) = 0 then y3_85 ||| (nI 0) else y3_85 ||| ((nI 1) <<< ((nI k_85) &&& 31))) = (iter (mX10_door_l85 v_now x1) (k_85 + 1) (nI 0)) := hm
          refine lv_iload hx hb dX10_door_85 (lv_at hl 0 rfl) ?_
          refine lv_aload_n hx hb dX10_door_87 rfl (lv_at hl 2 rfl) ?_
          refine va_get (D := (dC, dI)) (ci := 10) (v := .int (nI v_persons)) (C := RX10) (T := TX10) (N := 35) hx hb ht iX10 hown hK.1 hP 0 rfl rfl 20 (by decide) (ht _ w_4_223) (fun _ h9 => h9) rfl dX10_door_88 ?_
          refine lv_icmp_ge (tgt := 124) hx hb dX10_door_91 (by decide) (fun c_8 => ?_) (fun c_8 => ?_)
          · exact absurd c_8 (nI_ge (by omega) (by omega))
          · skip
            refine lv_iload_n hx hb dX10_door_94 rfl (lv_at hl 1 rfl) ?_
            refine lv_aload_n hx hb dX10_door_95 rfl (lv_at hl 2 rfl) ?_
            refine va_get (D := (dC, dI)) (ci := 10) (v := .ref a_this_now) (C := RX10) (T := TX10) (N := 35) hx hb ht iX10 hown hK.1 hP 0 rfl rfl 23 (by decide) (ht _ w_4_226) (fun _ h9 => h9) rfl dX10_door_96 ?_
            refine lv_iload hx hb dX10_door_99 (lv_at hl 0 rfl) ?_
            refine lv_iload_n hx hb dX10_door_101 rfl (lv_at hl 3 rfl) ?_
            refine pv_call (v := (mX10_stopsIn v_now k_85 x1.toNatClampNeg)) (va_runS (As := [.ref a_this_now, .int (nI k_85), .int (nI x1.toNatClampNeg)]) (rest := [.int y3_85]) ⟨hx, hb, hml, hown, ht⟩ (kX10_stopsIn l dC dI cA cZ a_this_now v_now k_85 x1.toNatClampNeg (by omega) (by omega)) (va_cwS 3 ht (gi_S w_5_168 w_5_169 w_1_12 (gi_code w_5_170)) rfl rfl rfl h_X10_stopsIn ⟨Nat.le_of_ble_eq_true rfl, Nat.le_of_ble_eq_true rfl⟩) ⟨pp_blind, pp_use (pc_sub (wc := [(a_this_now, .inl (cA, 35, .inl v_now))]) hP [2] rfl) hK⟩ rfl rfl hl.1 rfl (lv_room (Nat.le_of_ble_eq_true rfl)) dX10_door_102 ⟨Nat.zero_le _, Nat.zero_le _⟩) ?_
            refine lv_if_eq (tgt := 115) hx hb dX10_door_105 (by decide) (fun c_9 => ?_) (fun c_9 => ?_)
            · have hm := (if_pos c_9).symm.trans hm
              refine lv_iconst (v := nI 0) hx hb dX10_door_115 (by decide) ?_
              refine lv_ior hx hb dX10_door_116 ?_
              refine lv_istore_n (lv' := [(3, .int (y3_85 ||| (nI 0))), (4, .int (nI k_85)), (0, .ref a_this), (1, .int (nI x1.toNatClampNeg)), (2, .int (nI 5))]) hx hb dX10_door_117 rfl hl (by decide) rfl (fun ls hl => ?_)
              refine lv_iinc (v := nI (k_85 + 1)) (lv' := [(4, .int (nI (k_85 + 1))), (3, .int (y3_85 ||| (nI 0))), (0, .ref a_this), (1, .int (nI x1.toNatClampNeg)), (2, .int (nI 5))]) hx hb dX10_door_118 hl (k := 1) rfl (nI_1 _) (by decide) rfl (fun ls hl => ?_)
              refine lv_goto (tgt := 85) hx hb dX10_door_121 (by decide) ?_
              exact ih (k_85 + 1) (by omega) (y3_85 ||| (nI 0)) hm ls (lv_sub hl [0, 1, 2, 3, 4] rfl)
            · have hm := (if_neg c_9).symm.trans hm
              refine lv_iconst (v := nI 1) hx hb dX10_door_108 (by decide) ?_
              refine lv_iload hx hb dX10_door_109 (lv_at hl 0 rfl) ?_
              refine lv_ishl hx hb dX10_door_111 ?_
              refine lv_goto (tgt := 116) hx hb dX10_door_112 (by decide) ?_
              refine lv_ior hx hb dX10_door_116 ?_
              refine lv_istore_n (lv' := [(3, .int (y3_85 ||| ((nI 1) <<< ((nI k_85) &&& 31)))), (4, .int (nI k_85)), (0, .ref a_this), (1, .int (nI x1.toNatClampNeg)), (2, .int (nI 5))]) hx hb dX10_door_117 rfl hl (by decide) rfl (fun ls hl => ?_)
              refine lv_iinc (v := nI (k_85 + 1)) (lv' := [(4, .int (nI (k_85 + 1))), (3, .int (y3_85 ||| ((nI 1) <<< ((nI k_85) &&& 31)))), (0, .ref a_this), (1, .int (nI x1.toNatClampNeg)), (2, .int (nI 5))]) hx hb dX10_door_118 hl (k := 1) rfl (nI_1 _) (by decide) rfl (fun ls hl => ?_)
              refine lv_goto (tgt := 85) hx hb dX10_door_121 (by decide) ?_
              exact ih (k_85 + 1) (by omega) (y3_85 ||| ((nI 1) <<< ((nI k_85) &&& 31))) hm ls (lv_sub hl [0, 1, 2, 3, 4] rfl)
      exact L_85 v_persons 0 (Nat.zero_add _) (nI 0) rfl ls (lv_sub hl [0, 1, 2, 3, 4] rfl)
    have hm := (if_neg c_7).symm.trans hm
    refine lv_tableOut (tgt := 126) hx hb dX10_door_14 (sw_out 6 (fun k hk => by match k, hk with | 0, _ => exact c_2 | 1, _ => exact c_3 | 2, _ => exact c_4 | 3, _ => exact c_5 | 4, _ => exact c_6 | 5, _ => exact c_7)) (by decide) ?_
    refine lv_ldc (v := (-1000000002 : Int32)) hx hb hown (ht _ w_5_77) dX10_door_126 ?_
    exact W.iret (v := (-1000000002 : Int32)) hx hb hr (fun t ht9 _ => ⟨_, rfl, hm, ht9⟩) (fun q hq => absurd hq List.not_mem_nil) dX10_door_128
  · have hm := (if_pos c_1).symm.trans hm
    refine lv_ldc (v := (-1000000001 : Int32)) hx hb hown (ht _ w_5_167) dX10_door_8 ?_
    exact W.iret (v := (-1000000001 : Int32)) hx hb hr (fun t ht9 _ => ⟨_, rfl, hm, ht9⟩) (fun q hq => absurd hq List.not_mem_nil) dX10_door_10
theorem dX10_person_0 : decode cX10_person 0 = .ok (.aload_n 0, 1) := by decide +kernel
theorem dX10_person_1 : decode cX10_person 1 = .ok (.iload_n 1, 1) := by decide +kernel
theorem dX10_person_2 : decode cX10_person 2 = .ok (.invokevirtual 190, 3) := by decide +kernel
theorem dX10_person_5 : decode cX10_person 5 = .ok (.ifCond .ne 6, 3) := by decide +kernel
theorem dX10_person_8 : decode cX10_person 8 = .ok (.ldc 185, 2) := by decide +kernel
theorem dX10_person_10 : decode cX10_person 10 = .ok (.ireturn, 1) := by decide +kernel
theorem dX10_person_11 : decode cX10_person 11 = .ok (.iload_n 2, 1) := by decide +kernel
theorem dX10_person_12 : decode cX10_person 12 = .ok (.tableswitch 67 0 3 #[32, 42, 52, 61], 32) := by decide +kernel
theorem dX10_person_44 : decode cX10_person 44 = .ok (.aload_n 0, 1) := by decide +kernel
theorem dX10_person_45 : decode cX10_person 45 = .ok (.getfield 32, 3) := by decide +kernel
theorem dX10_person_48 : decode cX10_person 48 = .ok (.bipush 23, 2) := by decide +kernel
theorem dX10_person_50 : decode cX10_person 50 = .ok (.iload_n 1, 1) := by decide +kernel
theorem dX10_person_51 : decode cX10_person 51 = .ok (.iadd, 1) := by decide +kernel
theorem dX10_person_52 : decode cX10_person 52 = .ok (.iaload, 1) := by decide +kernel
theorem dX10_person_53 : decode cX10_person 53 = .ok (.ireturn, 1) := by decide +kernel
theorem dX10_person_54 : decode cX10_person 54 = .ok (.aload_n 0, 1) := by decide +kernel
theorem dX10_person_55 : decode cX10_person 55 = .ok (.getfield 32, 3) := by decide +kernel
theorem dX10_person_58 : decode cX10_person 58 = .ok (.bipush 29, 2) := by decide +kernel
theorem dX10_person_60 : decode cX10_person 60 = .ok (.iload_n 1, 1) := by decide +kernel
theorem dX10_person_61 : decode cX10_person 61 = .ok (.iadd, 1) := by decide +kernel
theorem dX10_person_62 : decode cX10_person 62 = .ok (.iaload, 1) := by decide +kernel
theorem dX10_person_63 : decode cX10_person 63 = .ok (.ireturn, 1) := by decide +kernel
theorem dX10_person_64 : decode cX10_person 64 = .ok (.aload_n 0, 1) := by decide +kernel
theorem dX10_person_65 : decode cX10_person 65 = .ok (.getfield 32, 3) := by decide +kernel
theorem dX10_person_68 : decode cX10_person 68 = .ok (.iload_n 1, 1) := by decide +kernel
theorem dX10_person_69 : decode cX10_person 69 = .ok (.invokestatic 154, 3) := by decide +kernel
theorem dX10_person_72 : decode cX10_person 72 = .ok (.ireturn, 1) := by decide +kernel
theorem dX10_person_73 : decode cX10_person 73 = .ok (.aload_n 0, 1) := by decide +kernel
theorem dX10_person_74 : decode cX10_person 74 = .ok (.iload_n 1, 1) := by decide +kernel
theorem dX10_person_75 : decode cX10_person 75 = .ok (.invokevirtual 168, 3) := by decide +kernel
theorem dX10_person_78 : decode cX10_person 78 = .ok (.ireturn, 1) := by decide +kernel
theorem dX10_person_79 : decode cX10_person 79 = .ok (.ldc 70, 2) := by decide +kernel
theorem dX10_person_81 : decode cX10_person 81 = .ok (.ireturn, 1) := by decide +kernel
theorem h_X10_person : yX10_person.cls ≠ "java/lang/invoke/MethodHandle" ∧ yX10_person.cls ≠ "java/lang/invoke/VarHandle" ∧ (parseMethodDescriptor yX10_person.desc).map (fun d => d.parameters.length) = some 2 := by decide +kernel
def mX10_person (v_doors : Nat) (v_persons : Nat) (v_door : Nat → Int32) (v_now : Nat → Int32) (x1 : Int32) (x2 : Int32) : Int32 := (if ((mX10_isPerson v_persons x1)) = 0 then (-1000000001 : Int32) else (if x2 = 0 then v_now (23 + x1.toNatClampNeg) else if x2 = 1 then v_now (29 + x1.toNatClampNeg) else if x2 = 2 then (mX10_illOf v_now x1.toNatClampNeg) else if x2 = 3 then (mX10_comesOf v_doors v_door v_now x1.toNatClampNeg) else (-1000000002 : Int32)))
set_option maxHeartbeats 4000000 in
set_option maxRecDepth 100000 in
theorem kX10_person (l : Launch) (dC : Nat → ClassId) (dI : Nat → Nat → Nat) (cA cZ : ClassId) (a_this a_this_text a_this_readRain a_this_readDoor a_this_readPerson a_this_rain a_this_door a_this_now a_this_tried a_this_backOf a_this_image a_this_imageSeed a_this_isKept a_this_sight a_this_entry : Nat) (v_letters : Nat) (v_position : Nat) (v_tokenAt : Nat) (v_token : Int32) (v_number : Int32) (v_figures : Nat) (v_faultAt : Int32) (v_faultIs : Int32) (v_readRooms : Int32) (v_readStore : Int32) (v_readRains : Nat) (v_readDoors : Nat) (v_readPersons : Nat) (v_rooms : Int32) (v_rains : Nat) (v_doors : Nat) (v_persons : Nat) (v_backs : Nat) (v_seed : Int32) (v_seen : Nat) (v_entries : Nat) (v_door : Nat → Int32) (v_now : Nat → Int32) (x1 : Int32) (x2 : Int32) (hD : v_doors ≤ 10) (hPn : v_persons ≤ 6) : Met l yX10_person (Cond.code yX10_person cX10_person 3 (some .int) :: wt) ({ frames := 3, cells := 0, slots := 0, locals := 71 } : Room) (va_Pc [.ref a_this, .int x1, .int x2] (PreP (dC, dI) [(cA, .int), (cZ, .boolean)] [(a_this, .inr (10, [.int (nI v_letters), .ref a_this_text, .int (nI v_position), .int (nI v_tokenAt), .int v_token, .int v_number, .int (nI v_figures), .int v_faultAt, .int v_faultIs, .int v_readRooms, .int v_readStore, .int (nI v_readRains), .int (nI v_readDoors), .int (nI v_readPersons), .ref a_this_readRain, .ref a_this_readDoor, .ref a_this_readPerson, .int v_rooms, .int (nI v_rains), .int (nI v_doors), .int (nI v_persons), .ref a_this_rain, .ref a_this_door, .ref a_this_now, .ref a_this_tried, .ref a_this_backOf, .int (nI v_backs), .ref a_this_image, .ref a_this_imageSeed, .ref a_this_isKept, .int v_seed, .int (nI v_seen), .ref a_this_sight, .int (nI v_entries), .ref a_this_entry])), (a_this_door, .inl (cA, 40, .inl v_door)), (a_this_now, .inl (cA, 35, .inl v_now))])) (vp_Si (fun r => r = (mX10_person v_doors v_persons v_door v_now x1 x2))) 0 0 (fun _ => False) := by
  refine Met.ofW (cc := cX10_person) (maxL := 3) (ret := (some .int)) (by decide) rfl ?_
  intro p e s m args below meth c s₁ B hml hv
  obtain ⟨ha, hP, hK⟩ := hv
  have hx := B.exec
  have hb := B.bytes
  have hr := B.returns
  have ht : ∀ w ∈ wt, w.before args s = true := fun w h => atoms_spec (ws := (Cond.code yX10_person cX10_person 3 (some .int) :: wt)) B.pre w (List.mem_cons_of_mem _ h)
  have hown : s.vm.findClass RX10 = some m.cls := findClass_of_methodNamed B.named
  have hlocks := B.notSynchronized
  have hl := lv_entry ([.ref a_this, .int x1, .int x2]) (n := 3) (Nat.le_of_ble_eq_true rfl)
  rw [show entryFrame m args 3 = _ from (congrArg (fun a => entryFrame m a 3) ha).trans (lg_entry_eq m [.ref a_this, .int x1, .int x2] 3)]
  generalize (lg_sl ([.ref a_this, .int x1, .int x2]) ++ List.replicate (3 - (lg_sl ([.ref a_this, .int x1, .int x2])).length) Slot.unset).toArray = ls at hl ⊢
  have hl : lv_has ls 3 [(0, .ref a_this), (1, .int x1), (2, .int x2)] := hl
  have hm : (if ((mX10_isPerson v_persons x1)) = 0 then (-1000000001 : Int32) else (if x2 = 0 then v_now (23 + x1.toNatClampNeg) else if x2 = 1 then v_now (29 + x1.toNatClampNeg) else if x2 = 2 then (mX10_illOf v_now x1.toNatClampNeg) else if x2 = 3 then (mX10_comesOf v_doors v_door v_now x1.toNatClampNeg) else (-1000000002 : Int32))) = (mX10_person v_doors v_persons v_door v_now x1 x2) := rfl
  refine lv_aload_n hx hb dX10_person_0 rfl (lv_at hl 0 rfl) ?_
  refine lv_iload_n hx hb dX10_person_1 rfl (lv_at hl 1 rfl) ?_
  refine pv_call (v := (mX10_isPerson v_persons x1)) (va_runV (As := [.int x1]) (rest := []) ⟨hx, hb, hml, hown, ht⟩ (kX10_isPerson l dC dI cA cZ a_this a_this_text a_this_readRain a_this_readDoor a_this_readPerson a_this_rain a_this_door a_this_now a_this_tried a_this_backOf a_this_image a_this_imageSeed a_this_isKept a_this_sight a_this_entry v_letters v_position v_tokenAt v_token v_number v_figures v_faultAt v_faultIs v_readRooms v_readStore v_readRains v_readDoors v_readPersons v_rooms v_rains v_doors v_persons v_backs v_seed v_seen v_entries x1) (cwV 1 ht (gi_V (C := RX10) w_5_175 w_5_177 w_0_33 w_1_12 (gi_code w_5_178)) rfl rfl rfl ⟨rfl, h_X10_isPerson⟩ ⟨Nat.le_of_ble_eq_true rfl, Nat.le_of_ble_eq_true rfl⟩) ⟨pp_blind, va_recv hK.1 hP (ci := 10) (q0 := 0) rfl rfl, pp_use (pc_sub (wc := [(a_this, .inr (10, [.int (nI v_letters), .ref a_this_text, .int (nI v_position), .int (nI v_tokenAt), .int v_token, .int v_number, .int (nI v_figures), .int v_faultAt, .int v_faultIs, .int v_readRooms, .int v_readStore, .int (nI v_readRains), .int (nI v_readDoors), .int (nI v_readPersons), .ref a_this_readRain, .ref a_this_readDoor, .ref a_this_readPerson, .int v_rooms, .int (nI v_rains), .int (nI v_doors), .int (nI v_persons), .ref a_this_rain, .ref a_this_door, .ref a_this_now, .ref a_this_tried, .ref a_this_backOf, .int (nI v_backs), .ref a_this_image, .ref a_this_imageSeed, .ref a_this_isKept, .int v_seed, .int (nI v_seen), .ref a_this_sight, .int (nI v_entries), .ref a_this_entry]))]) hP [0] rfl) hK⟩ rfl rfl hl.1 rfl (lv_room (Nat.le_of_ble_eq_true rfl)) dX10_person_2 ⟨Nat.zero_le _, Nat.zero_le _⟩) ?_
  refine lv_if_ne (tgt := 11) hx hb dX10_person_5 (by decide) (fun c_1 => ?_) (fun c_1 => ?_)
  · have hm := (if_neg c_1).symm.trans hm
    obtain ⟨hj1, hx1⟩ := isPerson_spec (by omega) c_1
    have hl : lv_has ls 3 [(0, .ref a_this), (1, .int (nI x1.toNatClampNeg)), (2, .int x2)] := by rw [← hx1]; exact hl
    refine lv_iload_n hx hb dX10_person_11 rfl (lv_at hl 2 rfl) ?_
    by_cases c_2 : x2 = 0
    · have hm := (if_pos c_2).symm.trans hm
      refine lv_tableIn (tgt := 44) hx hb dX10_person_12 (by rw [c_2]; decide) (by rw [c_2]; decide) (by rw [c_2]; rfl) (by decide) ?_
      have hl : lv_has ls 3 [(0, .ref a_this), (1, .int (nI x1.toNatClampNeg)), (2, .int (nI 0))] := by rw [show x2 = nI 0 from c_2] at hl; exact hl
      refine lv_aload_n hx hb dX10_person_44 rfl (lv_at hl 0 rfl) ?_
      refine va_get (D := (dC, dI)) (ci := 10) (v := .ref a_this_now) (C := RX10) (T := TX10) (N := 35) hx hb ht iX10 hown hK.1 hP 0 rfl rfl 23 (by decide) (ht _ w_4_226) (fun _ h9 => h9) rfl dX10_person_45 ?_
      refine lv_bipush (v := nI 23) hx hb dX10_person_48 (by decide) ?_
      refine lv_iload_n hx hb dX10_person_50 rfl (lv_at hl 1 rfl) ?_
      refine nv_iadd hx hb dX10_person_51 ?_
      refine nv_iald (e := 23 + x1.toNatClampNeg) (by omega) (by omega) hx hb hK.1 hP 2 0 rfl rfl dX10_person_52 ?_
      exact W.iret (v := v_now (23 + x1.toNatClampNeg)) hx hb hr (fun t ht9 _ => ⟨_, rfl, hm, ht9⟩) (fun q hq => absurd hq List.not_mem_nil) dX10_person_53
    have hm := (if_neg c_2).symm.trans hm
    by_cases c_3 : x2 = 1
    · have hm := (if_pos c_3).symm.trans hm
      refine lv_tableIn (tgt := 54) hx hb dX10_person_12 (by rw [c_3]; decide) (by rw [c_3]; decide) (by rw [c_3]; rfl) (by decide) ?_
      have hl : lv_has ls 3 [(0, .ref a_this), (1, .int (nI x1.toNatClampNeg)), (2, .int (nI 1))] := by rw [show x2 = nI 1 from c_3] at hl; exact hl
      refine lv_aload_n hx hb dX10_person_54 rfl (lv_at hl 0 rfl) ?_
      refine va_get (D := (dC, dI)) (ci := 10) (v := .ref a_this_now) (C := RX10) (T := TX10) (N := 35) hx hb ht iX10 hown hK.1 hP 0 rfl rfl 23 (by decide) (ht _ w_4_226) (fun _ h9 => h9) rfl dX10_person_55 ?_
      refine lv_bipush (v := nI 29) hx hb dX10_person_58 (by decide) ?_
      refine lv_iload_n hx hb dX10_person_60 rfl (lv_at hl 1 rfl) ?_
      refine nv_iadd hx hb dX10_person_61 ?_
      refine nv_iald (e := 29 + x1.toNatClampNeg) (by omega) (by omega) hx hb hK.1 hP 2 0 rfl rfl dX10_person_62 ?_
      exact W.iret (v := v_now (29 + x1.toNatClampNeg)) hx hb hr (fun t ht9 _ => ⟨_, rfl, hm, ht9⟩) (fun q hq => absurd hq List.not_mem_nil) dX10_person_63
    have hm := (if_neg c_3).symm.trans hm
    by_cases c_4 : x2 = 2
    · have hm := (if_pos c_4).symm.trans hm
      refine lv_tableIn (tgt := 64) hx hb dX10_person_12 (by rw [c_4]; decide) (by rw [c_4]; decide) (by rw [c_4]; rfl) (by decide) ?_
      have hl : lv_has ls 3 [(0, .ref a_this), (1, .int (nI x1.toNatClampNeg)), (2, .int (nI 2))] := by rw [show x2 = nI 2 from c_4] at hl; exact hl
      refine lv_aload_n hx hb dX10_person_64 rfl (lv_at hl 0 rfl) ?_
      refine va_get (D := (dC, dI)) (ci := 10) (v := .ref a_this_now) (C := RX10) (T := TX10) (N := 35) hx hb ht iX10 hown hK.1 hP 0 rfl rfl 23 (by decide) (ht _ w_4_226) (fun _ h9 => h9) rfl dX10_person_65 ?_
      refine lv_iload_n hx hb dX10_person_68 rfl (lv_at hl 1 rfl) ?_
      refine pv_call (v := (mX10_illOf v_now x1.toNatClampNeg)) (va_runS (As := [.ref a_this_now, .int (nI x1.toNatClampNeg)]) (rest := []) ⟨hx, hb, hml, hown, ht⟩ (kX10_illOf l dC dI cA cZ a_this_now v_now x1.toNatClampNeg (by omega)) (va_cwS 2 ht (gi_S w_5_142 w_5_143 w_1_12 (gi_code w_5_144)) rfl rfl rfl h_X10_illOf ⟨Nat.le_of_ble_eq_true rfl, Nat.le_of_ble_eq_true rfl⟩) ⟨pp_blind, pp_use (pc_sub (wc := [(a_this_now, .inl (cA, 35, .inl v_now))]) hP [2] rfl) hK⟩ rfl rfl hl.1 rfl (lv_room (Nat.le_of_ble_eq_true rfl)) dX10_person_69 ⟨Nat.zero_le _, Nat.zero_le _⟩) ?_
      exact W.iret (v := (mX10_illOf v_now x1.toNatClampNeg)) hx hb hr (fun t ht9 _ => ⟨_, rfl, hm, ht9⟩) (fun q hq => absurd hq List.not_mem_nil) dX10_person_72
    have hm := (if_neg c_4).symm.trans hm
    by_cases c_5 : x2 = 3
    · have hm := (if_pos c_5).symm.trans hm
      refine lv_tableIn (tgt := 73) hx hb dX10_person_12 (by rw [c_5]; decide) (by rw [c_5]; decide) (by rw [c_5]; rfl) (by decide) ?_
      have hl : lv_has ls 3 [(0, .ref a_this), (1, .int (nI x1.toNatClampNeg)), (2, .int (nI 3))] := by rw [show x2 = nI 3 from c_5] at hl; exact hl
      refine lv_aload_n hx hb dX10_person_73 rfl (lv_at hl 0 rfl) ?_
      refine lv_iload_n hx hb dX10_person_74 rfl (lv_at hl 1 rfl) ?_
      refine pv_call (v := (mX10_comesOf v_doors v_door v_now x1.toNatClampNeg)) (va_runV (As := [.int (nI x1.toNatClampNeg)]) (rest := []) ⟨hx, hb, hml, hown, ht⟩ (kX10_comesOf l dC dI cA cZ a_this a_this_text a_this_readRain a_this_readDoor a_this_readPerson a_this_rain a_this_door a_this_now a_this_tried a_this_backOf a_this_image a_this_imageSeed a_this_isKept a_this_sight a_this_entry v_letters v_position v_tokenAt v_token v_number v_figures v_faultAt v_faultIs v_readRooms v_readStore v_readRains v_readDoors v_readPersons v_rooms v_rains v_doors v_persons v_backs v_seed v_seen v_entries v_door v_now x1.toNatClampNeg (by omega) (by omega)) (cwV 1 ht (gi_V (C := RX10) w_5_138 w_5_140 w_0_29 w_1_12 (gi_code w_5_141)) rfl rfl rfl ⟨rfl, h_X10_comesOf⟩ ⟨Nat.le_of_ble_eq_true rfl, Nat.le_of_ble_eq_true rfl⟩) ⟨pp_blind, va_recv hK.1 hP (ci := 10) (q0 := 0) rfl rfl, pp_use hP hK⟩ rfl rfl hl.1 rfl (lv_room (Nat.le_of_ble_eq_true rfl)) dX10_person_75 ⟨Nat.zero_le _, Nat.zero_le _⟩) ?_
      exact W.iret (v := (mX10_comesOf v_doors v_door v_now x1.toNatClampNeg)) hx hb hr (fun t ht9 _ => ⟨_, rfl, hm, ht9⟩) (fun q hq => absurd hq List.not_mem_nil) dX10_person_78
    have hm := (if_neg c_5).symm.trans hm
    refine lv_tableOut (tgt := 79) hx hb dX10_person_12 (sw_out 4 (fun k hk => by match k, hk with | 0, _ => exact c_2 | 1, _ => exact c_3 | 2, _ => exact c_4 | 3, _ => exact c_5)) (by decide) ?_
    refine lv_ldc (v := (-1000000002 : Int32)) hx hb hown (ht _ w_5_77) dX10_person_79 ?_
    exact W.iret (v := (-1000000002 : Int32)) hx hb hr (fun t ht9 _ => ⟨_, rfl, hm, ht9⟩) (fun q hq => absurd hq List.not_mem_nil) dX10_person_81
  · have hm := (if_pos c_1).symm.trans hm
    refine lv_ldc (v := (-1000000001 : Int32)) hx hb hown (ht _ w_5_167) dX10_person_8 ?_
    exact W.iret (v := (-1000000001 : Int32)) hx hb hr (fun t ht9 _ => ⟨_, rfl, hm, ht9⟩) (fun q hq => absurd hq List.not_mem_nil) dX10_person_10
theorem dX10_room_0 : decode cX10_room 0 = .ok (.aload_n 0, 1) := by decide +kernel
theorem dX10_room_1 : decode cX10_room 1 = .ok (.iload_n 1, 1) := by decide +kernel
theorem dX10_room_2 : decode cX10_room 2 = .ok (.invokevirtual 193, 3) := by decide +kernel
theorem dX10_room_5 : decode cX10_room 5 = .ok (.ifCond .ne 6, 3) := by decide +kernel
theorem dX10_room_8 : decode cX10_room 8 = .ok (.ldc 185, 2) := by decide +kernel
theorem dX10_room_10 : decode cX10_room 10 = .ok (.ireturn, 1) := by decide +kernel
theorem dX10_room_11 : decode cX10_room 11 = .ok (.iconst 0, 1) := by decide +kernel
theorem dX10_room_12 : decode cX10_room 12 = .ok (.istore_n 2, 1) := by decide +kernel
theorem dX10_room_13 : decode cX10_room 13 = .ok (.iconst 0, 1) := by decide +kernel
theorem dX10_room_14 : decode cX10_room 14 = .ok (.istore_n 3, 1) := by decide +kernel
theorem dX10_room_15 : decode cX10_room 15 = .ok (.iload_n 3, 1) := by decide +kernel
theorem dX10_room_16 : decode cX10_room 16 = .ok (.aload_n 0, 1) := by decide +kernel
theorem dX10_room_17 : decode cX10_room 17 = .ok (.getfield 67, 3) := by decide +kernel
theorem dX10_room_20 : decode cX10_room 20 = .ok (.if_icmp .ge 32, 3) := by decide +kernel
theorem dX10_room_23 : decode cX10_room 23 = .ok (.iload_n 2, 1) := by decide +kernel
theorem dX10_room_24 : decode cX10_room 24 = .ok (.aload_n 0, 1) := by decide +kernel
theorem dX10_room_25 : decode cX10_room 25 = .ok (.getfield 32, 3) := by decide +kernel
theorem dX10_room_28 : decode cX10_room 28 = .ok (.bipush 23, 2) := by decide +kernel
theorem dX10_room_30 : decode cX10_room 30 = .ok (.iload_n 3, 1) := by decide +kernel
theorem dX10_room_31 : decode cX10_room 31 = .ok (.iadd, 1) := by decide +kernel
theorem dX10_room_32 : decode cX10_room 32 = .ok (.iaload, 1) := by decide +kernel
theorem dX10_room_33 : decode cX10_room 33 = .ok (.iload_n 1, 1) := by decide +kernel
theorem dX10_room_34 : decode cX10_room 34 = .ok (.if_icmp .ne 9, 3) := by decide +kernel
theorem dX10_room_37 : decode cX10_room 37 = .ok (.iconst 1, 1) := by decide +kernel
theorem dX10_room_38 : decode cX10_room 38 = .ok (.iload_n 3, 1) := by decide +kernel
theorem dX10_room_39 : decode cX10_room 39 = .ok (.ishl, 1) := by decide +kernel
theorem dX10_room_40 : decode cX10_room 40 = .ok (.goto 4, 3) := by decide +kernel
theorem dX10_room_43 : decode cX10_room 43 = .ok (.iconst 0, 1) := by decide +kernel
theorem dX10_room_44 : decode cX10_room 44 = .ok (.ior, 1) := by decide +kernel
theorem dX10_room_45 : decode cX10_room 45 = .ok (.istore_n 2, 1) := by decide +kernel
theorem dX10_room_46 : decode cX10_room 46 = .ok (.iinc 3 1, 3) := by decide +kernel
theorem dX10_room_49 : decode cX10_room 49 = .ok (.goto (-34), 3) := by decide +kernel
theorem dX10_room_52 : decode cX10_room 52 = .ok (.iload_n 2, 1) := by decide +kernel
theorem dX10_room_53 : decode cX10_room 53 = .ok (.ireturn, 1) := by decide +kernel
theorem h_X10_room : yX10_room.cls ≠ "java/lang/invoke/MethodHandle" ∧ yX10_room.cls ≠ "java/lang/invoke/VarHandle" ∧ (parseMethodDescriptor yX10_room.desc).map (fun d => d.parameters.length) = some 1 := by decide +kernel
def mX10_room_l15 (v_now : Nat → Int32) (x1 : Int32) (k_15 : Nat) (y2_15 : Int32) : Int32 := (if (v_now (23 + k_15)) = x1 then y2_15 ||| ((nI 1) <<< ((nI k_15) &&& 31)) else y2_15 ||| (nI 0))
def mX10_room (v_rooms : Int32) (v_persons : Nat) (v_now : Nat → Int32) (x1 : Int32) : Int32 := (if ((mX10_isRoom v_rooms x1)) = 0 then (-1000000001 : Int32) else (iter (mX10_room_l15 v_now x1) v_persons (nI 0)))
set_option maxHeartbeats 4000000 in
set_option maxRecDepth 100000 in
theorem kX10_room (l : Launch) (dC : Nat → ClassId) (dI : Nat → Nat → Nat) (cA cZ : ClassId) (a_this a_this_text a_this_readRain a_this_readDoor a_this_readPerson a_this_rain a_this_door a_this_now a_this_tried a_this_backOf a_this_image a_this_imageSeed a_this_isKept a_this_sight a_this_entry : Nat) (v_letters : Nat) (v_position : Nat) (v_tokenAt : Nat) (v_token : Int32) (v_number : Int32) (v_figures : Nat) (v_faultAt : Int32) (v_faultIs : Int32) (v_readRooms : Int32) (v_readStore : Int32) (v_readRains : Nat) (v_readDoors : Nat) (v_readPersons : Nat) (v_rooms : Int32) (v_rains : Nat) (v_doors : Nat) (v_persons : Nat) (v_backs : Nat) (v_seed : Int32) (v_seen : Nat) (v_entries : Nat) (v_now : Nat → Int32) (x1 : Int32) (hPn : v_persons ≤ 6) : Met l yX10_room (Cond.code yX10_room cX10_room 4 (some .int) :: wt) ({ frames := 2, cells := 0, slots := 0, locals := 43 } : Room) (va_Pc [.ref a_this, .int x1] (PreP (dC, dI) [(cA, .int), (cZ, .boolean)] [(a_this, .inr (10, [.int (nI v_letters), .ref a_this_text, .int (nI v_position), .int (nI v_tokenAt), .int v_token, .int v_number, .int (nI v_figures), .int v_faultAt, .int v_faultIs, .int v_readRooms, .int v_readStore, .int (nI v_readRains), .int (nI v_readDoors), .int (nI v_readPersons), .ref a_this_readRain, .ref a_this_readDoor, .ref a_this_readPerson, .int v_rooms, .int (nI v_rains), .int (nI v_doors), .int (nI v_persons), .ref a_this_rain, .ref a_this_door, .ref a_this_now, .ref a_this_tried, .ref a_this_backOf, .int (nI v_backs), .ref a_this_image, .ref a_this_imageSeed, .ref a_this_isKept, .int v_seed, .int (nI v_seen), .ref a_this_sight, .int (nI v_entries), .ref a_this_entry])), (a_this_now, .inl (cA, 35, .inl v_now))])) (vp_Si (fun r => r = (mX10_room v_rooms v_persons v_now x1))) 0 0 (fun _ => False) := by
  refine Met.ofW (cc := cX10_room) (maxL := 4) (ret := (some .int)) (by decide) rfl ?_
  intro p e s m args below meth c s₁ B hml hv
  obtain ⟨ha, hP, hK⟩ := hv
  have hx := B.exec
  have hb := B.bytes
  have hr := B.returns
  have ht : ∀ w ∈ wt, w.before args s = true := fun w h => atoms_spec (ws := (Cond.code yX10_room cX10_room 4 (some .int) :: wt)) B.pre w (List.mem_cons_of_mem _ h)
  have hown : s.vm.findClass RX10 = some m.cls := findClass_of_methodNamed B.named
  have hlocks := B.notSynchronized
  have hl := lv_entry ([.ref a_this, .int x1]) (n := 4) (Nat.le_of_ble_eq_true rfl)
  rw [show entryFrame m args 4 = _ from (congrArg (fun a => entryFrame m a 4) ha).trans (lg_entry_eq m [.ref a_this, .int x1] 4)]
  generalize (lg_sl ([.ref a_this, .int x1]) ++ List.replicate (4 - (lg_sl ([.ref a_this, .int x1])).length) Slot.unset).toArray = ls at hl ⊢
  have hl : lv_has ls 4 [(0, .ref a_this), (1, .int x1)] := hl
  have hm : (if ((mX10_isRoom v_rooms x1)) = 0 then (-1000000001 : Int32) else (iter (mX10_room_l15 v_now x1) v_persons (nI 0))) = (mX10_room v_rooms v_persons v_now x1) := rfl
  refine lv_aload_n hx hb dX10_room_0 rfl (lv_at hl 0 rfl) ?_
  refine lv_iload_n hx hb dX10_room_1 rfl (lv_at hl 1 rfl) ?_
  refine pv_call (v := (mX10_isRoom v_rooms x1)) (va_runV (As := [.int x1]) (rest := []) ⟨hx, hb, hml, hown, ht⟩ (kX10_isRoom l dC dI cA cZ a_this a_this_text a_this_readRain a_this_readDoor a_this_readPerson a_this_rain a_this_door a_this_now a_this_tried a_this_backOf a_this_image a_this_imageSeed a_this_isKept a_this_sight a_this_entry v_letters v_position v_tokenAt v_token v_number v_figures v_faultAt v_faultIs v_readRooms v_readStore v_readRains v_readDoors v_readPersons v_rooms v_rains v_doors v_persons v_backs v_seed v_seen v_entries x1) (cwV 1 ht (gi_V (C := RX10) w_5_183 w_5_185 w_0_34 w_1_12 (gi_code w_5_186)) rfl rfl rfl ⟨rfl, h_X10_isRoom⟩ ⟨Nat.le_of_ble_eq_true rfl, Nat.le_of_ble_eq_true rfl⟩) ⟨pp_blind, va_recv hK.1 hP (ci := 10) (q0 := 0) rfl rfl, pp_use (pc_sub (wc := [(a_this, .inr (10, [.int (nI v_letters), .ref a_this_text, .int (nI v_position), .int (nI v_tokenAt), .int v_token, .int v_number, .int (nI v_figures), .int v_faultAt, .int v_faultIs, .int v_readRooms, .int v_readStore, .int (nI v_readRains), .int (nI v_readDoors), .int (nI v_readPersons), .ref a_this_readRain, .ref a_this_readDoor, .ref a_this_readPerson, .int v_rooms, .int (nI v_rains), .int (nI v_doors), .int (nI v_persons), .ref a_this_rain, .ref a_this_door, .ref a_this_now, .ref a_this_tried, .ref a_this_backOf, .int (nI v_backs), .ref a_this_image, .ref a_this_imageSeed, .ref a_this_isKept, .int v_seed, .int (nI v_seen), .ref a_this_sight, .int (nI v_entries), .ref a_this_entry]))]) hP [0] rfl) hK⟩ rfl rfl hl.1 rfl (lv_room (Nat.le_of_ble_eq_true rfl)) dX10_room_2 ⟨Nat.zero_le _, Nat.zero_le _⟩) ?_
  refine lv_if_ne (tgt := 11) hx hb dX10_room_5 (by decide) (fun c_1 => ?_) (fun c_1 => ?_)
  · have hm := (if_neg c_1).symm.trans hm
    refine lv_iconst (v := nI 0) hx hb dX10_room_11 (by decide) ?_
    refine lv_istore_n (lv' := [(2, .int (nI 0)), (0, .ref a_this), (1, .int x1)]) hx hb dX10_room_12 rfl hl (by decide) rfl (fun ls hl => ?_)
    refine lv_iconst (v := nI 0) hx hb dX10_room_13 (by decide) ?_
    refine lv_istore_n (lv' := [(3, .int (nI 0)), (2, .int (nI 0)), (0, .ref a_this), (1, .int x1)]) hx hb dX10_room_14 rfl hl (by decide) rfl (fun ls hl => ?_)
    have L_15 : ∀ (n_15 k_15 : Nat), k_15 + n_15 = v_persons → ∀ (y2_15 : Int32), y2_15 = (iter (mX10_room_l15 v_now x1) k_15 (nI 0)) → ∀ (ls : Array Slot), lv_has ls 4 [(3, .int (nI k_15)), (2, .int y2_15), (0, .ref a_this), (1, .int x1)] → W p l e (headSpec (Cond.code yX10_room cX10_room 4 (some .int) :: wt) ({ frames := 2, cells := 0, slots := 0, locals := 43 } : Room)).room s m args below meth c s.heap [] 0 0 (MQ below (vp_Si (fun r => r = (mX10_room v_rooms v_persons v_now x1))) args s 0 0 (fun _ => False)) (F0 m 15 ls []) := by
      intro n_15
      induction n_15 with
      | zero =>
        intro k_15 hk y2_15 ex0_15 ls hl
        obtain rfl : v_persons = k_15 := by omega
        subst ex0_15
        refine lv_iload_n hx hb dX10_room_15 rfl (lv_at hl 0 rfl) ?_
        refine lv_aload_n hx hb dX10_room_16 rfl (lv_at hl 2 rfl) ?_
        refine va_get (D := (dC, dI)) (ci := 10) (v := .int (nI v_persons)) (C := RX10) (T := TX10) (N := 35) hx hb ht iX10 hown hK.1 hP 0 rfl rfl 20 (by decide) (ht _ w_4_223) (fun _ h9 => h9) rfl dX10_room_17 ?_
        refine lv_icmp_ge (tgt := 52) hx hb dX10_room_20 (by decide) (fun c_4 => ?_) (fun c_4 => ?_)
        · skip
          refine lv_iload_n hx hb dX10_room_52 rfl (lv_at hl 1 rfl) ?_
          exact W.iret (v := (iter (mX10_room_l15 v_now x1) v_persons (nI 0))) hx hb hr (fun t ht9 _ => ⟨_, rfl, hm, ht9⟩) (fun q hq => absurd hq List.not_mem_nil) dX10_room_53
        · exact absurd (nI_le (by omega) (by omega)) c_4
      | succ n_15 ih =>
        intro k_15 hk y2_15 ex0_15 ls hl
        have hm : (mX10_room_l15 v_now x1) k_15 y2_15 = (iter (mX10_room_l15 v_now x1) (k_15 + 1) (nI 0)) := by rw [ex0_15]; rfl
        have hm : (if (v_now (23 + k_15)) = x1 then y2_15 ||| ((nI 1) <<< ((nI k_15) &&& 31)) else y2_15 ||| (nI 0)) = (iter (mX10_room_l15 v_now x1) (k_15 + 1) (nI 0)) := hm
        refine lv_iload_n hx hb dX10_room_15 rfl (lv_at hl 0 rfl) ?_
        refine lv_aload_n hx hb dX10_room_16 rfl (lv_at hl 2 rfl) ?_
        refine va_get (D := (dC, dI)) (ci := 10) (v := .int (nI v_persons)) (C := RX10) (T := TX10) (N := 35) hx hb ht iX10 hown hK.1 hP 0 rfl rfl 20 (by decide) (ht _ w_4_223) (fun _ h9 => h9) rfl dX10_room_17 ?_
        refine lv_icmp_ge (tgt := 52) hx hb dX10_room_20 (by decide) (fun c_2 => ?_) (fun c_2 => ?_)
        · exact absurd c_2 (nI_ge (by omega) (by omega))
        · skip
          refine lv_iload_n hx hb dX10_room_23 rfl (lv_at hl 1 rfl) ?_
          refine lv_aload_n hx hb dX10_room_24 rfl (lv_at hl 2 rfl) ?_
          refine va_get (D := (dC, dI)) (ci := 10) (v := .ref a_this_now) (C := RX10) (T := TX10) (N := 35) hx hb ht iX10 hown hK.1 hP 0 rfl rfl 23 (by decide) (ht _ w_4_226) (fun _ h9 => h9) rfl dX10_room_25 ?_
          refine lv_bipush (v := nI 23) hx hb dX10_room_28 (by decide) ?_
          refine lv_iload_n hx hb dX10_room_30 rfl (lv_at hl 0 rfl) ?_
          refine nv_iadd hx hb dX10_room_31 ?_
          refine nv_iald (e := 23 + k_15) (by omega) (by omega) hx hb hK.1 hP 1 0 rfl rfl dX10_room_32 ?_
          refine lv_iload_n hx hb dX10_room_33 rfl (lv_at hl 3 rfl) ?_
          refine lv_icmp_ne (tgt := 43) hx hb dX10_room_34 (by decide) (fun c_3 => ?_) (fun c_3 => ?_)
          · have hm := (if_neg c_3).symm.trans hm
            refine lv_iconst (v := nI 0) hx hb dX10_room_43 (by decide) ?_
            refine lv_ior hx hb dX10_room_44 ?_
            refine lv_istore_n (lv' := [(2, .int (y2_15 ||| (nI 0))), (3, .int (nI k_15)), (0, .ref a_this), (1, .int x1)]) hx hb dX10_room_45 rfl hl (by decide) rfl (fun ls hl => ?_)
            refine lv_iinc (v := nI (k_15 + 1)) (lv' := [(3, .int (nI (k_15 + 1))), (2, .int (y2_15 ||| (nI 0))), (0, .ref a_this), (1, .int x1)]) hx hb dX10_room_46 hl (k := 1) rfl (nI_1 _) (by decide) rfl (fun ls hl => ?_)
            refine lv_goto (tgt := 15) hx hb dX10_room_49 (by decide) ?_
            exact ih (k_15 + 1) (by omega) (y2_15 ||| (nI 0)) hm ls (lv_sub hl [0, 1, 2, 3] rfl)
          · have hm := (if_pos c_3).symm.trans hm
            refine lv_iconst (v := nI 1) hx hb dX10_room_37 (by decide) ?_
            refine lv_iload_n hx hb dX10_room_38 rfl (lv_at hl 0 rfl) ?_
            refine lv_ishl hx hb dX10_room_39 ?_
            refine lv_goto (tgt := 44) hx hb dX10_room_40 (by decide) ?_
            refine lv_ior hx hb dX10_room_44 ?_
            refine lv_istore_n (lv' := [(2, .int (y2_15 ||| ((nI 1) <<< ((nI k_15) &&& 31)))), (3, .int (nI k_15)), (0, .ref a_this), (1, .int x1)]) hx hb dX10_room_45 rfl hl (by decide) rfl (fun ls hl => ?_)
            refine lv_iinc (v := nI (k_15 + 1)) (lv' := [(3, .int (nI (k_15 + 1))), (2, .int (y2_15 ||| ((nI 1) <<< ((nI k_15) &&& 31)))), (0, .ref a_this), (1, .int x1)]) hx hb dX10_room_46 hl (k := 1) rfl (nI_1 _) (by decide) rfl (fun ls hl => ?_)
            refine lv_goto (tgt := 15) hx hb dX10_room_49 (by decide) ?_
            exact ih (k_15 + 1) (by omega) (y2_15 ||| ((nI 1) <<< ((nI k_15) &&& 31))) hm ls (lv_sub hl [0, 1, 2, 3] rfl)
    exact L_15 v_persons 0 (Nat.zero_add _) (nI 0) rfl ls (lv_sub hl [0, 1, 2, 3] rfl)
  · have hm := (if_pos c_1).symm.trans hm
    refine lv_ldc (v := (-1000000001 : Int32)) hx hb hown (ht _ w_5_167) dX10_room_8 ?_
    exact W.iret (v := (-1000000001 : Int32)) hx hb hr (fun t ht9 _ => ⟨_, rfl, hm, ht9⟩) (fun q hq => absurd hq List.not_mem_nil) dX10_room_10
theorem dX10_rainAt_0 : decode cX10_rainAt 0 = .ok (.aload_n 0, 1) := by decide +kernel
theorem dX10_rainAt_1 : decode cX10_rainAt 1 = .ok (.getfield 138, 3) := by decide +kernel
theorem dX10_rainAt_4 : decode cX10_rainAt 4 = .ok (.ifCond .ne 7, 3) := by decide +kernel
theorem dX10_rainAt_7 : decode cX10_rainAt 7 = .ok (.iconst 0, 1) := by decide +kernel
theorem dX10_rainAt_8 : decode cX10_rainAt 8 = .ok (.goto 14, 3) := by decide +kernel
theorem dX10_rainAt_11 : decode cX10_rainAt 11 = .ok (.aload_n 0, 1) := by decide +kernel
theorem dX10_rainAt_12 : decode cX10_rainAt 12 = .ok (.getfield 26, 3) := by decide +kernel
theorem dX10_rainAt_15 : decode cX10_rainAt 15 = .ok (.iload_n 1, 1) := by decide +kernel
theorem dX10_rainAt_16 : decode cX10_rainAt 16 = .ok (.aload_n 0, 1) := by decide +kernel
theorem dX10_rainAt_17 : decode cX10_rainAt 17 = .ok (.getfield 138, 3) := by decide +kernel
theorem dX10_rainAt_20 : decode cX10_rainAt 20 = .ok (.irem, 1) := by decide +kernel
theorem dX10_rainAt_21 : decode cX10_rainAt 21 = .ok (.iaload, 1) := by decide +kernel
theorem dX10_rainAt_22 : decode cX10_rainAt 22 = .ok (.ireturn, 1) := by decide +kernel
theorem h_X10_rainAt : yX10_rainAt.cls ≠ "java/lang/invoke/MethodHandle" ∧ yX10_rainAt.cls ≠ "java/lang/invoke/VarHandle" ∧ (parseMethodDescriptor yX10_rainAt.desc).map (fun d => d.parameters.length) = some 1 := by decide +kernel
def mX10_rainAt (v_rains : Nat) (v_rain : Nat → Int32) (x1 : Nat) : Int32 := (if (nI v_rains) = 0 then nI 0 else v_rain (x1 % v_rains))
set_option maxHeartbeats 4000000 in
set_option maxRecDepth 100000 in
theorem kX10_rainAt (l : Launch) (dC : Nat → ClassId) (dI : Nat → Nat → Nat) (cA cZ : ClassId) (a_this a_this_text a_this_readRain a_this_readDoor a_this_readPerson a_this_rain a_this_door a_this_now a_this_tried a_this_backOf a_this_image a_this_imageSeed a_this_isKept a_this_sight a_this_entry : Nat) (v_letters : Nat) (v_position : Nat) (v_tokenAt : Nat) (v_token : Int32) (v_number : Int32) (v_figures : Nat) (v_faultAt : Int32) (v_faultIs : Int32) (v_readRooms : Int32) (v_readStore : Int32) (v_readRains : Nat) (v_readDoors : Nat) (v_readPersons : Nat) (v_rooms : Int32) (v_rains : Nat) (v_doors : Nat) (v_persons : Nat) (v_backs : Nat) (v_seed : Int32) (v_seen : Nat) (v_entries : Nat) (v_rain : Nat → Int32) (x1 : Nat) (hR : v_rains ≤ 12) (hh : x1 < 2147483648) : Met l yX10_rainAt (Cond.code yX10_rainAt cX10_rainAt 2 (some .int) :: wt) ({ frames := 0, cells := 0, slots := 0, locals := 0 } : Room) (va_Pc [.ref a_this, .int (nI x1)] (PreP (dC, dI) [(cA, .int), (cZ, .boolean)] [(a_this, .inr (10, [.int (nI v_letters), .ref a_this_text, .int (nI v_position), .int (nI v_tokenAt), .int v_token, .int v_number, .int (nI v_figures), .int v_faultAt, .int v_faultIs, .int v_readRooms, .int v_readStore, .int (nI v_readRains), .int (nI v_readDoors), .int (nI v_readPersons), .ref a_this_readRain, .ref a_this_readDoor, .ref a_this_readPerson, .int v_rooms, .int (nI v_rains), .int (nI v_doors), .int (nI v_persons), .ref a_this_rain, .ref a_this_door, .ref a_this_now, .ref a_this_tried, .ref a_this_backOf, .int (nI v_backs), .ref a_this_image, .ref a_this_imageSeed, .ref a_this_isKept, .int v_seed, .int (nI v_seen), .ref a_this_sight, .int (nI v_entries), .ref a_this_entry])), (a_this_rain, .inl (cA, 12, .inl v_rain))])) (vp_Si (fun r => r = (mX10_rainAt v_rains v_rain x1))) 0 0 (fun _ => False) := by
  refine Met.ofW (cc := cX10_rainAt) (maxL := 2) (ret := (some .int)) (by decide) rfl ?_
  intro p e s m args below meth c s₁ B hml hv
  obtain ⟨ha, hP, hK⟩ := hv
  have hx := B.exec
  have hb := B.bytes
  have hr := B.returns
  have ht : ∀ w ∈ wt, w.before args s = true := fun w h => atoms_spec (ws := (Cond.code yX10_rainAt cX10_rainAt 2 (some .int) :: wt)) B.pre w (List.mem_cons_of_mem _ h)
  have hown : s.vm.findClass RX10 = some m.cls := findClass_of_methodNamed B.named
  have hlocks := B.notSynchronized
  have hl := lv_entry ([.ref a_this, .int (nI x1)]) (n := 2) (Nat.le_of_ble_eq_true rfl)
  rw [show entryFrame m args 2 = _ from (congrArg (fun a => entryFrame m a 2) ha).trans (lg_entry_eq m [.ref a_this, .int (nI x1)] 2)]
  generalize (lg_sl ([.ref a_this, .int (nI x1)]) ++ List.replicate (2 - (lg_sl ([.ref a_this, .int (nI x1)])).length) Slot.unset).toArray = ls at hl ⊢
  have hl : lv_has ls 2 [(0, .ref a_this), (1, .int (nI x1))] := hl
  have hm : (if (nI v_rains) = 0 then nI 0 else v_rain (x1 % v_rains)) = (mX10_rainAt v_rains v_rain x1) := rfl
  refine lv_aload_n hx hb dX10_rainAt_0 rfl (lv_at hl 0 rfl) ?_
  refine va_get (D := (dC, dI)) (ci := 10) (v := .int (nI v_rains)) (C := RX10) (T := TX10) (N := 35) hx hb ht iX10 hown hK.1 hP 0 rfl rfl 18 (by decide) (ht _ w_4_221) (fun _ h9 => h9) rfl dX10_rainAt_1 ?_
  refine lv_if_ne (tgt := 11) hx hb dX10_rainAt_4 (by decide) (fun c_1 => ?_) (fun c_1 => ?_)
  · have hm := (if_neg c_1).symm.trans hm
    have hr0 : v_rains ≠ 0 := fun q => c_1 (by rw [q]; rfl)
    refine lv_aload_n hx hb dX10_rainAt_11 rfl (lv_at hl 0 rfl) ?_
    refine va_get (D := (dC, dI)) (ci := 10) (v := .ref a_this_rain) (C := RX10) (T := TX10) (N := 35) hx hb ht iX10 hown hK.1 hP 0 rfl rfl 21 (by decide) (ht _ w_4_224) (fun _ h9 => h9) rfl dX10_rainAt_12 ?_
    refine lv_iload_n hx hb dX10_rainAt_15 rfl (lv_at hl 1 rfl) ?_
    refine lv_aload_n hx hb dX10_rainAt_16 rfl (lv_at hl 0 rfl) ?_
    refine va_get (D := (dC, dI)) (ci := 10) (v := .int (nI v_rains)) (C := RX10) (T := TX10) (N := 35) hx hb ht iX10 hown hK.1 hP 0 rfl rfl 18 (by decide) (ht _ w_4_221) (fun _ h9 => h9) rfl dX10_rainAt_17 ?_
    refine nv_irem (by omega) (by omega) (by omega) hx hb dX10_rainAt_20 ?_
    refine nv_iald (e := x1 % v_rains) (Nat.lt_of_lt_of_le (Nat.mod_lt _ (by omega)) hR) (by omega) hx hb hK.1 hP 1 0 rfl rfl dX10_rainAt_21 ?_
    exact W.iret (v := v_rain (x1 % v_rains)) hx hb hr (fun t ht9 _ => ⟨_, rfl, hm, ht9⟩) (fun q hq => absurd hq List.not_mem_nil) dX10_rainAt_22
  · have hm := (if_pos c_1).symm.trans hm
    refine lv_iconst (v := nI 0) hx hb dX10_rainAt_7 (by decide) ?_
    refine lv_goto (tgt := 22) hx hb dX10_rainAt_8 (by decide) ?_
    exact W.iret (v := nI 0) hx hb hr (fun t ht9 _ => ⟨_, rfl, hm, ht9⟩) (fun q hq => absurd hq List.not_mem_nil) dX10_rainAt_22
theorem dX10_rain_0 : decode cX10_rain 0 = .ok (.iload_n 1, 1) := by decide +kernel
theorem dX10_rain_1 : decode cX10_rain 1 = .ok (.iconst 0, 1) := by decide +kernel
theorem dX10_rain_2 : decode cX10_rain 2 = .ok (.bipush 99, 2) := by decide +kernel
theorem dX10_rain_4 : decode cX10_rain 4 = .ok (.invokestatic 60, 3) := by decide +kernel
theorem dX10_rain_7 : decode cX10_rain 7 = .ok (.ifCond .ne 6, 3) := by decide +kernel
theorem dX10_rain_10 : decode cX10_rain 10 = .ok (.ldc 70, 2) := by decide +kernel
theorem dX10_rain_12 : decode cX10_rain 12 = .ok (.ireturn, 1) := by decide +kernel
theorem dX10_rain_13 : decode cX10_rain 13 = .ok (.aload_n 0, 1) := by decide +kernel
theorem dX10_rain_14 : decode cX10_rain 14 = .ok (.getfield 57, 3) := by decide +kernel
theorem dX10_rain_17 : decode cX10_rain 17 = .ok (.ifCond .ne 8, 3) := by decide +kernel
theorem dX10_rain_20 : decode cX10_rain 20 = .ok (.ldc 196, 2) := by decide +kernel
theorem dX10_rain_22 : decode cX10_rain 22 = .ok (.goto 15, 3) := by decide +kernel
theorem dX10_rain_25 : decode cX10_rain 25 = .ok (.aload_n 0, 1) := by decide +kernel
theorem dX10_rain_26 : decode cX10_rain 26 = .ok (.aload_n 0, 1) := by decide +kernel
theorem dX10_rain_27 : decode cX10_rain 27 = .ok (.getfield 32, 3) := by decide +kernel
theorem dX10_rain_30 : decode cX10_rain 30 = .ok (.iconst 1, 1) := by decide +kernel
theorem dX10_rain_31 : decode cX10_rain 31 = .ok (.iaload, 1) := by decide +kernel
theorem dX10_rain_32 : decode cX10_rain 32 = .ok (.iload_n 1, 1) := by decide +kernel
theorem dX10_rain_33 : decode cX10_rain 33 = .ok (.iadd, 1) := by decide +kernel
theorem dX10_rain_34 : decode cX10_rain 34 = .ok (.invokevirtual 197, 3) := by decide +kernel
theorem dX10_rain_37 : decode cX10_rain 37 = .ok (.ireturn, 1) := by decide +kernel
theorem h_X10_rain : yX10_rain.cls ≠ "java/lang/invoke/MethodHandle" ∧ yX10_rain.cls ≠ "java/lang/invoke/VarHandle" ∧ (parseMethodDescriptor yX10_rain.desc).map (fun d => d.parameters.length) = some 1 := by decide +kernel
def mX10_rain (v_rooms : Int32) (v_rains : Nat) (v_now : Nat → Int32) (v_rain : Nat → Int32) (x1 : Int32) : Int32 := (if ((mX10_in x1 (nI 0) (nI 99))) = 0 then (-1000000002 : Int32) else (if v_rooms = 0 then (-1000000003 : Int32) else (mX10_rainAt v_rains v_rain ((v_now 1).toNatClampNeg + x1.toNatClampNeg))))
set_option maxHeartbeats 4000000 in
set_option maxRecDepth 100000 in
theorem kX10_rain (l : Launch) (dC : Nat → ClassId) (dI : Nat → Nat → Nat) (cA cZ : ClassId) (a_this a_this_text a_this_readRain a_this_readDoor a_this_readPerson a_this_rain a_this_door a_this_now a_this_tried a_this_backOf a_this_image a_this_imageSeed a_this_isKept a_this_sight a_this_entry : Nat) (v_letters : Nat) (v_position : Nat) (v_tokenAt : Nat) (v_token : Int32) (v_number : Int32) (v_figures : Nat) (v_faultAt : Int32) (v_faultIs : Int32) (v_readRooms : Int32) (v_readStore : Int32) (v_readRains : Nat) (v_readDoors : Nat) (v_readPersons : Nat) (v_rooms : Int32) (v_rains : Nat) (v_doors : Nat) (v_persons : Nat) (v_backs : Nat) (v_seed : Int32) (v_seen : Nat) (v_entries : Nat) (v_now : Nat → Int32) (v_rain : Nat → Int32) (x1 : Int32) (hR : v_rains ≤ 12) (hH : hoursOK v_now 100000) : Met l yX10_rain (Cond.code yX10_rain cX10_rain 2 (some .int) :: wt) ({ frames := 1, cells := 0, slots := 0, locals := 22 } : Room) (va_Pc [.ref a_this, .int x1] (PreP (dC, dI) [(cA, .int), (cZ, .boolean)] [(a_this, .inr (10, [.int (nI v_letters), .ref a_this_text, .int (nI v_position), .int (nI v_tokenAt), .int v_token, .int v_number, .int (nI v_figures), .int v_faultAt, .int v_faultIs, .int v_readRooms, .int v_readStore, .int (nI v_readRains), .int (nI v_readDoors), .int (nI v_readPersons), .ref a_this_readRain, .ref a_this_readDoor, .ref a_this_readPerson, .int v_rooms, .int (nI v_rains), .int (nI v_doors), .int (nI v_persons), .ref a_this_rain, .ref a_this_door, .ref a_this_now, .ref a_this_tried, .ref a_this_backOf, .int (nI v_backs), .ref a_this_image, .ref a_this_imageSeed, .ref a_this_isKept, .int v_seed, .int (nI v_seen), .ref a_this_sight, .int (nI v_entries), .ref a_this_entry])), (a_this_now, .inl (cA, 35, .inl v_now)), (a_this_rain, .inl (cA, 12, .inl v_rain))])) (vp_Si (fun r => r = (mX10_rain v_rooms v_rains v_now v_rain x1))) 0 0 (fun _ => False) := by
  refine Met.ofW (cc := cX10_rain) (maxL := 2) (ret := (some .int)) (by decide) rfl ?_
  intro p e s m args below meth c s₁ B hml hv
  obtain ⟨ha, hP, hK⟩ := hv
  have hx := B.exec
  have hb := B.bytes
  have hr := B.returns
  have ht : ∀ w ∈ wt, w.before args s = true := fun w h => atoms_spec (ws := (Cond.code yX10_rain cX10_rain 2 (some .int) :: wt)) B.pre w (List.mem_cons_of_mem _ h)
  have hown : s.vm.findClass RX10 = some m.cls := findClass_of_methodNamed B.named
  have hlocks := B.notSynchronized
  have hl := lv_entry ([.ref a_this, .int x1]) (n := 2) (Nat.le_of_ble_eq_true rfl)
  rw [show entryFrame m args 2 = _ from (congrArg (fun a => entryFrame m a 2) ha).trans (lg_entry_eq m [.ref a_this, .int x1] 2)]
  generalize (lg_sl ([.ref a_this, .int x1]) ++ List.replicate (2 - (lg_sl ([.ref a_this, .int x1])).length) Slot.unset).toArray = ls at hl ⊢
  have hl : lv_has ls 2 [(0, .ref a_this), (1, .int x1)] := hl
  have hm : (if ((mX10_in x1 (nI 0) (nI 99))) = 0 then (-1000000002 : Int32) else (if v_rooms = 0 then (-1000000003 : Int32) else (mX10_rainAt v_rains v_rain ((v_now 1).toNatClampNeg + x1.toNatClampNeg)))) = (mX10_rain v_rooms v_rains v_now v_rain x1) := rfl
  refine lv_iload_n hx hb dX10_rain_0 rfl (lv_at hl 1 rfl) ?_
  refine lv_iconst (v := nI 0) hx hb dX10_rain_1 (by decide) ?_
  refine lv_bipush (v := nI 99) hx hb dX10_rain_2 (by decide) ?_
  refine pv_call (v := (mX10_in x1 (nI 0) (nI 99))) (va_runS (As := [.int x1, .int (nI 0), .int (nI 99)]) (rest := []) ⟨hx, hb, hml, hown, ht⟩ (kX10_in l dC dI cA cZ x1 (nI 0) (nI 99)) (va_cwS 3 ht (gi_S w_5_74 w_5_75 w_1_12 (gi_code w_5_76)) rfl rfl rfl h_X10_in ⟨Nat.le_of_ble_eq_true rfl, Nat.le_of_ble_eq_true rfl⟩) ⟨pp_blind, pp_use (ws := []) (fun _ _ h => by cases h) hK⟩ rfl rfl hl.1 rfl (lv_room (Nat.le_of_ble_eq_true rfl)) dX10_rain_4 ⟨Nat.zero_le _, Nat.zero_le _⟩) ?_
  refine lv_if_ne (tgt := 13) hx hb dX10_rain_7 (by decide) (fun c_1 => ?_) (fun c_1 => ?_)
  · have hm := (if_neg c_1).symm.trans hm
    obtain ⟨hj1, hx1⟩ := in_nat (by omega) c_1
    have hl : lv_has ls 2 [(0, .ref a_this), (1, .int (nI x1.toNatClampNeg))] := by rw [← hx1]; exact hl
    refine lv_aload_n hx hb dX10_rain_13 rfl (lv_at hl 0 rfl) ?_
    refine va_get (D := (dC, dI)) (ci := 10) (v := .int v_rooms) (C := RX10) (T := TX10) (N := 35) hx hb ht iX10 hown hK.1 hP 0 rfl rfl 17 (by decide) (ht _ w_4_220) (fun _ h9 => h9) rfl dX10_rain_14 ?_
    refine lv_if_ne (tgt := 25) hx hb dX10_rain_17 (by decide) (fun c_2 => ?_) (fun c_2 => ?_)
    · have hm := (if_neg c_2).symm.trans hm
      refine lv_aload_n hx hb dX10_rain_25 rfl (lv_at hl 0 rfl) ?_
      refine lv_aload_n hx hb dX10_rain_26 rfl (lv_at hl 0 rfl) ?_
      refine va_get (D := (dC, dI)) (ci := 10) (v := .ref a_this_now) (C := RX10) (T := TX10) (N := 35) hx hb ht iX10 hown hK.1 hP 0 rfl rfl 23 (by decide) (ht _ w_4_226) (fun _ h9 => h9) rfl dX10_rain_27 ?_
      refine lv_iconst (v := nI 1) hx hb dX10_rain_30 (by decide) ?_
      refine nv_iald (e := 1) (by omega) (by omega) hx hb hK.1 hP 1 0 rfl rfl dX10_rain_31 ?_
      refine lv_topi (fun x ex => ?_)
      obtain rfl : x = nI ((v_now 1).toNatClampNeg) := ex.trans (hH.1)
      refine lv_iload_n hx hb dX10_rain_32 rfl (lv_at hl 1 rfl) ?_
      refine nv_iadd hx hb dX10_rain_33 ?_
      refine pv_call (v := (mX10_rainAt v_rains v_rain ((v_now 1).toNatClampNeg + x1.toNatClampNeg))) (va_runV (As := [.int (nI ((v_now 1).toNatClampNeg + x1.toNatClampNeg))]) (rest := []) ⟨hx, hb, hml, hown, ht⟩ (kX10_rainAt l dC dI cA cZ a_this a_this_text a_this_readRain a_this_readDoor a_this_readPerson a_this_rain a_this_door a_this_now a_this_tried a_this_backOf a_this_image a_this_imageSeed a_this_isKept a_this_sight a_this_entry v_letters v_position v_tokenAt v_token v_number v_figures v_faultAt v_faultIs v_readRooms v_readStore v_readRains v_readDoors v_readPersons v_rooms v_rains v_doors v_persons v_backs v_seed v_seen v_entries v_rain ((v_now 1).toNatClampNeg + x1.toNatClampNeg) (by omega) (by have := hH.2; omega)) (cwV 1 ht (gi_V (C := RX10) w_5_192 w_5_194 w_0_35 w_1_12 (gi_code w_5_195)) rfl rfl rfl ⟨rfl, h_X10_rainAt⟩ ⟨Nat.le_of_ble_eq_true rfl, Nat.le_of_ble_eq_true rfl⟩) ⟨pp_blind, va_recv hK.1 hP (ci := 10) (q0 := 0) rfl rfl, pp_use (pc_sub (wc := [(a_this, .inr (10, [.int (nI v_letters), .ref a_this_text, .int (nI v_position), .int (nI v_tokenAt), .int v_token, .int v_number, .int (nI v_figures), .int v_faultAt, .int v_faultIs, .int v_readRooms, .int v_readStore, .int (nI v_readRains), .int (nI v_readDoors), .int (nI v_readPersons), .ref a_this_readRain, .ref a_this_readDoor, .ref a_this_readPerson, .int v_rooms, .int (nI v_rains), .int (nI v_doors), .int (nI v_persons), .ref a_this_rain, .ref a_this_door, .ref a_this_now, .ref a_this_tried, .ref a_this_backOf, .int (nI v_backs), .ref a_this_image, .ref a_this_imageSeed, .ref a_this_isKept, .int v_seed, .int (nI v_seen), .ref a_this_sight, .int (nI v_entries), .ref a_this_entry])), (a_this_rain, .inl (cA, 12, .inl v_rain))]) hP [0, 2] rfl) hK⟩ rfl rfl hl.1 rfl (lv_room (Nat.le_of_ble_eq_true rfl)) dX10_rain_34 ⟨Nat.zero_le _, Nat.zero_le _⟩) ?_
      exact W.iret (v := (mX10_rainAt v_rains v_rain ((v_now 1).toNatClampNeg + x1.toNatClampNeg))) hx hb hr (fun t ht9 _ => ⟨_, rfl, hm, ht9⟩) (fun q hq => absurd hq List.not_mem_nil) dX10_rain_37
    · have hm := (if_pos c_2).symm.trans hm
      refine lv_ldc (v := (-1000000003 : Int32)) hx hb hown (ht _ w_5_191) dX10_rain_20 ?_
      refine lv_goto (tgt := 37) hx hb dX10_rain_22 (by decide) ?_
      exact W.iret (v := (-1000000003 : Int32)) hx hb hr (fun t ht9 _ => ⟨_, rfl, hm, ht9⟩) (fun q hq => absurd hq List.not_mem_nil) dX10_rain_37
  · have hm := (if_pos c_1).symm.trans hm
    refine lv_ldc (v := (-1000000002 : Int32)) hx hb hown (ht _ w_5_77) dX10_rain_10 ?_
    exact W.iret (v := (-1000000002 : Int32)) hx hb hr (fun t ht9 _ => ⟨_, rfl, hm, ht9⟩) (fun q hq => absurd hq List.not_mem_nil) dX10_rain_12
theorem dX10_note_0 : decode cX10_note 0 = .ok (.aload_n 0, 1) := by decide +kernel
theorem dX10_note_1 : decode cX10_note 1 = .ok (.getfield 151, 3) := by decide +kernel
theorem dX10_note_4 : decode cX10_note 4 = .ok (.bipush 30, 2) := by decide +kernel
theorem dX10_note_6 : decode cX10_note 6 = .ok (.if_icmp .ne 30, 3) := by decide +kernel
theorem dX10_note_9 : decode cX10_note 9 = .ok (.aload_n 0, 1) := by decide +kernel
theorem dX10_note_10 : decode cX10_note 10 = .ok (.getfield 38, 3) := by decide +kernel
theorem dX10_note_13 : decode cX10_note 13 = .ok (.bipush 35, 2) := by decide +kernel
theorem dX10_note_15 : decode cX10_note 15 = .ok (.aload_n 0, 1) := by decide +kernel
theorem dX10_note_16 : decode cX10_note 16 = .ok (.getfield 38, 3) := by decide +kernel
theorem dX10_note_19 : decode cX10_note 19 = .ok (.iconst 0, 1) := by decide +kernel
theorem dX10_note_20 : decode cX10_note 20 = .ok (.sipush 1015, 3) := by decide +kernel
theorem dX10_note_23 : decode cX10_note 23 = .ok (.invokestatic 141, 3) := by decide +kernel
theorem dX10_note_26 : decode cX10_note 26 = .ok (.aload_n 0, 1) := by decide +kernel
theorem dX10_note_27 : decode cX10_note 27 = .ok (.dup, 1) := by decide +kernel
theorem dX10_note_28 : decode cX10_note 28 = .ok (.getfield 151, 3) := by decide +kernel
theorem dX10_note_31 : decode cX10_note 31 = .ok (.iconst 1, 1) := by decide +kernel
theorem dX10_note_32 : decode cX10_note 32 = .ok (.isub, 1) := by decide +kernel
theorem dX10_note_33 : decode cX10_note 33 = .ok (.putfield 151, 3) := by decide +kernel
theorem dX10_note_36 : decode cX10_note 36 = .ok (.aload_n 0, 1) := by decide +kernel
theorem dX10_note_37 : decode cX10_note 37 = .ok (.getfield 32, 3) := by decide +kernel
theorem dX10_note_40 : decode cX10_note 40 = .ok (.iconst 0, 1) := by decide +kernel
theorem dX10_note_41 : decode cX10_note 41 = .ok (.aload_n 0, 1) := by decide +kernel
theorem dX10_note_42 : decode cX10_note 42 = .ok (.getfield 38, 3) := by decide +kernel
theorem dX10_note_45 : decode cX10_note 45 = .ok (.bipush 35, 2) := by decide +kernel
theorem dX10_note_47 : decode cX10_note 47 = .ok (.aload_n 0, 1) := by decide +kernel
theorem dX10_note_48 : decode cX10_note 48 = .ok (.getfield 151, 3) := by decide +kernel
theorem dX10_note_51 : decode cX10_note 51 = .ok (.imul, 1) := by decide +kernel
theorem dX10_note_52 : decode cX10_note 52 = .ok (.bipush 35, 2) := by decide +kernel
theorem dX10_note_54 : decode cX10_note 54 = .ok (.invokestatic 141, 3) := by decide +kernel
theorem dX10_note_57 : decode cX10_note 57 = .ok (.aload_n 0, 1) := by decide +kernel
theorem dX10_note_58 : decode cX10_note 58 = .ok (.dup, 1) := by decide +kernel
theorem dX10_note_59 : decode cX10_note 59 = .ok (.getfield 151, 3) := by decide +kernel
theorem dX10_note_62 : decode cX10_note 62 = .ok (.iconst 1, 1) := by decide +kernel
theorem dX10_note_63 : decode cX10_note 63 = .ok (.iadd, 1) := by decide +kernel
theorem dX10_note_64 : decode cX10_note 64 = .ok (.putfield 151, 3) := by decide +kernel
theorem dX10_note_67 : decode cX10_note 67 = .ok (.return_, 1) := by decide +kernel
theorem h_X10_note : yX10_note.cls ≠ "java/lang/invoke/MethodHandle" ∧ yX10_note.cls ≠ "java/lang/invoke/VarHandle" ∧ (parseMethodDescriptor yX10_note.desc).map (fun d => d.parameters.length) = some 0 := by decide +kernel
def mX10_note (v_backs : Nat) (v_backOf : Nat → Int32) (v_now : Nat → Int32) : Nat × (Nat → Int32) := (if (nI v_backs) = (nI 30) then (v_backs - 1 + 1, (mX10_bring v_now ((mX10_bringS v_backOf 35 0 1015)) 0 (35 * (v_backs - 1)) 35)) else (v_backs + 1, (mX10_bring v_now v_backOf 0 (35 * v_backs) 35)))
set_option maxHeartbeats 4000000 in
set_option maxRecDepth 100000 in
theorem kX10_note (l : Launch) (dC : Nat → ClassId) (dI : Nat → Nat → Nat) (cA cZ : ClassId) (a_this a_this_text a_this_readRain a_this_readDoor a_this_readPerson a_this_rain a_this_door a_this_now a_this_tried a_this_backOf a_this_image a_this_imageSeed a_this_isKept a_this_sight a_this_entry : Nat) (v_letters : Nat) (v_position : Nat) (v_tokenAt : Nat) (v_token : Int32) (v_number : Int32) (v_figures : Nat) (v_faultAt : Int32) (v_faultIs : Int32) (v_readRooms : Int32) (v_readStore : Int32) (v_readRains : Nat) (v_readDoors : Nat) (v_readPersons : Nat) (v_rooms : Int32) (v_rains : Nat) (v_doors : Nat) (v_persons : Nat) (v_backs : Nat) (v_seed : Int32) (v_seen : Nat) (v_entries : Nat) (v_backOf : Nat → Int32) (v_now : Nat → Int32) (hB : v_backs ≤ 30) (sz : Nat) : Met l yX10_note (Cond.code yX10_note cX10_note 1 none :: wt) ({ frames := 1, cells := 0, slots := 0, locals := 25 } : Room) (va_Pc [.ref a_this] (PreM (dC, dI) [(cA, .int), (cZ, .boolean)] sz [(a_this, .inr (10, [.int (nI v_letters), .ref a_this_text, .int (nI v_position), .int (nI v_tokenAt), .int v_token, .int v_number, .int (nI v_figures), .int v_faultAt, .int v_faultIs, .int v_readRooms, .int v_readStore, .int (nI v_readRains), .int (nI v_readDoors), .int (nI v_readPersons), .ref a_this_readRain, .ref a_this_readDoor, .ref a_this_readPerson, .int v_rooms, .int (nI v_rains), .int (nI v_doors), .int (nI v_persons), .ref a_this_rain, .ref a_this_door, .ref a_this_now, .ref a_this_tried, .ref a_this_backOf, .int (nI v_backs), .ref a_this_image, .ref a_this_imageSeed, .ref a_this_isKept, .int v_seed, .int (nI v_seen), .ref a_this_sight, .int (nI v_entries), .ref a_this_entry])), (a_this_backOf, .inl (cA, 1050, .inl v_backOf)), (a_this_now, .inl (cA, 35, .inl v_now))])) (PoV (dC, dI) sz [(a_this, .inr (10, [.int (nI v_letters), .ref a_this_text, .int (nI v_position), .int (nI v_tokenAt), .int v_token, .int v_number, .int (nI v_figures), .int v_faultAt, .int v_faultIs, .int v_readRooms, .int v_readStore, .int (nI v_readRains), .int (nI v_readDoors), .int (nI v_readPersons), .ref a_this_readRain, .ref a_this_readDoor, .ref a_this_readPerson, .int v_rooms, .int (nI v_rains), .int (nI v_doors), .int (nI v_persons), .ref a_this_rain, .ref a_this_door, .ref a_this_now, .ref a_this_tried, .ref a_this_backOf, .int (nI v_backs), .ref a_this_image, .ref a_this_imageSeed, .ref a_this_isKept, .int v_seed, .int (nI v_seen), .ref a_this_sight, .int (nI v_entries), .ref a_this_entry])), (a_this_backOf, .inl (cA, 1050, .inl v_backOf)), (a_this_now, .inl (cA, 35, .inl v_now))] [(a_this, .inr (10, [.int (nI v_letters), .ref a_this_text, .int (nI v_position), .int (nI v_tokenAt), .int v_token, .int v_number, .int (nI v_figures), .int v_faultAt, .int v_faultIs, .int v_readRooms, .int v_readStore, .int (nI v_readRains), .int (nI v_readDoors), .int (nI v_readPersons), .ref a_this_readRain, .ref a_this_readDoor, .ref a_this_readPerson, .int v_rooms, .int (nI v_rains), .int (nI v_doors), .int (nI v_persons), .ref a_this_rain, .ref a_this_door, .ref a_this_now, .ref a_this_tried, .ref a_this_backOf, .int (nI (((mX10_note v_backs v_backOf v_now)).1)), .ref a_this_image, .ref a_this_imageSeed, .ref a_this_isKept, .int v_seed, .int (nI v_seen), .ref a_this_sight, .int (nI v_entries), .ref a_this_entry])), (a_this_backOf, .inl (cA, 1050, .inl (((mX10_note v_backs v_backOf v_now)).2))), (a_this_now, .inl (cA, 35, .inl v_now))]) 0 0 (va_A [(a_this, .inr (10, [.int (nI v_letters), .ref a_this_text, .int (nI v_position), .int (nI v_tokenAt), .int v_token, .int v_number, .int (nI v_figures), .int v_faultAt, .int v_faultIs, .int v_readRooms, .int v_readStore, .int (nI v_readRains), .int (nI v_readDoors), .int (nI v_readPersons), .ref a_this_readRain, .ref a_this_readDoor, .ref a_this_readPerson, .int v_rooms, .int (nI v_rains), .int (nI v_doors), .int (nI v_persons), .ref a_this_rain, .ref a_this_door, .ref a_this_now, .ref a_this_tried, .ref a_this_backOf, .int (nI v_backs), .ref a_this_image, .ref a_this_imageSeed, .ref a_this_isKept, .int v_seed, .int (nI v_seen), .ref a_this_sight, .int (nI v_entries), .ref a_this_entry])), (a_this_backOf, .inl (cA, 1050, .inl v_backOf)), (a_this_now, .inl (cA, 35, .inl v_now))] sz) := by
  refine Met.ofW (cc := cX10_note) (maxL := 1) (ret := none) (by decide) rfl ?_
  intro p e s m args below meth c s₁ B hml hv
  obtain ⟨ha, hsz, hP, hK, hD0⟩ := hv
  have hx := B.exec
  have hb := B.bytes
  have hr := B.returns
  have ht : ∀ w ∈ wt, w.before args s = true := fun w h => atoms_spec (ws := (Cond.code yX10_note cX10_note 1 none :: wt)) B.pre w (List.mem_cons_of_mem _ h)
  have hown : s.vm.findClass RX10 = some m.cls := findClass_of_methodNamed B.named
  have hlocks := B.notSynchronized
  subst hsz
  have hD := hD0.self (sz := s.heap.size)
  have hA : ∀ q : Nat, s.heap.size ≤ q → va_A [(a_this, .inr (10, [.int (nI v_letters), .ref a_this_text, .int (nI v_position), .int (nI v_tokenAt), .int v_token, .int v_number, .int (nI v_figures), .int v_faultAt, .int v_faultIs, .int v_readRooms, .int v_readStore, .int (nI v_readRains), .int (nI v_readDoors), .int (nI v_readPersons), .ref a_this_readRain, .ref a_this_readDoor, .ref a_this_readPerson, .int v_rooms, .int (nI v_rains), .int (nI v_doors), .int (nI v_persons), .ref a_this_rain, .ref a_this_door, .ref a_this_now, .ref a_this_tried, .ref a_this_backOf, .int (nI v_backs), .ref a_this_image, .ref a_this_imageSeed, .ref a_this_isKept, .int v_seed, .int (nI v_seen), .ref a_this_sight, .int (nI v_entries), .ref a_this_entry])), (a_this_backOf, .inl (cA, 1050, .inl v_backOf)), (a_this_now, .inl (cA, 35, .inl v_now))] s.heap.size q := fun q h => Or.inr h
  have hS : va_S (va_A [(a_this, .inr (10, [.int (nI v_letters), .ref a_this_text, .int (nI v_position), .int (nI v_tokenAt), .int v_token, .int v_number, .int (nI v_figures), .int v_faultAt, .int v_faultIs, .int v_readRooms, .int v_readStore, .int (nI v_readRains), .int (nI v_readDoors), .int (nI v_readPersons), .ref a_this_readRain, .ref a_this_readDoor, .ref a_this_readPerson, .int v_rooms, .int (nI v_rains), .int (nI v_doors), .int (nI v_persons), .ref a_this_rain, .ref a_this_door, .ref a_this_now, .ref a_this_tried, .ref a_this_backOf, .int (nI v_backs), .ref a_this_image, .ref a_this_imageSeed, .ref a_this_isKept, .int v_seed, .int (nI v_seen), .ref a_this_sight, .int (nI v_entries), .ref a_this_entry])), (a_this_backOf, .inl (cA, 1050, .inl v_backOf)), (a_this_now, .inl (cA, 35, .inl v_now))] s.heap.size) s.heap s.heap [] := va_S.rf
  have hl := lv_entry ([.ref a_this]) (n := 1) (Nat.le_of_ble_eq_true rfl)
  rw [show entryFrame m args 1 = _ from (congrArg (fun a => entryFrame m a 1) ha).trans (lg_entry_eq m [.ref a_this] 1)]
  generalize (lg_sl ([.ref a_this]) ++ List.replicate (1 - (lg_sl ([.ref a_this])).length) Slot.unset).toArray = ls at hl ⊢
  have hl : lv_has ls 1 [(0, .ref a_this)] := hl
  have hm : (if (nI v_backs) = (nI 30) then (v_backs - 1 + 1, (mX10_bring v_now ((mX10_bringS v_backOf 35 0 1015)) 0 (35 * (v_backs - 1)) 35)) else (v_backs + 1, (mX10_bring v_now v_backOf 0 (35 * v_backs) 35))) = (mX10_note v_backs v_backOf v_now) := rfl
  refine lv_aload_n hx hb dX10_note_0 rfl (lv_at hl 0 rfl) ?_
  refine va_get (D := (dC, dI)) (ci := 10) (v := .int (nI v_backs)) (C := RX10) (T := TX10) (N := 35) hx hb ht iX10 hown hK.1 hP 0 rfl rfl 26 (by decide) (ht _ w_4_229) (fun _ h9 => h9) rfl dX10_note_1 ?_
  refine lv_bipush (v := nI 30) hx hb dX10_note_4 (by decide) ?_
  refine lv_icmp_ne (tgt := 36) hx hb dX10_note_6 (by decide) (fun c_1 => ?_) (fun c_1 => ?_)
  · have hm := (if_neg c_1).symm.trans hm
    have hne := ne_nI c_1
    refine lv_aload_n hx hb dX10_note_36 rfl (lv_at hl 0 rfl) ?_
    refine va_get (D := (dC, dI)) (ci := 10) (v := .ref a_this_now) (C := RX10) (T := TX10) (N := 35) hx hb ht iX10 hown hK.1 hP 0 rfl rfl 23 (by decide) (ht _ w_4_226) (fun _ h9 => h9) rfl dX10_note_37 ?_
    refine lv_iconst (v := nI 0) hx hb dX10_note_40 (by decide) ?_
    refine lv_aload_n hx hb dX10_note_41 rfl (lv_at hl 0 rfl) ?_
    refine va_get (D := (dC, dI)) (ci := 10) (v := .ref a_this_backOf) (C := RX10) (T := TX10) (N := 35) hx hb ht iX10 hown hK.1 hP 0 rfl rfl 25 (by decide) (ht _ w_4_228) (fun _ h9 => h9) rfl dX10_note_42 ?_
    refine lv_bipush (v := nI 35) hx hb dX10_note_45 (by decide) ?_
    refine lv_aload_n hx hb dX10_note_47 rfl (lv_at hl 0 rfl) ?_
    refine va_get (D := (dC, dI)) (ci := 10) (v := .int (nI v_backs)) (C := RX10) (T := TX10) (N := 35) hx hb ht iX10 hown hK.1 hP 0 rfl rfl 26 (by decide) (ht _ w_4_229) (fun _ h9 => h9) rfl dX10_note_48 ?_
    refine nv_imul hx hb dX10_note_51 ?_
    refine lv_bipush (v := nI 35) hx hb dX10_note_52 (by decide) ?_
    have hPc := pc_sub (wc := [(a_this_now, .inl (cA, 35, .inl v_now)), (a_this_backOf, .inl (cA, 1050, .inl v_backOf))]) hP [2, 1] rfl
    have hDc := hD.sub (ws' := [(a_this_now, .inl (cA, 35, .inl v_now)), (a_this_backOf, .inl (cA, 1050, .inl v_backOf))]) [2, 1] (by decide) rfl
    refine mv_callv (wc := [(a_this_now, .inl (cA, 35, .inl v_now)), (a_this_backOf, .inl (cA, 1050, .inl v_backOf))]) (wr := [(a_this, .inr (10, [.int (nI v_letters), .ref a_this_text, .int (nI v_position), .int (nI v_tokenAt), .int v_token, .int v_number, .int (nI v_figures), .int v_faultAt, .int v_faultIs, .int v_readRooms, .int v_readStore, .int (nI v_readRains), .int (nI v_readDoors), .int (nI v_readPersons), .ref a_this_readRain, .ref a_this_readDoor, .ref a_this_readPerson, .int v_rooms, .int (nI v_rains), .int (nI v_doors), .int (nI v_persons), .ref a_this_rain, .ref a_this_door, .ref a_this_now, .ref a_this_tried, .ref a_this_backOf, .int (nI v_backs), .ref a_this_image, .ref a_this_imageSeed, .ref a_this_isKept, .int v_seed, .int (nI v_seen), .ref a_this_sight, .int (nI v_entries), .ref a_this_entry]))]) (w1 := [(a_this_now, .inl (cA, 35, .inl v_now)), (a_this_backOf, .inl (cA, 1050, .inl ((mX10_bring v_now v_backOf 0 (35 * v_backs) 35))))]) [2, 1] [0] hP hD hS hA rfl rfl (by decide) (by decide) (va_runS (As := [.ref a_this_now, .int (nI 0), .ref a_this_backOf, .int (nI (35 * v_backs)), .int (nI 35)]) (rest := []) ⟨hx, hb, hml, hown, ht⟩ (kX10_bring l dC dI cA cZ a_this_now a_this_backOf 35 1050 v_now v_backOf 0 (35 * v_backs) 35 (by decide) (by decide) (by omega) (by omega) s.heap.size) (va_cwS 5 ht (gi_S w_5_119 w_5_120 w_1_12 (gi_code w_5_121)) rfl rfl rfl h_X10_bring ⟨Nat.le_of_ble_eq_true rfl, Nat.le_of_ble_eq_true rfl⟩) ⟨pm_blind, pm_use hPc hK hDc⟩ rfl rfl hl.1 rfl (lv_room (Nat.le_of_ble_eq_true rfl)) dX10_note_54 ⟨Nat.zero_le _, Nat.zero_le _⟩) (fun H locs hP hD hS => ?_)
    have hP : va_P (dC, dI) vwCl [(a_this, .inr (10, [.int (nI v_letters), .ref a_this_text, .int (nI v_position), .int (nI v_tokenAt), .int v_token, .int v_number, .int (nI v_figures), .int v_faultAt, .int v_faultIs, .int v_readRooms, .int v_readStore, .int (nI v_readRains), .int (nI v_readDoors), .int (nI v_readPersons), .ref a_this_readRain, .ref a_this_readDoor, .ref a_this_readPerson, .int v_rooms, .int (nI v_rains), .int (nI v_doors), .int (nI v_persons), .ref a_this_rain, .ref a_this_door, .ref a_this_now, .ref a_this_tried, .ref a_this_backOf, .int (nI v_backs), .ref a_this_image, .ref a_this_imageSeed, .ref a_this_isKept, .int v_seed, .int (nI v_seen), .ref a_this_sight, .int (nI v_entries), .ref a_this_entry])), (a_this_now, .inl (cA, 35, .inl v_now)), (a_this_backOf, .inl (cA, 1050, .inl ((mX10_bring v_now v_backOf 0 (35 * v_backs) 35))))] H := hP
    have hD : va_D (va_A [(a_this, .inr (10, [.int (nI v_letters), .ref a_this_text, .int (nI v_position), .int (nI v_tokenAt), .int v_token, .int v_number, .int (nI v_figures), .int v_faultAt, .int v_faultIs, .int v_readRooms, .int v_readStore, .int (nI v_readRains), .int (nI v_readDoors), .int (nI v_readPersons), .ref a_this_readRain, .ref a_this_readDoor, .ref a_this_readPerson, .int v_rooms, .int (nI v_rains), .int (nI v_doors), .int (nI v_persons), .ref a_this_rain, .ref a_this_door, .ref a_this_now, .ref a_this_tried, .ref a_this_backOf, .int (nI v_backs), .ref a_this_image, .ref a_this_imageSeed, .ref a_this_isKept, .int v_seed, .int (nI v_seen), .ref a_this_sight, .int (nI v_entries), .ref a_this_entry])), (a_this_backOf, .inl (cA, 1050, .inl v_backOf)), (a_this_now, .inl (cA, 35, .inl v_now))] s.heap.size) [(a_this, .inr (10, [.int (nI v_letters), .ref a_this_text, .int (nI v_position), .int (nI v_tokenAt), .int v_token, .int v_number, .int (nI v_figures), .int v_faultAt, .int v_faultIs, .int v_readRooms, .int v_readStore, .int (nI v_readRains), .int (nI v_readDoors), .int (nI v_readPersons), .ref a_this_readRain, .ref a_this_readDoor, .ref a_this_readPerson, .int v_rooms, .int (nI v_rains), .int (nI v_doors), .int (nI v_persons), .ref a_this_rain, .ref a_this_door, .ref a_this_now, .ref a_this_tried, .ref a_this_backOf, .int (nI v_backs), .ref a_this_image, .ref a_this_imageSeed, .ref a_this_isKept, .int v_seed, .int (nI v_seen), .ref a_this_sight, .int (nI v_entries), .ref a_this_entry])), (a_this_now, .inl (cA, 35, .inl v_now)), (a_this_backOf, .inl (cA, 1050, .inl ((mX10_bring v_now v_backOf 0 (35 * v_backs) 35))))] := hD
    refine lv_aload_n hx hb dX10_note_57 rfl (lv_at hl 0 rfl) ?_
    refine lv_dup hx hb dX10_note_58 rfl ?_
    refine va_get (D := (dC, dI)) (ci := 10) (v := .int (nI v_backs)) (C := RX10) (T := TX10) (N := 35) hx hb ht iX10 hown hK.1 hP 0 rfl rfl 26 (by decide) (ht _ w_4_229) (fun _ h9 => h9) rfl dX10_note_59 ?_
    refine lv_iconst (v := nI 1) hx hb dX10_note_62 (by decide) ?_
    refine nv_iadd hx hb dX10_note_63 ?_
    refine va_put (D := (dC, dI)) (ci := 10) (v := .int (nI (v_backs + 1))) (ty := .int) (C := RX10) (T := TX10) (N := 35) hx hb ht iX10 tyX10 tyX10_ok nmX10 hown hK.1 hP hD hS 0 rfl rfl 26 (by decide) (ht _ w_4_229) (fun _ h9 => h9) rfl rfl rfl rfl (Nat.le_of_ble_eq_true rfl) dX10_note_64 (fun H locs hP hD hS => ?_)
    have hP : va_P (dC, dI) vwCl [(a_this, .inr (10, [.int (nI v_letters), .ref a_this_text, .int (nI v_position), .int (nI v_tokenAt), .int v_token, .int v_number, .int (nI v_figures), .int v_faultAt, .int v_faultIs, .int v_readRooms, .int v_readStore, .int (nI v_readRains), .int (nI v_readDoors), .int (nI v_readPersons), .ref a_this_readRain, .ref a_this_readDoor, .ref a_this_readPerson, .int v_rooms, .int (nI v_rains), .int (nI v_doors), .int (nI v_persons), .ref a_this_rain, .ref a_this_door, .ref a_this_now, .ref a_this_tried, .ref a_this_backOf, .int (nI (v_backs + 1)), .ref a_this_image, .ref a_this_imageSeed, .ref a_this_isKept, .int v_seed, .int (nI v_seen), .ref a_this_sight, .int (nI v_entries), .ref a_this_entry])), (a_this_now, .inl (cA, 35, .inl v_now)), (a_this_backOf, .inl (cA, 1050, .inl ((mX10_bring v_now v_backOf 0 (35 * v_backs) 35))))] H := hP
    have hD : va_D (va_A [(a_this, .inr (10, [.int (nI v_letters), .ref a_this_text, .int (nI v_position), .int (nI v_tokenAt), .int v_token, .int v_number, .int (nI v_figures), .int v_faultAt, .int v_faultIs, .int v_readRooms, .int v_readStore, .int (nI v_readRains), .int (nI v_readDoors), .int (nI v_readPersons), .ref a_this_readRain, .ref a_this_readDoor, .ref a_this_readPerson, .int v_rooms, .int (nI v_rains), .int (nI v_doors), .int (nI v_persons), .ref a_this_rain, .ref a_this_door, .ref a_this_now, .ref a_this_tried, .ref a_this_backOf, .int (nI v_backs), .ref a_this_image, .ref a_this_imageSeed, .ref a_this_isKept, .int v_seed, .int (nI v_seen), .ref a_this_sight, .int (nI v_entries), .ref a_this_entry])), (a_this_backOf, .inl (cA, 1050, .inl v_backOf)), (a_this_now, .inl (cA, 35, .inl v_now))] s.heap.size) [(a_this, .inr (10, [.int (nI v_letters), .ref a_this_text, .int (nI v_position), .int (nI v_tokenAt), .int v_token, .int v_number, .int (nI v_figures), .int v_faultAt, .int v_faultIs, .int v_readRooms, .int v_readStore, .int (nI v_readRains), .int (nI v_readDoors), .int (nI v_readPersons), .ref a_this_readRain, .ref a_this_readDoor, .ref a_this_readPerson, .int v_rooms, .int (nI v_rains), .int (nI v_doors), .int (nI v_persons), .ref a_this_rain, .ref a_this_door, .ref a_this_now, .ref a_this_tried, .ref a_this_backOf, .int (nI (v_backs + 1)), .ref a_this_image, .ref a_this_imageSeed, .ref a_this_isKept, .int v_seed, .int (nI v_seen), .ref a_this_sight, .int (nI v_entries), .ref a_this_entry])), (a_this_now, .inl (cA, 35, .inl v_now)), (a_this_backOf, .inl (cA, 1050, .inl ((mX10_bring v_now v_backOf 0 (35 * v_backs) 35))))] := hD
    have hP9 := pc_sub (wc := [(a_this, .inr (10, [.int (nI v_letters), .ref a_this_text, .int (nI v_position), .int (nI v_tokenAt), .int v_token, .int v_number, .int (nI v_figures), .int v_faultAt, .int v_faultIs, .int v_readRooms, .int v_readStore, .int (nI v_readRains), .int (nI v_readDoors), .int (nI v_readPersons), .ref a_this_readRain, .ref a_this_readDoor, .ref a_this_readPerson, .int v_rooms, .int (nI v_rains), .int (nI v_doors), .int (nI v_persons), .ref a_this_rain, .ref a_this_door, .ref a_this_now, .ref a_this_tried, .ref a_this_backOf, .int (nI (v_backs + 1)), .ref a_this_image, .ref a_this_imageSeed, .ref a_this_isKept, .int v_seed, .int (nI v_seen), .ref a_this_sight, .int (nI v_entries), .ref a_this_entry])), (a_this_backOf, .inl (cA, 1050, .inl ((mX10_bring v_now v_backOf 0 (35 * v_backs) 35)))), (a_this_now, .inl (cA, 35, .inl v_now))]) hP [0, 2, 1] rfl
    have hD9 := hD.sub (ws' := [(a_this, .inr (10, [.int (nI v_letters), .ref a_this_text, .int (nI v_position), .int (nI v_tokenAt), .int v_token, .int v_number, .int (nI v_figures), .int v_faultAt, .int v_faultIs, .int v_readRooms, .int v_readStore, .int (nI v_readRains), .int (nI v_readDoors), .int (nI v_readPersons), .ref a_this_readRain, .ref a_this_readDoor, .ref a_this_readPerson, .int v_rooms, .int (nI v_rains), .int (nI v_doors), .int (nI v_persons), .ref a_this_rain, .ref a_this_door, .ref a_this_now, .ref a_this_tried, .ref a_this_backOf, .int (nI (v_backs + 1)), .ref a_this_image, .ref a_this_imageSeed, .ref a_this_isKept, .int v_seed, .int (nI v_seen), .ref a_this_sight, .int (nI v_entries), .ref a_this_entry])), (a_this_backOf, .inl (cA, 1050, .inl ((mX10_bring v_now v_backOf 0 (35 * v_backs) 35)))), (a_this_now, .inl (cA, 35, .inl v_now))]) [0, 2, 1] (by decide) rfl
    exact W.vret hx hb hr (fun t ht9 _ => by rw [← hm]; exact ⟨⟨(), rfl, trivial, by rw [ht9]; exact hP9, hD9⟩, hS.F ht9⟩) hS.2.2 dX10_note_67
  · have hm := (if_pos c_1).symm.trans hm
    have hb30 := (nI_eq (by omega) (by omega)).mp c_1
    refine lv_aload_n hx hb dX10_note_9 rfl (lv_at hl 0 rfl) ?_
    refine va_get (D := (dC, dI)) (ci := 10) (v := .ref a_this_backOf) (C := RX10) (T := TX10) (N := 35) hx hb ht iX10 hown hK.1 hP 0 rfl rfl 25 (by decide) (ht _ w_4_228) (fun _ h9 => h9) rfl dX10_note_10 ?_
    refine lv_bipush (v := nI 35) hx hb dX10_note_13 (by decide) ?_
    refine lv_aload_n hx hb dX10_note_15 rfl (lv_at hl 0 rfl) ?_
    refine va_get (D := (dC, dI)) (ci := 10) (v := .ref a_this_backOf) (C := RX10) (T := TX10) (N := 35) hx hb ht iX10 hown hK.1 hP 0 rfl rfl 25 (by decide) (ht _ w_4_228) (fun _ h9 => h9) rfl dX10_note_16 ?_
    refine lv_iconst (v := nI 0) hx hb dX10_note_19 (by decide) ?_
    refine lv_sipush (v := nI 1015) hx hb dX10_note_20 (by decide) ?_
    have hPc := pc_sub (wc := [(a_this_backOf, .inl (cA, 1050, .inl v_backOf))]) hP [1] rfl
    have hDc := hD.sub (ws' := [(a_this_backOf, .inl (cA, 1050, .inl v_backOf))]) [1] (by decide) rfl
    refine mv_callv (wc := [(a_this_backOf, .inl (cA, 1050, .inl v_backOf))]) (wr := [(a_this, .inr (10, [.int (nI v_letters), .ref a_this_text, .int (nI v_position), .int (nI v_tokenAt), .int v_token, .int v_number, .int (nI v_figures), .int v_faultAt, .int v_faultIs, .int v_readRooms, .int v_readStore, .int (nI v_readRains), .int (nI v_readDoors), .int (nI v_readPersons), .ref a_this_readRain, .ref a_this_readDoor, .ref a_this_readPerson, .int v_rooms, .int (nI v_rains), .int (nI v_doors), .int (nI v_persons), .ref a_this_rain, .ref a_this_door, .ref a_this_now, .ref a_this_tried, .ref a_this_backOf, .int (nI v_backs), .ref a_this_image, .ref a_this_imageSeed, .ref a_this_isKept, .int v_seed, .int (nI v_seen), .ref a_this_sight, .int (nI v_entries), .ref a_this_entry])), (a_this_now, .inl (cA, 35, .inl v_now))]) (w1 := [(a_this_backOf, .inl (cA, 1050, .inl ((mX10_bringS v_backOf 35 0 1015))))]) [1] [0, 2] hP hD hS hA rfl rfl (by decide) (by decide) (va_runS (As := [.ref a_this_backOf, .int (nI 35), .ref a_this_backOf, .int (nI 0), .int (nI 1015)]) (rest := []) ⟨hx, hb, hml, hown, ht⟩ (kX10_bringS l dC dI cA cZ a_this_backOf 1050 v_backOf 35 0 1015 (by decide) (by omega) (by omega) s.heap.size) (va_cwS 5 ht (gi_S w_5_119 w_5_120 w_1_12 (gi_code w_5_121)) rfl rfl rfl h_X10_bring ⟨Nat.le_of_ble_eq_true rfl, Nat.le_of_ble_eq_true rfl⟩) ⟨pm_blind, pm_use hPc hK hDc⟩ rfl rfl hl.1 rfl (lv_room (Nat.le_of_ble_eq_true rfl)) dX10_note_23 ⟨Nat.zero_le _, Nat.zero_le _⟩) (fun H locs hP hD hS => ?_)
    have hP : va_P (dC, dI) vwCl [(a_this, .inr (10, [.int (nI v_letters), .ref a_this_text, .int (nI v_position), .int (nI v_tokenAt), .int v_token, .int v_number, .int (nI v_figures), .int v_faultAt, .int v_faultIs, .int v_readRooms, .int v_readStore, .int (nI v_readRains), .int (nI v_readDoors), .int (nI v_readPersons), .ref a_this_readRain, .ref a_this_readDoor, .ref a_this_readPerson, .int v_rooms, .int (nI v_rains), .int (nI v_doors), .int (nI v_persons), .ref a_this_rain, .ref a_this_door, .ref a_this_now, .ref a_this_tried, .ref a_this_backOf, .int (nI v_backs), .ref a_this_image, .ref a_this_imageSeed, .ref a_this_isKept, .int v_seed, .int (nI v_seen), .ref a_this_sight, .int (nI v_entries), .ref a_this_entry])), (a_this_now, .inl (cA, 35, .inl v_now)), (a_this_backOf, .inl (cA, 1050, .inl ((mX10_bringS v_backOf 35 0 1015))))] H := hP
    have hD : va_D (va_A [(a_this, .inr (10, [.int (nI v_letters), .ref a_this_text, .int (nI v_position), .int (nI v_tokenAt), .int v_token, .int v_number, .int (nI v_figures), .int v_faultAt, .int v_faultIs, .int v_readRooms, .int v_readStore, .int (nI v_readRains), .int (nI v_readDoors), .int (nI v_readPersons), .ref a_this_readRain, .ref a_this_readDoor, .ref a_this_readPerson, .int v_rooms, .int (nI v_rains), .int (nI v_doors), .int (nI v_persons), .ref a_this_rain, .ref a_this_door, .ref a_this_now, .ref a_this_tried, .ref a_this_backOf, .int (nI v_backs), .ref a_this_image, .ref a_this_imageSeed, .ref a_this_isKept, .int v_seed, .int (nI v_seen), .ref a_this_sight, .int (nI v_entries), .ref a_this_entry])), (a_this_backOf, .inl (cA, 1050, .inl v_backOf)), (a_this_now, .inl (cA, 35, .inl v_now))] s.heap.size) [(a_this, .inr (10, [.int (nI v_letters), .ref a_this_text, .int (nI v_position), .int (nI v_tokenAt), .int v_token, .int v_number, .int (nI v_figures), .int v_faultAt, .int v_faultIs, .int v_readRooms, .int v_readStore, .int (nI v_readRains), .int (nI v_readDoors), .int (nI v_readPersons), .ref a_this_readRain, .ref a_this_readDoor, .ref a_this_readPerson, .int v_rooms, .int (nI v_rains), .int (nI v_doors), .int (nI v_persons), .ref a_this_rain, .ref a_this_door, .ref a_this_now, .ref a_this_tried, .ref a_this_backOf, .int (nI v_backs), .ref a_this_image, .ref a_this_imageSeed, .ref a_this_isKept, .int v_seed, .int (nI v_seen), .ref a_this_sight, .int (nI v_entries), .ref a_this_entry])), (a_this_now, .inl (cA, 35, .inl v_now)), (a_this_backOf, .inl (cA, 1050, .inl ((mX10_bringS v_backOf 35 0 1015))))] := hD
    refine lv_aload_n hx hb dX10_note_26 rfl (lv_at hl 0 rfl) ?_
    refine lv_dup hx hb dX10_note_27 rfl ?_
    refine va_get (D := (dC, dI)) (ci := 10) (v := .int (nI v_backs)) (C := RX10) (T := TX10) (N := 35) hx hb ht iX10 hown hK.1 hP 0 rfl rfl 26 (by decide) (ht _ w_4_229) (fun _ h9 => h9) rfl dX10_note_28 ?_
    refine lv_iconst (v := nI 1) hx hb dX10_note_31 (by decide) ?_
    refine nv_isub (by omega) hx hb dX10_note_32 ?_
    refine va_put (D := (dC, dI)) (ci := 10) (v := .int (nI (v_backs - 1))) (ty := .int) (C := RX10) (T := TX10) (N := 35) hx hb ht iX10 tyX10 tyX10_ok nmX10 hown hK.1 hP hD hS 0 rfl rfl 26 (by decide) (ht _ w_4_229) (fun _ h9 => h9) rfl rfl rfl rfl (Nat.le_of_ble_eq_true rfl) dX10_note_33 (fun H locs hP hD hS => ?_)
    have hP : va_P (dC, dI) vwCl [(a_this, .inr (10, [.int (nI v_letters), .ref a_this_text, .int (nI v_position), .int (nI v_tokenAt), .int v_token, .int v_number, .int (nI v_figures), .int v_faultAt, .int v_faultIs, .int v_readRooms, .int v_readStore, .int (nI v_readRains), .int (nI v_readDoors), .int (nI v_readPersons), .ref a_this_readRain, .ref a_this_readDoor, .ref a_this_readPerson, .int v_rooms, .int (nI v_rains), .int (nI v_doors), .int (nI v_persons), .ref a_this_rain, .ref a_this_door, .ref a_this_now, .ref a_this_tried, .ref a_this_backOf, .int (nI (v_backs - 1)), .ref a_this_image, .ref a_this_imageSeed, .ref a_this_isKept, .int v_seed, .int (nI v_seen), .ref a_this_sight, .int (nI v_entries), .ref a_this_entry])), (a_this_now, .inl (cA, 35, .inl v_now)), (a_this_backOf, .inl (cA, 1050, .inl ((mX10_bringS v_backOf 35 0 1015))))] H := hP
    have hD : va_D (va_A [(a_this, .inr (10, [.int (nI v_letters), .ref a_this_text, .int (nI v_position), .int (nI v_tokenAt), .int v_token, .int v_number, .int (nI v_figures), .int v_faultAt, .int v_faultIs, .int v_readRooms, .int v_readStore, .int (nI v_readRains), .int (nI v_readDoors), .int (nI v_readPersons), .ref a_this_readRain, .ref a_this_readDoor, .ref a_this_readPerson, .int v_rooms, .int (nI v_rains), .int (nI v_doors), .int (nI v_persons), .ref a_this_rain, .ref a_this_door, .ref a_this_now, .ref a_this_tried, .ref a_this_backOf, .int (nI v_backs), .ref a_this_image, .ref a_this_imageSeed, .ref a_this_isKept, .int v_seed, .int (nI v_seen), .ref a_this_sight, .int (nI v_entries), .ref a_this_entry])), (a_this_backOf, .inl (cA, 1050, .inl v_backOf)), (a_this_now, .inl (cA, 35, .inl v_now))] s.heap.size) [(a_this, .inr (10, [.int (nI v_letters), .ref a_this_text, .int (nI v_position), .int (nI v_tokenAt), .int v_token, .int v_number, .int (nI v_figures), .int v_faultAt, .int v_faultIs, .int v_readRooms, .int v_readStore, .int (nI v_readRains), .int (nI v_readDoors), .int (nI v_readPersons), .ref a_this_readRain, .ref a_this_readDoor, .ref a_this_readPerson, .int v_rooms, .int (nI v_rains), .int (nI v_doors), .int (nI v_persons), .ref a_this_rain, .ref a_this_door, .ref a_this_now, .ref a_this_tried, .ref a_this_backOf, .int (nI (v_backs - 1)), .ref a_this_image, .ref a_this_imageSeed, .ref a_this_isKept, .int v_seed, .int (nI v_seen), .ref a_this_sight, .int (nI v_entries), .ref a_this_entry])), (a_this_now, .inl (cA, 35, .inl v_now)), (a_this_backOf, .inl (cA, 1050, .inl ((mX10_bringS v_backOf 35 0 1015))))] := hD
    refine lv_aload_n hx hb dX10_note_36 rfl (lv_at hl 0 rfl) ?_
    refine va_get (D := (dC, dI)) (ci := 10) (v := .ref a_this_now) (C := RX10) (T := TX10) (N := 35) hx hb ht iX10 hown hK.1 hP 0 rfl rfl 23 (by decide) (ht _ w_4_226) (fun _ h9 => h9) rfl dX10_note_37 ?_
    refine lv_iconst (v := nI 0) hx hb dX10_note_40 (by decide) ?_
    refine lv_aload_n hx hb dX10_note_41 rfl (lv_at hl 0 rfl) ?_
    refine va_get (D := (dC, dI)) (ci := 10) (v := .ref a_this_backOf) (C := RX10) (T := TX10) (N := 35) hx hb ht iX10 hown hK.1 hP 0 rfl rfl 25 (by decide) (ht _ w_4_228) (fun _ h9 => h9) rfl dX10_note_42 ?_
    refine lv_bipush (v := nI 35) hx hb dX10_note_45 (by decide) ?_
    refine lv_aload_n hx hb dX10_note_47 rfl (lv_at hl 0 rfl) ?_
    refine va_get (D := (dC, dI)) (ci := 10) (v := .int (nI (v_backs - 1))) (C := RX10) (T := TX10) (N := 35) hx hb ht iX10 hown hK.1 hP 0 rfl rfl 26 (by decide) (ht _ w_4_229) (fun _ h9 => h9) rfl dX10_note_48 ?_
    refine nv_imul hx hb dX10_note_51 ?_
    refine lv_bipush (v := nI 35) hx hb dX10_note_52 (by decide) ?_
    have hPc := pc_sub (wc := [(a_this_now, .inl (cA, 35, .inl v_now)), (a_this_backOf, .inl (cA, 1050, .inl ((mX10_bringS v_backOf 35 0 1015))))]) hP [1, 2] rfl
    have hDc := hD.sub (ws' := [(a_this_now, .inl (cA, 35, .inl v_now)), (a_this_backOf, .inl (cA, 1050, .inl ((mX10_bringS v_backOf 35 0 1015))))]) [1, 2] (by decide) rfl
    refine mv_callv (wc := [(a_this_now, .inl (cA, 35, .inl v_now)), (a_this_backOf, .inl (cA, 1050, .inl ((mX10_bringS v_backOf 35 0 1015))))]) (wr := [(a_this, .inr (10, [.int (nI v_letters), .ref a_this_text, .int (nI v_position), .int (nI v_tokenAt), .int v_token, .int v_number, .int (nI v_figures), .int v_faultAt, .int v_faultIs, .int v_readRooms, .int v_readStore, .int (nI v_readRains), .int (nI v_readDoors), .int (nI v_readPersons), .ref a_this_readRain, .ref a_this_readDoor, .ref a_this_readPerson, .int v_rooms, .int (nI v_rains), .int (nI v_doors), .int (nI v_persons), .ref a_this_rain, .ref a_this_door, .ref a_this_now, .ref a_this_tried, .ref a_this_backOf, .int (nI (v_backs - 1)), .ref a_this_image, .ref a_this_imageSeed, .ref a_this_isKept, .int v_seed, .int (nI v_seen), .ref a_this_sight, .int (nI v_entries), .ref a_this_entry]))]) (w1 := [(a_this_now, .inl (cA, 35, .inl v_now)), (a_this_backOf, .inl (cA, 1050, .inl ((mX10_bring v_now ((mX10_bringS v_backOf 35 0 1015)) 0 (35 * (v_backs - 1)) 35))))]) [1, 2] [0] hP hD hS hA rfl rfl (by decide) (by decide) (va_runS (As := [.ref a_this_now, .int (nI 0), .ref a_this_backOf, .int (nI (35 * (v_backs - 1))), .int (nI 35)]) (rest := []) ⟨hx, hb, hml, hown, ht⟩ (kX10_bring l dC dI cA cZ a_this_now a_this_backOf 35 1050 v_now ((mX10_bringS v_backOf 35 0 1015)) 0 (35 * (v_backs - 1)) 35 (by decide) (by decide) (by omega) (by omega) H.size) (va_cwS 5 ht (gi_S w_5_119 w_5_120 w_1_12 (gi_code w_5_121)) rfl rfl rfl h_X10_bring ⟨Nat.le_of_ble_eq_true rfl, Nat.le_of_ble_eq_true rfl⟩) ⟨pm_blind, pm_use hPc hK hDc⟩ rfl rfl hl.1 rfl (lv_room (Nat.le_of_ble_eq_true rfl)) dX10_note_54 ⟨Nat.zero_le _, Nat.zero_le _⟩) (fun H locs hP hD hS => ?_)
    have hP : va_P (dC, dI) vwCl [(a_this, .inr (10, [.int (nI v_letters), .ref a_this_text, .int (nI v_position), .int (nI v_tokenAt), .int v_token, .int v_number, .int (nI v_figures), .int v_faultAt, .int v_faultIs, .int v_readRooms, .int v_readStore, .int (nI v_readRains), .int (nI v_readDoors), .int (nI v_readPersons), .ref a_this_readRain, .ref a_this_readDoor, .ref a_this_readPerson, .int v_rooms, .int (nI v_rains), .int (nI v_doors), .int (nI v_persons), .ref a_this_rain, .ref a_this_door, .ref a_this_now, .ref a_this_tried, .ref a_this_backOf, .int (nI (v_backs - 1)), .ref a_this_image, .ref a_this_imageSeed, .ref a_this_isKept, .int v_seed, .int (nI v_seen), .ref a_this_sight, .int (nI v_entries), .ref a_this_entry])), (a_this_now, .inl (cA, 35, .inl v_now)), (a_this_backOf, .inl (cA, 1050, .inl ((mX10_bring v_now ((mX10_bringS v_backOf 35 0 1015)) 0 (35 * (v_backs - 1)) 35))))] H := hP
    have hD : va_D (va_A [(a_this, .inr (10, [.int (nI v_letters), .ref a_this_text, .int (nI v_position), .int (nI v_tokenAt), .int v_token, .int v_number, .int (nI v_figures), .int v_faultAt, .int v_faultIs, .int v_readRooms, .int v_readStore, .int (nI v_readRains), .int (nI v_readDoors), .int (nI v_readPersons), .ref a_this_readRain, .ref a_this_readDoor, .ref a_this_readPerson, .int v_rooms, .int (nI v_rains), .int (nI v_doors), .int (nI v_persons), .ref a_this_rain, .ref a_this_door, .ref a_this_now, .ref a_this_tried, .ref a_this_backOf, .int (nI v_backs), .ref a_this_image, .ref a_this_imageSeed, .ref a_this_isKept, .int v_seed, .int (nI v_seen), .ref a_this_sight, .int (nI v_entries), .ref a_this_entry])), (a_this_backOf, .inl (cA, 1050, .inl v_backOf)), (a_this_now, .inl (cA, 35, .inl v_now))] s.heap.size) [(a_this, .inr (10, [.int (nI v_letters), .ref a_this_text, .int (nI v_position), .int (nI v_tokenAt), .int v_token, .int v_number, .int (nI v_figures), .int v_faultAt, .int v_faultIs, .int v_readRooms, .int v_readStore, .int (nI v_readRains), .int (nI v_readDoors), .int (nI v_readPersons), .ref a_this_readRain, .ref a_this_readDoor, .ref a_this_readPerson, .int v_rooms, .int (nI v_rains), .int (nI v_doors), .int (nI v_persons), .ref a_this_rain, .ref a_this_door, .ref a_this_now, .ref a_this_tried, .ref a_this_backOf, .int (nI (v_backs - 1)), .ref a_this_image, .ref a_this_imageSeed, .ref a_this_isKept, .int v_seed, .int (nI v_seen), .ref a_this_sight, .int (nI v_entries), .ref a_this_entry])), (a_this_now, .inl (cA, 35, .inl v_now)), (a_this_backOf, .inl (cA, 1050, .inl ((mX10_bring v_now ((mX10_bringS v_backOf 35 0 1015)) 0 (35 * (v_backs - 1)) 35))))] := hD
    refine lv_aload_n hx hb dX10_note_57 rfl (lv_at hl 0 rfl) ?_
    refine lv_dup hx hb dX10_note_58 rfl ?_
    refine va_get (D := (dC, dI)) (ci := 10) (v := .int (nI (v_backs - 1))) (C := RX10) (T := TX10) (N := 35) hx hb ht iX10 hown hK.1 hP 0 rfl rfl 26 (by decide) (ht _ w_4_229) (fun _ h9 => h9) rfl dX10_note_59 ?_
    refine lv_iconst (v := nI 1) hx hb dX10_note_62 (by decide) ?_
    refine nv_iadd hx hb dX10_note_63 ?_
    refine va_put (D := (dC, dI)) (ci := 10) (v := .int (nI (v_backs - 1 + 1))) (ty := .int) (C := RX10) (T := TX10) (N := 35) hx hb ht iX10 tyX10 tyX10_ok nmX10 hown hK.1 hP hD hS 0 rfl rfl 26 (by decide) (ht _ w_4_229) (fun _ h9 => h9) rfl rfl rfl rfl (Nat.le_of_ble_eq_true rfl) dX10_note_64 (fun H locs hP hD hS => ?_)
    have hP : va_P (dC, dI) vwCl [(a_this, .inr (10, [.int (nI v_letters), .ref a_this_text, .int (nI v_position), .int (nI v_tokenAt), .int v_token, .int v_number, .int (nI v_figures), .int v_faultAt, .int v_faultIs, .int v_readRooms, .int v_readStore, .int (nI v_readRains), .int (nI v_readDoors), .int (nI v_readPersons), .ref a_this_readRain, .ref a_this_readDoor, .ref a_this_readPerson, .int v_rooms, .int (nI v_rains), .int (nI v_doors), .int (nI v_persons), .ref a_this_rain, .ref a_this_door, .ref a_this_now, .ref a_this_tried, .ref a_this_backOf, .int (nI (v_backs - 1 + 1)), .ref a_this_image, .ref a_this_imageSeed, .ref a_this_isKept, .int v_seed, .int (nI v_seen), .ref a_this_sight, .int (nI v_entries), .ref a_this_entry])), (a_this_now, .inl (cA, 35, .inl v_now)), (a_this_backOf, .inl (cA, 1050, .inl ((mX10_bring v_now ((mX10_bringS v_backOf 35 0 1015)) 0 (35 * (v_backs - 1)) 35))))] H := hP
    have hD : va_D (va_A [(a_this, .inr (10, [.int (nI v_letters), .ref a_this_text, .int (nI v_position), .int (nI v_tokenAt), .int v_token, .int v_number, .int (nI v_figures), .int v_faultAt, .int v_faultIs, .int v_readRooms, .int v_readStore, .int (nI v_readRains), .int (nI v_readDoors), .int (nI v_readPersons), .ref a_this_readRain, .ref a_this_readDoor, .ref a_this_readPerson, .int v_rooms, .int (nI v_rains), .int (nI v_doors), .int (nI v_persons), .ref a_this_rain, .ref a_this_door, .ref a_this_now, .ref a_this_tried, .ref a_this_backOf, .int (nI v_backs), .ref a_this_image, .ref a_this_imageSeed, .ref a_this_isKept, .int v_seed, .int (nI v_seen), .ref a_this_sight, .int (nI v_entries), .ref a_this_entry])), (a_this_backOf, .inl (cA, 1050, .inl v_backOf)), (a_this_now, .inl (cA, 35, .inl v_now))] s.heap.size) [(a_this, .inr (10, [.int (nI v_letters), .ref a_this_text, .int (nI v_position), .int (nI v_tokenAt), .int v_token, .int v_number, .int (nI v_figures), .int v_faultAt, .int v_faultIs, .int v_readRooms, .int v_readStore, .int (nI v_readRains), .int (nI v_readDoors), .int (nI v_readPersons), .ref a_this_readRain, .ref a_this_readDoor, .ref a_this_readPerson, .int v_rooms, .int (nI v_rains), .int (nI v_doors), .int (nI v_persons), .ref a_this_rain, .ref a_this_door, .ref a_this_now, .ref a_this_tried, .ref a_this_backOf, .int (nI (v_backs - 1 + 1)), .ref a_this_image, .ref a_this_imageSeed, .ref a_this_isKept, .int v_seed, .int (nI v_seen), .ref a_this_sight, .int (nI v_entries), .ref a_this_entry])), (a_this_now, .inl (cA, 35, .inl v_now)), (a_this_backOf, .inl (cA, 1050, .inl ((mX10_bring v_now ((mX10_bringS v_backOf 35 0 1015)) 0 (35 * (v_backs - 1)) 35))))] := hD
    have hP9 := pc_sub (wc := [(a_this, .inr (10, [.int (nI v_letters), .ref a_this_text, .int (nI v_position), .int (nI v_tokenAt), .int v_token, .int v_number, .int (nI v_figures), .int v_faultAt, .int v_faultIs, .int v_readRooms, .int v_readStore, .int (nI v_readRains), .int (nI v_readDoors), .int (nI v_readPersons), .ref a_this_readRain, .ref a_this_readDoor, .ref a_this_readPerson, .int v_rooms, .int (nI v_rains), .int (nI v_doors), .int (nI v_persons), .ref a_this_rain, .ref a_this_door, .ref a_this_now, .ref a_this_tried, .ref a_this_backOf, .int (nI (v_backs - 1 + 1)), .ref a_this_image, .ref a_this_imageSeed, .ref a_this_isKept, .int v_seed, .int (nI v_seen), .ref a_this_sight, .int (nI v_entries), .ref a_this_entry])), (a_this_backOf, .inl (cA, 1050, .inl ((mX10_bring v_now ((mX10_bringS v_backOf 35 0 1015)) 0 (35 * (v_backs - 1)) 35)))), (a_this_now, .inl (cA, 35, .inl v_now))]) hP [0, 2, 1] rfl
    have hD9 := hD.sub (ws' := [(a_this, .inr (10, [.int (nI v_letters), .ref a_this_text, .int (nI v_position), .int (nI v_tokenAt), .int v_token, .int v_number, .int (nI v_figures), .int v_faultAt, .int v_faultIs, .int v_readRooms, .int v_readStore, .int (nI v_readRains), .int (nI v_readDoors), .int (nI v_readPersons), .ref a_this_readRain, .ref a_this_readDoor, .ref a_this_readPerson, .int v_rooms, .int (nI v_rains), .int (nI v_doors), .int (nI v_persons), .ref a_this_rain, .ref a_this_door, .ref a_this_now, .ref a_this_tried, .ref a_this_backOf, .int (nI (v_backs - 1 + 1)), .ref a_this_image, .ref a_this_imageSeed, .ref a_this_isKept, .int v_seed, .int (nI v_seen), .ref a_this_sight, .int (nI v_entries), .ref a_this_entry])), (a_this_backOf, .inl (cA, 1050, .inl ((mX10_bring v_now ((mX10_bringS v_backOf 35 0 1015)) 0 (35 * (v_backs - 1)) 35)))), (a_this_now, .inl (cA, 35, .inl v_now))]) [0, 2, 1] (by decide) rfl
    exact W.vret hx hb hr (fun t ht9 _ => by rw [← hm]; exact ⟨⟨(), rfl, trivial, by rw [ht9]; exact hP9, hD9⟩, hS.F ht9⟩) hS.2.2 dX10_note_67
