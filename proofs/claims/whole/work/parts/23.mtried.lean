theorem dX10_way_0 : decode cX10_way 0 = .ok (.aload_n 0, 1) := by decide +kernel
theorem dX10_way_1 : decode cX10_way 1 = .ok (.iload_n 1, 1) := by decide +kernel
theorem dX10_way_2 : decode cX10_way 2 = .ok (.invokevirtual 190, 3) := by decide +kernel
theorem dX10_way_5 : decode cX10_way 5 = .ok (.ifCond .eq 11, 3) := by decide +kernel
theorem dX10_way_8 : decode cX10_way 8 = .ok (.aload_n 0, 1) := by decide +kernel
theorem dX10_way_9 : decode cX10_way 9 = .ok (.iload_n 2, 1) := by decide +kernel
theorem dX10_way_10 : decode cX10_way 10 = .ok (.invokevirtual 193, 3) := by decide +kernel
theorem dX10_way_13 : decode cX10_way 13 = .ok (.ifCond .ne 6, 3) := by decide +kernel
theorem dX10_way_16 : decode cX10_way 16 = .ok (.ldc 185, 2) := by decide +kernel
theorem dX10_way_18 : decode cX10_way 18 = .ok (.ireturn, 1) := by decide +kernel
theorem dX10_way_19 : decode cX10_way 19 = .ok (.iload_n 3, 1) := by decide +kernel
theorem dX10_way_20 : decode cX10_way 20 = .ok (.iconst 0, 1) := by decide +kernel
theorem dX10_way_21 : decode cX10_way 21 = .ok (.iconst 1, 1) := by decide +kernel
theorem dX10_way_22 : decode cX10_way 22 = .ok (.invokestatic 60, 3) := by decide +kernel
theorem dX10_way_25 : decode cX10_way 25 = .ok (.ifCond .ne 6, 3) := by decide +kernel
theorem dX10_way_28 : decode cX10_way 28 = .ok (.ldc 70, 2) := by decide +kernel
theorem dX10_way_30 : decode cX10_way 30 = .ok (.ireturn, 1) := by decide +kernel
theorem dX10_way_31 : decode cX10_way 31 = .ok (.aload_n 0, 1) := by decide +kernel
theorem dX10_way_32 : decode cX10_way 32 = .ok (.getfield 32, 3) := by decide +kernel
theorem dX10_way_35 : decode cX10_way 35 = .ok (.iload_n 1, 1) := by decide +kernel
theorem dX10_way_36 : decode cX10_way 36 = .ok (.invokestatic 154, 3) := by decide +kernel
theorem dX10_way_39 : decode cX10_way 39 = .ok (.istore 4, 2) := by decide +kernel
theorem dX10_way_41 : decode cX10_way 41 = .ok (.aload_n 0, 1) := by decide +kernel
theorem dX10_way_42 : decode cX10_way 42 = .ok (.iload 4, 2) := by decide +kernel
theorem dX10_way_44 : decode cX10_way 44 = .ok (.aload_n 0, 1) := by decide +kernel
theorem dX10_way_45 : decode cX10_way 45 = .ok (.getfield 32, 3) := by decide +kernel
theorem dX10_way_48 : decode cX10_way 48 = .ok (.bipush 23, 2) := by decide +kernel
theorem dX10_way_50 : decode cX10_way 50 = .ok (.iload_n 1, 1) := by decide +kernel
theorem dX10_way_51 : decode cX10_way 51 = .ok (.iadd, 1) := by decide +kernel
theorem dX10_way_52 : decode cX10_way 52 = .ok (.iaload, 1) := by decide +kernel
theorem dX10_way_53 : decode cX10_way 53 = .ok (.iload_n 2, 1) := by decide +kernel
theorem dX10_way_54 : decode cX10_way 54 = .ok (.invokevirtual 237, 3) := by decide +kernel
theorem dX10_way_57 : decode cX10_way 57 = .ok (.istore 5, 2) := by decide +kernel
theorem dX10_way_59 : decode cX10_way 59 = .ok (.iload_n 3, 1) := by decide +kernel
theorem dX10_way_60 : decode cX10_way 60 = .ok (.ifCond .eq 8, 3) := by decide +kernel
theorem dX10_way_63 : decode cX10_way 63 = .ok (.iload 5, 2) := by decide +kernel
theorem dX10_way_65 : decode cX10_way 65 = .ok (.ifCond .gt 14, 3) := by decide +kernel
theorem dX10_way_68 : decode cX10_way 68 = .ok (.iload_n 3, 1) := by decide +kernel
theorem dX10_way_69 : decode cX10_way 69 = .ok (.ifCond .ne 8, 3) := by decide +kernel
theorem dX10_way_72 : decode cX10_way 72 = .ok (.iload 5, 2) := by decide +kernel
theorem dX10_way_74 : decode cX10_way 74 = .ok (.goto 4, 3) := by decide +kernel
theorem dX10_way_77 : decode cX10_way 77 = .ok (.iconst (-1), 1) := by decide +kernel
theorem dX10_way_78 : decode cX10_way 78 = .ok (.ireturn, 1) := by decide +kernel
theorem dX10_way_79 : decode cX10_way 79 = .ok (.iconst (-1), 1) := by decide +kernel
theorem dX10_way_80 : decode cX10_way 80 = .ok (.istore 6, 2) := by decide +kernel
theorem dX10_way_82 : decode cX10_way 82 = .ok (.aload_n 0, 1) := by decide +kernel
theorem dX10_way_83 : decode cX10_way 83 = .ok (.getfield 64, 3) := by decide +kernel
theorem dX10_way_86 : decode cX10_way 86 = .ok (.iconst 1, 1) := by decide +kernel
theorem dX10_way_87 : decode cX10_way 87 = .ok (.isub, 1) := by decide +kernel
theorem dX10_way_88 : decode cX10_way 88 = .ok (.istore 7, 2) := by decide +kernel
theorem dX10_way_90 : decode cX10_way 90 = .ok (.iload 7, 2) := by decide +kernel
theorem dX10_way_92 : decode cX10_way 92 = .ok (.ifCond .lt 90, 3) := by decide +kernel
theorem dX10_way_95 : decode cX10_way 95 = .ok (.aload_n 0, 1) := by decide +kernel
theorem dX10_way_96 : decode cX10_way 96 = .ok (.iload_n 1, 1) := by decide +kernel
theorem dX10_way_97 : decode cX10_way 97 = .ok (.iload 7, 2) := by decide +kernel
theorem dX10_way_99 : decode cX10_way 99 = .ok (.invokevirtual 214, 3) := by decide +kernel
theorem dX10_way_102 : decode cX10_way 102 = .ok (.ifCond .eq 74, 3) := by decide +kernel
theorem dX10_way_105 : decode cX10_way 105 = .ok (.aload_n 0, 1) := by decide +kernel
theorem dX10_way_106 : decode cX10_way 106 = .ok (.getfield 32, 3) := by decide +kernel
theorem dX10_way_109 : decode cX10_way 109 = .ok (.iload_n 1, 1) := by decide +kernel
theorem dX10_way_110 : decode cX10_way 110 = .ok (.iload 7, 2) := by decide +kernel
theorem dX10_way_112 : decode cX10_way 112 = .ok (.invokestatic 186, 3) := by decide +kernel
theorem dX10_way_115 : decode cX10_way 115 = .ok (.ifCond .ne 61, 3) := by decide +kernel
theorem dX10_way_118 : decode cX10_way 118 = .ok (.aload_n 0, 1) := by decide +kernel
theorem dX10_way_119 : decode cX10_way 119 = .ok (.getfield 29, 3) := by decide +kernel
theorem dX10_way_122 : decode cX10_way 122 = .ok (.iconst 4, 1) := by decide +kernel
theorem dX10_way_123 : decode cX10_way 123 = .ok (.iload 7, 2) := by decide +kernel
theorem dX10_way_125 : decode cX10_way 125 = .ok (.imul, 1) := by decide +kernel
theorem dX10_way_126 : decode cX10_way 126 = .ok (.iaload, 1) := by decide +kernel
theorem dX10_way_127 : decode cX10_way 127 = .ok (.aload_n 0, 1) := by decide +kernel
theorem dX10_way_128 : decode cX10_way 128 = .ok (.getfield 29, 3) := by decide +kernel
theorem dX10_way_131 : decode cX10_way 131 = .ok (.iconst 4, 1) := by decide +kernel
theorem dX10_way_132 : decode cX10_way 132 = .ok (.iload 7, 2) := by decide +kernel
theorem dX10_way_134 : decode cX10_way 134 = .ok (.imul, 1) := by decide +kernel
theorem dX10_way_135 : decode cX10_way 135 = .ok (.iconst 1, 1) := by decide +kernel
theorem dX10_way_136 : decode cX10_way 136 = .ok (.iadd, 1) := by decide +kernel
theorem dX10_way_137 : decode cX10_way 137 = .ok (.iaload, 1) := by decide +kernel
theorem dX10_way_138 : decode cX10_way 138 = .ok (.iadd, 1) := by decide +kernel
theorem dX10_way_139 : decode cX10_way 139 = .ok (.aload_n 0, 1) := by decide +kernel
theorem dX10_way_140 : decode cX10_way 140 = .ok (.getfield 32, 3) := by decide +kernel
theorem dX10_way_143 : decode cX10_way 143 = .ok (.bipush 23, 2) := by decide +kernel
theorem dX10_way_145 : decode cX10_way 145 = .ok (.iload_n 1, 1) := by decide +kernel
theorem dX10_way_146 : decode cX10_way 146 = .ok (.iadd, 1) := by decide +kernel
theorem dX10_way_147 : decode cX10_way 147 = .ok (.iaload, 1) := by decide +kernel
theorem dX10_way_148 : decode cX10_way 148 = .ok (.isub, 1) := by decide +kernel
theorem dX10_way_149 : decode cX10_way 149 = .ok (.istore 8, 2) := by decide +kernel
theorem dX10_way_151 : decode cX10_way 151 = .ok (.aload_n 0, 1) := by decide +kernel
theorem dX10_way_152 : decode cX10_way 152 = .ok (.iload 4, 2) := by decide +kernel
theorem dX10_way_154 : decode cX10_way 154 = .ok (.iload 8, 2) := by decide +kernel
theorem dX10_way_156 : decode cX10_way 156 = .ok (.iload_n 2, 1) := by decide +kernel
theorem dX10_way_157 : decode cX10_way 157 = .ok (.invokevirtual 237, 3) := by decide +kernel
theorem dX10_way_160 : decode cX10_way 160 = .ok (.iload 5, 2) := by decide +kernel
theorem dX10_way_162 : decode cX10_way 162 = .ok (.iconst 1, 1) := by decide +kernel
theorem dX10_way_163 : decode cX10_way 163 = .ok (.isub, 1) := by decide +kernel
theorem dX10_way_164 : decode cX10_way 164 = .ok (.if_icmp .ne 8, 3) := by decide +kernel
theorem dX10_way_167 : decode cX10_way 167 = .ok (.iload 7, 2) := by decide +kernel
theorem dX10_way_169 : decode cX10_way 169 = .ok (.goto 5, 3) := by decide +kernel
theorem dX10_way_172 : decode cX10_way 172 = .ok (.iload 6, 2) := by decide +kernel
theorem dX10_way_174 : decode cX10_way 174 = .ok (.istore 6, 2) := by decide +kernel
theorem dX10_way_176 : decode cX10_way 176 = .ok (.iinc 7 (-1), 3) := by decide +kernel
theorem dX10_way_179 : decode cX10_way 179 = .ok (.goto (-89), 3) := by decide +kernel
theorem dX10_way_182 : decode cX10_way 182 = .ok (.iload 6, 2) := by decide +kernel
theorem dX10_way_184 : decode cX10_way 184 = .ok (.ireturn, 1) := by decide +kernel
theorem h_X10_way : yX10_way.cls ≠ "java/lang/invoke/MethodHandle" ∧ yX10_way.cls ≠ "java/lang/invoke/VarHandle" ∧ (parseMethodDescriptor yX10_way.desc).map (fun d => d.parameters.length) = some 3 := by decide +kernel
def mX10_way_l90 (v_doors : Nat) (v_door : Nat → Int32) (v_now : Nat → Int32) (x1 : Int32) (x2 : Int32) (k_90 : Nat) (y6_90 : Int32) : Int32 := (if ((mX10_isAt v_door v_now x1.toNatClampNeg (v_doors - k_90 - 1))) = 0 then y6_90 else (if ((mX10_stopsIn v_now x1.toNatClampNeg (v_doors - k_90 - 1))) = 0 then (if ((mX10_farBy v_doors v_door v_now ((mX10_illOf v_now x1.toNatClampNeg)) (((v_door (4 * (v_doors - k_90 - 1))) + (v_door (4 * (v_doors - k_90 - 1) + 1))) - (v_now (23 + x1.toNatClampNeg))) x2)) = (((mX10_farBy v_doors v_door v_now ((mX10_illOf v_now x1.toNatClampNeg)) (v_now (23 + x1.toNatClampNeg)) x2)) - (nI 1)) then nI (v_doors - k_90 - 1) else y6_90) else y6_90))
def mX10_way (v_rooms : Int32) (v_doors : Nat) (v_persons : Nat) (v_door : Nat → Int32) (v_now : Nat → Int32) (x1 : Int32) (x2 : Int32) (x3 : Int32) : Int32 := (if ((mX10_isPerson v_persons x1)) = 0 then (-1000000001 : Int32) else (if ((mX10_isRoom v_rooms x2)) = 0 then (-1000000001 : Int32) else (if ((mX10_in x3 (nI 0) (nI 1))) = 0 then (-1000000002 : Int32) else (if x3 = 0 then (if x3 = 0 then (mX10_farBy v_doors v_door v_now ((mX10_illOf v_now x1.toNatClampNeg)) (v_now (23 + x1.toNatClampNeg)) x2) else (-1 : Int32)) else (if 0 < ((mX10_farBy v_doors v_door v_now ((mX10_illOf v_now x1.toNatClampNeg)) (v_now (23 + x1.toNatClampNeg)) x2)) then (iter (mX10_way_l90 v_doors v_door v_now x1 x2) v_doors ((-1 : Int32))) else (if x3 = 0 then (mX10_farBy v_doors v_door v_now ((mX10_illOf v_now x1.toNatClampNeg)) (v_now (23 + x1.toNatClampNeg)) x2) else (-1 : Int32)))))))
set_option maxHeartbeats 4000000 in
set_option maxRecDepth 100000 in
theorem kX10_way (l : Launch) (dC : Nat → ClassId) (dI : Nat → Nat → Nat) (cA cZ : ClassId) (a_this a_this_text a_this_readRain a_this_readDoor a_this_readPerson a_this_rain a_this_door a_this_now a_this_tried a_this_backOf a_this_image a_this_imageSeed a_this_isKept a_this_sight a_this_entry : Nat) (v_letters : Nat) (v_position : Nat) (v_tokenAt : Nat) (v_token : Int32) (v_number : Int32) (v_figures : Nat) (v_faultAt : Int32) (v_faultIs : Int32) (v_readRooms : Int32) (v_readStore : Int32) (v_readRains : Nat) (v_readDoors : Nat) (v_readPersons : Nat) (v_rooms : Int32) (v_rains : Nat) (v_doors : Nat) (v_persons : Nat) (v_backs : Nat) (v_seed : Int32) (v_seen : Nat) (v_entries : Nat) (v_door : Nat → Int32) (v_now : Nat → Int32) (x1 : Int32) (x2 : Int32) (x3 : Int32) (hD : v_doors ≤ 10) (hPn : v_persons ≤ 6) : Met l yX10_way (Cond.code yX10_way cX10_way 9 (some .int) :: wt) ({ frames := 2, cells := 0, slots := 0, locals := 49 } : Room) (va_Pc [.ref a_this, .int x1, .int x2, .int x3] (PreP (dC, dI) [(cA, .int), (cZ, .boolean)] [(a_this, .inr (10, [.int (nI v_letters), .ref a_this_text, .int (nI v_position), .int (nI v_tokenAt), .int v_token, .int v_number, .int (nI v_figures), .int v_faultAt, .int v_faultIs, .int v_readRooms, .int v_readStore, .int (nI v_readRains), .int (nI v_readDoors), .int (nI v_readPersons), .ref a_this_readRain, .ref a_this_readDoor, .ref a_this_readPerson, .int v_rooms, .int (nI v_rains), .int (nI v_doors), .int (nI v_persons), .ref a_this_rain, .ref a_this_door, .ref a_this_now, .ref a_this_tried, .ref a_this_backOf, .int (nI v_backs), .ref a_this_image, .ref a_this_imageSeed, .ref a_this_isKept, .int v_seed, .int (nI v_seen), .ref a_this_sight, .int (nI v_entries), .ref a_this_entry])), (a_this_door, .inl (cA, 40, .inl v_door)), (a_this_now, .inl (cA, 35, .inl v_now))])) (vp_Si (fun r => r = (mX10_way v_rooms v_doors v_persons v_door v_now x1 x2 x3))) 0 0 (fun _ => False) := by
  refine Met.ofW (cc := cX10_way) (maxL := 9) (ret := (some .int)) (by decide) rfl ?_
  intro p e s m args below meth c s₁ B hml hv
  obtain ⟨ha, hP, hK⟩ := hv
  have hx := B.exec
  have hb := B.bytes
  have hr := B.returns
  have ht : ∀ w ∈ wt, w.before args s = true := fun w h => atoms_spec (ws := (Cond.code yX10_way cX10_way 9 (some .int) :: wt)) B.pre w (List.mem_cons_of_mem _ h)
  have hown : s.vm.findClass RX10 = some m.cls := findClass_of_methodNamed B.named
  have hlocks := B.notSynchronized
  have hl := lv_entry ([.ref a_this, .int x1, .int x2, .int x3]) (n := 9) (Nat.le_of_ble_eq_true rfl)
  rw [show entryFrame m args 9 = _ from (congrArg (fun a => entryFrame m a 9) ha).trans (lg_entry_eq m [.ref a_this, .int x1, .int x2, .int x3] 9)]
  generalize (lg_sl ([.ref a_this, .int x1, .int x2, .int x3]) ++ List.replicate (9 - (lg_sl ([.ref a_this, .int x1, .int x2, .int x3])).length) Slot.unset).toArray = ls at hl ⊢
  have hl : lv_has ls 9 [(0, .ref a_this), (1, .int x1), (2, .int x2), (3, .int x3)] := hl
  have hm : (if ((mX10_isPerson v_persons x1)) = 0 then (-1000000001 : Int32) else (if ((mX10_isRoom v_rooms x2)) = 0 then (-1000000001 : Int32) else (if ((mX10_in x3 (nI 0) (nI 1))) = 0 then (-1000000002 : Int32) else (if x3 = 0 then (if x3 = 0 then (mX10_farBy v_doors v_door v_now ((mX10_illOf v_now x1.toNatClampNeg)) (v_now (23 + x1.toNatClampNeg)) x2) else (-1 : Int32)) else (if 0 < ((mX10_farBy v_doors v_door v_now ((mX10_illOf v_now x1.toNatClampNeg)) (v_now (23 + x1.toNatClampNeg)) x2)) then (iter (mX10_way_l90 v_doors v_door v_now x1 x2) v_doors ((-1 : Int32))) else (if x3 = 0 then (mX10_farBy v_doors v_door v_now ((mX10_illOf v_now x1.toNatClampNeg)) (v_now (23 + x1.toNatClampNeg)) x2) else (-1 : Int32))))))) = (mX10_way v_rooms v_doors v_persons v_door v_now x1 x2 x3) := rfl
  refine lv_aload_n hx hb dX10_way_0 rfl (lv_at hl 0 rfl) ?_
  refine lv_iload_n hx hb dX10_way_1 rfl (lv_at hl 1 rfl) ?_
  refine pv_call (v := (mX10_isPerson v_persons x1)) (va_runV (As := [.int x1]) (rest := []) ⟨hx, hb, hml, hown, ht⟩ (kX10_isPerson l dC dI cA cZ a_this a_this_text a_this_readRain a_this_readDoor a_this_readPerson a_this_rain a_this_door a_this_now a_this_tried a_this_backOf a_this_image a_this_imageSeed a_this_isKept a_this_sight a_this_entry v_letters v_position v_tokenAt v_token v_number v_figures v_faultAt v_faultIs v_readRooms v_readStore v_readRains v_readDoors v_readPersons v_rooms v_rains v_doors v_persons v_backs v_seed v_seen v_entries x1) (cwV 1 ht (gi_V (C := RX10) w_5_175 w_5_177 w_0_33 w_1_12 (gi_code w_5_178)) rfl rfl rfl ⟨rfl, h_X10_isPerson⟩ ⟨Nat.le_of_ble_eq_true rfl, Nat.le_of_ble_eq_true rfl⟩) ⟨pp_blind, va_recv hK.1 hP (ci := 10) (q0 := 0) rfl rfl, pp_use (pc_sub (wc := [(a_this, .inr (10, [.int (nI v_letters), .ref a_this_text, .int (nI v_position), .int (nI v_tokenAt), .int v_token, .int v_number, .int (nI v_figures), .int v_faultAt, .int v_faultIs, .int v_readRooms, .int v_readStore, .int (nI v_readRains), .int (nI v_readDoors), .int (nI v_readPersons), .ref a_this_readRain, .ref a_this_readDoor, .ref a_this_readPerson, .int v_rooms, .int (nI v_rains), .int (nI v_doors), .int (nI v_persons), .ref a_this_rain, .ref a_this_door, .ref a_this_now, .ref a_this_tried, .ref a_this_backOf, .int (nI v_backs), .ref a_this_image, .ref a_this_imageSeed, .ref a_this_isKept, .int v_seed, .int (nI v_seen), .ref a_this_sight, .int (nI v_entries), .ref a_this_entry]))]) hP [0] rfl) hK⟩ rfl rfl hl.1 rfl (lv_room (Nat.le_of_ble_eq_true rfl)) dX10_way_2 ⟨Nat.zero_le _, Nat.zero_le _⟩) ?_
  refine lv_if_eq (tgt := 16) hx hb dX10_way_5 (by decide) (fun c_1 => ?_) (fun c_1 => ?_)
  · have hm := (if_pos c_1).symm.trans hm
    refine lv_ldc (v := (-1000000001 : Int32)) hx hb hown (ht _ w_5_167) dX10_way_16 ?_
    exact W.iret (v := (-1000000001 : Int32)) hx hb hr (fun t ht9 _ => ⟨_, rfl, hm, ht9⟩) (fun q hq => absurd hq List.not_mem_nil) dX10_way_18
  · have hm := (if_neg c_1).symm.trans hm
    obtain ⟨hj1, hx1⟩ := isPerson_spec (by omega) c_1
    have hl : lv_has ls 9 [(0, .ref a_this), (1, .int (nI x1.toNatClampNeg)), (2, .int x2), (3, .int x3)] := by rw [← hx1]; exact hl
    refine lv_aload_n hx hb dX10_way_8 rfl (lv_at hl 0 rfl) ?_
    refine lv_iload_n hx hb dX10_way_9 rfl (lv_at hl 2 rfl) ?_
    refine pv_call (v := (mX10_isRoom v_rooms x2)) (va_runV (As := [.int x2]) (rest := []) ⟨hx, hb, hml, hown, ht⟩ (kX10_isRoom l dC dI cA cZ a_this a_this_text a_this_readRain a_this_readDoor a_this_readPerson a_this_rain a_this_door a_this_now a_this_tried a_this_backOf a_this_image a_this_imageSeed a_this_isKept a_this_sight a_this_entry v_letters v_position v_tokenAt v_token v_number v_figures v_faultAt v_faultIs v_readRooms v_readStore v_readRains v_readDoors v_readPersons v_rooms v_rains v_doors v_persons v_backs v_seed v_seen v_entries x2) (cwV 1 ht (gi_V (C := RX10) w_5_183 w_5_185 w_0_34 w_1_12 (gi_code w_5_186)) rfl rfl rfl ⟨rfl, h_X10_isRoom⟩ ⟨Nat.le_of_ble_eq_true rfl, Nat.le_of_ble_eq_true rfl⟩) ⟨pp_blind, va_recv hK.1 hP (ci := 10) (q0 := 0) rfl rfl, pp_use (pc_sub (wc := [(a_this, .inr (10, [.int (nI v_letters), .ref a_this_text, .int (nI v_position), .int (nI v_tokenAt), .int v_token, .int v_number, .int (nI v_figures), .int v_faultAt, .int v_faultIs, .int v_readRooms, .int v_readStore, .int (nI v_readRains), .int (nI v_readDoors), .int (nI v_readPersons), .ref a_this_readRain, .ref a_this_readDoor, .ref a_this_readPerson, .int v_rooms, .int (nI v_rains), .int (nI v_doors), .int (nI v_persons), .ref a_this_rain, .ref a_this_door, .ref a_this_now, .ref a_this_tried, .ref a_this_backOf, .int (nI v_backs), .ref a_this_image, .ref a_this_imageSeed, .ref a_this_isKept, .int v_seed, .int (nI v_seen), .ref a_this_sight, .int (nI v_entries), .ref a_this_entry]))]) hP [0] rfl) hK⟩ rfl rfl hl.1 rfl (lv_room (Nat.le_of_ble_eq_true rfl)) dX10_way_10 ⟨Nat.zero_le _, Nat.zero_le _⟩) ?_
    refine lv_if_ne (tgt := 19) hx hb dX10_way_13 (by decide) (fun c_2 => ?_) (fun c_2 => ?_)
    · have hm := (if_neg c_2).symm.trans hm
      refine lv_iload_n hx hb dX10_way_19 rfl (lv_at hl 3 rfl) ?_
      refine lv_iconst (v := nI 0) hx hb dX10_way_20 (by decide) ?_
      refine lv_iconst (v := nI 1) hx hb dX10_way_21 (by decide) ?_
      refine pv_call (v := (mX10_in x3 (nI 0) (nI 1))) (va_runS (As := [.int x3, .int (nI 0), .int (nI 1)]) (rest := []) ⟨hx, hb, hml, hown, ht⟩ (kX10_in l dC dI cA cZ x3 (nI 0) (nI 1)) (va_cwS 3 ht (gi_S w_5_74 w_5_75 w_1_12 (gi_code w_5_76)) rfl rfl rfl h_X10_in ⟨Nat.le_of_ble_eq_true rfl, Nat.le_of_ble_eq_true rfl⟩) ⟨pp_blind, pp_use (ws := []) (fun _ _ h => by cases h) hK⟩ rfl rfl hl.1 rfl (lv_room (Nat.le_of_ble_eq_true rfl)) dX10_way_22 ⟨Nat.zero_le _, Nat.zero_le _⟩) ?_
      refine lv_if_ne (tgt := 31) hx hb dX10_way_25 (by decide) (fun c_3 => ?_) (fun c_3 => ?_)
      · have hm := (if_neg c_3).symm.trans hm
        refine lv_aload_n hx hb dX10_way_31 rfl (lv_at hl 0 rfl) ?_
        refine va_get (D := (dC, dI)) (ci := 10) (v := .ref a_this_now) (C := RX10) (T := TX10) (N := 35) hx hb ht iX10 hown hK.1 hP 0 rfl rfl 23 (by decide) (ht _ w_4_226) (fun _ h9 => h9) rfl dX10_way_32 ?_
        refine lv_iload_n hx hb dX10_way_35 rfl (lv_at hl 1 rfl) ?_
        refine pv_call (v := (mX10_illOf v_now x1.toNatClampNeg)) (va_runS (As := [.ref a_this_now, .int (nI x1.toNatClampNeg)]) (rest := []) ⟨hx, hb, hml, hown, ht⟩ (kX10_illOf l dC dI cA cZ a_this_now v_now x1.toNatClampNeg (by omega)) (va_cwS 2 ht (gi_S w_5_142 w_5_143 w_1_12 (gi_code w_5_144)) rfl rfl rfl h_X10_illOf ⟨Nat.le_of_ble_eq_true rfl, Nat.le_of_ble_eq_true rfl⟩) ⟨pp_blind, pp_use (pc_sub (wc := [(a_this_now, .inl (cA, 35, .inl v_now))]) hP [2] rfl) hK⟩ rfl rfl hl.1 rfl (lv_room (Nat.le_of_ble_eq_true rfl)) dX10_way_36 ⟨Nat.zero_le _, Nat.zero_le _⟩) ?_
        refine lv_istore (lv' := [(4, .int ((mX10_illOf v_now x1.toNatClampNeg))), (0, .ref a_this), (1, .int (nI x1.toNatClampNeg)), (2, .int x2), (3, .int x3)]) hx hb dX10_way_39 hl (by decide) rfl (fun ls hl => ?_)
        refine lv_aload_n hx hb dX10_way_41 rfl (lv_at hl 1 rfl) ?_
        refine lv_iload hx hb dX10_way_42 (lv_at hl 0 rfl) ?_
        refine lv_aload_n hx hb dX10_way_44 rfl (lv_at hl 1 rfl) ?_
        refine va_get (D := (dC, dI)) (ci := 10) (v := .ref a_this_now) (C := RX10) (T := TX10) (N := 35) hx hb ht iX10 hown hK.1 hP 0 rfl rfl 23 (by decide) (ht _ w_4_226) (fun _ h9 => h9) rfl dX10_way_45 ?_
        refine lv_bipush (v := nI 23) hx hb dX10_way_48 (by decide) ?_
        refine lv_iload_n hx hb dX10_way_50 rfl (lv_at hl 2 rfl) ?_
        refine nv_iadd hx hb dX10_way_51 ?_
        refine nv_iald (e := 23 + x1.toNatClampNeg) (by omega) (by omega) hx hb hK.1 hP 2 0 rfl rfl dX10_way_52 ?_
        refine lv_iload_n hx hb dX10_way_53 rfl (lv_at hl 3 rfl) ?_
        refine pv_call (v := (mX10_farBy v_doors v_door v_now ((mX10_illOf v_now x1.toNatClampNeg)) (v_now (23 + x1.toNatClampNeg)) x2)) (va_runV (As := [.int ((mX10_illOf v_now x1.toNatClampNeg)), .int (v_now (23 + x1.toNatClampNeg)), .int x2]) (rest := []) ⟨hx, hb, hml, hown, ht⟩ (kX10_farBy l dC dI cA cZ a_this a_this_text a_this_readRain a_this_readDoor a_this_readPerson a_this_rain a_this_door a_this_now a_this_tried a_this_backOf a_this_image a_this_imageSeed a_this_isKept a_this_sight a_this_entry v_letters v_position v_tokenAt v_token v_number v_figures v_faultAt v_faultIs v_readRooms v_readStore v_readRains v_readDoors v_readPersons v_rooms v_rains v_doors v_persons v_backs v_seed v_seen v_entries v_door v_now ((mX10_illOf v_now x1.toNatClampNeg)) (v_now (23 + x1.toNatClampNeg)) x2 (by omega)) (cwV 3 ht (gi_V (C := RX10) w_6_35 w_6_37 w_0_42 w_1_12 (gi_code w_6_38)) rfl rfl rfl ⟨rfl, h_X10_farBy⟩ ⟨Nat.le_of_ble_eq_true rfl, Nat.le_of_ble_eq_true rfl⟩) ⟨pp_blind, va_recv hK.1 hP (ci := 10) (q0 := 0) rfl rfl, pp_use hP hK⟩ rfl rfl hl.1 rfl (lv_room (Nat.le_of_ble_eq_true rfl)) dX10_way_54 ⟨Nat.zero_le _, Nat.zero_le _⟩) ?_
        refine lv_istore (lv' := [(5, .int ((mX10_farBy v_doors v_door v_now ((mX10_illOf v_now x1.toNatClampNeg)) (v_now (23 + x1.toNatClampNeg)) x2))), (4, .int ((mX10_illOf v_now x1.toNatClampNeg))), (0, .ref a_this), (1, .int (nI x1.toNatClampNeg)), (2, .int x2), (3, .int x3)]) hx hb dX10_way_57 hl (by decide) rfl (fun ls hl => ?_)
        refine lv_iload_n hx hb dX10_way_59 rfl (lv_at hl 5 rfl) ?_
        refine lv_if_eq (tgt := 68) hx hb dX10_way_60 (by decide) (fun c_4 => ?_) (fun c_4 => ?_)
        · have hm := (if_pos c_4).symm.trans hm
          refine lv_iload_n hx hb dX10_way_68 rfl (lv_at hl 5 rfl) ?_
          refine lv_if_ne (tgt := 77) hx hb dX10_way_69 (by decide) (fun c_5 => ?_) (fun c_5 => ?_)
          · have hm := (if_neg c_5).symm.trans hm
            refine lv_iconst (v := (-1 : Int32)) hx hb dX10_way_77 (by decide) ?_
            exact W.iret (v := (-1 : Int32)) hx hb hr (fun t ht9 _ => ⟨_, rfl, hm, ht9⟩) (fun q hq => absurd hq List.not_mem_nil) dX10_way_78
          · have hm := (if_pos c_5).symm.trans hm
            refine lv_iload hx hb dX10_way_72 (lv_at hl 0 rfl) ?_
            refine lv_goto (tgt := 78) hx hb dX10_way_74 (by decide) ?_
            exact W.iret (v := (mX10_farBy v_doors v_door v_now ((mX10_illOf v_now x1.toNatClampNeg)) (v_now (23 + x1.toNatClampNeg)) x2)) hx hb hr (fun t ht9 _ => ⟨_, rfl, hm, ht9⟩) (fun q hq => absurd hq List.not_mem_nil) dX10_way_78
        · have hm := (if_neg c_4).symm.trans hm
          refine lv_iload hx hb dX10_way_63 (lv_at hl 0 rfl) ?_
          refine lv_if_gt (tgt := 79) hx hb dX10_way_65 (by decide) (fun c_6 => ?_) (fun c_6 => ?_)
          · have hm := (if_pos c_6).symm.trans hm
            refine lv_iconst (v := (-1 : Int32)) hx hb dX10_way_79 (by decide) ?_
            refine lv_istore (lv' := [(6, .int ((-1 : Int32))), (5, .int ((mX10_farBy v_doors v_door v_now ((mX10_illOf v_now x1.toNatClampNeg)) (v_now (23 + x1.toNatClampNeg)) x2))), (4, .int ((mX10_illOf v_now x1.toNatClampNeg))), (0, .ref a_this), (1, .int (nI x1.toNatClampNeg)), (2, .int x2), (3, .int x3)]) hx hb dX10_way_80 hl (by decide) rfl (fun ls hl => ?_)
            refine lv_aload_n hx hb dX10_way_82 rfl (lv_at hl 3 rfl) ?_
            refine va_get (D := (dC, dI)) (ci := 10) (v := .int (nI v_doors)) (C := RX10) (T := TX10) (N := 35) hx hb ht iX10 hown hK.1 hP 0 rfl rfl 19 (by decide) (ht _ w_4_222) (fun _ h9 => h9) rfl dX10_way_83 ?_
            refine lv_iconst (v := nI 1) hx hb dX10_way_86 (by decide) ?_
            refine lv_isub hx hb dX10_way_87 ?_
            refine lv_istore (lv' := [(7, .int ((nI v_doors) - (nI 1))), (6, .int ((-1 : Int32))), (5, .int ((mX10_farBy v_doors v_door v_now ((mX10_illOf v_now x1.toNatClampNeg)) (v_now (23 + x1.toNatClampNeg)) x2))), (4, .int ((mX10_illOf v_now x1.toNatClampNeg))), (0, .ref a_this), (1, .int (nI x1.toNatClampNeg)), (2, .int x2), (3, .int x3)]) hx hb dX10_way_88 hl (by decide) rfl (fun ls hl => ?_)
            have L_90 : ∀ (n_90 k_90 : Nat), k_90 + n_90 = v_doors → ∀ (y6_90 : Int32), y6_90 = (iter (mX10_way_l90 v_doors v_door v_now x1 x2) k_90 ((-1 : Int32))) → ∀ (ls : Array Slot), lv_has ls 9 [(7, .int (nI (v_doors - k_90) - nI 1)), (6, .int y6_90), (5, .int ((mX10_farBy v_doors v_door v_now ((mX10_illOf v_now x1.toNatClampNeg)) (v_now (23 + x1.toNatClampNeg)) x2))), (4, .int ((mX10_illOf v_now x1.toNatClampNeg))), (0, .ref a_this), (1, .int (nI x1.toNatClampNeg)), (2, .int x2), (3, .int x3)] → W p l e (headSpec (Cond.code yX10_way cX10_way 9 (some .int) :: wt) ({ frames := 2, cells := 0, slots := 0, locals := 49 } : Room)).room s m args below meth c s.heap [] 0 0 (MQ below (vp_Si (fun r => r = (mX10_way v_rooms v_doors v_persons v_door v_now x1 x2 x3))) args s 0 0 (fun _ => False)) (F0 m 90 ls []) := by
              intro n_90
              induction n_90 with
              | zero =>
                intro k_90 hk y6_90 ex0_90 ls hl
                obtain rfl : v_doors = k_90 := by omega
                subst ex0_90
                refine lv_iload hx hb dX10_way_90 (lv_at hl 0 rfl) ?_
                refine lv_if_lt (tgt := 182) hx hb dX10_way_92 (by decide) (fun c_11 => ?_) (fun c_11 => ?_)
                · skip
                  refine lv_iload hx hb dX10_way_182 (lv_at hl 1 rfl) ?_
                  exact W.iret (v := (iter (mX10_way_l90 v_doors v_door v_now x1 x2) v_doors ((-1 : Int32)))) hx hb hr (fun t ht9 _ => ⟨_, rfl, hm, ht9⟩) (fun q hq => absurd hq List.not_mem_nil) dX10_way_184
                · exact absurd (dn_lt (by omega)) c_11
              | succ n_90 ih =>
                intro k_90 hk y6_90 ex0_90 ls hl
                have hm : (mX10_way_l90 v_doors v_door v_now x1 x2) k_90 y6_90 = (iter (mX10_way_l90 v_doors v_door v_now x1 x2) (k_90 + 1) ((-1 : Int32))) := by rw [ex0_90]; rfl
                have hm : (if ((mX10_isAt v_door v_now x1.toNatClampNeg (v_doors - k_90 - 1))) = 0 then y6_90 else (if ((mX10_stopsIn v_now x1.toNatClampNeg (v_doors - k_90 - 1))) = 0 then (if ((mX10_farBy v_doors v_door v_now ((mX10_illOf v_now x1.toNatClampNeg)) (((v_door (4 * (v_doors - k_90 - 1))) + (v_door (4 * (v_doors - k_90 - 1) + 1))) - (v_now (23 + x1.toNatClampNeg))) x2)) = (((mX10_farBy v_doors v_door v_now ((mX10_illOf v_now x1.toNatClampNeg)) (v_now (23 + x1.toNatClampNeg)) x2)) - (nI 1)) then nI (v_doors - k_90 - 1) else y6_90) else y6_90)) = (iter (mX10_way_l90 v_doors v_door v_now x1 x2) (k_90 + 1) ((-1 : Int32))) := hm
                refine lv_iload hx hb dX10_way_90 (lv_at hl 0 rfl) ?_
                refine lv_if_lt (tgt := 182) hx hb dX10_way_92 (by decide) (fun c_7 => ?_) (fun c_7 => ?_)
                · exact absurd c_7 (dn_nlt (by omega) (by omega))
                · skip
                  have hl : lv_has ls 9 [(7, .int (nI (v_doors - k_90 - 1))), (6, .int y6_90), (5, .int ((mX10_farBy v_doors v_door v_now ((mX10_illOf v_now x1.toNatClampNeg)) (v_now (23 + x1.toNatClampNeg)) x2))), (4, .int ((mX10_illOf v_now x1.toNatClampNeg))), (0, .ref a_this), (1, .int (nI x1.toNatClampNeg)), (2, .int x2), (3, .int x3)] := by rw [show nI (v_doors - k_90) - nI 1 = nI (v_doors - k_90 - 1) from pk_sub (by omega)] at hl; exact hl
                  refine lv_aload_n hx hb dX10_way_95 rfl (lv_at hl 4 rfl) ?_
                  refine lv_iload_n hx hb dX10_way_96 rfl (lv_at hl 5 rfl) ?_
                  refine lv_iload hx hb dX10_way_97 (lv_at hl 0 rfl) ?_
                  refine pv_call (v := (mX10_isAt v_door v_now x1.toNatClampNeg (v_doors - k_90 - 1))) (va_runV (As := [.int (nI x1.toNatClampNeg), .int (nI (v_doors - k_90 - 1))]) (rest := []) ⟨hx, hb, hml, hown, ht⟩ (kX10_isAt l dC dI cA cZ a_this a_this_text a_this_readRain a_this_readDoor a_this_readPerson a_this_rain a_this_door a_this_now a_this_tried a_this_backOf a_this_image a_this_imageSeed a_this_isKept a_this_sight a_this_entry v_letters v_position v_tokenAt v_token v_number v_figures v_faultAt v_faultIs v_readRooms v_readStore v_readRains v_readDoors v_readPersons v_rooms v_rains v_doors v_persons v_backs v_seed v_seen v_entries v_door v_now x1.toNatClampNeg (v_doors - k_90 - 1) (by omega) (by omega)) (cwV 2 ht (gi_V (C := RX10) w_5_220 w_5_222 w_0_39 w_1_12 (gi_code w_5_223)) rfl rfl rfl ⟨rfl, h_X10_isAt⟩ ⟨Nat.le_of_ble_eq_true rfl, Nat.le_of_ble_eq_true rfl⟩) ⟨pp_blind, va_recv hK.1 hP (ci := 10) (q0 := 0) rfl rfl, pp_use hP hK⟩ rfl rfl hl.1 rfl (lv_room (Nat.le_of_ble_eq_true rfl)) dX10_way_99 ⟨Nat.zero_le _, Nat.zero_le _⟩) ?_
                  refine lv_if_eq (tgt := 176) hx hb dX10_way_102 (by decide) (fun c_8 => ?_) (fun c_8 => ?_)
                  · have hm := (if_pos c_8).symm.trans hm
                    refine lv_iinc (v := (nI (v_doors - k_90 - 1)) + (-1)) (lv' := [(7, .int ((nI (v_doors - k_90 - 1)) + (-1))), (6, .int y6_90), (5, .int ((mX10_farBy v_doors v_door v_now ((mX10_illOf v_now x1.toNatClampNeg)) (v_now (23 + x1.toNatClampNeg)) x2))), (4, .int ((mX10_illOf v_now x1.toNatClampNeg))), (0, .ref a_this), (1, .int (nI x1.toNatClampNeg)), (2, .int x2), (3, .int x3)]) hx hb dX10_way_176 hl (k := 0) rfl rfl (by decide) rfl (fun ls hl => ?_)
                    have hl : lv_has ls 9 [(7, .int (nI (v_doors - (k_90 + 1)) - nI 1)), (6, .int y6_90), (5, .int ((mX10_farBy v_doors v_door v_now ((mX10_illOf v_now x1.toNatClampNeg)) (v_now (23 + x1.toNatClampNeg)) x2))), (4, .int ((mX10_illOf v_now x1.toNatClampNeg))), (0, .ref a_this), (1, .int (nI x1.toNatClampNeg)), (2, .int x2), (3, .int x3)] := by rw [dn_step (by omega)] at hl; exact hl
                    refine lv_goto (tgt := 90) hx hb dX10_way_179 (by decide) ?_
                    exact ih (k_90 + 1) (by omega) y6_90 hm ls (lv_sub hl [0, 1, 2, 3, 4, 5, 6, 7] rfl)
                  · have hm := (if_neg c_8).symm.trans hm
                    refine lv_aload_n hx hb dX10_way_105 rfl (lv_at hl 4 rfl) ?_
                    refine va_get (D := (dC, dI)) (ci := 10) (v := .ref a_this_now) (C := RX10) (T := TX10) (N := 35) hx hb ht iX10 hown hK.1 hP 0 rfl rfl 23 (by decide) (ht _ w_4_226) (fun _ h9 => h9) rfl dX10_way_106 ?_
                    refine lv_iload_n hx hb dX10_way_109 rfl (lv_at hl 5 rfl) ?_
                    refine lv_iload hx hb dX10_way_110 (lv_at hl 0 rfl) ?_
                    refine pv_call (v := (mX10_stopsIn v_now x1.toNatClampNeg (v_doors - k_90 - 1))) (va_runS (As := [.ref a_this_now, .int (nI x1.toNatClampNeg), .int (nI (v_doors - k_90 - 1))]) (rest := []) ⟨hx, hb, hml, hown, ht⟩ (kX10_stopsIn l dC dI cA cZ a_this_now v_now x1.toNatClampNeg (v_doors - k_90 - 1) (by omega) (by omega)) (va_cwS 3 ht (gi_S w_5_168 w_5_169 w_1_12 (gi_code w_5_170)) rfl rfl rfl h_X10_stopsIn ⟨Nat.le_of_ble_eq_true rfl, Nat.le_of_ble_eq_true rfl⟩) ⟨pp_blind, pp_use (pc_sub (wc := [(a_this_now, .inl (cA, 35, .inl v_now))]) hP [2] rfl) hK⟩ rfl rfl hl.1 rfl (lv_room (Nat.le_of_ble_eq_true rfl)) dX10_way_112 ⟨Nat.zero_le _, Nat.zero_le _⟩) ?_
                    refine lv_if_ne (tgt := 176) hx hb dX10_way_115 (by decide) (fun c_9 => ?_) (fun c_9 => ?_)
                    · have hm := (if_neg c_9).symm.trans hm
                      refine lv_iinc (v := (nI (v_doors - k_90 - 1)) + (-1)) (lv' := [(7, .int ((nI (v_doors - k_90 - 1)) + (-1))), (6, .int y6_90), (5, .int ((mX10_farBy v_doors v_door v_now ((mX10_illOf v_now x1.toNatClampNeg)) (v_now (23 + x1.toNatClampNeg)) x2))), (4, .int ((mX10_illOf v_now x1.toNatClampNeg))), (0, .ref a_this), (1, .int (nI x1.toNatClampNeg)), (2, .int x2), (3, .int x3)]) hx hb dX10_way_176 hl (k := 0) rfl rfl (by decide) rfl (fun ls hl => ?_)
                      have hl : lv_has ls 9 [(7, .int (nI (v_doors - (k_90 + 1)) - nI 1)), (6, .int y6_90), (5, .int ((mX10_farBy v_doors v_door v_now ((mX10_illOf v_now x1.toNatClampNeg)) (v_now (23 + x1.toNatClampNeg)) x2))), (4, .int ((mX10_illOf v_now x1.toNatClampNeg))), (0, .ref a_this), (1, .int (nI x1.toNatClampNeg)), (2, .int x2), (3, .int x3)] := by rw [dn_step (by omega)] at hl; exact hl
                      refine lv_goto (tgt := 90) hx hb dX10_way_179 (by decide) ?_
                      exact ih (k_90 + 1) (by omega) y6_90 hm ls (lv_sub hl [0, 1, 2, 3, 4, 5, 6, 7] rfl)
                    · have hm := (if_pos c_9).symm.trans hm
                      refine lv_aload_n hx hb dX10_way_118 rfl (lv_at hl 4 rfl) ?_
                      refine va_get (D := (dC, dI)) (ci := 10) (v := .ref a_this_door) (C := RX10) (T := TX10) (N := 35) hx hb ht iX10 hown hK.1 hP 0 rfl rfl 22 (by decide) (ht _ w_4_225) (fun _ h9 => h9) rfl dX10_way_119 ?_
                      refine lv_iconst (v := nI 4) hx hb dX10_way_122 (by decide) ?_
                      refine lv_iload hx hb dX10_way_123 (lv_at hl 0 rfl) ?_
                      refine nv_imul hx hb dX10_way_125 ?_
                      refine nv_iald (e := 4 * (v_doors - k_90 - 1)) (by omega) (by omega) hx hb hK.1 hP 1 0 rfl rfl dX10_way_126 ?_
                      refine lv_aload_n hx hb dX10_way_127 rfl (lv_at hl 4 rfl) ?_
                      refine va_get (D := (dC, dI)) (ci := 10) (v := .ref a_this_door) (C := RX10) (T := TX10) (N := 35) hx hb ht iX10 hown hK.1 hP 0 rfl rfl 22 (by decide) (ht _ w_4_225) (fun _ h9 => h9) rfl dX10_way_128 ?_
                      refine lv_iconst (v := nI 4) hx hb dX10_way_131 (by decide) ?_
                      refine lv_iload hx hb dX10_way_132 (lv_at hl 0 rfl) ?_
                      refine nv_imul hx hb dX10_way_134 ?_
                      refine lv_iconst (v := nI 1) hx hb dX10_way_135 (by decide) ?_
                      refine nv_iadd hx hb dX10_way_136 ?_
                      refine nv_iald (e := 4 * (v_doors - k_90 - 1) + 1) (by omega) (by omega) hx hb hK.1 hP 1 0 rfl rfl dX10_way_137 ?_
                      refine lv_iadd hx hb dX10_way_138 ?_
                      refine lv_aload_n hx hb dX10_way_139 rfl (lv_at hl 4 rfl) ?_
                      refine va_get (D := (dC, dI)) (ci := 10) (v := .ref a_this_now) (C := RX10) (T := TX10) (N := 35) hx hb ht iX10 hown hK.1 hP 0 rfl rfl 23 (by decide) (ht _ w_4_226) (fun _ h9 => h9) rfl dX10_way_140 ?_
                      refine lv_bipush (v := nI 23) hx hb dX10_way_143 (by decide) ?_
                      refine lv_iload_n hx hb dX10_way_145 rfl (lv_at hl 5 rfl) ?_
                      refine nv_iadd hx hb dX10_way_146 ?_
                      refine nv_iald (e := 23 + x1.toNatClampNeg) (by omega) (by omega) hx hb hK.1 hP 2 0 rfl rfl dX10_way_147 ?_
                      refine lv_isub hx hb dX10_way_148 ?_
                      refine lv_istore (lv' := [(8, .int (((v_door (4 * (v_doors - k_90 - 1))) + (v_door (4 * (v_doors - k_90 - 1) + 1))) - (v_now (23 + x1.toNatClampNeg)))), (7, .int (nI (v_doors - k_90 - 1))), (6, .int y6_90), (5, .int ((mX10_farBy v_doors v_door v_now ((mX10_illOf v_now x1.toNatClampNeg)) (v_now (23 + x1.toNatClampNeg)) x2))), (4, .int ((mX10_illOf v_now x1.toNatClampNeg))), (0, .ref a_this), (1, .int (nI x1.toNatClampNeg)), (2, .int x2), (3, .int x3)]) hx hb dX10_way_149 hl (by decide) rfl (fun ls hl => ?_)
                      refine lv_aload_n hx hb dX10_way_151 rfl (lv_at hl 5 rfl) ?_
                      refine lv_iload hx hb dX10_way_152 (lv_at hl 4 rfl) ?_
                      refine lv_iload hx hb dX10_way_154 (lv_at hl 0 rfl) ?_
                      refine lv_iload_n hx hb dX10_way_156 rfl (lv_at hl 7 rfl) ?_
                      refine pv_call (v := (mX10_farBy v_doors v_door v_now ((mX10_illOf v_now x1.toNatClampNeg)) (((v_door (4 * (v_doors - k_90 - 1))) + (v_door (4 * (v_doors - k_90 - 1) + 1))) - (v_now (23 + x1.toNatClampNeg))) x2)) (va_runV (As := [.int ((mX10_illOf v_now x1.toNatClampNeg)), .int (((v_door (4 * (v_doors - k_90 - 1))) + (v_door (4 * (v_doors - k_90 - 1) + 1))) - (v_now (23 + x1.toNatClampNeg))), .int x2]) (rest := []) ⟨hx, hb, hml, hown, ht⟩ (kX10_farBy l dC dI cA cZ a_this a_this_text a_this_readRain a_this_readDoor a_this_readPerson a_this_rain a_this_door a_this_now a_this_tried a_this_backOf a_this_image a_this_imageSeed a_this_isKept a_this_sight a_this_entry v_letters v_position v_tokenAt v_token v_number v_figures v_faultAt v_faultIs v_readRooms v_readStore v_readRains v_readDoors v_readPersons v_rooms v_rains v_doors v_persons v_backs v_seed v_seen v_entries v_door v_now ((mX10_illOf v_now x1.toNatClampNeg)) (((v_door (4 * (v_doors - k_90 - 1))) + (v_door (4 * (v_doors - k_90 - 1) + 1))) - (v_now (23 + x1.toNatClampNeg))) x2 (by omega)) (cwV 3 ht (gi_V (C := RX10) w_6_35 w_6_37 w_0_42 w_1_12 (gi_code w_6_38)) rfl rfl rfl ⟨rfl, h_X10_farBy⟩ ⟨Nat.le_of_ble_eq_true rfl, Nat.le_of_ble_eq_true rfl⟩) ⟨pp_blind, va_recv hK.1 hP (ci := 10) (q0 := 0) rfl rfl, pp_use hP hK⟩ rfl rfl hl.1 rfl (lv_room (Nat.le_of_ble_eq_true rfl)) dX10_way_157 ⟨Nat.zero_le _, Nat.zero_le _⟩) ?_
                      refine lv_iload hx hb dX10_way_160 (lv_at hl 3 rfl) ?_
                      refine lv_iconst (v := nI 1) hx hb dX10_way_162 (by decide) ?_
                      refine lv_isub hx hb dX10_way_163 ?_
                      refine lv_icmp_ne (tgt := 172) hx hb dX10_way_164 (by decide) (fun c_10 => ?_) (fun c_10 => ?_)
                      · have hm := (if_neg c_10).symm.trans hm
                        refine lv_iload hx hb dX10_way_172 (lv_at hl 2 rfl) ?_
                        refine lv_istore (lv' := [(6, .int y6_90), (8, .int (((v_door (4 * (v_doors - k_90 - 1))) + (v_door (4 * (v_doors - k_90 - 1) + 1))) - (v_now (23 + x1.toNatClampNeg)))), (7, .int (nI (v_doors - k_90 - 1))), (5, .int ((mX10_farBy v_doors v_door v_now ((mX10_illOf v_now x1.toNatClampNeg)) (v_now (23 + x1.toNatClampNeg)) x2))), (4, .int ((mX10_illOf v_now x1.toNatClampNeg))), (0, .ref a_this), (1, .int (nI x1.toNatClampNeg)), (2, .int x2), (3, .int x3)]) hx hb dX10_way_174 hl (by decide) rfl (fun ls hl => ?_)
                        refine lv_iinc (v := (nI (v_doors - k_90 - 1)) + (-1)) (lv' := [(7, .int ((nI (v_doors - k_90 - 1)) + (-1))), (6, .int y6_90), (8, .int (((v_door (4 * (v_doors - k_90 - 1))) + (v_door (4 * (v_doors - k_90 - 1) + 1))) - (v_now (23 + x1.toNatClampNeg)))), (5, .int ((mX10_farBy v_doors v_door v_now ((mX10_illOf v_now x1.toNatClampNeg)) (v_now (23 + x1.toNatClampNeg)) x2))), (4, .int ((mX10_illOf v_now x1.toNatClampNeg))), (0, .ref a_this), (1, .int (nI x1.toNatClampNeg)), (2, .int x2), (3, .int x3)]) hx hb dX10_way_176 hl (k := 2) rfl rfl (by decide) rfl (fun ls hl => ?_)
                        have hl : lv_has ls 9 [(7, .int (nI (v_doors - (k_90 + 1)) - nI 1)), (6, .int y6_90), (8, .int (((v_door (4 * (v_doors - k_90 - 1))) + (v_door (4 * (v_doors - k_90 - 1) + 1))) - (v_now (23 + x1.toNatClampNeg)))), (5, .int ((mX10_farBy v_doors v_door v_now ((mX10_illOf v_now x1.toNatClampNeg)) (v_now (23 + x1.toNatClampNeg)) x2))), (4, .int ((mX10_illOf v_now x1.toNatClampNeg))), (0, .ref a_this), (1, .int (nI x1.toNatClampNeg)), (2, .int x2), (3, .int x3)] := by rw [dn_step (by omega)] at hl; exact hl
                        refine lv_goto (tgt := 90) hx hb dX10_way_179 (by decide) ?_
                        exact ih (k_90 + 1) (by omega) y6_90 hm ls (lv_sub hl [0, 1, 3, 4, 5, 6, 7, 8] rfl)
                      · have hm := (if_pos c_10).symm.trans hm
                        refine lv_iload hx hb dX10_way_167 (lv_at hl 1 rfl) ?_
                        refine lv_goto (tgt := 174) hx hb dX10_way_169 (by decide) ?_
                        refine lv_istore (lv' := [(6, .int (nI (v_doors - k_90 - 1))), (8, .int (((v_door (4 * (v_doors - k_90 - 1))) + (v_door (4 * (v_doors - k_90 - 1) + 1))) - (v_now (23 + x1.toNatClampNeg)))), (7, .int (nI (v_doors - k_90 - 1))), (5, .int ((mX10_farBy v_doors v_door v_now ((mX10_illOf v_now x1.toNatClampNeg)) (v_now (23 + x1.toNatClampNeg)) x2))), (4, .int ((mX10_illOf v_now x1.toNatClampNeg))), (0, .ref a_this), (1, .int (nI x1.toNatClampNeg)), (2, .int x2), (3, .int x3)]) hx hb dX10_way_174 hl (by decide) rfl (fun ls hl => ?_)
                        refine lv_iinc (v := (nI (v_doors - k_90 - 1)) + (-1)) (lv' := [(7, .int ((nI (v_doors - k_90 - 1)) + (-1))), (6, .int (nI (v_doors - k_90 - 1))), (8, .int (((v_door (4 * (v_doors - k_90 - 1))) + (v_door (4 * (v_doors - k_90 - 1) + 1))) - (v_now (23 + x1.toNatClampNeg)))), (5, .int ((mX10_farBy v_doors v_door v_now ((mX10_illOf v_now x1.toNatClampNeg)) (v_now (23 + x1.toNatClampNeg)) x2))), (4, .int ((mX10_illOf v_now x1.toNatClampNeg))), (0, .ref a_this), (1, .int (nI x1.toNatClampNeg)), (2, .int x2), (3, .int x3)]) hx hb dX10_way_176 hl (k := 2) rfl rfl (by decide) rfl (fun ls hl => ?_)
                        have hl : lv_has ls 9 [(7, .int (nI (v_doors - (k_90 + 1)) - nI 1)), (6, .int (nI (v_doors - k_90 - 1))), (8, .int (((v_door (4 * (v_doors - k_90 - 1))) + (v_door (4 * (v_doors - k_90 - 1) + 1))) - (v_now (23 + x1.toNatClampNeg)))), (5, .int ((mX10_farBy v_doors v_door v_now ((mX10_illOf v_now x1.toNatClampNeg)) (v_now (23 + x1.toNatClampNeg)) x2))), (4, .int ((mX10_illOf v_now x1.toNatClampNeg))), (0, .ref a_this), (1, .int (nI x1.toNatClampNeg)), (2, .int x2), (3, .int x3)] := by rw [dn_step (by omega)] at hl; exact hl
                        refine lv_goto (tgt := 90) hx hb dX10_way_179 (by decide) ?_
                        exact ih (k_90 + 1) (by omega) (nI (v_doors - k_90 - 1)) hm ls (lv_sub hl [0, 1, 3, 4, 5, 6, 7, 8] rfl)
            exact L_90 v_doors 0 (Nat.zero_add _) ((-1 : Int32)) rfl ls (lv_sub hl [0, 1, 2, 3, 4, 5, 6, 7] rfl)
          · have hm := (if_neg c_6).symm.trans hm
            refine lv_iload_n hx hb dX10_way_68 rfl (lv_at hl 5 rfl) ?_
            refine lv_if_ne (tgt := 77) hx hb dX10_way_69 (by decide) (fun c_12 => ?_) (fun c_12 => ?_)
            · have hm := (if_neg c_12).symm.trans hm
              refine lv_iconst (v := (-1 : Int32)) hx hb dX10_way_77 (by decide) ?_
              exact W.iret (v := (-1 : Int32)) hx hb hr (fun t ht9 _ => ⟨_, rfl, hm, ht9⟩) (fun q hq => absurd hq List.not_mem_nil) dX10_way_78
            · have hm := (if_pos c_12).symm.trans hm
              refine lv_iload hx hb dX10_way_72 (lv_at hl 0 rfl) ?_
              refine lv_goto (tgt := 78) hx hb dX10_way_74 (by decide) ?_
              exact W.iret (v := (mX10_farBy v_doors v_door v_now ((mX10_illOf v_now x1.toNatClampNeg)) (v_now (23 + x1.toNatClampNeg)) x2)) hx hb hr (fun t ht9 _ => ⟨_, rfl, hm, ht9⟩) (fun q hq => absurd hq List.not_mem_nil) dX10_way_78
      · have hm := (if_pos c_3).symm.trans hm
        refine lv_ldc (v := (-1000000002 : Int32)) hx hb hown (ht _ w_5_77) dX10_way_28 ?_
        exact W.iret (v := (-1000000002 : Int32)) hx hb hr (fun t ht9 _ => ⟨_, rfl, hm, ht9⟩) (fun q hq => absurd hq List.not_mem_nil) dX10_way_30
    · have hm := (if_pos c_2).symm.trans hm
      refine lv_ldc (v := (-1000000001 : Int32)) hx hb hown (ht _ w_5_167) dX10_way_16 ?_
      exact W.iret (v := (-1000000001 : Int32)) hx hb hr (fun t ht9 _ => ⟨_, rfl, hm, ht9⟩) (fun q hq => absurd hq List.not_mem_nil) dX10_way_18
theorem dX10_keepOut_0 : decode cX10_keepOut 0 = .ok (.aload_n 0, 1) := by decide +kernel
theorem dX10_keepOut_1 : decode cX10_keepOut 1 = .ok (.iload_n 1, 1) := by decide +kernel
theorem dX10_keepOut_2 : decode cX10_keepOut 2 = .ok (.invokevirtual 190, 3) := by decide +kernel
theorem dX10_keepOut_5 : decode cX10_keepOut 5 = .ok (.ifCond .eq 11, 3) := by decide +kernel
theorem dX10_keepOut_8 : decode cX10_keepOut 8 = .ok (.aload_n 0, 1) := by decide +kernel
theorem dX10_keepOut_9 : decode cX10_keepOut 9 = .ok (.iload_n 2, 1) := by decide +kernel
theorem dX10_keepOut_10 : decode cX10_keepOut 10 = .ok (.invokevirtual 193, 3) := by decide +kernel
theorem dX10_keepOut_13 : decode cX10_keepOut 13 = .ok (.ifCond .ne 6, 3) := by decide +kernel
theorem dX10_keepOut_16 : decode cX10_keepOut 16 = .ok (.ldc 185, 2) := by decide +kernel
theorem dX10_keepOut_18 : decode cX10_keepOut 18 = .ok (.ireturn, 1) := by decide +kernel
theorem dX10_keepOut_19 : decode cX10_keepOut 19 = .ok (.iload_n 3, 1) := by decide +kernel
theorem dX10_keepOut_20 : decode cX10_keepOut 20 = .ok (.iconst 0, 1) := by decide +kernel
theorem dX10_keepOut_21 : decode cX10_keepOut 21 = .ok (.iconst 1, 1) := by decide +kernel
theorem dX10_keepOut_22 : decode cX10_keepOut 22 = .ok (.invokestatic 60, 3) := by decide +kernel
theorem dX10_keepOut_25 : decode cX10_keepOut 25 = .ok (.ifCond .ne 6, 3) := by decide +kernel
theorem dX10_keepOut_28 : decode cX10_keepOut 28 = .ok (.ldc 70, 2) := by decide +kernel
theorem dX10_keepOut_30 : decode cX10_keepOut 30 = .ok (.ireturn, 1) := by decide +kernel
theorem dX10_keepOut_31 : decode cX10_keepOut 31 = .ok (.aload_n 0, 1) := by decide +kernel
theorem dX10_keepOut_32 : decode cX10_keepOut 32 = .ok (.getfield 32, 3) := by decide +kernel
theorem dX10_keepOut_35 : decode cX10_keepOut 35 = .ok (.iload_n 1, 1) := by decide +kernel
theorem dX10_keepOut_36 : decode cX10_keepOut 36 = .ok (.invokestatic 154, 3) := by decide +kernel
theorem dX10_keepOut_39 : decode cX10_keepOut 39 = .ok (.istore 4, 2) := by decide +kernel
theorem dX10_keepOut_41 : decode cX10_keepOut 41 = .ok (.iconst (-1), 1) := by decide +kernel
theorem dX10_keepOut_42 : decode cX10_keepOut 42 = .ok (.istore 5, 2) := by decide +kernel
theorem dX10_keepOut_44 : decode cX10_keepOut 44 = .ok (.sipush 9999, 3) := by decide +kernel
theorem dX10_keepOut_47 : decode cX10_keepOut 47 = .ok (.istore 6, 2) := by decide +kernel
theorem dX10_keepOut_49 : decode cX10_keepOut 49 = .ok (.iconst 0, 1) := by decide +kernel
theorem dX10_keepOut_50 : decode cX10_keepOut 50 = .ok (.istore 7, 2) := by decide +kernel
theorem dX10_keepOut_52 : decode cX10_keepOut 52 = .ok (.iload 7, 2) := by decide +kernel
theorem dX10_keepOut_54 : decode cX10_keepOut 54 = .ok (.iconst 1, 1) := by decide +kernel
theorem dX10_keepOut_55 : decode cX10_keepOut 55 = .ok (.aload_n 0, 1) := by decide +kernel
theorem dX10_keepOut_56 : decode cX10_keepOut 56 = .ok (.getfield 64, 3) := by decide +kernel
theorem dX10_keepOut_59 : decode cX10_keepOut 59 = .ok (.ishl, 1) := by decide +kernel
theorem dX10_keepOut_60 : decode cX10_keepOut 60 = .ok (.if_icmp .ge 128, 3) := by decide +kernel
theorem dX10_keepOut_63 : decode cX10_keepOut 63 = .ok (.iconst 0, 1) := by decide +kernel
theorem dX10_keepOut_64 : decode cX10_keepOut 64 = .ok (.istore 8, 2) := by decide +kernel
theorem dX10_keepOut_66 : decode cX10_keepOut 66 = .ok (.iconst 0, 1) := by decide +kernel
theorem dX10_keepOut_67 : decode cX10_keepOut 67 = .ok (.istore 9, 2) := by decide +kernel
theorem dX10_keepOut_69 : decode cX10_keepOut 69 = .ok (.iload 9, 2) := by decide +kernel
theorem dX10_keepOut_71 : decode cX10_keepOut 71 = .ok (.aload_n 0, 1) := by decide +kernel
theorem dX10_keepOut_72 : decode cX10_keepOut 72 = .ok (.getfield 64, 3) := by decide +kernel
theorem dX10_keepOut_75 : decode cX10_keepOut 75 = .ok (.if_icmp .ge 45, 3) := by decide +kernel
theorem dX10_keepOut_78 : decode cX10_keepOut 78 = .ok (.iload 8, 2) := by decide +kernel
theorem dX10_keepOut_80 : decode cX10_keepOut 80 = .ok (.iload 7, 2) := by decide +kernel
theorem dX10_keepOut_82 : decode cX10_keepOut 82 = .ok (.iload 9, 2) := by decide +kernel
theorem dX10_keepOut_84 : decode cX10_keepOut 84 = .ok (.invokestatic 161, 3) := by decide +kernel
theorem dX10_keepOut_87 : decode cX10_keepOut 87 = .ok (.ifCond .eq 23, 3) := by decide +kernel
theorem dX10_keepOut_90 : decode cX10_keepOut 90 = .ok (.bipush 10, 2) := by decide +kernel
theorem dX10_keepOut_92 : decode cX10_keepOut 92 = .ok (.iload 4, 2) := by decide +kernel
theorem dX10_keepOut_94 : decode cX10_keepOut 94 = .ok (.isub, 1) := by decide +kernel
theorem dX10_keepOut_95 : decode cX10_keepOut 95 = .ok (.aload_n 0, 1) := by decide +kernel
theorem dX10_keepOut_96 : decode cX10_keepOut 96 = .ok (.getfield 32, 3) := by decide +kernel
theorem dX10_keepOut_99 : decode cX10_keepOut 99 = .ok (.iconst 3, 1) := by decide +kernel
theorem dX10_keepOut_100 : decode cX10_keepOut 100 = .ok (.iload 9, 2) := by decide +kernel
theorem dX10_keepOut_102 : decode cX10_keepOut 102 = .ok (.iadd, 1) := by decide +kernel
theorem dX10_keepOut_103 : decode cX10_keepOut 103 = .ok (.iaload, 1) := by decide +kernel
theorem dX10_keepOut_104 : decode cX10_keepOut 104 = .ok (.invokestatic 200, 3) := by decide +kernel
theorem dX10_keepOut_107 : decode cX10_keepOut 107 = .ok (.goto 4, 3) := by decide +kernel
theorem dX10_keepOut_110 : decode cX10_keepOut 110 = .ok (.iconst 0, 1) := by decide +kernel
theorem dX10_keepOut_111 : decode cX10_keepOut 111 = .ok (.iadd, 1) := by decide +kernel
theorem dX10_keepOut_112 : decode cX10_keepOut 112 = .ok (.istore 8, 2) := by decide +kernel
theorem dX10_keepOut_114 : decode cX10_keepOut 114 = .ok (.iinc 9 1, 3) := by decide +kernel
theorem dX10_keepOut_117 : decode cX10_keepOut 117 = .ok (.goto (-48), 3) := by decide +kernel
theorem dX10_keepOut_120 : decode cX10_keepOut 120 = .ok (.iload 7, 2) := by decide +kernel
theorem dX10_keepOut_122 : decode cX10_keepOut 122 = .ok (.ifCond .eq 8, 3) := by decide +kernel
theorem dX10_keepOut_125 : decode cX10_keepOut 125 = .ok (.iload 4, 2) := by decide +kernel
theorem dX10_keepOut_127 : decode cX10_keepOut 127 = .ok (.ifCond .le 7, 3) := by decide +kernel
theorem dX10_keepOut_130 : decode cX10_keepOut 130 = .ok (.iconst 1, 1) := by decide +kernel
theorem dX10_keepOut_131 : decode cX10_keepOut 131 = .ok (.goto 4, 3) := by decide +kernel
theorem dX10_keepOut_134 : decode cX10_keepOut 134 = .ok (.iconst 0, 1) := by decide +kernel
theorem dX10_keepOut_135 : decode cX10_keepOut 135 = .ok (.istore 9, 2) := by decide +kernel
theorem dX10_keepOut_137 : decode cX10_keepOut 137 = .ok (.iload 9, 2) := by decide +kernel
theorem dX10_keepOut_139 : decode cX10_keepOut 139 = .ok (.ifCond .eq 43, 3) := by decide +kernel
theorem dX10_keepOut_142 : decode cX10_keepOut 142 = .ok (.iload 8, 2) := by decide +kernel
theorem dX10_keepOut_144 : decode cX10_keepOut 144 = .ok (.iload 6, 2) := by decide +kernel
theorem dX10_keepOut_146 : decode cX10_keepOut 146 = .ok (.if_icmp .ge 36, 3) := by decide +kernel
theorem dX10_keepOut_149 : decode cX10_keepOut 149 = .ok (.aload_n 0, 1) := by decide +kernel
theorem dX10_keepOut_150 : decode cX10_keepOut 150 = .ok (.iload 4, 2) := by decide +kernel
theorem dX10_keepOut_152 : decode cX10_keepOut 152 = .ok (.aload_n 0, 1) := by decide +kernel
theorem dX10_keepOut_153 : decode cX10_keepOut 153 = .ok (.getfield 32, 3) := by decide +kernel
theorem dX10_keepOut_156 : decode cX10_keepOut 156 = .ok (.bipush 23, 2) := by decide +kernel
theorem dX10_keepOut_158 : decode cX10_keepOut 158 = .ok (.iload_n 1, 1) := by decide +kernel
theorem dX10_keepOut_159 : decode cX10_keepOut 159 = .ok (.iadd, 1) := by decide +kernel
theorem dX10_keepOut_160 : decode cX10_keepOut 160 = .ok (.iaload, 1) := by decide +kernel
theorem dX10_keepOut_161 : decode cX10_keepOut 161 = .ok (.iconst (-1), 1) := by decide +kernel
theorem dX10_keepOut_162 : decode cX10_keepOut 162 = .ok (.iload 7, 2) := by decide +kernel
theorem dX10_keepOut_164 : decode cX10_keepOut 164 = .ok (.invokevirtual 164, 3) := by decide +kernel
theorem dX10_keepOut_167 : decode cX10_keepOut 167 = .ok (.iload_n 2, 1) := by decide +kernel
theorem dX10_keepOut_168 : decode cX10_keepOut 168 = .ok (.invokestatic 161, 3) := by decide +kernel
theorem dX10_keepOut_171 : decode cX10_keepOut 171 = .ok (.ifCond .ne 11, 3) := by decide +kernel
theorem dX10_keepOut_174 : decode cX10_keepOut 174 = .ok (.iload 7, 2) := by decide +kernel
theorem dX10_keepOut_176 : decode cX10_keepOut 176 = .ok (.istore 5, 2) := by decide +kernel
theorem dX10_keepOut_178 : decode cX10_keepOut 178 = .ok (.iload 8, 2) := by decide +kernel
theorem dX10_keepOut_180 : decode cX10_keepOut 180 = .ok (.istore 6, 2) := by decide +kernel
theorem dX10_keepOut_182 : decode cX10_keepOut 182 = .ok (.iinc 7 1, 3) := by decide +kernel
theorem dX10_keepOut_185 : decode cX10_keepOut 185 = .ok (.goto (-133), 3) := by decide +kernel
theorem dX10_keepOut_188 : decode cX10_keepOut 188 = .ok (.iload 5, 2) := by decide +kernel
theorem dX10_keepOut_190 : decode cX10_keepOut 190 = .ok (.iconst (-1), 1) := by decide +kernel
theorem dX10_keepOut_191 : decode cX10_keepOut 191 = .ok (.if_icmp .ne 7, 3) := by decide +kernel
theorem dX10_keepOut_194 : decode cX10_keepOut 194 = .ok (.iconst (-1), 1) := by decide +kernel
theorem dX10_keepOut_195 : decode cX10_keepOut 195 = .ok (.goto 14, 3) := by decide +kernel
theorem dX10_keepOut_198 : decode cX10_keepOut 198 = .ok (.iload_n 3, 1) := by decide +kernel
theorem dX10_keepOut_199 : decode cX10_keepOut 199 = .ok (.ifCond .ne 8, 3) := by decide +kernel
theorem dX10_keepOut_202 : decode cX10_keepOut 202 = .ok (.iload 6, 2) := by decide +kernel
theorem dX10_keepOut_204 : decode cX10_keepOut 204 = .ok (.goto 5, 3) := by decide +kernel
theorem dX10_keepOut_207 : decode cX10_keepOut 207 = .ok (.iload 5, 2) := by decide +kernel
theorem dX10_keepOut_209 : decode cX10_keepOut 209 = .ok (.ireturn, 1) := by decide +kernel
theorem h_X10_keepOut : yX10_keepOut.cls ≠ "java/lang/invoke/MethodHandle" ∧ yX10_keepOut.cls ≠ "java/lang/invoke/VarHandle" ∧ (parseMethodDescriptor yX10_keepOut.desc).map (fun d => d.parameters.length) = some 3 := by decide +kernel
def mX10_keepOut_l69 (v_now : Nat → Int32) (x1 : Int32) (k_52 : Nat) (k_69 : Nat) (y8_69 : Int32) : Int32 := (if ((mX10_has (nI k_52) (nI k_69))) = 0 then y8_69 + (nI 0) else y8_69 + ((mX10_lessBy ((nI 10) - ((mX10_illOf v_now x1.toNatClampNeg))) (v_now (3 + k_69)))))
def mX10_keepOut_l52 (v_doors : Nat) (v_door : Nat → Int32) (v_now : Nat → Int32) (x1 : Int32) (x2 : Int32) (k_52 : Nat) (s : Int32 × Int32) : Int32 × Int32 := (if (nI k_52) = 0 then (if s.2 ≤ ((iter (mX10_keepOut_l69 v_now x1 k_52) v_doors (nI 0))) then (s.1, s.2) else (if ((mX10_has ((mX10_comesBy v_doors v_door v_now ((mX10_illOf v_now x1.toNatClampNeg)) (v_now (23 + x1.toNatClampNeg)) ((-1 : Int32)) (nI k_52))) x2)) = 0 then (nI k_52, (iter (mX10_keepOut_l69 v_now x1 k_52) v_doors (nI 0))) else (s.1, s.2))) else (if ((mX10_illOf v_now x1.toNatClampNeg)) ≤ 0 then (s.1, s.2) else (if s.2 ≤ ((iter (mX10_keepOut_l69 v_now x1 k_52) v_doors (nI 0))) then (s.1, s.2) else (if ((mX10_has ((mX10_comesBy v_doors v_door v_now ((mX10_illOf v_now x1.toNatClampNeg)) (v_now (23 + x1.toNatClampNeg)) ((-1 : Int32)) (nI k_52))) x2)) = 0 then (nI k_52, (iter (mX10_keepOut_l69 v_now x1 k_52) v_doors (nI 0))) else (s.1, s.2)))))
def mX10_keepOut (v_rooms : Int32) (v_doors : Nat) (v_persons : Nat) (v_door : Nat → Int32) (v_now : Nat → Int32) (x1 : Int32) (x2 : Int32) (x3 : Int32) : Int32 := (if ((mX10_isPerson v_persons x1)) = 0 then (-1000000001 : Int32) else (if ((mX10_isRoom v_rooms x2)) = 0 then (-1000000001 : Int32) else (if ((mX10_in x3 (nI 0) (nI 1))) = 0 then (-1000000002 : Int32) else ((fun (w_52 : Int32 × Int32) => (if w_52.1 = ((-1 : Int32)) then (-1 : Int32) else (if x3 = 0 then w_52.2 else w_52.1))) (iter (mX10_keepOut_l52 v_doors v_door v_now x1 x2) (((nI 1) <<< ((nI v_doors) &&& 31)).toNatClampNeg) (((-1 : Int32), nI 9999)))))))
set_option maxHeartbeats 4000000 in
set_option maxRecDepth 100000 in
theorem kX10_keepOut (l : Launch) (dC : Nat → ClassId) (dI : Nat → Nat → Nat) (cA cZ : ClassId) (a_this a_this_text a_this_readRain a_this_readDoor a_this_readPerson a_this_rain a_this_door a_this_now a_this_tried a_this_backOf a_this_image a_this_imageSeed a_this_isKept a_this_sight a_this_entry : Nat) (v_letters : Nat) (v_position : Nat) (v_tokenAt : Nat) (v_token : Int32) (v_number : Int32) (v_figures : Nat) (v_faultAt : Int32) (v_faultIs : Int32) (v_readRooms : Int32) (v_readStore : Int32) (v_readRains : Nat) (v_readDoors : Nat) (v_readPersons : Nat) (v_rooms : Int32) (v_rains : Nat) (v_doors : Nat) (v_persons : Nat) (v_backs : Nat) (v_seed : Int32) (v_seen : Nat) (v_entries : Nat) (v_door : Nat → Int32) (v_now : Nat → Int32) (x1 : Int32) (x2 : Int32) (x3 : Int32) (hD : v_doors ≤ 10) (hPn : v_persons ≤ 6) : Met l yX10_keepOut (Cond.code yX10_keepOut cX10_keepOut 10 (some .int) :: wt) ({ frames := 2, cells := 0, slots := 0, locals := 50 } : Room) (va_Pc [.ref a_this, .int x1, .int x2, .int x3] (PreP (dC, dI) [(cA, .int), (cZ, .boolean)] [(a_this, .inr (10, [.int (nI v_letters), .ref a_this_text, .int (nI v_position), .int (nI v_tokenAt), .int v_token, .int v_number, .int (nI v_figures), .int v_faultAt, .int v_faultIs, .int v_readRooms, .int v_readStore, .int (nI v_readRains), .int (nI v_readDoors), .int (nI v_readPersons), .ref a_this_readRain, .ref a_this_readDoor, .ref a_this_readPerson, .int v_rooms, .int (nI v_rains), .int (nI v_doors), .int (nI v_persons), .ref a_this_rain, .ref a_this_door, .ref a_this_now, .ref a_this_tried, .ref a_this_backOf, .int (nI v_backs), .ref a_this_image, .ref a_this_imageSeed, .ref a_this_isKept, .int v_seed, .int (nI v_seen), .ref a_this_sight, .int (nI v_entries), .ref a_this_entry])), (a_this_door, .inl (cA, 40, .inl v_door)), (a_this_now, .inl (cA, 35, .inl v_now))])) (vp_Si (fun r => r = (mX10_keepOut v_rooms v_doors v_persons v_door v_now x1 x2 x3))) 0 0 (fun _ => False) := by
  refine Met.ofW (cc := cX10_keepOut) (maxL := 10) (ret := (some .int)) (by decide) rfl ?_
  intro p e s m args below meth c s₁ B hml hv
  obtain ⟨ha, hP, hK⟩ := hv
  have hx := B.exec
  have hb := B.bytes
  have hr := B.returns
  have ht : ∀ w ∈ wt, w.before args s = true := fun w h => atoms_spec (ws := (Cond.code yX10_keepOut cX10_keepOut 10 (some .int) :: wt)) B.pre w (List.mem_cons_of_mem _ h)
  have hown : s.vm.findClass RX10 = some m.cls := findClass_of_methodNamed B.named
  have hlocks := B.notSynchronized
  have hl := lv_entry ([.ref a_this, .int x1, .int x2, .int x3]) (n := 10) (Nat.le_of_ble_eq_true rfl)
  rw [show entryFrame m args 10 = _ from (congrArg (fun a => entryFrame m a 10) ha).trans (lg_entry_eq m [.ref a_this, .int x1, .int x2, .int x3] 10)]
  generalize (lg_sl ([.ref a_this, .int x1, .int x2, .int x3]) ++ List.replicate (10 - (lg_sl ([.ref a_this, .int x1, .int x2, .int x3])).length) Slot.unset).toArray = ls at hl ⊢
  have hl : lv_has ls 10 [(0, .ref a_this), (1, .int x1), (2, .int x2), (3, .int x3)] := hl
  have hm : (if ((mX10_isPerson v_persons x1)) = 0 then (-1000000001 : Int32) else (if ((mX10_isRoom v_rooms x2)) = 0 then (-1000000001 : Int32) else (if ((mX10_in x3 (nI 0) (nI 1))) = 0 then (-1000000002 : Int32) else ((fun (w_52 : Int32 × Int32) => (if w_52.1 = ((-1 : Int32)) then (-1 : Int32) else (if x3 = 0 then w_52.2 else w_52.1))) (iter (mX10_keepOut_l52 v_doors v_door v_now x1 x2) (((nI 1) <<< ((nI v_doors) &&& 31)).toNatClampNeg) (((-1 : Int32), nI 9999))))))) = (mX10_keepOut v_rooms v_doors v_persons v_door v_now x1 x2 x3) := rfl
  refine lv_aload_n hx hb dX10_keepOut_0 rfl (lv_at hl 0 rfl) ?_
  refine lv_iload_n hx hb dX10_keepOut_1 rfl (lv_at hl 1 rfl) ?_
  refine pv_call (v := (mX10_isPerson v_persons x1)) (va_runV (As := [.int x1]) (rest := []) ⟨hx, hb, hml, hown, ht⟩ (kX10_isPerson l dC dI cA cZ a_this a_this_text a_this_readRain a_this_readDoor a_this_readPerson a_this_rain a_this_door a_this_now a_this_tried a_this_backOf a_this_image a_this_imageSeed a_this_isKept a_this_sight a_this_entry v_letters v_position v_tokenAt v_token v_number v_figures v_faultAt v_faultIs v_readRooms v_readStore v_readRains v_readDoors v_readPersons v_rooms v_rains v_doors v_persons v_backs v_seed v_seen v_entries x1) (cwV 1 ht (gi_V (C := RX10) w_5_175 w_5_177 w_0_33 w_1_12 (gi_code w_5_178)) rfl rfl rfl ⟨rfl, h_X10_isPerson⟩ ⟨Nat.le_of_ble_eq_true rfl, Nat.le_of_ble_eq_true rfl⟩) ⟨pp_blind, va_recv hK.1 hP (ci := 10) (q0 := 0) rfl rfl, pp_use (pc_sub (wc := [(a_this, .inr (10, [.int (nI v_letters), .ref a_this_text, .int (nI v_position), .int (nI v_tokenAt), .int v_token, .int v_number, .int (nI v_figures), .int v_faultAt, .int v_faultIs, .int v_readRooms, .int v_readStore, .int (nI v_readRains), .int (nI v_readDoors), .int (nI v_readPersons), .ref a_this_readRain, .ref a_this_readDoor, .ref a_this_readPerson, .int v_rooms, .int (nI v_rains), .int (nI v_doors), .int (nI v_persons), .ref a_this_rain, .ref a_this_door, .ref a_this_now, .ref a_this_tried, .ref a_this_backOf, .int (nI v_backs), .ref a_this_image, .ref a_this_imageSeed, .ref a_this_isKept, .int v_seed, .int (nI v_seen), .ref a_this_sight, .int (nI v_entries), .ref a_this_entry]))]) hP [0] rfl) hK⟩ rfl rfl hl.1 rfl (lv_room (Nat.le_of_ble_eq_true rfl)) dX10_keepOut_2 ⟨Nat.zero_le _, Nat.zero_le _⟩) ?_
  refine lv_if_eq (tgt := 16) hx hb dX10_keepOut_5 (by decide) (fun c_1 => ?_) (fun c_1 => ?_)
  · have hm := (if_pos c_1).symm.trans hm
    refine lv_ldc (v := (-1000000001 : Int32)) hx hb hown (ht _ w_5_167) dX10_keepOut_16 ?_
    exact W.iret (v := (-1000000001 : Int32)) hx hb hr (fun t ht9 _ => ⟨_, rfl, hm, ht9⟩) (fun q hq => absurd hq List.not_mem_nil) dX10_keepOut_18
  · have hm := (if_neg c_1).symm.trans hm
    obtain ⟨hj1, hx1⟩ := isPerson_spec (by omega) c_1
    have hl : lv_has ls 10 [(0, .ref a_this), (1, .int (nI x1.toNatClampNeg)), (2, .int x2), (3, .int x3)] := by rw [← hx1]; exact hl
    refine lv_aload_n hx hb dX10_keepOut_8 rfl (lv_at hl 0 rfl) ?_
    refine lv_iload_n hx hb dX10_keepOut_9 rfl (lv_at hl 2 rfl) ?_
    refine pv_call (v := (mX10_isRoom v_rooms x2)) (va_runV (As := [.int x2]) (rest := []) ⟨hx, hb, hml, hown, ht⟩ (kX10_isRoom l dC dI cA cZ a_this a_this_text a_this_readRain a_this_readDoor a_this_readPerson a_this_rain a_this_door a_this_now a_this_tried a_this_backOf a_this_image a_this_imageSeed a_this_isKept a_this_sight a_this_entry v_letters v_position v_tokenAt v_token v_number v_figures v_faultAt v_faultIs v_readRooms v_readStore v_readRains v_readDoors v_readPersons v_rooms v_rains v_doors v_persons v_backs v_seed v_seen v_entries x2) (cwV 1 ht (gi_V (C := RX10) w_5_183 w_5_185 w_0_34 w_1_12 (gi_code w_5_186)) rfl rfl rfl ⟨rfl, h_X10_isRoom⟩ ⟨Nat.le_of_ble_eq_true rfl, Nat.le_of_ble_eq_true rfl⟩) ⟨pp_blind, va_recv hK.1 hP (ci := 10) (q0 := 0) rfl rfl, pp_use (pc_sub (wc := [(a_this, .inr (10, [.int (nI v_letters), .ref a_this_text, .int (nI v_position), .int (nI v_tokenAt), .int v_token, .int v_number, .int (nI v_figures), .int v_faultAt, .int v_faultIs, .int v_readRooms, .int v_readStore, .int (nI v_readRains), .int (nI v_readDoors), .int (nI v_readPersons), .ref a_this_readRain, .ref a_this_readDoor, .ref a_this_readPerson, .int v_rooms, .int (nI v_rains), .int (nI v_doors), .int (nI v_persons), .ref a_this_rain, .ref a_this_door, .ref a_this_now, .ref a_this_tried, .ref a_this_backOf, .int (nI v_backs), .ref a_this_image, .ref a_this_imageSeed, .ref a_this_isKept, .int v_seed, .int (nI v_seen), .ref a_this_sight, .int (nI v_entries), .ref a_this_entry]))]) hP [0] rfl) hK⟩ rfl rfl hl.1 rfl (lv_room (Nat.le_of_ble_eq_true rfl)) dX10_keepOut_10 ⟨Nat.zero_le _, Nat.zero_le _⟩) ?_
    refine lv_if_ne (tgt := 19) hx hb dX10_keepOut_13 (by decide) (fun c_2 => ?_) (fun c_2 => ?_)
    · have hm := (if_neg c_2).symm.trans hm
      refine lv_iload_n hx hb dX10_keepOut_19 rfl (lv_at hl 3 rfl) ?_
      refine lv_iconst (v := nI 0) hx hb dX10_keepOut_20 (by decide) ?_
      refine lv_iconst (v := nI 1) hx hb dX10_keepOut_21 (by decide) ?_
      refine pv_call (v := (mX10_in x3 (nI 0) (nI 1))) (va_runS (As := [.int x3, .int (nI 0), .int (nI 1)]) (rest := []) ⟨hx, hb, hml, hown, ht⟩ (kX10_in l dC dI cA cZ x3 (nI 0) (nI 1)) (va_cwS 3 ht (gi_S w_5_74 w_5_75 w_1_12 (gi_code w_5_76)) rfl rfl rfl h_X10_in ⟨Nat.le_of_ble_eq_true rfl, Nat.le_of_ble_eq_true rfl⟩) ⟨pp_blind, pp_use (ws := []) (fun _ _ h => by cases h) hK⟩ rfl rfl hl.1 rfl (lv_room (Nat.le_of_ble_eq_true rfl)) dX10_keepOut_22 ⟨Nat.zero_le _, Nat.zero_le _⟩) ?_
      refine lv_if_ne (tgt := 31) hx hb dX10_keepOut_25 (by decide) (fun c_3 => ?_) (fun c_3 => ?_)
      · have hm := (if_neg c_3).symm.trans hm
        refine lv_aload_n hx hb dX10_keepOut_31 rfl (lv_at hl 0 rfl) ?_
        refine va_get (D := (dC, dI)) (ci := 10) (v := .ref a_this_now) (C := RX10) (T := TX10) (N := 35) hx hb ht iX10 hown hK.1 hP 0 rfl rfl 23 (by decide) (ht _ w_4_226) (fun _ h9 => h9) rfl dX10_keepOut_32 ?_
        refine lv_iload_n hx hb dX10_keepOut_35 rfl (lv_at hl 1 rfl) ?_
        refine pv_call (v := (mX10_illOf v_now x1.toNatClampNeg)) (va_runS (As := [.ref a_this_now, .int (nI x1.toNatClampNeg)]) (rest := []) ⟨hx, hb, hml, hown, ht⟩ (kX10_illOf l dC dI cA cZ a_this_now v_now x1.toNatClampNeg (by omega)) (va_cwS 2 ht (gi_S w_5_142 w_5_143 w_1_12 (gi_code w_5_144)) rfl rfl rfl h_X10_illOf ⟨Nat.le_of_ble_eq_true rfl, Nat.le_of_ble_eq_true rfl⟩) ⟨pp_blind, pp_use (pc_sub (wc := [(a_this_now, .inl (cA, 35, .inl v_now))]) hP [2] rfl) hK⟩ rfl rfl hl.1 rfl (lv_room (Nat.le_of_ble_eq_true rfl)) dX10_keepOut_36 ⟨Nat.zero_le _, Nat.zero_le _⟩) ?_
        refine lv_istore (lv' := [(4, .int ((mX10_illOf v_now x1.toNatClampNeg))), (0, .ref a_this), (1, .int (nI x1.toNatClampNeg)), (2, .int x2), (3, .int x3)]) hx hb dX10_keepOut_39 hl (by decide) rfl (fun ls hl => ?_)
        refine lv_iconst (v := (-1 : Int32)) hx hb dX10_keepOut_41 (by decide) ?_
        refine lv_istore (lv' := [(5, .int ((-1 : Int32))), (4, .int ((mX10_illOf v_now x1.toNatClampNeg))), (0, .ref a_this), (1, .int (nI x1.toNatClampNeg)), (2, .int x2), (3, .int x3)]) hx hb dX10_keepOut_42 hl (by decide) rfl (fun ls hl => ?_)
        refine lv_sipush (v := nI 9999) hx hb dX10_keepOut_44 (by decide) ?_
        refine lv_istore (lv' := [(6, .int (nI 9999)), (5, .int ((-1 : Int32))), (4, .int ((mX10_illOf v_now x1.toNatClampNeg))), (0, .ref a_this), (1, .int (nI x1.toNatClampNeg)), (2, .int x2), (3, .int x3)]) hx hb dX10_keepOut_47 hl (by decide) rfl (fun ls hl => ?_)
        refine lv_iconst (v := nI 0) hx hb dX10_keepOut_49 (by decide) ?_
        refine lv_istore (lv' := [(7, .int (nI 0)), (6, .int (nI 9999)), (5, .int ((-1 : Int32))), (4, .int ((mX10_illOf v_now x1.toNatClampNeg))), (0, .ref a_this), (1, .int (nI x1.toNatClampNeg)), (2, .int x2), (3, .int x3)]) hx hb dX10_keepOut_50 hl (by decide) rfl (fun ls hl => ?_)
        have L_52 : ∀ (n_52 k_52 : Nat), k_52 + n_52 = ((nI 1) <<< ((nI v_doors) &&& 31)).toNatClampNeg → ∀ (y5_52 : Int32) (y6_52 : Int32), y5_52 = ((iter (mX10_keepOut_l52 v_doors v_door v_now x1 x2) k_52 (((-1 : Int32), nI 9999)))).1 → y6_52 = ((iter (mX10_keepOut_l52 v_doors v_door v_now x1 x2) k_52 (((-1 : Int32), nI 9999)))).2 → ∀ (ls : Array Slot), lv_has ls 10 [(7, .int (nI k_52)), (6, .int y6_52), (5, .int y5_52), (4, .int ((mX10_illOf v_now x1.toNatClampNeg))), (0, .ref a_this), (1, .int (nI x1.toNatClampNeg)), (2, .int x2), (3, .int x3)] → W p l e (headSpec (Cond.code yX10_keepOut cX10_keepOut 10 (some .int) :: wt) ({ frames := 2, cells := 0, slots := 0, locals := 50 } : Room)).room s m args below meth c s.heap [] 0 0 (MQ below (vp_Si (fun r => r = (mX10_keepOut v_rooms v_doors v_persons v_door v_now x1 x2 x3))) args s 0 0 (fun _ => False)) (F0 m 52 ls []) := by
          intro n_52
          induction n_52 with
          | zero =>
            intro k_52 hk y5_52 y6_52 ex0_52 ex1_52 ls hl
            obtain rfl : ((nI 1) <<< ((nI v_doors) &&& 31)).toNatClampNeg = k_52 := by omega
            have he : (y5_52, y6_52) = (iter (mX10_keepOut_l52 v_doors v_door v_now x1 x2) (((nI 1) <<< ((nI v_doors) &&& 31)).toNatClampNeg) (((-1 : Int32), nI 9999))) := by rw [ex0_52, ex1_52]
            rw [← he] at hm
            have hm : (if y5_52 = ((-1 : Int32)) then (-1 : Int32) else (if x3 = 0 then y6_52 else y5_52)) = _ := hm
            refine lv_iload hx hb dX10_keepOut_52 (lv_at hl 0 rfl) ?_
            refine lv_iconst (v := nI 1) hx hb dX10_keepOut_54 (by decide) ?_
            refine lv_aload_n hx hb dX10_keepOut_55 rfl (lv_at hl 4 rfl) ?_
            refine va_get (D := (dC, dI)) (ci := 10) (v := .int (nI v_doors)) (C := RX10) (T := TX10) (N := 35) hx hb ht iX10 hown hK.1 hP 0 rfl rfl 19 (by decide) (ht _ w_4_222) (fun _ h9 => h9) rfl dX10_keepOut_56 ?_
            refine lv_ishl hx hb dX10_keepOut_59 ?_
            refine lv_icmp_ge (tgt := 188) hx hb dX10_keepOut_60 (by decide) (fun c_17 => ?_) (fun c_17 => ?_)
            · skip
              refine lv_iload hx hb dX10_keepOut_188 (lv_at hl 2 rfl) ?_
              refine lv_iconst (v := (-1 : Int32)) hx hb dX10_keepOut_190 (by decide) ?_
              refine lv_icmp_ne (tgt := 198) hx hb dX10_keepOut_191 (by decide) (fun c_18 => ?_) (fun c_18 => ?_)
              · have hm := (if_neg c_18).symm.trans hm
                refine lv_iload_n hx hb dX10_keepOut_198 rfl (lv_at hl 7 rfl) ?_
                refine lv_if_ne (tgt := 207) hx hb dX10_keepOut_199 (by decide) (fun c_19 => ?_) (fun c_19 => ?_)
                · have hm := (if_neg c_19).symm.trans hm
                  refine lv_iload hx hb dX10_keepOut_207 (lv_at hl 2 rfl) ?_
                  exact W.iret (v := y5_52) hx hb hr (fun t ht9 _ => ⟨_, rfl, hm, ht9⟩) (fun q hq => absurd hq List.not_mem_nil) dX10_keepOut_209
                · have hm := (if_pos c_19).symm.trans hm
                  refine lv_iload hx hb dX10_keepOut_202 (lv_at hl 1 rfl) ?_
                  refine lv_goto (tgt := 209) hx hb dX10_keepOut_204 (by decide) ?_
                  exact W.iret (v := y6_52) hx hb hr (fun t ht9 _ => ⟨_, rfl, hm, ht9⟩) (fun q hq => absurd hq List.not_mem_nil) dX10_keepOut_209
              · have hm := (if_pos c_18).symm.trans hm
                refine lv_iconst (v := (-1 : Int32)) hx hb dX10_keepOut_194 (by decide) ?_
                refine lv_goto (tgt := 209) hx hb dX10_keepOut_195 (by decide) ?_
                exact W.iret (v := (-1 : Int32)) hx hb hr (fun t ht9 _ => ⟨_, rfl, hm, ht9⟩) (fun q hq => absurd hq List.not_mem_nil) dX10_keepOut_209
            · exact absurd (lpE (by omega) (by have := clampLt ((nI 1) <<< ((nI v_doors) &&& 31)); omega)) c_17
          | succ n_52 ih =>
            intro k_52 hk y5_52 y6_52 ex0_52 ex1_52 ls hl
            have hm : (mX10_keepOut_l52 v_doors v_door v_now x1 x2) k_52 (y5_52, y6_52) = (iter (mX10_keepOut_l52 v_doors v_door v_now x1 x2) (k_52 + 1) (((-1 : Int32), nI 9999))) := by rw [ex0_52, ex1_52]; rfl
            have hm : (if (nI k_52) = 0 then (if y6_52 ≤ ((iter (mX10_keepOut_l69 v_now x1 k_52) v_doors (nI 0))) then (y5_52, y6_52) else (if ((mX10_has ((mX10_comesBy v_doors v_door v_now ((mX10_illOf v_now x1.toNatClampNeg)) (v_now (23 + x1.toNatClampNeg)) ((-1 : Int32)) (nI k_52))) x2)) = 0 then (nI k_52, (iter (mX10_keepOut_l69 v_now x1 k_52) v_doors (nI 0))) else (y5_52, y6_52))) else (if ((mX10_illOf v_now x1.toNatClampNeg)) ≤ 0 then (y5_52, y6_52) else (if y6_52 ≤ ((iter (mX10_keepOut_l69 v_now x1 k_52) v_doors (nI 0))) then (y5_52, y6_52) else (if ((mX10_has ((mX10_comesBy v_doors v_door v_now ((mX10_illOf v_now x1.toNatClampNeg)) (v_now (23 + x1.toNatClampNeg)) ((-1 : Int32)) (nI k_52))) x2)) = 0 then (nI k_52, (iter (mX10_keepOut_l69 v_now x1 k_52) v_doors (nI 0))) else (y5_52, y6_52))))) = (iter (mX10_keepOut_l52 v_doors v_door v_now x1 x2) (k_52 + 1) (((-1 : Int32), nI 9999))) := hm
            refine lv_iload hx hb dX10_keepOut_52 (lv_at hl 0 rfl) ?_
            refine lv_iconst (v := nI 1) hx hb dX10_keepOut_54 (by decide) ?_
            refine lv_aload_n hx hb dX10_keepOut_55 rfl (lv_at hl 4 rfl) ?_
            refine va_get (D := (dC, dI)) (ci := 10) (v := .int (nI v_doors)) (C := RX10) (T := TX10) (N := 35) hx hb ht iX10 hown hK.1 hP 0 rfl rfl 19 (by decide) (ht _ w_4_222) (fun _ h9 => h9) rfl dX10_keepOut_56 ?_
            refine lv_ishl hx hb dX10_keepOut_59 ?_
            refine lv_icmp_ge (tgt := 188) hx hb dX10_keepOut_60 (by decide) (fun c_4 => ?_) (fun c_4 => ?_)
            · exact absurd c_4 (lpN (by omega))
            · skip
              refine lv_iconst (v := nI 0) hx hb dX10_keepOut_63 (by decide) ?_
              refine lv_istore (lv' := [(8, .int (nI 0)), (7, .int (nI k_52)), (6, .int y6_52), (5, .int y5_52), (4, .int ((mX10_illOf v_now x1.toNatClampNeg))), (0, .ref a_this), (1, .int (nI x1.toNatClampNeg)), (2, .int x2), (3, .int x3)]) hx hb dX10_keepOut_64 hl (by decide) rfl (fun ls hl => ?_)
              refine lv_iconst (v := nI 0) hx hb dX10_keepOut_66 (by decide) ?_
              refine lv_istore (lv' := [(9, .int (nI 0)), (8, .int (nI 0)), (7, .int (nI k_52)), (6, .int y6_52), (5, .int y5_52), (4, .int ((mX10_illOf v_now x1.toNatClampNeg))), (0, .ref a_this), (1, .int (nI x1.toNatClampNeg)), (2, .int x2), (3, .int x3)]) hx hb dX10_keepOut_67 hl (by decide) rfl (fun ls hl => ?_)
              have L_69 : ∀ (n_69 k_69 : Nat), k_69 + n_69 = v_doors → ∀ (y8_69 : Int32), y8_69 = (iter (mX10_keepOut_l69 v_now x1 k_52) k_69 (nI 0)) → ∀ (ls : Array Slot), lv_has ls 10 [(9, .int (nI k_69)), (8, .int y8_69), (7, .int (nI k_52)), (6, .int y6_52), (5, .int y5_52), (4, .int ((mX10_illOf v_now x1.toNatClampNeg))), (0, .ref a_this), (1, .int (nI x1.toNatClampNeg)), (2, .int x2), (3, .int x3)] → W p l e (headSpec (Cond.code yX10_keepOut cX10_keepOut 10 (some .int) :: wt) ({ frames := 2, cells := 0, slots := 0, locals := 50 } : Room)).room s m args below meth c s.heap [] 0 0 (MQ below (vp_Si (fun r => r = (mX10_keepOut v_rooms v_doors v_persons v_door v_now x1 x2 x3))) args s 0 0 (fun _ => False)) (F0 m 69 ls []) := by
                intro n_69
                induction n_69 with
                | zero =>
                  intro k_69 hk y8_69 ex0_69 ls hl
                  obtain rfl : v_doors = k_69 := by omega
                  subst ex0_69
                  refine lv_iload hx hb dX10_keepOut_69 (lv_at hl 0 rfl) ?_
                  refine lv_aload_n hx hb dX10_keepOut_71 rfl (lv_at hl 6 rfl) ?_
                  refine va_get (D := (dC, dI)) (ci := 10) (v := .int (nI v_doors)) (C := RX10) (T := TX10) (N := 35) hx hb ht iX10 hown hK.1 hP 0 rfl rfl 19 (by decide) (ht _ w_4_222) (fun _ h9 => h9) rfl dX10_keepOut_72 ?_
                  refine lv_icmp_ge (tgt := 120) hx hb dX10_keepOut_75 (by decide) (fun c_7 => ?_) (fun c_7 => ?_)
                  · skip
                    refine lv_iload hx hb dX10_keepOut_120 (lv_at hl 2 rfl) ?_
                    refine lv_if_eq (tgt := 130) hx hb dX10_keepOut_122 (by decide) (fun c_8 => ?_) (fun c_8 => ?_)
                    · have hm := (if_pos c_8).symm.trans hm
                      refine lv_iconst (v := nI 1) hx hb dX10_keepOut_130 (by decide) ?_
                      refine lv_goto (tgt := 135) hx hb dX10_keepOut_131 (by decide) ?_
                      refine lv_istore (lv' := [(9, .int (nI 1)), (8, .int ((iter (mX10_keepOut_l69 v_now x1 k_52) v_doors (nI 0)))), (7, .int (nI k_52)), (6, .int y6_52), (5, .int y5_52), (4, .int ((mX10_illOf v_now x1.toNatClampNeg))), (0, .ref a_this), (1, .int (nI x1.toNatClampNeg)), (2, .int x2), (3, .int x3)]) hx hb dX10_keepOut_135 hl (by decide) rfl (fun ls hl => ?_)
                      refine lv_iload hx hb dX10_keepOut_137 (lv_at hl 0 rfl) ?_
                      refine lv_if_eq (tgt := 182) hx hb dX10_keepOut_139 (by decide) (fun c_9 => ?_) (fun c_9 => ?_)
                      · exact absurd c_9 (by decide)
                      · skip
                        refine lv_iload hx hb dX10_keepOut_142 (lv_at hl 1 rfl) ?_
                        refine lv_iload hx hb dX10_keepOut_144 (lv_at hl 3 rfl) ?_
                        refine lv_icmp_ge (tgt := 182) hx hb dX10_keepOut_146 (by decide) (fun c_10 => ?_) (fun c_10 => ?_)
                        · have hm := (if_pos c_10).symm.trans hm
                          refine lv_iinc (v := nI (k_52 + 1)) (lv' := [(7, .int (nI (k_52 + 1))), (9, .int (nI 1)), (8, .int ((iter (mX10_keepOut_l69 v_now x1 k_52) v_doors (nI 0)))), (6, .int y6_52), (5, .int y5_52), (4, .int ((mX10_illOf v_now x1.toNatClampNeg))), (0, .ref a_this), (1, .int (nI x1.toNatClampNeg)), (2, .int x2), (3, .int x3)]) hx hb dX10_keepOut_182 hl (k := 2) rfl (nI_1 _) (by decide) rfl (fun ls hl => ?_)
                          refine lv_goto (tgt := 52) hx hb dX10_keepOut_185 (by decide) ?_
                          exact ih (k_52 + 1) (by omega) y5_52 y6_52 (congrArg (fun z => z.1) hm) (congrArg (fun z => z.2) hm) ls (lv_sub hl [0, 3, 4, 5, 6, 7, 8, 9] rfl)
                        · have hm := (if_neg c_10).symm.trans hm
                          refine lv_aload_n hx hb dX10_keepOut_149 rfl (lv_at hl 6 rfl) ?_
                          refine lv_iload hx hb dX10_keepOut_150 (lv_at hl 5 rfl) ?_
                          refine lv_aload_n hx hb dX10_keepOut_152 rfl (lv_at hl 6 rfl) ?_
                          refine va_get (D := (dC, dI)) (ci := 10) (v := .ref a_this_now) (C := RX10) (T := TX10) (N := 35) hx hb ht iX10 hown hK.1 hP 0 rfl rfl 23 (by decide) (ht _ w_4_226) (fun _ h9 => h9) rfl dX10_keepOut_153 ?_
                          refine lv_bipush (v := nI 23) hx hb dX10_keepOut_156 (by decide) ?_
                          refine lv_iload_n hx hb dX10_keepOut_158 rfl (lv_at hl 7 rfl) ?_
                          refine nv_iadd hx hb dX10_keepOut_159 ?_
                          refine nv_iald (e := 23 + x1.toNatClampNeg) (by omega) (by omega) hx hb hK.1 hP 2 0 rfl rfl dX10_keepOut_160 ?_
                          refine lv_iconst (v := (-1 : Int32)) hx hb dX10_keepOut_161 (by decide) ?_
                          refine lv_iload hx hb dX10_keepOut_162 (lv_at hl 2 rfl) ?_
                          refine pv_call (v := (mX10_comesBy v_doors v_door v_now ((mX10_illOf v_now x1.toNatClampNeg)) (v_now (23 + x1.toNatClampNeg)) ((-1 : Int32)) (nI k_52))) (va_runV (As := [.int ((mX10_illOf v_now x1.toNatClampNeg)), .int (v_now (23 + x1.toNatClampNeg)), .int ((-1 : Int32)), .int (nI k_52)]) (rest := []) ⟨hx, hb, hml, hown, ht⟩ (kX10_comesBy l dC dI cA cZ a_this a_this_text a_this_readRain a_this_readDoor a_this_readPerson a_this_rain a_this_door a_this_now a_this_tried a_this_backOf a_this_image a_this_imageSeed a_this_isKept a_this_sight a_this_entry v_letters v_position v_tokenAt v_token v_number v_figures v_faultAt v_faultIs v_readRooms v_readStore v_readRains v_readDoors v_readPersons v_rooms v_rains v_doors v_persons v_backs v_seed v_seen v_entries v_door v_now ((mX10_illOf v_now x1.toNatClampNeg)) (v_now (23 + x1.toNatClampNeg)) ((-1 : Int32)) (nI k_52) (by omega)) (cwV 4 ht (gi_V (C := RX10) w_5_145 w_5_147 w_0_30 w_1_12 (gi_code w_5_148)) rfl rfl rfl ⟨rfl, h_X10_comesBy⟩ ⟨Nat.le_of_ble_eq_true rfl, Nat.le_of_ble_eq_true rfl⟩) ⟨pp_blind, va_recv hK.1 hP (ci := 10) (q0 := 0) rfl rfl, pp_use hP hK⟩ rfl rfl hl.1 rfl (lv_room (Nat.le_of_ble_eq_true rfl)) dX10_keepOut_164 ⟨Nat.zero_le _, Nat.zero_le _⟩) ?_
                          refine lv_iload_n hx hb dX10_keepOut_167 rfl (lv_at hl 8 rfl) ?_
                          refine pv_call (v := (mX10_has ((mX10_comesBy v_doors v_door v_now ((mX10_illOf v_now x1.toNatClampNeg)) (v_now (23 + x1.toNatClampNeg)) ((-1 : Int32)) (nI k_52))) x2)) (va_runS (As := [.int ((mX10_comesBy v_doors v_door v_now ((mX10_illOf v_now x1.toNatClampNeg)) (v_now (23 + x1.toNatClampNeg)) ((-1 : Int32)) (nI k_52))), .int x2]) (rest := []) ⟨hx, hb, hml, hown, ht⟩ (kX10_has l dC dI cA cZ ((mX10_comesBy v_doors v_door v_now ((mX10_illOf v_now x1.toNatClampNeg)) (v_now (23 + x1.toNatClampNeg)) ((-1 : Int32)) (nI k_52))) x2) (va_cwS 2 ht (gi_S w_5_149 w_5_150 w_1_12 (gi_code w_5_151)) rfl rfl rfl h_X10_has ⟨Nat.le_of_ble_eq_true rfl, Nat.le_of_ble_eq_true rfl⟩) ⟨pp_blind, pp_use (ws := []) (fun _ _ h => by cases h) hK⟩ rfl rfl hl.1 rfl (lv_room (Nat.le_of_ble_eq_true rfl)) dX10_keepOut_168 ⟨Nat.zero_le _, Nat.zero_le _⟩) ?_
                          refine lv_if_ne (tgt := 182) hx hb dX10_keepOut_171 (by decide) (fun c_11 => ?_) (fun c_11 => ?_)
                          · have hm := (if_neg c_11).symm.trans hm
                            refine lv_iinc (v := nI (k_52 + 1)) (lv' := [(7, .int (nI (k_52 + 1))), (9, .int (nI 1)), (8, .int ((iter (mX10_keepOut_l69 v_now x1 k_52) v_doors (nI 0)))), (6, .int y6_52), (5, .int y5_52), (4, .int ((mX10_illOf v_now x1.toNatClampNeg))), (0, .ref a_this), (1, .int (nI x1.toNatClampNeg)), (2, .int x2), (3, .int x3)]) hx hb dX10_keepOut_182 hl (k := 2) rfl (nI_1 _) (by decide) rfl (fun ls hl => ?_)
                            refine lv_goto (tgt := 52) hx hb dX10_keepOut_185 (by decide) ?_
                            exact ih (k_52 + 1) (by omega) y5_52 y6_52 (congrArg (fun z => z.1) hm) (congrArg (fun z => z.2) hm) ls (lv_sub hl [0, 3, 4, 5, 6, 7, 8, 9] rfl)
                          · have hm := (if_pos c_11).symm.trans hm
                            refine lv_iload hx hb dX10_keepOut_174 (lv_at hl 2 rfl) ?_
                            refine lv_istore (lv' := [(5, .int (nI k_52)), (9, .int (nI 1)), (8, .int ((iter (mX10_keepOut_l69 v_now x1 k_52) v_doors (nI 0)))), (7, .int (nI k_52)), (6, .int y6_52), (4, .int ((mX10_illOf v_now x1.toNatClampNeg))), (0, .ref a_this), (1, .int (nI x1.toNatClampNeg)), (2, .int x2), (3, .int x3)]) hx hb dX10_keepOut_176 hl (by decide) rfl (fun ls hl => ?_)
                            refine lv_iload hx hb dX10_keepOut_178 (lv_at hl 2 rfl) ?_
                            refine lv_istore (lv' := [(6, .int ((iter (mX10_keepOut_l69 v_now x1 k_52) v_doors (nI 0)))), (5, .int (nI k_52)), (9, .int (nI 1)), (8, .int ((iter (mX10_keepOut_l69 v_now x1 k_52) v_doors (nI 0)))), (7, .int (nI k_52)), (4, .int ((mX10_illOf v_now x1.toNatClampNeg))), (0, .ref a_this), (1, .int (nI x1.toNatClampNeg)), (2, .int x2), (3, .int x3)]) hx hb dX10_keepOut_180 hl (by decide) rfl (fun ls hl => ?_)
                            refine lv_iinc (v := nI (k_52 + 1)) (lv' := [(7, .int (nI (k_52 + 1))), (6, .int ((iter (mX10_keepOut_l69 v_now x1 k_52) v_doors (nI 0)))), (5, .int (nI k_52)), (9, .int (nI 1)), (8, .int ((iter (mX10_keepOut_l69 v_now x1 k_52) v_doors (nI 0)))), (4, .int ((mX10_illOf v_now x1.toNatClampNeg))), (0, .ref a_this), (1, .int (nI x1.toNatClampNeg)), (2, .int x2), (3, .int x3)]) hx hb dX10_keepOut_182 hl (k := 4) rfl (nI_1 _) (by decide) rfl (fun ls hl => ?_)
                            refine lv_goto (tgt := 52) hx hb dX10_keepOut_185 (by decide) ?_
                            exact ih (k_52 + 1) (by omega) (nI k_52) ((iter (mX10_keepOut_l69 v_now x1 k_52) v_doors (nI 0))) (congrArg (fun z => z.1) hm) (congrArg (fun z => z.2) hm) ls (lv_sub hl [0, 1, 2, 5, 6, 7, 8, 9] rfl)
                    · have hm := (if_neg c_8).symm.trans hm
                      refine lv_iload hx hb dX10_keepOut_125 (lv_at hl 5 rfl) ?_
                      refine lv_if_le (tgt := 134) hx hb dX10_keepOut_127 (by decide) (fun c_12 => ?_) (fun c_12 => ?_)
                      · have hm := (if_pos c_12).symm.trans hm
                        refine lv_iconst (v := nI 0) hx hb dX10_keepOut_134 (by decide) ?_
                        refine lv_istore (lv' := [(9, .int (nI 0)), (8, .int ((iter (mX10_keepOut_l69 v_now x1 k_52) v_doors (nI 0)))), (7, .int (nI k_52)), (6, .int y6_52), (5, .int y5_52), (4, .int ((mX10_illOf v_now x1.toNatClampNeg))), (0, .ref a_this), (1, .int (nI x1.toNatClampNeg)), (2, .int x2), (3, .int x3)]) hx hb dX10_keepOut_135 hl (by decide) rfl (fun ls hl => ?_)
                        refine lv_iload hx hb dX10_keepOut_137 (lv_at hl 0 rfl) ?_
                        refine lv_if_eq (tgt := 182) hx hb dX10_keepOut_139 (by decide) (fun c_13 => ?_) (fun c_13 => ?_)
                        · skip
                          refine lv_iinc (v := nI (k_52 + 1)) (lv' := [(7, .int (nI (k_52 + 1))), (9, .int (nI 0)), (8, .int ((iter (mX10_keepOut_l69 v_now x1 k_52) v_doors (nI 0)))), (6, .int y6_52), (5, .int y5_52), (4, .int ((mX10_illOf v_now x1.toNatClampNeg))), (0, .ref a_this), (1, .int (nI x1.toNatClampNeg)), (2, .int x2), (3, .int x3)]) hx hb dX10_keepOut_182 hl (k := 2) rfl (nI_1 _) (by decide) rfl (fun ls hl => ?_)
                          refine lv_goto (tgt := 52) hx hb dX10_keepOut_185 (by decide) ?_
                          exact ih (k_52 + 1) (by omega) y5_52 y6_52 (congrArg (fun z => z.1) hm) (congrArg (fun z => z.2) hm) ls (lv_sub hl [0, 3, 4, 5, 6, 7, 8, 9] rfl)
                        · exact absurd c_13 (by decide)
                      · have hm := (if_neg c_12).symm.trans hm
                        refine lv_iconst (v := nI 1) hx hb dX10_keepOut_130 (by decide) ?_
                        refine lv_goto (tgt := 135) hx hb dX10_keepOut_131 (by decide) ?_
                        refine lv_istore (lv' := [(9, .int (nI 1)), (8, .int ((iter (mX10_keepOut_l69 v_now x1 k_52) v_doors (nI 0)))), (7, .int (nI k_52)), (6, .int y6_52), (5, .int y5_52), (4, .int ((mX10_illOf v_now x1.toNatClampNeg))), (0, .ref a_this), (1, .int (nI x1.toNatClampNeg)), (2, .int x2), (3, .int x3)]) hx hb dX10_keepOut_135 hl (by decide) rfl (fun ls hl => ?_)
                        refine lv_iload hx hb dX10_keepOut_137 (lv_at hl 0 rfl) ?_
                        refine lv_if_eq (tgt := 182) hx hb dX10_keepOut_139 (by decide) (fun c_14 => ?_) (fun c_14 => ?_)
                        · exact absurd c_14 (by decide)
                        · skip
                          refine lv_iload hx hb dX10_keepOut_142 (lv_at hl 1 rfl) ?_
                          refine lv_iload hx hb dX10_keepOut_144 (lv_at hl 3 rfl) ?_
                          refine lv_icmp_ge (tgt := 182) hx hb dX10_keepOut_146 (by decide) (fun c_15 => ?_) (fun c_15 => ?_)
                          · have hm := (if_pos c_15).symm.trans hm
                            refine lv_iinc (v := nI (k_52 + 1)) (lv' := [(7, .int (nI (k_52 + 1))), (9, .int (nI 1)), (8, .int ((iter (mX10_keepOut_l69 v_now x1 k_52) v_doors (nI 0)))), (6, .int y6_52), (5, .int y5_52), (4, .int ((mX10_illOf v_now x1.toNatClampNeg))), (0, .ref a_this), (1, .int (nI x1.toNatClampNeg)), (2, .int x2), (3, .int x3)]) hx hb dX10_keepOut_182 hl (k := 2) rfl (nI_1 _) (by decide) rfl (fun ls hl => ?_)
                            refine lv_goto (tgt := 52) hx hb dX10_keepOut_185 (by decide) ?_
                            exact ih (k_52 + 1) (by omega) y5_52 y6_52 (congrArg (fun z => z.1) hm) (congrArg (fun z => z.2) hm) ls (lv_sub hl [0, 3, 4, 5, 6, 7, 8, 9] rfl)
                          · have hm := (if_neg c_15).symm.trans hm
                            refine lv_aload_n hx hb dX10_keepOut_149 rfl (lv_at hl 6 rfl) ?_
                            refine lv_iload hx hb dX10_keepOut_150 (lv_at hl 5 rfl) ?_
                            refine lv_aload_n hx hb dX10_keepOut_152 rfl (lv_at hl 6 rfl) ?_
                            refine va_get (D := (dC, dI)) (ci := 10) (v := .ref a_this_now) (C := RX10) (T := TX10) (N := 35) hx hb ht iX10 hown hK.1 hP 0 rfl rfl 23 (by decide) (ht _ w_4_226) (fun _ h9 => h9) rfl dX10_keepOut_153 ?_
                            refine lv_bipush (v := nI 23) hx hb dX10_keepOut_156 (by decide) ?_
                            refine lv_iload_n hx hb dX10_keepOut_158 rfl (lv_at hl 7 rfl) ?_
                            refine nv_iadd hx hb dX10_keepOut_159 ?_
                            refine nv_iald (e := 23 + x1.toNatClampNeg) (by omega) (by omega) hx hb hK.1 hP 2 0 rfl rfl dX10_keepOut_160 ?_
                            refine lv_iconst (v := (-1 : Int32)) hx hb dX10_keepOut_161 (by decide) ?_
                            refine lv_iload hx hb dX10_keepOut_162 (lv_at hl 2 rfl) ?_
                            refine pv_call (v := (mX10_comesBy v_doors v_door v_now ((mX10_illOf v_now x1.toNatClampNeg)) (v_now (23 + x1.toNatClampNeg)) ((-1 : Int32)) (nI k_52))) (va_runV (As := [.int ((mX10_illOf v_now x1.toNatClampNeg)), .int (v_now (23 + x1.toNatClampNeg)), .int ((-1 : Int32)), .int (nI k_52)]) (rest := []) ⟨hx, hb, hml, hown, ht⟩ (kX10_comesBy l dC dI cA cZ a_this a_this_text a_this_readRain a_this_readDoor a_this_readPerson a_this_rain a_this_door a_this_now a_this_tried a_this_backOf a_this_image a_this_imageSeed a_this_isKept a_this_sight a_this_entry v_letters v_position v_tokenAt v_token v_number v_figures v_faultAt v_faultIs v_readRooms v_readStore v_readRains v_readDoors v_readPersons v_rooms v_rains v_doors v_persons v_backs v_seed v_seen v_entries v_door v_now ((mX10_illOf v_now x1.toNatClampNeg)) (v_now (23 + x1.toNatClampNeg)) ((-1 : Int32)) (nI k_52) (by omega)) (cwV 4 ht (gi_V (C := RX10) w_5_145 w_5_147 w_0_30 w_1_12 (gi_code w_5_148)) rfl rfl rfl ⟨rfl, h_X10_comesBy⟩ ⟨Nat.le_of_ble_eq_true rfl, Nat.le_of_ble_eq_true rfl⟩) ⟨pp_blind, va_recv hK.1 hP (ci := 10) (q0 := 0) rfl rfl, pp_use hP hK⟩ rfl rfl hl.1 rfl (lv_room (Nat.le_of_ble_eq_true rfl)) dX10_keepOut_164 ⟨Nat.zero_le _, Nat.zero_le _⟩) ?_
                            refine lv_iload_n hx hb dX10_keepOut_167 rfl (lv_at hl 8 rfl) ?_
                            refine pv_call (v := (mX10_has ((mX10_comesBy v_doors v_door v_now ((mX10_illOf v_now x1.toNatClampNeg)) (v_now (23 + x1.toNatClampNeg)) ((-1 : Int32)) (nI k_52))) x2)) (va_runS (As := [.int ((mX10_comesBy v_doors v_door v_now ((mX10_illOf v_now x1.toNatClampNeg)) (v_now (23 + x1.toNatClampNeg)) ((-1 : Int32)) (nI k_52))), .int x2]) (rest := []) ⟨hx, hb, hml, hown, ht⟩ (kX10_has l dC dI cA cZ ((mX10_comesBy v_doors v_door v_now ((mX10_illOf v_now x1.toNatClampNeg)) (v_now (23 + x1.toNatClampNeg)) ((-1 : Int32)) (nI k_52))) x2) (va_cwS 2 ht (gi_S w_5_149 w_5_150 w_1_12 (gi_code w_5_151)) rfl rfl rfl h_X10_has ⟨Nat.le_of_ble_eq_true rfl, Nat.le_of_ble_eq_true rfl⟩) ⟨pp_blind, pp_use (ws := []) (fun _ _ h => by cases h) hK⟩ rfl rfl hl.1 rfl (lv_room (Nat.le_of_ble_eq_true rfl)) dX10_keepOut_168 ⟨Nat.zero_le _, Nat.zero_le _⟩) ?_
                            refine lv_if_ne (tgt := 182) hx hb dX10_keepOut_171 (by decide) (fun c_16 => ?_) (fun c_16 => ?_)
                            · have hm := (if_neg c_16).symm.trans hm
                              refine lv_iinc (v := nI (k_52 + 1)) (lv' := [(7, .int (nI (k_52 + 1))), (9, .int (nI 1)), (8, .int ((iter (mX10_keepOut_l69 v_now x1 k_52) v_doors (nI 0)))), (6, .int y6_52), (5, .int y5_52), (4, .int ((mX10_illOf v_now x1.toNatClampNeg))), (0, .ref a_this), (1, .int (nI x1.toNatClampNeg)), (2, .int x2), (3, .int x3)]) hx hb dX10_keepOut_182 hl (k := 2) rfl (nI_1 _) (by decide) rfl (fun ls hl => ?_)
                              refine lv_goto (tgt := 52) hx hb dX10_keepOut_185 (by decide) ?_
                              exact ih (k_52 + 1) (by omega) y5_52 y6_52 (congrArg (fun z => z.1) hm) (congrArg (fun z => z.2) hm) ls (lv_sub hl [0, 3, 4, 5, 6, 7, 8, 9] rfl)
                            · have hm := (if_pos c_16).symm.trans hm
                              refine lv_iload hx hb dX10_keepOut_174 (lv_at hl 2 rfl) ?_
                              refine lv_istore (lv' := [(5, .int (nI k_52)), (9, .int (nI 1)), (8, .int ((iter (mX10_keepOut_l69 v_now x1 k_52) v_doors (nI 0)))), (7, .int (nI k_52)), (6, .int y6_52), (4, .int ((mX10_illOf v_now x1.toNatClampNeg))), (0, .ref a_this), (1, .int (nI x1.toNatClampNeg)), (2, .int x2), (3, .int x3)]) hx hb dX10_keepOut_176 hl (by decide) rfl (fun ls hl => ?_)
                              refine lv_iload hx hb dX10_keepOut_178 (lv_at hl 2 rfl) ?_
                              refine lv_istore (lv' := [(6, .int ((iter (mX10_keepOut_l69 v_now x1 k_52) v_doors (nI 0)))), (5, .int (nI k_52)), (9, .int (nI 1)), (8, .int ((iter (mX10_keepOut_l69 v_now x1 k_52) v_doors (nI 0)))), (7, .int (nI k_52)), (4, .int ((mX10_illOf v_now x1.toNatClampNeg))), (0, .ref a_this), (1, .int (nI x1.toNatClampNeg)), (2, .int x2), (3, .int x3)]) hx hb dX10_keepOut_180 hl (by decide) rfl (fun ls hl => ?_)
                              refine lv_iinc (v := nI (k_52 + 1)) (lv' := [(7, .int (nI (k_52 + 1))), (6, .int ((iter (mX10_keepOut_l69 v_now x1 k_52) v_doors (nI 0)))), (5, .int (nI k_52)), (9, .int (nI 1)), (8, .int ((iter (mX10_keepOut_l69 v_now x1 k_52) v_doors (nI 0)))), (4, .int ((mX10_illOf v_now x1.toNatClampNeg))), (0, .ref a_this), (1, .int (nI x1.toNatClampNeg)), (2, .int x2), (3, .int x3)]) hx hb dX10_keepOut_182 hl (k := 4) rfl (nI_1 _) (by decide) rfl (fun ls hl => ?_)
                              refine lv_goto (tgt := 52) hx hb dX10_keepOut_185 (by decide) ?_
                              exact ih (k_52 + 1) (by omega) (nI k_52) ((iter (mX10_keepOut_l69 v_now x1 k_52) v_doors (nI 0))) (congrArg (fun z => z.1) hm) (congrArg (fun z => z.2) hm) ls (lv_sub hl [0, 1, 2, 5, 6, 7, 8, 9] rfl)
                  · exact absurd (nI_le (by omega) (by omega)) c_7
                | succ n_69 ih =>
                  intro k_69 hk y8_69 ex0_69 ls hl
                  have hm : (mX10_keepOut_l69 v_now x1 k_52) k_69 y8_69 = (iter (mX10_keepOut_l69 v_now x1 k_52) (k_69 + 1) (nI 0)) := by rw [ex0_69]; rfl
                  have hm : (if ((mX10_has (nI k_52) (nI k_69))) = 0 then y8_69 + (nI 0) else y8_69 + ((mX10_lessBy ((nI 10) - ((mX10_illOf v_now x1.toNatClampNeg))) (v_now (3 + k_69))))) = (iter (mX10_keepOut_l69 v_now x1 k_52) (k_69 + 1) (nI 0)) := hm
                  refine lv_iload hx hb dX10_keepOut_69 (lv_at hl 0 rfl) ?_
                  refine lv_aload_n hx hb dX10_keepOut_71 rfl (lv_at hl 6 rfl) ?_
                  refine va_get (D := (dC, dI)) (ci := 10) (v := .int (nI v_doors)) (C := RX10) (T := TX10) (N := 35) hx hb ht iX10 hown hK.1 hP 0 rfl rfl 19 (by decide) (ht _ w_4_222) (fun _ h9 => h9) rfl dX10_keepOut_72 ?_
                  refine lv_icmp_ge (tgt := 120) hx hb dX10_keepOut_75 (by decide) (fun c_5 => ?_) (fun c_5 => ?_)
                  · exact absurd c_5 (nI_ge (by omega) (by omega))
                  · skip
                    refine lv_iload hx hb dX10_keepOut_78 (lv_at hl 1 rfl) ?_
                    refine lv_iload hx hb dX10_keepOut_80 (lv_at hl 2 rfl) ?_
                    refine lv_iload hx hb dX10_keepOut_82 (lv_at hl 0 rfl) ?_
                    refine pv_call (v := (mX10_has (nI k_52) (nI k_69))) (va_runS (As := [.int (nI k_52), .int (nI k_69)]) (rest := [.int y8_69]) ⟨hx, hb, hml, hown, ht⟩ (kX10_has l dC dI cA cZ (nI k_52) (nI k_69)) (va_cwS 2 ht (gi_S w_5_149 w_5_150 w_1_12 (gi_code w_5_151)) rfl rfl rfl h_X10_has ⟨Nat.le_of_ble_eq_true rfl, Nat.le_of_ble_eq_true rfl⟩) ⟨pp_blind, pp_use (ws := []) (fun _ _ h => by cases h) hK⟩ rfl rfl hl.1 rfl (lv_room (Nat.le_of_ble_eq_true rfl)) dX10_keepOut_84 ⟨Nat.zero_le _, Nat.zero_le _⟩) ?_
                    refine lv_if_eq (tgt := 110) hx hb dX10_keepOut_87 (by decide) (fun c_6 => ?_) (fun c_6 => ?_)
                    · have hm := (if_pos c_6).symm.trans hm
                      refine lv_iconst (v := nI 0) hx hb dX10_keepOut_110 (by decide) ?_
                      refine lv_iadd hx hb dX10_keepOut_111 ?_
                      refine lv_istore (lv' := [(8, .int (y8_69 + (nI 0))), (9, .int (nI k_69)), (7, .int (nI k_52)), (6, .int y6_52), (5, .int y5_52), (4, .int ((mX10_illOf v_now x1.toNatClampNeg))), (0, .ref a_this), (1, .int (nI x1.toNatClampNeg)), (2, .int x2), (3, .int x3)]) hx hb dX10_keepOut_112 hl (by decide) rfl (fun ls hl => ?_)
                      refine lv_iinc (v := nI (k_69 + 1)) (lv' := [(9, .int (nI (k_69 + 1))), (8, .int (y8_69 + (nI 0))), (7, .int (nI k_52)), (6, .int y6_52), (5, .int y5_52), (4, .int ((mX10_illOf v_now x1.toNatClampNeg))), (0, .ref a_this), (1, .int (nI x1.toNatClampNeg)), (2, .int x2), (3, .int x3)]) hx hb dX10_keepOut_114 hl (k := 1) rfl (nI_1 _) (by decide) rfl (fun ls hl => ?_)
                      refine lv_goto (tgt := 69) hx hb dX10_keepOut_117 (by decide) ?_
                      exact ih (k_69 + 1) (by omega) (y8_69 + (nI 0)) hm ls (lv_sub hl [0, 1, 2, 3, 4, 5, 6, 7, 8, 9] rfl)
                    · have hm := (if_neg c_6).symm.trans hm
                      refine lv_bipush (v := nI 10) hx hb dX10_keepOut_90 (by decide) ?_
                      refine lv_iload hx hb dX10_keepOut_92 (lv_at hl 5 rfl) ?_
                      refine lv_isub hx hb dX10_keepOut_94 ?_
                      refine lv_aload_n hx hb dX10_keepOut_95 rfl (lv_at hl 6 rfl) ?_
                      refine va_get (D := (dC, dI)) (ci := 10) (v := .ref a_this_now) (C := RX10) (T := TX10) (N := 35) hx hb ht iX10 hown hK.1 hP 0 rfl rfl 23 (by decide) (ht _ w_4_226) (fun _ h9 => h9) rfl dX10_keepOut_96 ?_
                      refine lv_iconst (v := nI 3) hx hb dX10_keepOut_99 (by decide) ?_
                      refine lv_iload hx hb dX10_keepOut_100 (lv_at hl 0 rfl) ?_
                      refine nv_iadd hx hb dX10_keepOut_102 ?_
                      refine nv_iald (e := 3 + k_69) (by omega) (by omega) hx hb hK.1 hP 2 0 rfl rfl dX10_keepOut_103 ?_
                      refine pv_call (v := (mX10_lessBy ((nI 10) - ((mX10_illOf v_now x1.toNatClampNeg))) (v_now (3 + k_69)))) (va_runS (As := [.int ((nI 10) - ((mX10_illOf v_now x1.toNatClampNeg))), .int (v_now (3 + k_69))]) (rest := [.int y8_69]) ⟨hx, hb, hml, hown, ht⟩ (kX10_lessBy l dC dI cA cZ ((nI 10) - ((mX10_illOf v_now x1.toNatClampNeg))) (v_now (3 + k_69))) (va_cwS 2 ht (gi_S w_5_213 w_5_214 w_1_12 (gi_code w_5_215)) rfl rfl rfl h_X10_lessBy ⟨Nat.le_of_ble_eq_true rfl, Nat.le_of_ble_eq_true rfl⟩) ⟨pp_blind, pp_use (ws := []) (fun _ _ h => by cases h) hK⟩ rfl rfl hl.1 rfl (lv_room (Nat.le_of_ble_eq_true rfl)) dX10_keepOut_104 ⟨Nat.zero_le _, Nat.zero_le _⟩) ?_
                      refine lv_goto (tgt := 111) hx hb dX10_keepOut_107 (by decide) ?_
                      refine lv_iadd hx hb dX10_keepOut_111 ?_
                      refine lv_istore (lv' := [(8, .int (y8_69 + ((mX10_lessBy ((nI 10) - ((mX10_illOf v_now x1.toNatClampNeg))) (v_now (3 + k_69)))))), (9, .int (nI k_69)), (7, .int (nI k_52)), (6, .int y6_52), (5, .int y5_52), (4, .int ((mX10_illOf v_now x1.toNatClampNeg))), (0, .ref a_this), (1, .int (nI x1.toNatClampNeg)), (2, .int x2), (3, .int x3)]) hx hb dX10_keepOut_112 hl (by decide) rfl (fun ls hl => ?_)
                      refine lv_iinc (v := nI (k_69 + 1)) (lv' := [(9, .int (nI (k_69 + 1))), (8, .int (y8_69 + ((mX10_lessBy ((nI 10) - ((mX10_illOf v_now x1.toNatClampNeg))) (v_now (3 + k_69)))))), (7, .int (nI k_52)), (6, .int y6_52), (5, .int y5_52), (4, .int ((mX10_illOf v_now x1.toNatClampNeg))), (0, .ref a_this), (1, .int (nI x1.toNatClampNeg)), (2, .int x2), (3, .int x3)]) hx hb dX10_keepOut_114 hl (k := 1) rfl (nI_1 _) (by decide) rfl (fun ls hl => ?_)
                      refine lv_goto (tgt := 69) hx hb dX10_keepOut_117 (by decide) ?_
                      exact ih (k_69 + 1) (by omega) (y8_69 + ((mX10_lessBy ((nI 10) - ((mX10_illOf v_now x1.toNatClampNeg))) (v_now (3 + k_69))))) hm ls (lv_sub hl [0, 1, 2, 3, 4, 5, 6, 7, 8, 9] rfl)
              exact L_69 v_doors 0 (Nat.zero_add _) (nI 0) rfl ls (lv_sub hl [0, 1, 2, 3, 4, 5, 6, 7, 8, 9] rfl)
        exact L_52 (((nI 1) <<< ((nI v_doors) &&& 31)).toNatClampNeg) 0 (Nat.zero_add _) ((-1 : Int32)) (nI 9999) rfl rfl ls (lv_sub hl [0, 1, 2, 3, 4, 5, 6, 7] rfl)
      · have hm := (if_pos c_3).symm.trans hm
        refine lv_ldc (v := (-1000000002 : Int32)) hx hb hown (ht _ w_5_77) dX10_keepOut_28 ?_
        exact W.iret (v := (-1000000002 : Int32)) hx hb hr (fun t ht9 _ => ⟨_, rfl, hm, ht9⟩) (fun q hq => absurd hq List.not_mem_nil) dX10_keepOut_30
    · have hm := (if_pos c_2).symm.trans hm
      refine lv_ldc (v := (-1000000001 : Int32)) hx hb hown (ht _ w_5_167) dX10_keepOut_16 ?_
      exact W.iret (v := (-1000000001 : Int32)) hx hb hr (fun t ht9 _ => ⟨_, rfl, hm, ht9⟩) (fun q hq => absurd hq List.not_mem_nil) dX10_keepOut_18
theorem dX10_soften_0 : decode cX10_soften 0 = .ok (.aload_n 0, 1) := by decide +kernel
theorem dX10_soften_1 : decode cX10_soften 1 = .ok (.iload_n 1, 1) := by decide +kernel
theorem dX10_soften_2 : decode cX10_soften 2 = .ok (.invokevirtual 190, 3) := by decide +kernel
theorem dX10_soften_5 : decode cX10_soften 5 = .ok (.ifCond .eq 11, 3) := by decide +kernel
theorem dX10_soften_8 : decode cX10_soften 8 = .ok (.aload_n 0, 1) := by decide +kernel
theorem dX10_soften_9 : decode cX10_soften 9 = .ok (.iload_n 2, 1) := by decide +kernel
theorem dX10_soften_10 : decode cX10_soften 10 = .ok (.invokevirtual 193, 3) := by decide +kernel
theorem dX10_soften_13 : decode cX10_soften 13 = .ok (.ifCond .ne 6, 3) := by decide +kernel
theorem dX10_soften_16 : decode cX10_soften 16 = .ok (.ldc 185, 2) := by decide +kernel
theorem dX10_soften_18 : decode cX10_soften 18 = .ok (.ireturn, 1) := by decide +kernel
theorem dX10_soften_19 : decode cX10_soften 19 = .ok (.iconst 0, 1) := by decide +kernel
theorem dX10_soften_20 : decode cX10_soften 20 = .ok (.istore_n 3, 1) := by decide +kernel
theorem dX10_soften_21 : decode cX10_soften 21 = .ok (.iload_n 3, 1) := by decide +kernel
theorem dX10_soften_22 : decode cX10_soften 22 = .ok (.bipush 9, 2) := by decide +kernel
theorem dX10_soften_24 : decode cX10_soften 24 = .ok (.if_icmp .gt 45, 3) := by decide +kernel
theorem dX10_soften_27 : decode cX10_soften 27 = .ok (.aload_n 0, 1) := by decide +kernel
theorem dX10_soften_28 : decode cX10_soften 28 = .ok (.aload_n 0, 1) := by decide +kernel
theorem dX10_soften_29 : decode cX10_soften 29 = .ok (.getfield 32, 3) := by decide +kernel
theorem dX10_soften_32 : decode cX10_soften 32 = .ok (.iload_n 1, 1) := by decide +kernel
theorem dX10_soften_33 : decode cX10_soften 33 = .ok (.invokestatic 154, 3) := by decide +kernel
theorem dX10_soften_36 : decode cX10_soften 36 = .ok (.iload_n 3, 1) := by decide +kernel
theorem dX10_soften_37 : decode cX10_soften 37 = .ok (.invokestatic 200, 3) := by decide +kernel
theorem dX10_soften_40 : decode cX10_soften 40 = .ok (.aload_n 0, 1) := by decide +kernel
theorem dX10_soften_41 : decode cX10_soften 41 = .ok (.getfield 32, 3) := by decide +kernel
theorem dX10_soften_44 : decode cX10_soften 44 = .ok (.bipush 23, 2) := by decide +kernel
theorem dX10_soften_46 : decode cX10_soften 46 = .ok (.iload_n 1, 1) := by decide +kernel
theorem dX10_soften_47 : decode cX10_soften 47 = .ok (.iadd, 1) := by decide +kernel
theorem dX10_soften_48 : decode cX10_soften 48 = .ok (.iaload, 1) := by decide +kernel
theorem dX10_soften_49 : decode cX10_soften 49 = .ok (.iconst (-1), 1) := by decide +kernel
theorem dX10_soften_50 : decode cX10_soften 50 = .ok (.iconst 0, 1) := by decide +kernel
theorem dX10_soften_51 : decode cX10_soften 51 = .ok (.invokevirtual 164, 3) := by decide +kernel
theorem dX10_soften_54 : decode cX10_soften 54 = .ok (.iload_n 2, 1) := by decide +kernel
theorem dX10_soften_55 : decode cX10_soften 55 = .ok (.invokestatic 161, 3) := by decide +kernel
theorem dX10_soften_58 : decode cX10_soften 58 = .ok (.ifCond .eq 5, 3) := by decide +kernel
theorem dX10_soften_61 : decode cX10_soften 61 = .ok (.iload_n 3, 1) := by decide +kernel
theorem dX10_soften_62 : decode cX10_soften 62 = .ok (.ireturn, 1) := by decide +kernel
theorem dX10_soften_63 : decode cX10_soften 63 = .ok (.iinc 3 1, 3) := by decide +kernel
theorem dX10_soften_66 : decode cX10_soften 66 = .ok (.goto (-45), 3) := by decide +kernel
theorem dX10_soften_69 : decode cX10_soften 69 = .ok (.iconst (-1), 1) := by decide +kernel
theorem dX10_soften_70 : decode cX10_soften 70 = .ok (.ireturn, 1) := by decide +kernel
theorem h_X10_soften : yX10_soften.cls ≠ "java/lang/invoke/MethodHandle" ∧ yX10_soften.cls ≠ "java/lang/invoke/VarHandle" ∧ (parseMethodDescriptor yX10_soften.desc).map (fun d => d.parameters.length) = some 2 := by decide +kernel
def mX10_soften_l21 (v_doors : Nat) (v_door : Nat → Int32) (v_now : Nat → Int32) (x1 : Int32) (x2 : Int32) : Nat → Nat → Int32
  | 0, k_21 => (-1 : Int32)
  | n_21 + 1, k_21 => (if ((mX10_has ((mX10_comesBy v_doors v_door v_now ((mX10_lessBy ((mX10_illOf v_now x1.toNatClampNeg)) (nI k_21))) (v_now (23 + x1.toNatClampNeg)) ((-1 : Int32)) (nI 0))) x2)) = 0 then (mX10_soften_l21 v_doors v_door v_now x1 x2 n_21 (k_21 + 1)) else nI k_21)
def mX10_soften (v_rooms : Int32) (v_doors : Nat) (v_persons : Nat) (v_door : Nat → Int32) (v_now : Nat → Int32) (x1 : Int32) (x2 : Int32) : Int32 := (if ((mX10_isPerson v_persons x1)) = 0 then (-1000000001 : Int32) else (if ((mX10_isRoom v_rooms x2)) = 0 then (-1000000001 : Int32) else (mX10_soften_l21 v_doors v_door v_now x1 x2 10 0)))
set_option maxHeartbeats 4000000 in
set_option maxRecDepth 100000 in
theorem kX10_soften (l : Launch) (dC : Nat → ClassId) (dI : Nat → Nat → Nat) (cA cZ : ClassId) (a_this a_this_text a_this_readRain a_this_readDoor a_this_readPerson a_this_rain a_this_door a_this_now a_this_tried a_this_backOf a_this_image a_this_imageSeed a_this_isKept a_this_sight a_this_entry : Nat) (v_letters : Nat) (v_position : Nat) (v_tokenAt : Nat) (v_token : Int32) (v_number : Int32) (v_figures : Nat) (v_faultAt : Int32) (v_faultIs : Int32) (v_readRooms : Int32) (v_readStore : Int32) (v_readRains : Nat) (v_readDoors : Nat) (v_readPersons : Nat) (v_rooms : Int32) (v_rains : Nat) (v_doors : Nat) (v_persons : Nat) (v_backs : Nat) (v_seed : Int32) (v_seen : Nat) (v_entries : Nat) (v_door : Nat → Int32) (v_now : Nat → Int32) (x1 : Int32) (x2 : Int32) (hD : v_doors ≤ 10) (hPn : v_persons ≤ 6) : Met l yX10_soften (Cond.code yX10_soften cX10_soften 4 (some .int) :: wt) ({ frames := 2, cells := 0, slots := 0, locals := 50 } : Room) (va_Pc [.ref a_this, .int x1, .int x2] (PreP (dC, dI) [(cA, .int), (cZ, .boolean)] [(a_this, .inr (10, [.int (nI v_letters), .ref a_this_text, .int (nI v_position), .int (nI v_tokenAt), .int v_token, .int v_number, .int (nI v_figures), .int v_faultAt, .int v_faultIs, .int v_readRooms, .int v_readStore, .int (nI v_readRains), .int (nI v_readDoors), .int (nI v_readPersons), .ref a_this_readRain, .ref a_this_readDoor, .ref a_this_readPerson, .int v_rooms, .int (nI v_rains), .int (nI v_doors), .int (nI v_persons), .ref a_this_rain, .ref a_this_door, .ref a_this_now, .ref a_this_tried, .ref a_this_backOf, .int (nI v_backs), .ref a_this_image, .ref a_this_imageSeed, .ref a_this_isKept, .int v_seed, .int (nI v_seen), .ref a_this_sight, .int (nI v_entries), .ref a_this_entry])), (a_this_door, .inl (cA, 40, .inl v_door)), (a_this_now, .inl (cA, 35, .inl v_now))])) (vp_Si (fun r => r = (mX10_soften v_rooms v_doors v_persons v_door v_now x1 x2))) 0 0 (fun _ => False) := by
  refine Met.ofW (cc := cX10_soften) (maxL := 4) (ret := (some .int)) (by decide) rfl ?_
  intro p e s m args below meth c s₁ B hml hv
  obtain ⟨ha, hP, hK⟩ := hv
  have hx := B.exec
  have hb := B.bytes
  have hr := B.returns
  have ht : ∀ w ∈ wt, w.before args s = true := fun w h => atoms_spec (ws := (Cond.code yX10_soften cX10_soften 4 (some .int) :: wt)) B.pre w (List.mem_cons_of_mem _ h)
  have hown : s.vm.findClass RX10 = some m.cls := findClass_of_methodNamed B.named
  have hlocks := B.notSynchronized
  have hl := lv_entry ([.ref a_this, .int x1, .int x2]) (n := 4) (Nat.le_of_ble_eq_true rfl)
  rw [show entryFrame m args 4 = _ from (congrArg (fun a => entryFrame m a 4) ha).trans (lg_entry_eq m [.ref a_this, .int x1, .int x2] 4)]
  generalize (lg_sl ([.ref a_this, .int x1, .int x2]) ++ List.replicate (4 - (lg_sl ([.ref a_this, .int x1, .int x2])).length) Slot.unset).toArray = ls at hl ⊢
  have hl : lv_has ls 4 [(0, .ref a_this), (1, .int x1), (2, .int x2)] := hl
  have hm : (if ((mX10_isPerson v_persons x1)) = 0 then (-1000000001 : Int32) else (if ((mX10_isRoom v_rooms x2)) = 0 then (-1000000001 : Int32) else (mX10_soften_l21 v_doors v_door v_now x1 x2 10 0))) = (mX10_soften v_rooms v_doors v_persons v_door v_now x1 x2) := rfl
  refine lv_aload_n hx hb dX10_soften_0 rfl (lv_at hl 0 rfl) ?_
  refine lv_iload_n hx hb dX10_soften_1 rfl (lv_at hl 1 rfl) ?_
  refine pv_call (v := (mX10_isPerson v_persons x1)) (va_runV (As := [.int x1]) (rest := []) ⟨hx, hb, hml, hown, ht⟩ (kX10_isPerson l dC dI cA cZ a_this a_this_text a_this_readRain a_this_readDoor a_this_readPerson a_this_rain a_this_door a_this_now a_this_tried a_this_backOf a_this_image a_this_imageSeed a_this_isKept a_this_sight a_this_entry v_letters v_position v_tokenAt v_token v_number v_figures v_faultAt v_faultIs v_readRooms v_readStore v_readRains v_readDoors v_readPersons v_rooms v_rains v_doors v_persons v_backs v_seed v_seen v_entries x1) (cwV 1 ht (gi_V (C := RX10) w_5_175 w_5_177 w_0_33 w_1_12 (gi_code w_5_178)) rfl rfl rfl ⟨rfl, h_X10_isPerson⟩ ⟨Nat.le_of_ble_eq_true rfl, Nat.le_of_ble_eq_true rfl⟩) ⟨pp_blind, va_recv hK.1 hP (ci := 10) (q0 := 0) rfl rfl, pp_use (pc_sub (wc := [(a_this, .inr (10, [.int (nI v_letters), .ref a_this_text, .int (nI v_position), .int (nI v_tokenAt), .int v_token, .int v_number, .int (nI v_figures), .int v_faultAt, .int v_faultIs, .int v_readRooms, .int v_readStore, .int (nI v_readRains), .int (nI v_readDoors), .int (nI v_readPersons), .ref a_this_readRain, .ref a_this_readDoor, .ref a_this_readPerson, .int v_rooms, .int (nI v_rains), .int (nI v_doors), .int (nI v_persons), .ref a_this_rain, .ref a_this_door, .ref a_this_now, .ref a_this_tried, .ref a_this_backOf, .int (nI v_backs), .ref a_this_image, .ref a_this_imageSeed, .ref a_this_isKept, .int v_seed, .int (nI v_seen), .ref a_this_sight, .int (nI v_entries), .ref a_this_entry]))]) hP [0] rfl) hK⟩ rfl rfl hl.1 rfl (lv_room (Nat.le_of_ble_eq_true rfl)) dX10_soften_2 ⟨Nat.zero_le _, Nat.zero_le _⟩) ?_
  refine lv_if_eq (tgt := 16) hx hb dX10_soften_5 (by decide) (fun c_1 => ?_) (fun c_1 => ?_)
  · have hm := (if_pos c_1).symm.trans hm
    refine lv_ldc (v := (-1000000001 : Int32)) hx hb hown (ht _ w_5_167) dX10_soften_16 ?_
    exact W.iret (v := (-1000000001 : Int32)) hx hb hr (fun t ht9 _ => ⟨_, rfl, hm, ht9⟩) (fun q hq => absurd hq List.not_mem_nil) dX10_soften_18
  · have hm := (if_neg c_1).symm.trans hm
    obtain ⟨hj1, hx1⟩ := isPerson_spec (by omega) c_1
    have hl : lv_has ls 4 [(0, .ref a_this), (1, .int (nI x1.toNatClampNeg)), (2, .int x2)] := by rw [← hx1]; exact hl
    refine lv_aload_n hx hb dX10_soften_8 rfl (lv_at hl 0 rfl) ?_
    refine lv_iload_n hx hb dX10_soften_9 rfl (lv_at hl 2 rfl) ?_
    refine pv_call (v := (mX10_isRoom v_rooms x2)) (va_runV (As := [.int x2]) (rest := []) ⟨hx, hb, hml, hown, ht⟩ (kX10_isRoom l dC dI cA cZ a_this a_this_text a_this_readRain a_this_readDoor a_this_readPerson a_this_rain a_this_door a_this_now a_this_tried a_this_backOf a_this_image a_this_imageSeed a_this_isKept a_this_sight a_this_entry v_letters v_position v_tokenAt v_token v_number v_figures v_faultAt v_faultIs v_readRooms v_readStore v_readRains v_readDoors v_readPersons v_rooms v_rains v_doors v_persons v_backs v_seed v_seen v_entries x2) (cwV 1 ht (gi_V (C := RX10) w_5_183 w_5_185 w_0_34 w_1_12 (gi_code w_5_186)) rfl rfl rfl ⟨rfl, h_X10_isRoom⟩ ⟨Nat.le_of_ble_eq_true rfl, Nat.le_of_ble_eq_true rfl⟩) ⟨pp_blind, va_recv hK.1 hP (ci := 10) (q0 := 0) rfl rfl, pp_use (pc_sub (wc := [(a_this, .inr (10, [.int (nI v_letters), .ref a_this_text, .int (nI v_position), .int (nI v_tokenAt), .int v_token, .int v_number, .int (nI v_figures), .int v_faultAt, .int v_faultIs, .int v_readRooms, .int v_readStore, .int (nI v_readRains), .int (nI v_readDoors), .int (nI v_readPersons), .ref a_this_readRain, .ref a_this_readDoor, .ref a_this_readPerson, .int v_rooms, .int (nI v_rains), .int (nI v_doors), .int (nI v_persons), .ref a_this_rain, .ref a_this_door, .ref a_this_now, .ref a_this_tried, .ref a_this_backOf, .int (nI v_backs), .ref a_this_image, .ref a_this_imageSeed, .ref a_this_isKept, .int v_seed, .int (nI v_seen), .ref a_this_sight, .int (nI v_entries), .ref a_this_entry]))]) hP [0] rfl) hK⟩ rfl rfl hl.1 rfl (lv_room (Nat.le_of_ble_eq_true rfl)) dX10_soften_10 ⟨Nat.zero_le _, Nat.zero_le _⟩) ?_
    refine lv_if_ne (tgt := 19) hx hb dX10_soften_13 (by decide) (fun c_2 => ?_) (fun c_2 => ?_)
    · have hm := (if_neg c_2).symm.trans hm
      refine lv_iconst (v := nI 0) hx hb dX10_soften_19 (by decide) ?_
      refine lv_istore_n (lv' := [(3, .int (nI 0)), (0, .ref a_this), (1, .int (nI x1.toNatClampNeg)), (2, .int x2)]) hx hb dX10_soften_20 rfl hl (by decide) rfl (fun ls hl => ?_)
      have L_21 : ∀ (n_21 k_21 : Nat), k_21 + n_21 = 10 →  mX10_soften_l21 v_doors v_door v_now x1 x2 n_21 k_21 = (mX10_soften v_rooms v_doors v_persons v_door v_now x1 x2) → ∀ (ls : Array Slot), lv_has ls 4 [(3, .int (nI k_21)), (0, .ref a_this), (1, .int (nI x1.toNatClampNeg)), (2, .int x2)] → W p l e (headSpec (Cond.code yX10_soften cX10_soften 4 (some .int) :: wt) ({ frames := 2, cells := 0, slots := 0, locals := 50 } : Room)).room s m args below meth c s.heap [] 0 0 (MQ below (vp_Si (fun r => r = (mX10_soften v_rooms v_doors v_persons v_door v_now x1 x2))) args s 0 0 (fun _ => False)) (F0 m 21 ls []) := by
        intro n_21
        induction n_21 with
        | zero =>
          intro k_21 hk  hm ls hl
          have hm : (-1 : Int32) = (mX10_soften v_rooms v_doors v_persons v_door v_now x1 x2) := hm
          refine lv_iload_n hx hb dX10_soften_21 rfl (lv_at hl 0 rfl) ?_
          refine lv_bipush (v := nI 9) hx hb dX10_soften_22 (by decide) ?_
          refine lv_icmp_gt (tgt := 69) hx hb dX10_soften_24 (by decide) (fun c_3 => ?_) (fun c_3 => ?_)
          · skip
            refine lv_iconst (v := (-1 : Int32)) hx hb dX10_soften_69 (by decide) ?_
            exact W.iret (v := (-1 : Int32)) hx hb hr (fun t ht9 _ => ⟨_, rfl, hm, ht9⟩) (fun q hq => absurd hq List.not_mem_nil) dX10_soften_70
          · exact absurd (nI_lt (a := 9) (by omega) (by omega)) c_3
        | succ n_21 ih =>
          intro k_21 hk  hm ls hl
          have hm : (if ((mX10_has ((mX10_comesBy v_doors v_door v_now ((mX10_lessBy ((mX10_illOf v_now x1.toNatClampNeg)) (nI k_21))) (v_now (23 + x1.toNatClampNeg)) ((-1 : Int32)) (nI 0))) x2)) = 0 then (mX10_soften_l21 v_doors v_door v_now x1 x2 n_21 (k_21 + 1)) else nI k_21) = (mX10_soften v_rooms v_doors v_persons v_door v_now x1 x2) := hm
          refine lv_iload_n hx hb dX10_soften_21 rfl (lv_at hl 0 rfl) ?_
          refine lv_bipush (v := nI 9) hx hb dX10_soften_22 (by decide) ?_
          refine lv_icmp_gt (tgt := 69) hx hb dX10_soften_24 (by decide) (fun c_4 => ?_) (fun c_4 => ?_)
          · exact absurd c_4 (nI_nlt (a := 9) (by omega) (by omega))
          · skip
            refine lv_aload_n hx hb dX10_soften_27 rfl (lv_at hl 1 rfl) ?_
            refine lv_aload_n hx hb dX10_soften_28 rfl (lv_at hl 1 rfl) ?_
            refine va_get (D := (dC, dI)) (ci := 10) (v := .ref a_this_now) (C := RX10) (T := TX10) (N := 35) hx hb ht iX10 hown hK.1 hP 0 rfl rfl 23 (by decide) (ht _ w_4_226) (fun _ h9 => h9) rfl dX10_soften_29 ?_
            refine lv_iload_n hx hb dX10_soften_32 rfl (lv_at hl 2 rfl) ?_
            refine pv_call (v := (mX10_illOf v_now x1.toNatClampNeg)) (va_runS (As := [.ref a_this_now, .int (nI x1.toNatClampNeg)]) (rest := [.ref a_this]) ⟨hx, hb, hml, hown, ht⟩ (kX10_illOf l dC dI cA cZ a_this_now v_now x1.toNatClampNeg (by omega)) (va_cwS 2 ht (gi_S w_5_142 w_5_143 w_1_12 (gi_code w_5_144)) rfl rfl rfl h_X10_illOf ⟨Nat.le_of_ble_eq_true rfl, Nat.le_of_ble_eq_true rfl⟩) ⟨pp_blind, pp_use (pc_sub (wc := [(a_this_now, .inl (cA, 35, .inl v_now))]) hP [2] rfl) hK⟩ rfl rfl hl.1 rfl (lv_room (Nat.le_of_ble_eq_true rfl)) dX10_soften_33 ⟨Nat.zero_le _, Nat.zero_le _⟩) ?_
            refine lv_iload_n hx hb dX10_soften_36 rfl (lv_at hl 0 rfl) ?_
            refine pv_call (v := (mX10_lessBy ((mX10_illOf v_now x1.toNatClampNeg)) (nI k_21))) (va_runS (As := [.int ((mX10_illOf v_now x1.toNatClampNeg)), .int (nI k_21)]) (rest := [.ref a_this]) ⟨hx, hb, hml, hown, ht⟩ (kX10_lessBy l dC dI cA cZ ((mX10_illOf v_now x1.toNatClampNeg)) (nI k_21)) (va_cwS 2 ht (gi_S w_5_213 w_5_214 w_1_12 (gi_code w_5_215)) rfl rfl rfl h_X10_lessBy ⟨Nat.le_of_ble_eq_true rfl, Nat.le_of_ble_eq_true rfl⟩) ⟨pp_blind, pp_use (ws := []) (fun _ _ h => by cases h) hK⟩ rfl rfl hl.1 rfl (lv_room (Nat.le_of_ble_eq_true rfl)) dX10_soften_37 ⟨Nat.zero_le _, Nat.zero_le _⟩) ?_
            refine lv_aload_n hx hb dX10_soften_40 rfl (lv_at hl 1 rfl) ?_
            refine va_get (D := (dC, dI)) (ci := 10) (v := .ref a_this_now) (C := RX10) (T := TX10) (N := 35) hx hb ht iX10 hown hK.1 hP 0 rfl rfl 23 (by decide) (ht _ w_4_226) (fun _ h9 => h9) rfl dX10_soften_41 ?_
            refine lv_bipush (v := nI 23) hx hb dX10_soften_44 (by decide) ?_
            refine lv_iload_n hx hb dX10_soften_46 rfl (lv_at hl 2 rfl) ?_
            refine nv_iadd hx hb dX10_soften_47 ?_
            refine nv_iald (e := 23 + x1.toNatClampNeg) (by omega) (by omega) hx hb hK.1 hP 2 0 rfl rfl dX10_soften_48 ?_
            refine lv_iconst (v := (-1 : Int32)) hx hb dX10_soften_49 (by decide) ?_
            refine lv_iconst (v := nI 0) hx hb dX10_soften_50 (by decide) ?_
            refine pv_call (v := (mX10_comesBy v_doors v_door v_now ((mX10_lessBy ((mX10_illOf v_now x1.toNatClampNeg)) (nI k_21))) (v_now (23 + x1.toNatClampNeg)) ((-1 : Int32)) (nI 0))) (va_runV (As := [.int ((mX10_lessBy ((mX10_illOf v_now x1.toNatClampNeg)) (nI k_21))), .int (v_now (23 + x1.toNatClampNeg)), .int ((-1 : Int32)), .int (nI 0)]) (rest := []) ⟨hx, hb, hml, hown, ht⟩ (kX10_comesBy l dC dI cA cZ a_this a_this_text a_this_readRain a_this_readDoor a_this_readPerson a_this_rain a_this_door a_this_now a_this_tried a_this_backOf a_this_image a_this_imageSeed a_this_isKept a_this_sight a_this_entry v_letters v_position v_tokenAt v_token v_number v_figures v_faultAt v_faultIs v_readRooms v_readStore v_readRains v_readDoors v_readPersons v_rooms v_rains v_doors v_persons v_backs v_seed v_seen v_entries v_door v_now ((mX10_lessBy ((mX10_illOf v_now x1.toNatClampNeg)) (nI k_21))) (v_now (23 + x1.toNatClampNeg)) ((-1 : Int32)) (nI 0) (by omega)) (cwV 4 ht (gi_V (C := RX10) w_5_145 w_5_147 w_0_30 w_1_12 (gi_code w_5_148)) rfl rfl rfl ⟨rfl, h_X10_comesBy⟩ ⟨Nat.le_of_ble_eq_true rfl, Nat.le_of_ble_eq_true rfl⟩) ⟨pp_blind, va_recv hK.1 hP (ci := 10) (q0 := 0) rfl rfl, pp_use hP hK⟩ rfl rfl hl.1 rfl (lv_room (Nat.le_of_ble_eq_true rfl)) dX10_soften_51 ⟨Nat.zero_le _, Nat.zero_le _⟩) ?_
            refine lv_iload_n hx hb dX10_soften_54 rfl (lv_at hl 3 rfl) ?_
            refine pv_call (v := (mX10_has ((mX10_comesBy v_doors v_door v_now ((mX10_lessBy ((mX10_illOf v_now x1.toNatClampNeg)) (nI k_21))) (v_now (23 + x1.toNatClampNeg)) ((-1 : Int32)) (nI 0))) x2)) (va_runS (As := [.int ((mX10_comesBy v_doors v_door v_now ((mX10_lessBy ((mX10_illOf v_now x1.toNatClampNeg)) (nI k_21))) (v_now (23 + x1.toNatClampNeg)) ((-1 : Int32)) (nI 0))), .int x2]) (rest := []) ⟨hx, hb, hml, hown, ht⟩ (kX10_has l dC dI cA cZ ((mX10_comesBy v_doors v_door v_now ((mX10_lessBy ((mX10_illOf v_now x1.toNatClampNeg)) (nI k_21))) (v_now (23 + x1.toNatClampNeg)) ((-1 : Int32)) (nI 0))) x2) (va_cwS 2 ht (gi_S w_5_149 w_5_150 w_1_12 (gi_code w_5_151)) rfl rfl rfl h_X10_has ⟨Nat.le_of_ble_eq_true rfl, Nat.le_of_ble_eq_true rfl⟩) ⟨pp_blind, pp_use (ws := []) (fun _ _ h => by cases h) hK⟩ rfl rfl hl.1 rfl (lv_room (Nat.le_of_ble_eq_true rfl)) dX10_soften_55 ⟨Nat.zero_le _, Nat.zero_le _⟩) ?_
            refine lv_if_eq (tgt := 63) hx hb dX10_soften_58 (by decide) (fun c_5 => ?_) (fun c_5 => ?_)
            · have hm := (if_pos c_5).symm.trans hm
              refine lv_iinc (v := nI (k_21 + 1)) (lv' := [(3, .int (nI (k_21 + 1))), (0, .ref a_this), (1, .int (nI x1.toNatClampNeg)), (2, .int x2)]) hx hb dX10_soften_63 hl (k := 0) rfl (nI_1 _) (by decide) rfl (fun ls hl => ?_)
              refine lv_goto (tgt := 21) hx hb dX10_soften_66 (by decide) ?_
              exact ih (k_21 + 1) (by omega) hm ls (lv_sub hl [0, 1, 2, 3] rfl)
            · have hm := (if_neg c_5).symm.trans hm
              refine lv_iload_n hx hb dX10_soften_61 rfl (lv_at hl 0 rfl) ?_
              exact W.iret (v := nI k_21) hx hb hr (fun t ht9 _ => ⟨_, rfl, hm, ht9⟩) (fun q hq => absurd hq List.not_mem_nil) dX10_soften_62
      exact L_21 10 0 (Nat.zero_add _) hm ls (lv_sub hl [0, 1, 2, 3] rfl)
    · have hm := (if_pos c_2).symm.trans hm
      refine lv_ldc (v := (-1000000001 : Int32)) hx hb hown (ht _ w_5_167) dX10_soften_16 ?_
      exact W.iret (v := (-1000000001 : Int32)) hx hb hr (fun t ht9 _ => ⟨_, rfl, hm, ht9⟩) (fun q hq => absurd hq List.not_mem_nil) dX10_soften_18
theorem dX10_partsBy_0 : decode cX10_partsBy 0 = .ok (.iconst 0, 1) := by decide +kernel
theorem dX10_partsBy_1 : decode cX10_partsBy 1 = .ok (.istore_n 3, 1) := by decide +kernel
theorem dX10_partsBy_2 : decode cX10_partsBy 2 = .ok (.iconst 0, 1) := by decide +kernel
theorem dX10_partsBy_3 : decode cX10_partsBy 3 = .ok (.istore 4, 2) := by decide +kernel
theorem dX10_partsBy_5 : decode cX10_partsBy 5 = .ok (.iconst 0, 1) := by decide +kernel
theorem dX10_partsBy_6 : decode cX10_partsBy 6 = .ok (.istore 5, 2) := by decide +kernel
theorem dX10_partsBy_8 : decode cX10_partsBy 8 = .ok (.iload 5, 2) := by decide +kernel
theorem dX10_partsBy_10 : decode cX10_partsBy 10 = .ok (.aload_n 0, 1) := by decide +kernel
theorem dX10_partsBy_11 : decode cX10_partsBy 11 = .ok (.getfield 57, 3) := by decide +kernel
theorem dX10_partsBy_14 : decode cX10_partsBy 14 = .ok (.if_icmp .ge 41, 3) := by decide +kernel
theorem dX10_partsBy_17 : decode cX10_partsBy 17 = .ok (.iload_n 3, 1) := by decide +kernel
theorem dX10_partsBy_18 : decode cX10_partsBy 18 = .ok (.iload 4, 2) := by decide +kernel
theorem dX10_partsBy_20 : decode cX10_partsBy 20 = .ok (.iload 5, 2) := by decide +kernel
theorem dX10_partsBy_22 : decode cX10_partsBy 22 = .ok (.invokestatic 161, 3) := by decide +kernel
theorem dX10_partsBy_25 : decode cX10_partsBy 25 = .ok (.ifCond .eq 7, 3) := by decide +kernel
theorem dX10_partsBy_28 : decode cX10_partsBy 28 = .ok (.iconst 0, 1) := by decide +kernel
theorem dX10_partsBy_29 : decode cX10_partsBy 29 = .ok (.goto 4, 3) := by decide +kernel
theorem dX10_partsBy_32 : decode cX10_partsBy 32 = .ok (.iconst 1, 1) := by decide +kernel
theorem dX10_partsBy_33 : decode cX10_partsBy 33 = .ok (.iadd, 1) := by decide +kernel
theorem dX10_partsBy_34 : decode cX10_partsBy 34 = .ok (.istore_n 3, 1) := by decide +kernel
theorem dX10_partsBy_35 : decode cX10_partsBy 35 = .ok (.iload 4, 2) := by decide +kernel
theorem dX10_partsBy_37 : decode cX10_partsBy 37 = .ok (.aload_n 0, 1) := by decide +kernel
theorem dX10_partsBy_38 : decode cX10_partsBy 38 = .ok (.iload_n 1, 1) := by decide +kernel
theorem dX10_partsBy_39 : decode cX10_partsBy 39 = .ok (.iload 5, 2) := by decide +kernel
theorem dX10_partsBy_41 : decode cX10_partsBy 41 = .ok (.iload_n 2, 1) := by decide +kernel
theorem dX10_partsBy_42 : decode cX10_partsBy 42 = .ok (.iconst 0, 1) := by decide +kernel
theorem dX10_partsBy_43 : decode cX10_partsBy 43 = .ok (.invokevirtual 164, 3) := by decide +kernel
theorem dX10_partsBy_46 : decode cX10_partsBy 46 = .ok (.ior, 1) := by decide +kernel
theorem dX10_partsBy_47 : decode cX10_partsBy 47 = .ok (.istore 4, 2) := by decide +kernel
theorem dX10_partsBy_49 : decode cX10_partsBy 49 = .ok (.iinc 5 1, 3) := by decide +kernel
theorem dX10_partsBy_52 : decode cX10_partsBy 52 = .ok (.goto (-44), 3) := by decide +kernel
theorem dX10_partsBy_55 : decode cX10_partsBy 55 = .ok (.iload_n 3, 1) := by decide +kernel
theorem dX10_partsBy_56 : decode cX10_partsBy 56 = .ok (.ireturn, 1) := by decide +kernel
theorem h_X10_partsBy : yX10_partsBy.cls ≠ "java/lang/invoke/MethodHandle" ∧ yX10_partsBy.cls ≠ "java/lang/invoke/VarHandle" ∧ (parseMethodDescriptor yX10_partsBy.desc).map (fun d => d.parameters.length) = some 2 := by decide +kernel
def mX10_partsBy_l8 (v_doors : Nat) (v_door : Nat → Int32) (v_now : Nat → Int32) (x1 : Int32) (x2 : Int32) (k_8 : Nat) (s : Int32 × Int32) : Int32 × Int32 := (if ((mX10_has s.2 (nI k_8))) = 0 then (s.1 + (nI 1), s.2 ||| ((mX10_comesBy v_doors v_door v_now x1 (nI k_8) x2 (nI 0)))) else (s.1 + (nI 0), s.2 ||| ((mX10_comesBy v_doors v_door v_now x1 (nI k_8) x2 (nI 0)))))
def mX10_partsBy (v_rooms : Int32) (v_doors : Nat) (v_door : Nat → Int32) (v_now : Nat → Int32) (x1 : Int32) (x2 : Int32) : Int32 := ((fun (w_8 : Int32 × Int32) => w_8.1) (iter (mX10_partsBy_l8 v_doors v_door v_now x1 x2) v_rooms.toNatClampNeg ((nI 0, nI 0))))
set_option maxHeartbeats 4000000 in
set_option maxRecDepth 100000 in
theorem kX10_partsBy (l : Launch) (dC : Nat → ClassId) (dI : Nat → Nat → Nat) (cA cZ : ClassId) (a_this a_this_text a_this_readRain a_this_readDoor a_this_readPerson a_this_rain a_this_door a_this_now a_this_tried a_this_backOf a_this_image a_this_imageSeed a_this_isKept a_this_sight a_this_entry : Nat) (v_letters : Nat) (v_position : Nat) (v_tokenAt : Nat) (v_token : Int32) (v_number : Int32) (v_figures : Nat) (v_faultAt : Int32) (v_faultIs : Int32) (v_readRooms : Int32) (v_readStore : Int32) (v_readRains : Nat) (v_readDoors : Nat) (v_readPersons : Nat) (v_rooms : Int32) (v_rains : Nat) (v_doors : Nat) (v_persons : Nat) (v_backs : Nat) (v_seed : Int32) (v_seen : Nat) (v_entries : Nat) (v_door : Nat → Int32) (v_now : Nat → Int32) (x1 : Int32) (x2 : Int32) (hD : v_doors ≤ 10) : Met l yX10_partsBy (Cond.code yX10_partsBy cX10_partsBy 6 (some .int) :: wt) ({ frames := 2, cells := 0, slots := 0, locals := 50 } : Room) (va_Pc [.ref a_this, .int x1, .int x2] (PreP (dC, dI) [(cA, .int), (cZ, .boolean)] [(a_this, .inr (10, [.int (nI v_letters), .ref a_this_text, .int (nI v_position), .int (nI v_tokenAt), .int v_token, .int v_number, .int (nI v_figures), .int v_faultAt, .int v_faultIs, .int v_readRooms, .int v_readStore, .int (nI v_readRains), .int (nI v_readDoors), .int (nI v_readPersons), .ref a_this_readRain, .ref a_this_readDoor, .ref a_this_readPerson, .int v_rooms, .int (nI v_rains), .int (nI v_doors), .int (nI v_persons), .ref a_this_rain, .ref a_this_door, .ref a_this_now, .ref a_this_tried, .ref a_this_backOf, .int (nI v_backs), .ref a_this_image, .ref a_this_imageSeed, .ref a_this_isKept, .int v_seed, .int (nI v_seen), .ref a_this_sight, .int (nI v_entries), .ref a_this_entry])), (a_this_door, .inl (cA, 40, .inl v_door)), (a_this_now, .inl (cA, 35, .inl v_now))])) (vp_Si (fun r => r = (mX10_partsBy v_rooms v_doors v_door v_now x1 x2))) 0 0 (fun _ => False) := by
  refine Met.ofW (cc := cX10_partsBy) (maxL := 6) (ret := (some .int)) (by decide) rfl ?_
  intro p e s m args below meth c s₁ B hml hv
  obtain ⟨ha, hP, hK⟩ := hv
  have hx := B.exec
  have hb := B.bytes
  have hr := B.returns
  have ht : ∀ w ∈ wt, w.before args s = true := fun w h => atoms_spec (ws := (Cond.code yX10_partsBy cX10_partsBy 6 (some .int) :: wt)) B.pre w (List.mem_cons_of_mem _ h)
  have hown : s.vm.findClass RX10 = some m.cls := findClass_of_methodNamed B.named
  have hlocks := B.notSynchronized
  have hl := lv_entry ([.ref a_this, .int x1, .int x2]) (n := 6) (Nat.le_of_ble_eq_true rfl)
  rw [show entryFrame m args 6 = _ from (congrArg (fun a => entryFrame m a 6) ha).trans (lg_entry_eq m [.ref a_this, .int x1, .int x2] 6)]
  generalize (lg_sl ([.ref a_this, .int x1, .int x2]) ++ List.replicate (6 - (lg_sl ([.ref a_this, .int x1, .int x2])).length) Slot.unset).toArray = ls at hl ⊢
  have hl : lv_has ls 6 [(0, .ref a_this), (1, .int x1), (2, .int x2)] := hl
  have hm : ((fun (w_8 : Int32 × Int32) => w_8.1) (iter (mX10_partsBy_l8 v_doors v_door v_now x1 x2) v_rooms.toNatClampNeg ((nI 0, nI 0)))) = (mX10_partsBy v_rooms v_doors v_door v_now x1 x2) := rfl
  refine lv_iconst (v := nI 0) hx hb dX10_partsBy_0 (by decide) ?_
  refine lv_istore_n (lv' := [(3, .int (nI 0)), (0, .ref a_this), (1, .int x1), (2, .int x2)]) hx hb dX10_partsBy_1 rfl hl (by decide) rfl (fun ls hl => ?_)
  refine lv_iconst (v := nI 0) hx hb dX10_partsBy_2 (by decide) ?_
  refine lv_istore (lv' := [(4, .int (nI 0)), (3, .int (nI 0)), (0, .ref a_this), (1, .int x1), (2, .int x2)]) hx hb dX10_partsBy_3 hl (by decide) rfl (fun ls hl => ?_)
  refine lv_iconst (v := nI 0) hx hb dX10_partsBy_5 (by decide) ?_
  refine lv_istore (lv' := [(5, .int (nI 0)), (4, .int (nI 0)), (3, .int (nI 0)), (0, .ref a_this), (1, .int x1), (2, .int x2)]) hx hb dX10_partsBy_6 hl (by decide) rfl (fun ls hl => ?_)
  have L_8 : ∀ (n_8 k_8 : Nat), k_8 + n_8 = v_rooms.toNatClampNeg → ∀ (y3_8 : Int32) (y4_8 : Int32), y3_8 = ((iter (mX10_partsBy_l8 v_doors v_door v_now x1 x2) k_8 ((nI 0, nI 0)))).1 → y4_8 = ((iter (mX10_partsBy_l8 v_doors v_door v_now x1 x2) k_8 ((nI 0, nI 0)))).2 → ∀ (ls : Array Slot), lv_has ls 6 [(5, .int (nI k_8)), (4, .int y4_8), (3, .int y3_8), (0, .ref a_this), (1, .int x1), (2, .int x2)] → W p l e (headSpec (Cond.code yX10_partsBy cX10_partsBy 6 (some .int) :: wt) ({ frames := 2, cells := 0, slots := 0, locals := 50 } : Room)).room s m args below meth c s.heap [] 0 0 (MQ below (vp_Si (fun r => r = (mX10_partsBy v_rooms v_doors v_door v_now x1 x2))) args s 0 0 (fun _ => False)) (F0 m 8 ls []) := by
    intro n_8
    induction n_8 with
    | zero =>
      intro k_8 hk y3_8 y4_8 ex0_8 ex1_8 ls hl
      obtain rfl : v_rooms.toNatClampNeg = k_8 := by omega
      have he : (y3_8, y4_8) = (iter (mX10_partsBy_l8 v_doors v_door v_now x1 x2) v_rooms.toNatClampNeg ((nI 0, nI 0))) := by rw [ex0_8, ex1_8]
      rw [← he] at hm
      have hm : y3_8 = _ := hm
      refine lv_iload hx hb dX10_partsBy_8 (lv_at hl 0 rfl) ?_
      refine lv_aload_n hx hb dX10_partsBy_10 rfl (lv_at hl 3 rfl) ?_
      refine va_get (D := (dC, dI)) (ci := 10) (v := .int v_rooms) (C := RX10) (T := TX10) (N := 35) hx hb ht iX10 hown hK.1 hP 0 rfl rfl 17 (by decide) (ht _ w_4_220) (fun _ h9 => h9) rfl dX10_partsBy_11 ?_
      refine lv_icmp_ge (tgt := 55) hx hb dX10_partsBy_14 (by decide) (fun c_3 => ?_) (fun c_3 => ?_)
      · skip
        refine lv_iload_n hx hb dX10_partsBy_55 rfl (lv_at hl 2 rfl) ?_
        exact W.iret (v := y3_8) hx hb hr (fun t ht9 _ => ⟨_, rfl, hm, ht9⟩) (fun q hq => absurd hq List.not_mem_nil) dX10_partsBy_56
      · exact absurd (lpE (by omega) (by have := clampLt v_rooms; omega)) c_3
    | succ n_8 ih =>
      intro k_8 hk y3_8 y4_8 ex0_8 ex1_8 ls hl
      have hm : (mX10_partsBy_l8 v_doors v_door v_now x1 x2) k_8 (y3_8, y4_8) = (iter (mX10_partsBy_l8 v_doors v_door v_now x1 x2) (k_8 + 1) ((nI 0, nI 0))) := by rw [ex0_8, ex1_8]; rfl
      have hm : (if ((mX10_has y4_8 (nI k_8))) = 0 then (y3_8 + (nI 1), y4_8 ||| ((mX10_comesBy v_doors v_door v_now x1 (nI k_8) x2 (nI 0)))) else (y3_8 + (nI 0), y4_8 ||| ((mX10_comesBy v_doors v_door v_now x1 (nI k_8) x2 (nI 0))))) = (iter (mX10_partsBy_l8 v_doors v_door v_now x1 x2) (k_8 + 1) ((nI 0, nI 0))) := hm
      refine lv_iload hx hb dX10_partsBy_8 (lv_at hl 0 rfl) ?_
      refine lv_aload_n hx hb dX10_partsBy_10 rfl (lv_at hl 3 rfl) ?_
      refine va_get (D := (dC, dI)) (ci := 10) (v := .int v_rooms) (C := RX10) (T := TX10) (N := 35) hx hb ht iX10 hown hK.1 hP 0 rfl rfl 17 (by decide) (ht _ w_4_220) (fun _ h9 => h9) rfl dX10_partsBy_11 ?_
      refine lv_icmp_ge (tgt := 55) hx hb dX10_partsBy_14 (by decide) (fun c_1 => ?_) (fun c_1 => ?_)
      · exact absurd c_1 (lpN (by omega))
      · skip
        refine lv_iload_n hx hb dX10_partsBy_17 rfl (lv_at hl 2 rfl) ?_
        refine lv_iload hx hb dX10_partsBy_18 (lv_at hl 1 rfl) ?_
        refine lv_iload hx hb dX10_partsBy_20 (lv_at hl 0 rfl) ?_
        refine pv_call (v := (mX10_has y4_8 (nI k_8))) (va_runS (As := [.int y4_8, .int (nI k_8)]) (rest := [.int y3_8]) ⟨hx, hb, hml, hown, ht⟩ (kX10_has l dC dI cA cZ y4_8 (nI k_8)) (va_cwS 2 ht (gi_S w_5_149 w_5_150 w_1_12 (gi_code w_5_151)) rfl rfl rfl h_X10_has ⟨Nat.le_of_ble_eq_true rfl, Nat.le_of_ble_eq_true rfl⟩) ⟨pp_blind, pp_use (ws := []) (fun _ _ h => by cases h) hK⟩ rfl rfl hl.1 rfl (lv_room (Nat.le_of_ble_eq_true rfl)) dX10_partsBy_22 ⟨Nat.zero_le _, Nat.zero_le _⟩) ?_
        refine lv_if_eq (tgt := 32) hx hb dX10_partsBy_25 (by decide) (fun c_2 => ?_) (fun c_2 => ?_)
        · have hm := (if_pos c_2).symm.trans hm
          refine lv_iconst (v := nI 1) hx hb dX10_partsBy_32 (by decide) ?_
          refine lv_iadd hx hb dX10_partsBy_33 ?_
          refine lv_istore_n (lv' := [(3, .int (y3_8 + (nI 1))), (5, .int (nI k_8)), (4, .int y4_8), (0, .ref a_this), (1, .int x1), (2, .int x2)]) hx hb dX10_partsBy_34 rfl hl (by decide) rfl (fun ls hl => ?_)
          refine lv_iload hx hb dX10_partsBy_35 (lv_at hl 2 rfl) ?_
          refine lv_aload_n hx hb dX10_partsBy_37 rfl (lv_at hl 3 rfl) ?_
          refine lv_iload_n hx hb dX10_partsBy_38 rfl (lv_at hl 4 rfl) ?_
          refine lv_iload hx hb dX10_partsBy_39 (lv_at hl 1 rfl) ?_
          refine lv_iload_n hx hb dX10_partsBy_41 rfl (lv_at hl 5 rfl) ?_
          refine lv_iconst (v := nI 0) hx hb dX10_partsBy_42 (by decide) ?_
          refine pv_call (v := (mX10_comesBy v_doors v_door v_now x1 (nI k_8) x2 (nI 0))) (va_runV (As := [.int x1, .int (nI k_8), .int x2, .int (nI 0)]) (rest := [.int y4_8]) ⟨hx, hb, hml, hown, ht⟩ (kX10_comesBy l dC dI cA cZ a_this a_this_text a_this_readRain a_this_readDoor a_this_readPerson a_this_rain a_this_door a_this_now a_this_tried a_this_backOf a_this_image a_this_imageSeed a_this_isKept a_this_sight a_this_entry v_letters v_position v_tokenAt v_token v_number v_figures v_faultAt v_faultIs v_readRooms v_readStore v_readRains v_readDoors v_readPersons v_rooms v_rains v_doors v_persons v_backs v_seed v_seen v_entries v_door v_now x1 (nI k_8) x2 (nI 0) (by omega)) (cwV 4 ht (gi_V (C := RX10) w_5_145 w_5_147 w_0_30 w_1_12 (gi_code w_5_148)) rfl rfl rfl ⟨rfl, h_X10_comesBy⟩ ⟨Nat.le_of_ble_eq_true rfl, Nat.le_of_ble_eq_true rfl⟩) ⟨pp_blind, va_recv hK.1 hP (ci := 10) (q0 := 0) rfl rfl, pp_use hP hK⟩ rfl rfl hl.1 rfl (lv_room (Nat.le_of_ble_eq_true rfl)) dX10_partsBy_43 ⟨Nat.zero_le _, Nat.zero_le _⟩) ?_
          refine lv_ior hx hb dX10_partsBy_46 ?_
          refine lv_istore (lv' := [(4, .int (y4_8 ||| ((mX10_comesBy v_doors v_door v_now x1 (nI k_8) x2 (nI 0))))), (3, .int (y3_8 + (nI 1))), (5, .int (nI k_8)), (0, .ref a_this), (1, .int x1), (2, .int x2)]) hx hb dX10_partsBy_47 hl (by decide) rfl (fun ls hl => ?_)
          refine lv_iinc (v := nI (k_8 + 1)) (lv' := [(5, .int (nI (k_8 + 1))), (4, .int (y4_8 ||| ((mX10_comesBy v_doors v_door v_now x1 (nI k_8) x2 (nI 0))))), (3, .int (y3_8 + (nI 1))), (0, .ref a_this), (1, .int x1), (2, .int x2)]) hx hb dX10_partsBy_49 hl (k := 2) rfl (nI_1 _) (by decide) rfl (fun ls hl => ?_)
          refine lv_goto (tgt := 8) hx hb dX10_partsBy_52 (by decide) ?_
          exact ih (k_8 + 1) (by omega) (y3_8 + (nI 1)) (y4_8 ||| ((mX10_comesBy v_doors v_door v_now x1 (nI k_8) x2 (nI 0)))) (congrArg (fun z => z.1) hm) (congrArg (fun z => z.2) hm) ls (lv_sub hl [0, 1, 2, 3, 4, 5] rfl)
        · have hm := (if_neg c_2).symm.trans hm
          refine lv_iconst (v := nI 0) hx hb dX10_partsBy_28 (by decide) ?_
          refine lv_goto (tgt := 33) hx hb dX10_partsBy_29 (by decide) ?_
          refine lv_iadd hx hb dX10_partsBy_33 ?_
          refine lv_istore_n (lv' := [(3, .int (y3_8 + (nI 0))), (5, .int (nI k_8)), (4, .int y4_8), (0, .ref a_this), (1, .int x1), (2, .int x2)]) hx hb dX10_partsBy_34 rfl hl (by decide) rfl (fun ls hl => ?_)
          refine lv_iload hx hb dX10_partsBy_35 (lv_at hl 2 rfl) ?_
          refine lv_aload_n hx hb dX10_partsBy_37 rfl (lv_at hl 3 rfl) ?_
          refine lv_iload_n hx hb dX10_partsBy_38 rfl (lv_at hl 4 rfl) ?_
          refine lv_iload hx hb dX10_partsBy_39 (lv_at hl 1 rfl) ?_
          refine lv_iload_n hx hb dX10_partsBy_41 rfl (lv_at hl 5 rfl) ?_
          refine lv_iconst (v := nI 0) hx hb dX10_partsBy_42 (by decide) ?_
          refine pv_call (v := (mX10_comesBy v_doors v_door v_now x1 (nI k_8) x2 (nI 0))) (va_runV (As := [.int x1, .int (nI k_8), .int x2, .int (nI 0)]) (rest := [.int y4_8]) ⟨hx, hb, hml, hown, ht⟩ (kX10_comesBy l dC dI cA cZ a_this a_this_text a_this_readRain a_this_readDoor a_this_readPerson a_this_rain a_this_door a_this_now a_this_tried a_this_backOf a_this_image a_this_imageSeed a_this_isKept a_this_sight a_this_entry v_letters v_position v_tokenAt v_token v_number v_figures v_faultAt v_faultIs v_readRooms v_readStore v_readRains v_readDoors v_readPersons v_rooms v_rains v_doors v_persons v_backs v_seed v_seen v_entries v_door v_now x1 (nI k_8) x2 (nI 0) (by omega)) (cwV 4 ht (gi_V (C := RX10) w_5_145 w_5_147 w_0_30 w_1_12 (gi_code w_5_148)) rfl rfl rfl ⟨rfl, h_X10_comesBy⟩ ⟨Nat.le_of_ble_eq_true rfl, Nat.le_of_ble_eq_true rfl⟩) ⟨pp_blind, va_recv hK.1 hP (ci := 10) (q0 := 0) rfl rfl, pp_use hP hK⟩ rfl rfl hl.1 rfl (lv_room (Nat.le_of_ble_eq_true rfl)) dX10_partsBy_43 ⟨Nat.zero_le _, Nat.zero_le _⟩) ?_
          refine lv_ior hx hb dX10_partsBy_46 ?_
          refine lv_istore (lv' := [(4, .int (y4_8 ||| ((mX10_comesBy v_doors v_door v_now x1 (nI k_8) x2 (nI 0))))), (3, .int (y3_8 + (nI 0))), (5, .int (nI k_8)), (0, .ref a_this), (1, .int x1), (2, .int x2)]) hx hb dX10_partsBy_47 hl (by decide) rfl (fun ls hl => ?_)
          refine lv_iinc (v := nI (k_8 + 1)) (lv' := [(5, .int (nI (k_8 + 1))), (4, .int (y4_8 ||| ((mX10_comesBy v_doors v_door v_now x1 (nI k_8) x2 (nI 0))))), (3, .int (y3_8 + (nI 0))), (0, .ref a_this), (1, .int x1), (2, .int x2)]) hx hb dX10_partsBy_49 hl (k := 2) rfl (nI_1 _) (by decide) rfl (fun ls hl => ?_)
          refine lv_goto (tgt := 8) hx hb dX10_partsBy_52 (by decide) ?_
          exact ih (k_8 + 1) (by omega) (y3_8 + (nI 0)) (y4_8 ||| ((mX10_comesBy v_doors v_door v_now x1 (nI k_8) x2 (nI 0)))) (congrArg (fun z => z.1) hm) (congrArg (fun z => z.2) hm) ls (lv_sub hl [0, 1, 2, 3, 4, 5] rfl)
  exact L_8 v_rooms.toNatClampNeg 0 (Nat.zero_add _) (nI 0) (nI 0) rfl rfl ls (lv_sub hl [0, 1, 2, 3, 4, 5] rfl)
theorem dX10_parts_0 : decode cX10_parts 0 = .ok (.iload_n 2, 1) := by decide +kernel
theorem dX10_parts_1 : decode cX10_parts 1 = .ok (.iconst (-1), 1) := by decide +kernel
theorem dX10_parts_2 : decode cX10_parts 2 = .ok (.if_icmp .eq 14, 3) := by decide +kernel
theorem dX10_parts_5 : decode cX10_parts 5 = .ok (.aload_n 0, 1) := by decide +kernel
theorem dX10_parts_6 : decode cX10_parts 6 = .ok (.iload_n 2, 1) := by decide +kernel
theorem dX10_parts_7 : decode cX10_parts 7 = .ok (.invokevirtual 193, 3) := by decide +kernel
theorem dX10_parts_10 : decode cX10_parts 10 = .ok (.ifCond .ne 6, 3) := by decide +kernel
theorem dX10_parts_13 : decode cX10_parts 13 = .ok (.ldc 185, 2) := by decide +kernel
theorem dX10_parts_15 : decode cX10_parts 15 = .ok (.ireturn, 1) := by decide +kernel
theorem dX10_parts_16 : decode cX10_parts 16 = .ok (.iload_n 1, 1) := by decide +kernel
theorem dX10_parts_17 : decode cX10_parts 17 = .ok (.iconst 0, 1) := by decide +kernel
theorem dX10_parts_18 : decode cX10_parts 18 = .ok (.bipush 9, 2) := by decide +kernel
theorem dX10_parts_20 : decode cX10_parts 20 = .ok (.invokestatic 60, 3) := by decide +kernel
theorem dX10_parts_23 : decode cX10_parts 23 = .ok (.ifCond .ne 6, 3) := by decide +kernel
theorem dX10_parts_26 : decode cX10_parts 26 = .ok (.ldc 70, 2) := by decide +kernel
theorem dX10_parts_28 : decode cX10_parts 28 = .ok (.ireturn, 1) := by decide +kernel
theorem dX10_parts_29 : decode cX10_parts 29 = .ok (.aload_n 0, 1) := by decide +kernel
theorem dX10_parts_30 : decode cX10_parts 30 = .ok (.getfield 57, 3) := by decide +kernel
theorem dX10_parts_33 : decode cX10_parts 33 = .ok (.ifCond .ne 6, 3) := by decide +kernel
theorem dX10_parts_36 : decode cX10_parts 36 = .ok (.ldc 196, 2) := by decide +kernel
theorem dX10_parts_38 : decode cX10_parts 38 = .ok (.ireturn, 1) := by decide +kernel
theorem dX10_parts_39 : decode cX10_parts 39 = .ok (.iload_n 2, 1) := by decide +kernel
theorem dX10_parts_40 : decode cX10_parts 40 = .ok (.iconst (-1), 1) := by decide +kernel
theorem dX10_parts_41 : decode cX10_parts 41 = .ok (.if_icmp .ne 12, 3) := by decide +kernel
theorem dX10_parts_44 : decode cX10_parts 44 = .ok (.aload_n 0, 1) := by decide +kernel
theorem dX10_parts_45 : decode cX10_parts 45 = .ok (.iload_n 1, 1) := by decide +kernel
theorem dX10_parts_46 : decode cX10_parts 46 = .ok (.iconst (-1), 1) := by decide +kernel
theorem dX10_parts_47 : decode cX10_parts 47 = .ok (.invokevirtual 241, 3) := by decide +kernel
theorem dX10_parts_50 : decode cX10_parts 50 = .ok (.goto 11, 3) := by decide +kernel
theorem dX10_parts_53 : decode cX10_parts 53 = .ok (.aload_n 0, 1) := by decide +kernel
theorem dX10_parts_54 : decode cX10_parts 54 = .ok (.iload_n 1, 1) := by decide +kernel
theorem dX10_parts_55 : decode cX10_parts 55 = .ok (.iload_n 2, 1) := by decide +kernel
theorem dX10_parts_56 : decode cX10_parts 56 = .ok (.iconst (-1), 1) := by decide +kernel
theorem dX10_parts_57 : decode cX10_parts 57 = .ok (.iconst 0, 1) := by decide +kernel
theorem dX10_parts_58 : decode cX10_parts 58 = .ok (.invokevirtual 164, 3) := by decide +kernel
theorem dX10_parts_61 : decode cX10_parts 61 = .ok (.ireturn, 1) := by decide +kernel
theorem h_X10_parts : yX10_parts.cls ≠ "java/lang/invoke/MethodHandle" ∧ yX10_parts.cls ≠ "java/lang/invoke/VarHandle" ∧ (parseMethodDescriptor yX10_parts.desc).map (fun d => d.parameters.length) = some 2 := by decide +kernel
def mX10_parts (v_rooms : Int32) (v_doors : Nat) (v_door : Nat → Int32) (v_now : Nat → Int32) (x1 : Int32) (x2 : Int32) : Int32 := (if x2 = ((-1 : Int32)) then (if ((mX10_in x1 (nI 0) (nI 9))) = 0 then (-1000000002 : Int32) else (if v_rooms = 0 then (-1000000003 : Int32) else (if x2 = ((-1 : Int32)) then (mX10_partsBy v_rooms v_doors v_door v_now x1 ((-1 : Int32))) else (mX10_comesBy v_doors v_door v_now x1 x2 ((-1 : Int32)) (nI 0))))) else (if ((mX10_isRoom v_rooms x2)) = 0 then (-1000000001 : Int32) else (if ((mX10_in x1 (nI 0) (nI 9))) = 0 then (-1000000002 : Int32) else (if v_rooms = 0 then (-1000000003 : Int32) else (if x2 = ((-1 : Int32)) then (mX10_partsBy v_rooms v_doors v_door v_now x1 ((-1 : Int32))) else (mX10_comesBy v_doors v_door v_now x1 x2 ((-1 : Int32)) (nI 0)))))))
set_option maxHeartbeats 4000000 in
set_option maxRecDepth 100000 in
theorem kX10_parts (l : Launch) (dC : Nat → ClassId) (dI : Nat → Nat → Nat) (cA cZ : ClassId) (a_this a_this_text a_this_readRain a_this_readDoor a_this_readPerson a_this_rain a_this_door a_this_now a_this_tried a_this_backOf a_this_image a_this_imageSeed a_this_isKept a_this_sight a_this_entry : Nat) (v_letters : Nat) (v_position : Nat) (v_tokenAt : Nat) (v_token : Int32) (v_number : Int32) (v_figures : Nat) (v_faultAt : Int32) (v_faultIs : Int32) (v_readRooms : Int32) (v_readStore : Int32) (v_readRains : Nat) (v_readDoors : Nat) (v_readPersons : Nat) (v_rooms : Int32) (v_rains : Nat) (v_doors : Nat) (v_persons : Nat) (v_backs : Nat) (v_seed : Int32) (v_seen : Nat) (v_entries : Nat) (v_door : Nat → Int32) (v_now : Nat → Int32) (x1 : Int32) (x2 : Int32) (hD : v_doors ≤ 10) : Met l yX10_parts (Cond.code yX10_parts cX10_parts 3 (some .int) :: wt) ({ frames := 3, cells := 0, slots := 0, locals := 75 } : Room) (va_Pc [.ref a_this, .int x1, .int x2] (PreP (dC, dI) [(cA, .int), (cZ, .boolean)] [(a_this, .inr (10, [.int (nI v_letters), .ref a_this_text, .int (nI v_position), .int (nI v_tokenAt), .int v_token, .int v_number, .int (nI v_figures), .int v_faultAt, .int v_faultIs, .int v_readRooms, .int v_readStore, .int (nI v_readRains), .int (nI v_readDoors), .int (nI v_readPersons), .ref a_this_readRain, .ref a_this_readDoor, .ref a_this_readPerson, .int v_rooms, .int (nI v_rains), .int (nI v_doors), .int (nI v_persons), .ref a_this_rain, .ref a_this_door, .ref a_this_now, .ref a_this_tried, .ref a_this_backOf, .int (nI v_backs), .ref a_this_image, .ref a_this_imageSeed, .ref a_this_isKept, .int v_seed, .int (nI v_seen), .ref a_this_sight, .int (nI v_entries), .ref a_this_entry])), (a_this_door, .inl (cA, 40, .inl v_door)), (a_this_now, .inl (cA, 35, .inl v_now))])) (vp_Si (fun r => r = (mX10_parts v_rooms v_doors v_door v_now x1 x2))) 0 0 (fun _ => False) := by
  refine Met.ofW (cc := cX10_parts) (maxL := 3) (ret := (some .int)) (by decide) rfl ?_
  intro p e s m args below meth c s₁ B hml hv
  obtain ⟨ha, hP, hK⟩ := hv
  have hx := B.exec
  have hb := B.bytes
  have hr := B.returns
  have ht : ∀ w ∈ wt, w.before args s = true := fun w h => atoms_spec (ws := (Cond.code yX10_parts cX10_parts 3 (some .int) :: wt)) B.pre w (List.mem_cons_of_mem _ h)
  have hown : s.vm.findClass RX10 = some m.cls := findClass_of_methodNamed B.named
  have hlocks := B.notSynchronized
  have hl := lv_entry ([.ref a_this, .int x1, .int x2]) (n := 3) (Nat.le_of_ble_eq_true rfl)
  rw [show entryFrame m args 3 = _ from (congrArg (fun a => entryFrame m a 3) ha).trans (lg_entry_eq m [.ref a_this, .int x1, .int x2] 3)]
  generalize (lg_sl ([.ref a_this, .int x1, .int x2]) ++ List.replicate (3 - (lg_sl ([.ref a_this, .int x1, .int x2])).length) Slot.unset).toArray = ls at hl ⊢
  have hl : lv_has ls 3 [(0, .ref a_this), (1, .int x1), (2, .int x2)] := hl
  have hm : (if x2 = ((-1 : Int32)) then (if ((mX10_in x1 (nI 0) (nI 9))) = 0 then (-1000000002 : Int32) else (if v_rooms = 0 then (-1000000003 : Int32) else (if x2 = ((-1 : Int32)) then (mX10_partsBy v_rooms v_doors v_door v_now x1 ((-1 : Int32))) else (mX10_comesBy v_doors v_door v_now x1 x2 ((-1 : Int32)) (nI 0))))) else (if ((mX10_isRoom v_rooms x2)) = 0 then (-1000000001 : Int32) else (if ((mX10_in x1 (nI 0) (nI 9))) = 0 then (-1000000002 : Int32) else (if v_rooms = 0 then (-1000000003 : Int32) else (if x2 = ((-1 : Int32)) then (mX10_partsBy v_rooms v_doors v_door v_now x1 ((-1 : Int32))) else (mX10_comesBy v_doors v_door v_now x1 x2 ((-1 : Int32)) (nI 0))))))) = (mX10_parts v_rooms v_doors v_door v_now x1 x2) := rfl
  refine lv_iload_n hx hb dX10_parts_0 rfl (lv_at hl 2 rfl) ?_
  refine lv_iconst (v := (-1 : Int32)) hx hb dX10_parts_1 (by decide) ?_
  refine lv_icmp_eq (tgt := 16) hx hb dX10_parts_2 (by decide) (fun c_1 => ?_) (fun c_1 => ?_)
  · have hm := (if_pos c_1).symm.trans hm
    refine lv_iload_n hx hb dX10_parts_16 rfl (lv_at hl 1 rfl) ?_
    refine lv_iconst (v := nI 0) hx hb dX10_parts_17 (by decide) ?_
    refine lv_bipush (v := nI 9) hx hb dX10_parts_18 (by decide) ?_
    refine pv_call (v := (mX10_in x1 (nI 0) (nI 9))) (va_runS (As := [.int x1, .int (nI 0), .int (nI 9)]) (rest := []) ⟨hx, hb, hml, hown, ht⟩ (kX10_in l dC dI cA cZ x1 (nI 0) (nI 9)) (va_cwS 3 ht (gi_S w_5_74 w_5_75 w_1_12 (gi_code w_5_76)) rfl rfl rfl h_X10_in ⟨Nat.le_of_ble_eq_true rfl, Nat.le_of_ble_eq_true rfl⟩) ⟨pp_blind, pp_use (ws := []) (fun _ _ h => by cases h) hK⟩ rfl rfl hl.1 rfl (lv_room (Nat.le_of_ble_eq_true rfl)) dX10_parts_20 ⟨Nat.zero_le _, Nat.zero_le _⟩) ?_
    refine lv_if_ne (tgt := 29) hx hb dX10_parts_23 (by decide) (fun c_2 => ?_) (fun c_2 => ?_)
    · have hm := (if_neg c_2).symm.trans hm
      refine lv_aload_n hx hb dX10_parts_29 rfl (lv_at hl 0 rfl) ?_
      refine va_get (D := (dC, dI)) (ci := 10) (v := .int v_rooms) (C := RX10) (T := TX10) (N := 35) hx hb ht iX10 hown hK.1 hP 0 rfl rfl 17 (by decide) (ht _ w_4_220) (fun _ h9 => h9) rfl dX10_parts_30 ?_
      refine lv_if_ne (tgt := 39) hx hb dX10_parts_33 (by decide) (fun c_3 => ?_) (fun c_3 => ?_)
      · have hm := (if_neg c_3).symm.trans hm
        refine lv_iload_n hx hb dX10_parts_39 rfl (lv_at hl 2 rfl) ?_
        refine lv_iconst (v := (-1 : Int32)) hx hb dX10_parts_40 (by decide) ?_
        refine lv_icmp_ne (tgt := 53) hx hb dX10_parts_41 (by decide) (fun c_4 => ?_) (fun c_4 => ?_)
        · have hm := (if_neg c_4).symm.trans hm
          refine lv_aload_n hx hb dX10_parts_53 rfl (lv_at hl 0 rfl) ?_
          refine lv_iload_n hx hb dX10_parts_54 rfl (lv_at hl 1 rfl) ?_
          refine lv_iload_n hx hb dX10_parts_55 rfl (lv_at hl 2 rfl) ?_
          refine lv_iconst (v := (-1 : Int32)) hx hb dX10_parts_56 (by decide) ?_
          refine lv_iconst (v := nI 0) hx hb dX10_parts_57 (by decide) ?_
          refine pv_call (v := (mX10_comesBy v_doors v_door v_now x1 x2 ((-1 : Int32)) (nI 0))) (va_runV (As := [.int x1, .int x2, .int ((-1 : Int32)), .int (nI 0)]) (rest := []) ⟨hx, hb, hml, hown, ht⟩ (kX10_comesBy l dC dI cA cZ a_this a_this_text a_this_readRain a_this_readDoor a_this_readPerson a_this_rain a_this_door a_this_now a_this_tried a_this_backOf a_this_image a_this_imageSeed a_this_isKept a_this_sight a_this_entry v_letters v_position v_tokenAt v_token v_number v_figures v_faultAt v_faultIs v_readRooms v_readStore v_readRains v_readDoors v_readPersons v_rooms v_rains v_doors v_persons v_backs v_seed v_seen v_entries v_door v_now x1 x2 ((-1 : Int32)) (nI 0) (by omega)) (cwV 4 ht (gi_V (C := RX10) w_5_145 w_5_147 w_0_30 w_1_12 (gi_code w_5_148)) rfl rfl rfl ⟨rfl, h_X10_comesBy⟩ ⟨Nat.le_of_ble_eq_true rfl, Nat.le_of_ble_eq_true rfl⟩) ⟨pp_blind, va_recv hK.1 hP (ci := 10) (q0 := 0) rfl rfl, pp_use hP hK⟩ rfl rfl hl.1 rfl (lv_room (Nat.le_of_ble_eq_true rfl)) dX10_parts_58 ⟨Nat.zero_le _, Nat.zero_le _⟩) ?_
          exact W.iret (v := (mX10_comesBy v_doors v_door v_now x1 x2 ((-1 : Int32)) (nI 0))) hx hb hr (fun t ht9 _ => ⟨_, rfl, hm, ht9⟩) (fun q hq => absurd hq List.not_mem_nil) dX10_parts_61
        · have hm := (if_pos c_4).symm.trans hm
          refine lv_aload_n hx hb dX10_parts_44 rfl (lv_at hl 0 rfl) ?_
          refine lv_iload_n hx hb dX10_parts_45 rfl (lv_at hl 1 rfl) ?_
          refine lv_iconst (v := (-1 : Int32)) hx hb dX10_parts_46 (by decide) ?_
          refine pv_call (v := (mX10_partsBy v_rooms v_doors v_door v_now x1 ((-1 : Int32)))) (va_runV (As := [.int x1, .int ((-1 : Int32))]) (rest := []) ⟨hx, hb, hml, hown, ht⟩ (kX10_partsBy l dC dI cA cZ a_this a_this_text a_this_readRain a_this_readDoor a_this_readPerson a_this_rain a_this_door a_this_now a_this_tried a_this_backOf a_this_image a_this_imageSeed a_this_isKept a_this_sight a_this_entry v_letters v_position v_tokenAt v_token v_number v_figures v_faultAt v_faultIs v_readRooms v_readStore v_readRains v_readDoors v_readPersons v_rooms v_rains v_doors v_persons v_backs v_seed v_seen v_entries v_door v_now x1 ((-1 : Int32)) (by omega)) (cwV 2 ht (gi_V (C := RX10) w_6_51 w_6_53 w_0_43 w_1_12 (gi_code w_6_54)) rfl rfl rfl ⟨rfl, h_X10_partsBy⟩ ⟨Nat.le_of_ble_eq_true rfl, Nat.le_of_ble_eq_true rfl⟩) ⟨pp_blind, va_recv hK.1 hP (ci := 10) (q0 := 0) rfl rfl, pp_use hP hK⟩ rfl rfl hl.1 rfl (lv_room (Nat.le_of_ble_eq_true rfl)) dX10_parts_47 ⟨Nat.zero_le _, Nat.zero_le _⟩) ?_
          refine lv_goto (tgt := 61) hx hb dX10_parts_50 (by decide) ?_
          exact W.iret (v := (mX10_partsBy v_rooms v_doors v_door v_now x1 ((-1 : Int32)))) hx hb hr (fun t ht9 _ => ⟨_, rfl, hm, ht9⟩) (fun q hq => absurd hq List.not_mem_nil) dX10_parts_61
      · have hm := (if_pos c_3).symm.trans hm
        refine lv_ldc (v := (-1000000003 : Int32)) hx hb hown (ht _ w_5_191) dX10_parts_36 ?_
        exact W.iret (v := (-1000000003 : Int32)) hx hb hr (fun t ht9 _ => ⟨_, rfl, hm, ht9⟩) (fun q hq => absurd hq List.not_mem_nil) dX10_parts_38
    · have hm := (if_pos c_2).symm.trans hm
      refine lv_ldc (v := (-1000000002 : Int32)) hx hb hown (ht _ w_5_77) dX10_parts_26 ?_
      exact W.iret (v := (-1000000002 : Int32)) hx hb hr (fun t ht9 _ => ⟨_, rfl, hm, ht9⟩) (fun q hq => absurd hq List.not_mem_nil) dX10_parts_28
  · have hm := (if_neg c_1).symm.trans hm
    refine lv_aload_n hx hb dX10_parts_5 rfl (lv_at hl 0 rfl) ?_
    refine lv_iload_n hx hb dX10_parts_6 rfl (lv_at hl 2 rfl) ?_
    refine pv_call (v := (mX10_isRoom v_rooms x2)) (va_runV (As := [.int x2]) (rest := []) ⟨hx, hb, hml, hown, ht⟩ (kX10_isRoom l dC dI cA cZ a_this a_this_text a_this_readRain a_this_readDoor a_this_readPerson a_this_rain a_this_door a_this_now a_this_tried a_this_backOf a_this_image a_this_imageSeed a_this_isKept a_this_sight a_this_entry v_letters v_position v_tokenAt v_token v_number v_figures v_faultAt v_faultIs v_readRooms v_readStore v_readRains v_readDoors v_readPersons v_rooms v_rains v_doors v_persons v_backs v_seed v_seen v_entries x2) (cwV 1 ht (gi_V (C := RX10) w_5_183 w_5_185 w_0_34 w_1_12 (gi_code w_5_186)) rfl rfl rfl ⟨rfl, h_X10_isRoom⟩ ⟨Nat.le_of_ble_eq_true rfl, Nat.le_of_ble_eq_true rfl⟩) ⟨pp_blind, va_recv hK.1 hP (ci := 10) (q0 := 0) rfl rfl, pp_use (pc_sub (wc := [(a_this, .inr (10, [.int (nI v_letters), .ref a_this_text, .int (nI v_position), .int (nI v_tokenAt), .int v_token, .int v_number, .int (nI v_figures), .int v_faultAt, .int v_faultIs, .int v_readRooms, .int v_readStore, .int (nI v_readRains), .int (nI v_readDoors), .int (nI v_readPersons), .ref a_this_readRain, .ref a_this_readDoor, .ref a_this_readPerson, .int v_rooms, .int (nI v_rains), .int (nI v_doors), .int (nI v_persons), .ref a_this_rain, .ref a_this_door, .ref a_this_now, .ref a_this_tried, .ref a_this_backOf, .int (nI v_backs), .ref a_this_image, .ref a_this_imageSeed, .ref a_this_isKept, .int v_seed, .int (nI v_seen), .ref a_this_sight, .int (nI v_entries), .ref a_this_entry]))]) hP [0] rfl) hK⟩ rfl rfl hl.1 rfl (lv_room (Nat.le_of_ble_eq_true rfl)) dX10_parts_7 ⟨Nat.zero_le _, Nat.zero_le _⟩) ?_
    refine lv_if_ne (tgt := 16) hx hb dX10_parts_10 (by decide) (fun c_5 => ?_) (fun c_5 => ?_)
    · have hm := (if_neg c_5).symm.trans hm
      refine lv_iload_n hx hb dX10_parts_16 rfl (lv_at hl 1 rfl) ?_
      refine lv_iconst (v := nI 0) hx hb dX10_parts_17 (by decide) ?_
      refine lv_bipush (v := nI 9) hx hb dX10_parts_18 (by decide) ?_
      refine pv_call (v := (mX10_in x1 (nI 0) (nI 9))) (va_runS (As := [.int x1, .int (nI 0), .int (nI 9)]) (rest := []) ⟨hx, hb, hml, hown, ht⟩ (kX10_in l dC dI cA cZ x1 (nI 0) (nI 9)) (va_cwS 3 ht (gi_S w_5_74 w_5_75 w_1_12 (gi_code w_5_76)) rfl rfl rfl h_X10_in ⟨Nat.le_of_ble_eq_true rfl, Nat.le_of_ble_eq_true rfl⟩) ⟨pp_blind, pp_use (ws := []) (fun _ _ h => by cases h) hK⟩ rfl rfl hl.1 rfl (lv_room (Nat.le_of_ble_eq_true rfl)) dX10_parts_20 ⟨Nat.zero_le _, Nat.zero_le _⟩) ?_
      refine lv_if_ne (tgt := 29) hx hb dX10_parts_23 (by decide) (fun c_6 => ?_) (fun c_6 => ?_)
      · have hm := (if_neg c_6).symm.trans hm
        refine lv_aload_n hx hb dX10_parts_29 rfl (lv_at hl 0 rfl) ?_
        refine va_get (D := (dC, dI)) (ci := 10) (v := .int v_rooms) (C := RX10) (T := TX10) (N := 35) hx hb ht iX10 hown hK.1 hP 0 rfl rfl 17 (by decide) (ht _ w_4_220) (fun _ h9 => h9) rfl dX10_parts_30 ?_
        refine lv_if_ne (tgt := 39) hx hb dX10_parts_33 (by decide) (fun c_7 => ?_) (fun c_7 => ?_)
        · have hm := (if_neg c_7).symm.trans hm
          refine lv_iload_n hx hb dX10_parts_39 rfl (lv_at hl 2 rfl) ?_
          refine lv_iconst (v := (-1 : Int32)) hx hb dX10_parts_40 (by decide) ?_
          refine lv_icmp_ne (tgt := 53) hx hb dX10_parts_41 (by decide) (fun c_8 => ?_) (fun c_8 => ?_)
          · have hm := (if_neg c_8).symm.trans hm
            refine lv_aload_n hx hb dX10_parts_53 rfl (lv_at hl 0 rfl) ?_
            refine lv_iload_n hx hb dX10_parts_54 rfl (lv_at hl 1 rfl) ?_
            refine lv_iload_n hx hb dX10_parts_55 rfl (lv_at hl 2 rfl) ?_
            refine lv_iconst (v := (-1 : Int32)) hx hb dX10_parts_56 (by decide) ?_
            refine lv_iconst (v := nI 0) hx hb dX10_parts_57 (by decide) ?_
            refine pv_call (v := (mX10_comesBy v_doors v_door v_now x1 x2 ((-1 : Int32)) (nI 0))) (va_runV (As := [.int x1, .int x2, .int ((-1 : Int32)), .int (nI 0)]) (rest := []) ⟨hx, hb, hml, hown, ht⟩ (kX10_comesBy l dC dI cA cZ a_this a_this_text a_this_readRain a_this_readDoor a_this_readPerson a_this_rain a_this_door a_this_now a_this_tried a_this_backOf a_this_image a_this_imageSeed a_this_isKept a_this_sight a_this_entry v_letters v_position v_tokenAt v_token v_number v_figures v_faultAt v_faultIs v_readRooms v_readStore v_readRains v_readDoors v_readPersons v_rooms v_rains v_doors v_persons v_backs v_seed v_seen v_entries v_door v_now x1 x2 ((-1 : Int32)) (nI 0) (by omega)) (cwV 4 ht (gi_V (C := RX10) w_5_145 w_5_147 w_0_30 w_1_12 (gi_code w_5_148)) rfl rfl rfl ⟨rfl, h_X10_comesBy⟩ ⟨Nat.le_of_ble_eq_true rfl, Nat.le_of_ble_eq_true rfl⟩) ⟨pp_blind, va_recv hK.1 hP (ci := 10) (q0 := 0) rfl rfl, pp_use hP hK⟩ rfl rfl hl.1 rfl (lv_room (Nat.le_of_ble_eq_true rfl)) dX10_parts_58 ⟨Nat.zero_le _, Nat.zero_le _⟩) ?_
            exact W.iret (v := (mX10_comesBy v_doors v_door v_now x1 x2 ((-1 : Int32)) (nI 0))) hx hb hr (fun t ht9 _ => ⟨_, rfl, hm, ht9⟩) (fun q hq => absurd hq List.not_mem_nil) dX10_parts_61
          · have hm := (if_pos c_8).symm.trans hm
            refine lv_aload_n hx hb dX10_parts_44 rfl (lv_at hl 0 rfl) ?_
            refine lv_iload_n hx hb dX10_parts_45 rfl (lv_at hl 1 rfl) ?_
            refine lv_iconst (v := (-1 : Int32)) hx hb dX10_parts_46 (by decide) ?_
            refine pv_call (v := (mX10_partsBy v_rooms v_doors v_door v_now x1 ((-1 : Int32)))) (va_runV (As := [.int x1, .int ((-1 : Int32))]) (rest := []) ⟨hx, hb, hml, hown, ht⟩ (kX10_partsBy l dC dI cA cZ a_this a_this_text a_this_readRain a_this_readDoor a_this_readPerson a_this_rain a_this_door a_this_now a_this_tried a_this_backOf a_this_image a_this_imageSeed a_this_isKept a_this_sight a_this_entry v_letters v_position v_tokenAt v_token v_number v_figures v_faultAt v_faultIs v_readRooms v_readStore v_readRains v_readDoors v_readPersons v_rooms v_rains v_doors v_persons v_backs v_seed v_seen v_entries v_door v_now x1 ((-1 : Int32)) (by omega)) (cwV 2 ht (gi_V (C := RX10) w_6_51 w_6_53 w_0_43 w_1_12 (gi_code w_6_54)) rfl rfl rfl ⟨rfl, h_X10_partsBy⟩ ⟨Nat.le_of_ble_eq_true rfl, Nat.le_of_ble_eq_true rfl⟩) ⟨pp_blind, va_recv hK.1 hP (ci := 10) (q0 := 0) rfl rfl, pp_use hP hK⟩ rfl rfl hl.1 rfl (lv_room (Nat.le_of_ble_eq_true rfl)) dX10_parts_47 ⟨Nat.zero_le _, Nat.zero_le _⟩) ?_
            refine lv_goto (tgt := 61) hx hb dX10_parts_50 (by decide) ?_
            exact W.iret (v := (mX10_partsBy v_rooms v_doors v_door v_now x1 ((-1 : Int32)))) hx hb hr (fun t ht9 _ => ⟨_, rfl, hm, ht9⟩) (fun q hq => absurd hq List.not_mem_nil) dX10_parts_61
        · have hm := (if_pos c_7).symm.trans hm
          refine lv_ldc (v := (-1000000003 : Int32)) hx hb hown (ht _ w_5_191) dX10_parts_36 ?_
          exact W.iret (v := (-1000000003 : Int32)) hx hb hr (fun t ht9 _ => ⟨_, rfl, hm, ht9⟩) (fun q hq => absurd hq List.not_mem_nil) dX10_parts_38
      · have hm := (if_pos c_6).symm.trans hm
        refine lv_ldc (v := (-1000000002 : Int32)) hx hb hown (ht _ w_5_77) dX10_parts_26 ?_
        exact W.iret (v := (-1000000002 : Int32)) hx hb hr (fun t ht9 _ => ⟨_, rfl, hm, ht9⟩) (fun q hq => absurd hq List.not_mem_nil) dX10_parts_28
    · have hm := (if_pos c_5).symm.trans hm
      refine lv_ldc (v := (-1000000001 : Int32)) hx hb hown (ht _ w_5_167) dX10_parts_13 ?_
      exact W.iret (v := (-1000000001 : Int32)) hx hb hr (fun t ht9 _ => ⟨_, rfl, hm, ht9⟩) (fun q hq => absurd hq List.not_mem_nil) dX10_parts_15
theorem dX10_worst_0 : decode cX10_worst 0 = .ok (.aload_n 0, 1) := by decide +kernel
theorem dX10_worst_1 : decode cX10_worst 1 = .ok (.iload_n 1, 1) := by decide +kernel
theorem dX10_worst_2 : decode cX10_worst 2 = .ok (.invokevirtual 193, 3) := by decide +kernel
theorem dX10_worst_5 : decode cX10_worst 5 = .ok (.ifCond .ne 6, 3) := by decide +kernel
theorem dX10_worst_8 : decode cX10_worst 8 = .ok (.ldc 185, 2) := by decide +kernel
theorem dX10_worst_10 : decode cX10_worst 10 = .ok (.ireturn, 1) := by decide +kernel
theorem dX10_worst_11 : decode cX10_worst 11 = .ok (.iconst 0, 1) := by decide +kernel
theorem dX10_worst_12 : decode cX10_worst 12 = .ok (.istore_n 2, 1) := by decide +kernel
theorem dX10_worst_13 : decode cX10_worst 13 = .ok (.iload_n 2, 1) := by decide +kernel
theorem dX10_worst_14 : decode cX10_worst 14 = .ok (.bipush 9, 2) := by decide +kernel
theorem dX10_worst_16 : decode cX10_worst 16 = .ok (.if_icmp .gt 26, 3) := by decide +kernel
theorem dX10_worst_19 : decode cX10_worst 19 = .ok (.aload_n 0, 1) := by decide +kernel
theorem dX10_worst_20 : decode cX10_worst 20 = .ok (.iload_n 2, 1) := by decide +kernel
theorem dX10_worst_21 : decode cX10_worst 21 = .ok (.iconst 0, 1) := by decide +kernel
theorem dX10_worst_22 : decode cX10_worst 22 = .ok (.iconst (-1), 1) := by decide +kernel
theorem dX10_worst_23 : decode cX10_worst 23 = .ok (.iconst 0, 1) := by decide +kernel
theorem dX10_worst_24 : decode cX10_worst 24 = .ok (.invokevirtual 164, 3) := by decide +kernel
theorem dX10_worst_27 : decode cX10_worst 27 = .ok (.iload_n 1, 1) := by decide +kernel
theorem dX10_worst_28 : decode cX10_worst 28 = .ok (.invokestatic 161, 3) := by decide +kernel
theorem dX10_worst_31 : decode cX10_worst 31 = .ok (.ifCond .ne 5, 3) := by decide +kernel
theorem dX10_worst_34 : decode cX10_worst 34 = .ok (.iload_n 2, 1) := by decide +kernel
theorem dX10_worst_35 : decode cX10_worst 35 = .ok (.ireturn, 1) := by decide +kernel
theorem dX10_worst_36 : decode cX10_worst 36 = .ok (.iinc 2 1, 3) := by decide +kernel
theorem dX10_worst_39 : decode cX10_worst 39 = .ok (.goto (-26), 3) := by decide +kernel
theorem dX10_worst_42 : decode cX10_worst 42 = .ok (.iconst (-1), 1) := by decide +kernel
theorem dX10_worst_43 : decode cX10_worst 43 = .ok (.ireturn, 1) := by decide +kernel
theorem h_X10_worst : yX10_worst.cls ≠ "java/lang/invoke/MethodHandle" ∧ yX10_worst.cls ≠ "java/lang/invoke/VarHandle" ∧ (parseMethodDescriptor yX10_worst.desc).map (fun d => d.parameters.length) = some 1 := by decide +kernel
def mX10_worst_l13 (v_doors : Nat) (v_door : Nat → Int32) (v_now : Nat → Int32) (x1 : Int32) : Nat → Nat → Int32
  | 0, k_13 => (-1 : Int32)
  | n_13 + 1, k_13 => (if ((mX10_has ((mX10_comesBy v_doors v_door v_now (nI k_13) (nI 0) ((-1 : Int32)) (nI 0))) x1)) = 0 then nI k_13 else (mX10_worst_l13 v_doors v_door v_now x1 n_13 (k_13 + 1)))
def mX10_worst (v_rooms : Int32) (v_doors : Nat) (v_door : Nat → Int32) (v_now : Nat → Int32) (x1 : Int32) : Int32 := (if ((mX10_isRoom v_rooms x1)) = 0 then (-1000000001 : Int32) else (mX10_worst_l13 v_doors v_door v_now x1 10 0))
set_option maxHeartbeats 4000000 in
set_option maxRecDepth 100000 in
theorem kX10_worst (l : Launch) (dC : Nat → ClassId) (dI : Nat → Nat → Nat) (cA cZ : ClassId) (a_this a_this_text a_this_readRain a_this_readDoor a_this_readPerson a_this_rain a_this_door a_this_now a_this_tried a_this_backOf a_this_image a_this_imageSeed a_this_isKept a_this_sight a_this_entry : Nat) (v_letters : Nat) (v_position : Nat) (v_tokenAt : Nat) (v_token : Int32) (v_number : Int32) (v_figures : Nat) (v_faultAt : Int32) (v_faultIs : Int32) (v_readRooms : Int32) (v_readStore : Int32) (v_readRains : Nat) (v_readDoors : Nat) (v_readPersons : Nat) (v_rooms : Int32) (v_rains : Nat) (v_doors : Nat) (v_persons : Nat) (v_backs : Nat) (v_seed : Int32) (v_seen : Nat) (v_entries : Nat) (v_door : Nat → Int32) (v_now : Nat → Int32) (x1 : Int32) (hD : v_doors ≤ 10) : Met l yX10_worst (Cond.code yX10_worst cX10_worst 3 (some .int) :: wt) ({ frames := 2, cells := 0, slots := 0, locals := 50 } : Room) (va_Pc [.ref a_this, .int x1] (PreP (dC, dI) [(cA, .int), (cZ, .boolean)] [(a_this, .inr (10, [.int (nI v_letters), .ref a_this_text, .int (nI v_position), .int (nI v_tokenAt), .int v_token, .int v_number, .int (nI v_figures), .int v_faultAt, .int v_faultIs, .int v_readRooms, .int v_readStore, .int (nI v_readRains), .int (nI v_readDoors), .int (nI v_readPersons), .ref a_this_readRain, .ref a_this_readDoor, .ref a_this_readPerson, .int v_rooms, .int (nI v_rains), .int (nI v_doors), .int (nI v_persons), .ref a_this_rain, .ref a_this_door, .ref a_this_now, .ref a_this_tried, .ref a_this_backOf, .int (nI v_backs), .ref a_this_image, .ref a_this_imageSeed, .ref a_this_isKept, .int v_seed, .int (nI v_seen), .ref a_this_sight, .int (nI v_entries), .ref a_this_entry])), (a_this_door, .inl (cA, 40, .inl v_door)), (a_this_now, .inl (cA, 35, .inl v_now))])) (vp_Si (fun r => r = (mX10_worst v_rooms v_doors v_door v_now x1))) 0 0 (fun _ => False) := by
  refine Met.ofW (cc := cX10_worst) (maxL := 3) (ret := (some .int)) (by decide) rfl ?_
  intro p e s m args below meth c s₁ B hml hv
  obtain ⟨ha, hP, hK⟩ := hv
  have hx := B.exec
  have hb := B.bytes
  have hr := B.returns
  have ht : ∀ w ∈ wt, w.before args s = true := fun w h => atoms_spec (ws := (Cond.code yX10_worst cX10_worst 3 (some .int) :: wt)) B.pre w (List.mem_cons_of_mem _ h)
  have hown : s.vm.findClass RX10 = some m.cls := findClass_of_methodNamed B.named
  have hlocks := B.notSynchronized
  have hl := lv_entry ([.ref a_this, .int x1]) (n := 3) (Nat.le_of_ble_eq_true rfl)
  rw [show entryFrame m args 3 = _ from (congrArg (fun a => entryFrame m a 3) ha).trans (lg_entry_eq m [.ref a_this, .int x1] 3)]
  generalize (lg_sl ([.ref a_this, .int x1]) ++ List.replicate (3 - (lg_sl ([.ref a_this, .int x1])).length) Slot.unset).toArray = ls at hl ⊢
  have hl : lv_has ls 3 [(0, .ref a_this), (1, .int x1)] := hl
  have hm : (if ((mX10_isRoom v_rooms x1)) = 0 then (-1000000001 : Int32) else (mX10_worst_l13 v_doors v_door v_now x1 10 0)) = (mX10_worst v_rooms v_doors v_door v_now x1) := rfl
  refine lv_aload_n hx hb dX10_worst_0 rfl (lv_at hl 0 rfl) ?_
  refine lv_iload_n hx hb dX10_worst_1 rfl (lv_at hl 1 rfl) ?_
  refine pv_call (v := (mX10_isRoom v_rooms x1)) (va_runV (As := [.int x1]) (rest := []) ⟨hx, hb, hml, hown, ht⟩ (kX10_isRoom l dC dI cA cZ a_this a_this_text a_this_readRain a_this_readDoor a_this_readPerson a_this_rain a_this_door a_this_now a_this_tried a_this_backOf a_this_image a_this_imageSeed a_this_isKept a_this_sight a_this_entry v_letters v_position v_tokenAt v_token v_number v_figures v_faultAt v_faultIs v_readRooms v_readStore v_readRains v_readDoors v_readPersons v_rooms v_rains v_doors v_persons v_backs v_seed v_seen v_entries x1) (cwV 1 ht (gi_V (C := RX10) w_5_183 w_5_185 w_0_34 w_1_12 (gi_code w_5_186)) rfl rfl rfl ⟨rfl, h_X10_isRoom⟩ ⟨Nat.le_of_ble_eq_true rfl, Nat.le_of_ble_eq_true rfl⟩) ⟨pp_blind, va_recv hK.1 hP (ci := 10) (q0 := 0) rfl rfl, pp_use (pc_sub (wc := [(a_this, .inr (10, [.int (nI v_letters), .ref a_this_text, .int (nI v_position), .int (nI v_tokenAt), .int v_token, .int v_number, .int (nI v_figures), .int v_faultAt, .int v_faultIs, .int v_readRooms, .int v_readStore, .int (nI v_readRains), .int (nI v_readDoors), .int (nI v_readPersons), .ref a_this_readRain, .ref a_this_readDoor, .ref a_this_readPerson, .int v_rooms, .int (nI v_rains), .int (nI v_doors), .int (nI v_persons), .ref a_this_rain, .ref a_this_door, .ref a_this_now, .ref a_this_tried, .ref a_this_backOf, .int (nI v_backs), .ref a_this_image, .ref a_this_imageSeed, .ref a_this_isKept, .int v_seed, .int (nI v_seen), .ref a_this_sight, .int (nI v_entries), .ref a_this_entry]))]) hP [0] rfl) hK⟩ rfl rfl hl.1 rfl (lv_room (Nat.le_of_ble_eq_true rfl)) dX10_worst_2 ⟨Nat.zero_le _, Nat.zero_le _⟩) ?_
  refine lv_if_ne (tgt := 11) hx hb dX10_worst_5 (by decide) (fun c_1 => ?_) (fun c_1 => ?_)
  · have hm := (if_neg c_1).symm.trans hm
    refine lv_iconst (v := nI 0) hx hb dX10_worst_11 (by decide) ?_
    refine lv_istore_n (lv' := [(2, .int (nI 0)), (0, .ref a_this), (1, .int x1)]) hx hb dX10_worst_12 rfl hl (by decide) rfl (fun ls hl => ?_)
    have L_13 : ∀ (n_13 k_13 : Nat), k_13 + n_13 = 10 →  mX10_worst_l13 v_doors v_door v_now x1 n_13 k_13 = (mX10_worst v_rooms v_doors v_door v_now x1) → ∀ (ls : Array Slot), lv_has ls 3 [(2, .int (nI k_13)), (0, .ref a_this), (1, .int x1)] → W p l e (headSpec (Cond.code yX10_worst cX10_worst 3 (some .int) :: wt) ({ frames := 2, cells := 0, slots := 0, locals := 50 } : Room)).room s m args below meth c s.heap [] 0 0 (MQ below (vp_Si (fun r => r = (mX10_worst v_rooms v_doors v_door v_now x1))) args s 0 0 (fun _ => False)) (F0 m 13 ls []) := by
      intro n_13
      induction n_13 with
      | zero =>
        intro k_13 hk  hm ls hl
        have hm : (-1 : Int32) = (mX10_worst v_rooms v_doors v_door v_now x1) := hm
        refine lv_iload_n hx hb dX10_worst_13 rfl (lv_at hl 0 rfl) ?_
        refine lv_bipush (v := nI 9) hx hb dX10_worst_14 (by decide) ?_
        refine lv_icmp_gt (tgt := 42) hx hb dX10_worst_16 (by decide) (fun c_2 => ?_) (fun c_2 => ?_)
        · skip
          refine lv_iconst (v := (-1 : Int32)) hx hb dX10_worst_42 (by decide) ?_
          exact W.iret (v := (-1 : Int32)) hx hb hr (fun t ht9 _ => ⟨_, rfl, hm, ht9⟩) (fun q hq => absurd hq List.not_mem_nil) dX10_worst_43
        · exact absurd (nI_lt (a := 9) (by omega) (by omega)) c_2
      | succ n_13 ih =>
        intro k_13 hk  hm ls hl
        have hm : (if ((mX10_has ((mX10_comesBy v_doors v_door v_now (nI k_13) (nI 0) ((-1 : Int32)) (nI 0))) x1)) = 0 then nI k_13 else (mX10_worst_l13 v_doors v_door v_now x1 n_13 (k_13 + 1))) = (mX10_worst v_rooms v_doors v_door v_now x1) := hm
        refine lv_iload_n hx hb dX10_worst_13 rfl (lv_at hl 0 rfl) ?_
        refine lv_bipush (v := nI 9) hx hb dX10_worst_14 (by decide) ?_
        refine lv_icmp_gt (tgt := 42) hx hb dX10_worst_16 (by decide) (fun c_3 => ?_) (fun c_3 => ?_)
        · exact absurd c_3 (nI_nlt (a := 9) (by omega) (by omega))
        · skip
          refine lv_aload_n hx hb dX10_worst_19 rfl (lv_at hl 1 rfl) ?_
          refine lv_iload_n hx hb dX10_worst_20 rfl (lv_at hl 0 rfl) ?_
          refine lv_iconst (v := nI 0) hx hb dX10_worst_21 (by decide) ?_
          refine lv_iconst (v := (-1 : Int32)) hx hb dX10_worst_22 (by decide) ?_
          refine lv_iconst (v := nI 0) hx hb dX10_worst_23 (by decide) ?_
          refine pv_call (v := (mX10_comesBy v_doors v_door v_now (nI k_13) (nI 0) ((-1 : Int32)) (nI 0))) (va_runV (As := [.int (nI k_13), .int (nI 0), .int ((-1 : Int32)), .int (nI 0)]) (rest := []) ⟨hx, hb, hml, hown, ht⟩ (kX10_comesBy l dC dI cA cZ a_this a_this_text a_this_readRain a_this_readDoor a_this_readPerson a_this_rain a_this_door a_this_now a_this_tried a_this_backOf a_this_image a_this_imageSeed a_this_isKept a_this_sight a_this_entry v_letters v_position v_tokenAt v_token v_number v_figures v_faultAt v_faultIs v_readRooms v_readStore v_readRains v_readDoors v_readPersons v_rooms v_rains v_doors v_persons v_backs v_seed v_seen v_entries v_door v_now (nI k_13) (nI 0) ((-1 : Int32)) (nI 0) (by omega)) (cwV 4 ht (gi_V (C := RX10) w_5_145 w_5_147 w_0_30 w_1_12 (gi_code w_5_148)) rfl rfl rfl ⟨rfl, h_X10_comesBy⟩ ⟨Nat.le_of_ble_eq_true rfl, Nat.le_of_ble_eq_true rfl⟩) ⟨pp_blind, va_recv hK.1 hP (ci := 10) (q0 := 0) rfl rfl, pp_use hP hK⟩ rfl rfl hl.1 rfl (lv_room (Nat.le_of_ble_eq_true rfl)) dX10_worst_24 ⟨Nat.zero_le _, Nat.zero_le _⟩) ?_
          refine lv_iload_n hx hb dX10_worst_27 rfl (lv_at hl 2 rfl) ?_
          refine pv_call (v := (mX10_has ((mX10_comesBy v_doors v_door v_now (nI k_13) (nI 0) ((-1 : Int32)) (nI 0))) x1)) (va_runS (As := [.int ((mX10_comesBy v_doors v_door v_now (nI k_13) (nI 0) ((-1 : Int32)) (nI 0))), .int x1]) (rest := []) ⟨hx, hb, hml, hown, ht⟩ (kX10_has l dC dI cA cZ ((mX10_comesBy v_doors v_door v_now (nI k_13) (nI 0) ((-1 : Int32)) (nI 0))) x1) (va_cwS 2 ht (gi_S w_5_149 w_5_150 w_1_12 (gi_code w_5_151)) rfl rfl rfl h_X10_has ⟨Nat.le_of_ble_eq_true rfl, Nat.le_of_ble_eq_true rfl⟩) ⟨pp_blind, pp_use (ws := []) (fun _ _ h => by cases h) hK⟩ rfl rfl hl.1 rfl (lv_room (Nat.le_of_ble_eq_true rfl)) dX10_worst_28 ⟨Nat.zero_le _, Nat.zero_le _⟩) ?_
          refine lv_if_ne (tgt := 36) hx hb dX10_worst_31 (by decide) (fun c_4 => ?_) (fun c_4 => ?_)
          · have hm := (if_neg c_4).symm.trans hm
            refine lv_iinc (v := nI (k_13 + 1)) (lv' := [(2, .int (nI (k_13 + 1))), (0, .ref a_this), (1, .int x1)]) hx hb dX10_worst_36 hl (k := 0) rfl (nI_1 _) (by decide) rfl (fun ls hl => ?_)
            refine lv_goto (tgt := 13) hx hb dX10_worst_39 (by decide) ?_
            exact ih (k_13 + 1) (by omega) hm ls (lv_sub hl [0, 1, 2] rfl)
          · have hm := (if_pos c_4).symm.trans hm
            refine lv_iload_n hx hb dX10_worst_34 rfl (lv_at hl 0 rfl) ?_
            exact W.iret (v := nI k_13) hx hb hr (fun t ht9 _ => ⟨_, rfl, hm, ht9⟩) (fun q hq => absurd hq List.not_mem_nil) dX10_worst_35
    exact L_13 10 0 (Nat.zero_add _) hm ls (lv_sub hl [0, 1, 2] rfl)
  · have hm := (if_pos c_1).symm.trans hm
    refine lv_ldc (v := (-1000000001 : Int32)) hx hb hown (ht _ w_5_167) dX10_worst_8 ?_
    exact W.iret (v := (-1000000001 : Int32)) hx hb hr (fun t ht9 _ => ⟨_, rfl, hm, ht9⟩) (fun q hq => absurd hq List.not_mem_nil) dX10_worst_10
theorem dX10_lastsOf_0 : decode cX10_lastsOf 0 = .ok (.aload_n 0, 1) := by decide +kernel
theorem dX10_lastsOf_1 : decode cX10_lastsOf 1 = .ok (.getfield 32, 3) := by decide +kernel
theorem dX10_lastsOf_4 : decode cX10_lastsOf 4 = .ok (.iconst 3, 1) := by decide +kernel
theorem dX10_lastsOf_5 : decode cX10_lastsOf 5 = .ok (.iload_n 1, 1) := by decide +kernel
theorem dX10_lastsOf_6 : decode cX10_lastsOf 6 = .ok (.iadd, 1) := by decide +kernel
theorem dX10_lastsOf_7 : decode cX10_lastsOf 7 = .ok (.iaload, 1) := by decide +kernel
theorem dX10_lastsOf_8 : decode cX10_lastsOf 8 = .ok (.istore_n 2, 1) := by decide +kernel
theorem dX10_lastsOf_9 : decode cX10_lastsOf 9 = .ok (.iconst 0, 1) := by decide +kernel
theorem dX10_lastsOf_10 : decode cX10_lastsOf 10 = .ok (.istore_n 3, 1) := by decide +kernel
theorem dX10_lastsOf_11 : decode cX10_lastsOf 11 = .ok (.iload_n 3, 1) := by decide +kernel
theorem dX10_lastsOf_12 : decode cX10_lastsOf 12 = .ok (.bipush 99, 2) := by decide +kernel
theorem dX10_lastsOf_14 : decode cX10_lastsOf 14 = .ok (.if_icmp .gt 46, 3) := by decide +kernel
theorem dX10_lastsOf_17 : decode cX10_lastsOf 17 = .ok (.aload_n 0, 1) := by decide +kernel
theorem dX10_lastsOf_18 : decode cX10_lastsOf 18 = .ok (.getfield 29, 3) := by decide +kernel
theorem dX10_lastsOf_21 : decode cX10_lastsOf 21 = .ok (.iconst 4, 1) := by decide +kernel
theorem dX10_lastsOf_22 : decode cX10_lastsOf 22 = .ok (.iload_n 1, 1) := by decide +kernel
theorem dX10_lastsOf_23 : decode cX10_lastsOf 23 = .ok (.imul, 1) := by decide +kernel
theorem dX10_lastsOf_24 : decode cX10_lastsOf 24 = .ok (.iconst 3, 1) := by decide +kernel
theorem dX10_lastsOf_25 : decode cX10_lastsOf 25 = .ok (.iadd, 1) := by decide +kernel
theorem dX10_lastsOf_26 : decode cX10_lastsOf 26 = .ok (.iaload, 1) := by decide +kernel
theorem dX10_lastsOf_27 : decode cX10_lastsOf 27 = .ok (.iconst 1, 1) := by decide +kernel
theorem dX10_lastsOf_28 : decode cX10_lastsOf 28 = .ok (.if_icmp .ne 32, 3) := by decide +kernel
theorem dX10_lastsOf_31 : decode cX10_lastsOf 31 = .ok (.iload_n 2, 1) := by decide +kernel
theorem dX10_lastsOf_32 : decode cX10_lastsOf 32 = .ok (.ifCond .ne 5, 3) := by decide +kernel
theorem dX10_lastsOf_35 : decode cX10_lastsOf 35 = .ok (.iload_n 3, 1) := by decide +kernel
theorem dX10_lastsOf_36 : decode cX10_lastsOf 36 = .ok (.ireturn, 1) := by decide +kernel
theorem dX10_lastsOf_37 : decode cX10_lastsOf 37 = .ok (.iload_n 2, 1) := by decide +kernel
theorem dX10_lastsOf_38 : decode cX10_lastsOf 38 = .ok (.aload_n 0, 1) := by decide +kernel
theorem dX10_lastsOf_39 : decode cX10_lastsOf 39 = .ok (.aload_n 0, 1) := by decide +kernel
theorem dX10_lastsOf_40 : decode cX10_lastsOf 40 = .ok (.getfield 32, 3) := by decide +kernel
theorem dX10_lastsOf_43 : decode cX10_lastsOf 43 = .ok (.iconst 1, 1) := by decide +kernel
theorem dX10_lastsOf_44 : decode cX10_lastsOf 44 = .ok (.iaload, 1) := by decide +kernel
theorem dX10_lastsOf_45 : decode cX10_lastsOf 45 = .ok (.iload_n 3, 1) := by decide +kernel
theorem dX10_lastsOf_46 : decode cX10_lastsOf 46 = .ok (.iadd, 1) := by decide +kernel
theorem dX10_lastsOf_47 : decode cX10_lastsOf 47 = .ok (.invokevirtual 197, 3) := by decide +kernel
theorem dX10_lastsOf_50 : decode cX10_lastsOf 50 = .ok (.invokestatic 200, 3) := by decide +kernel
theorem dX10_lastsOf_53 : decode cX10_lastsOf 53 = .ok (.istore_n 2, 1) := by decide +kernel
theorem dX10_lastsOf_54 : decode cX10_lastsOf 54 = .ok (.iinc 3 1, 3) := by decide +kernel
theorem dX10_lastsOf_57 : decode cX10_lastsOf 57 = .ok (.goto (-46), 3) := by decide +kernel
theorem dX10_lastsOf_60 : decode cX10_lastsOf 60 = .ok (.iconst (-1), 1) := by decide +kernel
theorem dX10_lastsOf_61 : decode cX10_lastsOf 61 = .ok (.ireturn, 1) := by decide +kernel
theorem h_X10_lastsOf : yX10_lastsOf.cls ≠ "java/lang/invoke/MethodHandle" ∧ yX10_lastsOf.cls ≠ "java/lang/invoke/VarHandle" ∧ (parseMethodDescriptor yX10_lastsOf.desc).map (fun d => d.parameters.length) = some 1 := by decide +kernel
def mX10_lastsOf_l11 (v_rains : Nat) (v_door : Nat → Int32) (v_now : Nat → Int32) (v_rain : Nat → Int32) (x1 : Nat) : Nat → Nat → Int32 → Int32
  | 0, k_11, y2_11 => (-1 : Int32)
  | n_11 + 1, k_11, y2_11 => (if (v_door (4 * x1 + 3)) = (nI 1) then (if y2_11 = 0 then nI k_11 else (mX10_lastsOf_l11 v_rains v_door v_now v_rain x1 n_11 (k_11 + 1) ((mX10_lessBy y2_11 ((mX10_rainAt v_rains v_rain ((v_now 1).toNatClampNeg + k_11))))))) else (-1 : Int32))
def mX10_lastsOf (v_rains : Nat) (v_door : Nat → Int32) (v_now : Nat → Int32) (v_rain : Nat → Int32) (x1 : Nat) : Int32 := (mX10_lastsOf_l11 v_rains v_door v_now v_rain x1 100 0 (v_now (3 + x1)))
set_option maxHeartbeats 4000000 in
set_option maxRecDepth 100000 in
theorem kX10_lastsOf (l : Launch) (dC : Nat → ClassId) (dI : Nat → Nat → Nat) (cA cZ : ClassId) (a_this a_this_text a_this_readRain a_this_readDoor a_this_readPerson a_this_rain a_this_door a_this_now a_this_tried a_this_backOf a_this_image a_this_imageSeed a_this_isKept a_this_sight a_this_entry : Nat) (v_letters : Nat) (v_position : Nat) (v_tokenAt : Nat) (v_token : Int32) (v_number : Int32) (v_figures : Nat) (v_faultAt : Int32) (v_faultIs : Int32) (v_readRooms : Int32) (v_readStore : Int32) (v_readRains : Nat) (v_readDoors : Nat) (v_readPersons : Nat) (v_rooms : Int32) (v_rains : Nat) (v_doors : Nat) (v_persons : Nat) (v_backs : Nat) (v_seed : Int32) (v_seen : Nat) (v_entries : Nat) (v_door : Nat → Int32) (v_now : Nat → Int32) (v_rain : Nat → Int32) (x1 : Nat) (hR : v_rains ≤ 12) (hd : x1 < 10) (hH : hoursOK v_now 100000) : Met l yX10_lastsOf (Cond.code yX10_lastsOf cX10_lastsOf 4 (some .int) :: wt) ({ frames := 1, cells := 0, slots := 0, locals := 21 } : Room) (va_Pc [.ref a_this, .int (nI x1)] (PreP (dC, dI) [(cA, .int), (cZ, .boolean)] [(a_this, .inr (10, [.int (nI v_letters), .ref a_this_text, .int (nI v_position), .int (nI v_tokenAt), .int v_token, .int v_number, .int (nI v_figures), .int v_faultAt, .int v_faultIs, .int v_readRooms, .int v_readStore, .int (nI v_readRains), .int (nI v_readDoors), .int (nI v_readPersons), .ref a_this_readRain, .ref a_this_readDoor, .ref a_this_readPerson, .int v_rooms, .int (nI v_rains), .int (nI v_doors), .int (nI v_persons), .ref a_this_rain, .ref a_this_door, .ref a_this_now, .ref a_this_tried, .ref a_this_backOf, .int (nI v_backs), .ref a_this_image, .ref a_this_imageSeed, .ref a_this_isKept, .int v_seed, .int (nI v_seen), .ref a_this_sight, .int (nI v_entries), .ref a_this_entry])), (a_this_door, .inl (cA, 40, .inl v_door)), (a_this_now, .inl (cA, 35, .inl v_now)), (a_this_rain, .inl (cA, 12, .inl v_rain))])) (vp_Si (fun r => r = (mX10_lastsOf v_rains v_door v_now v_rain x1))) 0 0 (fun _ => False) := by
  refine Met.ofW (cc := cX10_lastsOf) (maxL := 4) (ret := (some .int)) (by decide) rfl ?_
  intro p e s m args below meth c s₁ B hml hv
  obtain ⟨ha, hP, hK⟩ := hv
  have hx := B.exec
  have hb := B.bytes
  have hr := B.returns
  have ht : ∀ w ∈ wt, w.before args s = true := fun w h => atoms_spec (ws := (Cond.code yX10_lastsOf cX10_lastsOf 4 (some .int) :: wt)) B.pre w (List.mem_cons_of_mem _ h)
  have hown : s.vm.findClass RX10 = some m.cls := findClass_of_methodNamed B.named
  have hlocks := B.notSynchronized
  have hl := lv_entry ([.ref a_this, .int (nI x1)]) (n := 4) (Nat.le_of_ble_eq_true rfl)
  rw [show entryFrame m args 4 = _ from (congrArg (fun a => entryFrame m a 4) ha).trans (lg_entry_eq m [.ref a_this, .int (nI x1)] 4)]
  generalize (lg_sl ([.ref a_this, .int (nI x1)]) ++ List.replicate (4 - (lg_sl ([.ref a_this, .int (nI x1)])).length) Slot.unset).toArray = ls at hl ⊢
  have hl : lv_has ls 4 [(0, .ref a_this), (1, .int (nI x1))] := hl
  have hm : (mX10_lastsOf_l11 v_rains v_door v_now v_rain x1 100 0 (v_now (3 + x1))) = (mX10_lastsOf v_rains v_door v_now v_rain x1) := rfl
  refine lv_aload_n hx hb dX10_lastsOf_0 rfl (lv_at hl 0 rfl) ?_
  refine va_get (D := (dC, dI)) (ci := 10) (v := .ref a_this_now) (C := RX10) (T := TX10) (N := 35) hx hb ht iX10 hown hK.1 hP 0 rfl rfl 23 (by decide) (ht _ w_4_226) (fun _ h9 => h9) rfl dX10_lastsOf_1 ?_
  refine lv_iconst (v := nI 3) hx hb dX10_lastsOf_4 (by decide) ?_
  refine lv_iload_n hx hb dX10_lastsOf_5 rfl (lv_at hl 1 rfl) ?_
  refine nv_iadd hx hb dX10_lastsOf_6 ?_
  refine nv_iald (e := 3 + x1) (by omega) (by omega) hx hb hK.1 hP 2 0 rfl rfl dX10_lastsOf_7 ?_
  refine lv_istore_n (lv' := [(2, .int (v_now (3 + x1))), (0, .ref a_this), (1, .int (nI x1))]) hx hb dX10_lastsOf_8 rfl hl (by decide) rfl (fun ls hl => ?_)
  refine lv_iconst (v := nI 0) hx hb dX10_lastsOf_9 (by decide) ?_
  refine lv_istore_n (lv' := [(3, .int (nI 0)), (2, .int (v_now (3 + x1))), (0, .ref a_this), (1, .int (nI x1))]) hx hb dX10_lastsOf_10 rfl hl (by decide) rfl (fun ls hl => ?_)
  have L_11 : ∀ (n_11 k_11 : Nat), k_11 + n_11 = 100 → ∀ (y2_11 : Int32),  mX10_lastsOf_l11 v_rains v_door v_now v_rain x1 n_11 k_11 y2_11 = (mX10_lastsOf v_rains v_door v_now v_rain x1) → ∀ (ls : Array Slot), lv_has ls 4 [(3, .int (nI k_11)), (2, .int y2_11), (0, .ref a_this), (1, .int (nI x1))] → W p l e (headSpec (Cond.code yX10_lastsOf cX10_lastsOf 4 (some .int) :: wt) ({ frames := 1, cells := 0, slots := 0, locals := 21 } : Room)).room s m args below meth c s.heap [] 0 0 (MQ below (vp_Si (fun r => r = (mX10_lastsOf v_rains v_door v_now v_rain x1))) args s 0 0 (fun _ => False)) (F0 m 11 ls []) := by
    intro n_11
    induction n_11 with
    | zero =>
      intro k_11 hk y2_11 hm ls hl
      have hm : (-1 : Int32) = (mX10_lastsOf v_rains v_door v_now v_rain x1) := hm
      refine lv_iload_n hx hb dX10_lastsOf_11 rfl (lv_at hl 0 rfl) ?_
      refine lv_bipush (v := nI 99) hx hb dX10_lastsOf_12 (by decide) ?_
      refine lv_icmp_gt (tgt := 60) hx hb dX10_lastsOf_14 (by decide) (fun c_1 => ?_) (fun c_1 => ?_)
      · skip
        refine lv_iconst (v := (-1 : Int32)) hx hb dX10_lastsOf_60 (by decide) ?_
        exact W.iret (v := (-1 : Int32)) hx hb hr (fun t ht9 _ => ⟨_, rfl, hm, ht9⟩) (fun q hq => absurd hq List.not_mem_nil) dX10_lastsOf_61
      · exact absurd (nI_lt (a := 99) (by omega) (by omega)) c_1
    | succ n_11 ih =>
      intro k_11 hk y2_11 hm ls hl
      have hm : (if (v_door (4 * x1 + 3)) = (nI 1) then (if y2_11 = 0 then nI k_11 else (mX10_lastsOf_l11 v_rains v_door v_now v_rain x1 n_11 (k_11 + 1) ((mX10_lessBy y2_11 ((mX10_rainAt v_rains v_rain ((v_now 1).toNatClampNeg + k_11))))))) else (-1 : Int32)) = (mX10_lastsOf v_rains v_door v_now v_rain x1) := hm
      refine lv_iload_n hx hb dX10_lastsOf_11 rfl (lv_at hl 0 rfl) ?_
      refine lv_bipush (v := nI 99) hx hb dX10_lastsOf_12 (by decide) ?_
      refine lv_icmp_gt (tgt := 60) hx hb dX10_lastsOf_14 (by decide) (fun c_2 => ?_) (fun c_2 => ?_)
      · exact absurd c_2 (nI_nlt (a := 99) (by omega) (by omega))
      · skip
        refine lv_aload_n hx hb dX10_lastsOf_17 rfl (lv_at hl 2 rfl) ?_
        refine va_get (D := (dC, dI)) (ci := 10) (v := .ref a_this_door) (C := RX10) (T := TX10) (N := 35) hx hb ht iX10 hown hK.1 hP 0 rfl rfl 22 (by decide) (ht _ w_4_225) (fun _ h9 => h9) rfl dX10_lastsOf_18 ?_
        refine lv_iconst (v := nI 4) hx hb dX10_lastsOf_21 (by decide) ?_
        refine lv_iload_n hx hb dX10_lastsOf_22 rfl (lv_at hl 3 rfl) ?_
        refine nv_imul hx hb dX10_lastsOf_23 ?_
        refine lv_iconst (v := nI 3) hx hb dX10_lastsOf_24 (by decide) ?_
        refine nv_iadd hx hb dX10_lastsOf_25 ?_
        refine nv_iald (e := 4 * x1 + 3) (by omega) (by omega) hx hb hK.1 hP 1 0 rfl rfl dX10_lastsOf_26 ?_
        refine lv_iconst (v := nI 1) hx hb dX10_lastsOf_27 (by decide) ?_
        refine lv_icmp_ne (tgt := 60) hx hb dX10_lastsOf_28 (by decide) (fun c_3 => ?_) (fun c_3 => ?_)
        · have hm := (if_neg c_3).symm.trans hm
          refine lv_iconst (v := (-1 : Int32)) hx hb dX10_lastsOf_60 (by decide) ?_
          exact W.iret (v := (-1 : Int32)) hx hb hr (fun t ht9 _ => ⟨_, rfl, hm, ht9⟩) (fun q hq => absurd hq List.not_mem_nil) dX10_lastsOf_61
        · have hm := (if_pos c_3).symm.trans hm
          refine lv_iload_n hx hb dX10_lastsOf_31 rfl (lv_at hl 1 rfl) ?_
          refine lv_if_ne (tgt := 37) hx hb dX10_lastsOf_32 (by decide) (fun c_4 => ?_) (fun c_4 => ?_)
          · have hm := (if_neg c_4).symm.trans hm
            refine lv_iload_n hx hb dX10_lastsOf_37 rfl (lv_at hl 1 rfl) ?_
            refine lv_aload_n hx hb dX10_lastsOf_38 rfl (lv_at hl 2 rfl) ?_
            refine lv_aload_n hx hb dX10_lastsOf_39 rfl (lv_at hl 2 rfl) ?_
            refine va_get (D := (dC, dI)) (ci := 10) (v := .ref a_this_now) (C := RX10) (T := TX10) (N := 35) hx hb ht iX10 hown hK.1 hP 0 rfl rfl 23 (by decide) (ht _ w_4_226) (fun _ h9 => h9) rfl dX10_lastsOf_40 ?_
            refine lv_iconst (v := nI 1) hx hb dX10_lastsOf_43 (by decide) ?_
            refine nv_iald (e := 1) (by omega) (by omega) hx hb hK.1 hP 2 0 rfl rfl dX10_lastsOf_44 ?_
            refine lv_topi (fun x ex => ?_)
            obtain rfl : x = nI ((v_now 1).toNatClampNeg) := ex.trans (hH.1)
            refine lv_iload_n hx hb dX10_lastsOf_45 rfl (lv_at hl 0 rfl) ?_
            refine nv_iadd hx hb dX10_lastsOf_46 ?_
            refine pv_call (v := (mX10_rainAt v_rains v_rain ((v_now 1).toNatClampNeg + k_11))) (va_runV (As := [.int (nI ((v_now 1).toNatClampNeg + k_11))]) (rest := [.int y2_11]) ⟨hx, hb, hml, hown, ht⟩ (kX10_rainAt l dC dI cA cZ a_this a_this_text a_this_readRain a_this_readDoor a_this_readPerson a_this_rain a_this_door a_this_now a_this_tried a_this_backOf a_this_image a_this_imageSeed a_this_isKept a_this_sight a_this_entry v_letters v_position v_tokenAt v_token v_number v_figures v_faultAt v_faultIs v_readRooms v_readStore v_readRains v_readDoors v_readPersons v_rooms v_rains v_doors v_persons v_backs v_seed v_seen v_entries v_rain ((v_now 1).toNatClampNeg + k_11) (by omega) (by have := hH.2; omega)) (cwV 1 ht (gi_V (C := RX10) w_5_192 w_5_194 w_0_35 w_1_12 (gi_code w_5_195)) rfl rfl rfl ⟨rfl, h_X10_rainAt⟩ ⟨Nat.le_of_ble_eq_true rfl, Nat.le_of_ble_eq_true rfl⟩) ⟨pp_blind, va_recv hK.1 hP (ci := 10) (q0 := 0) rfl rfl, pp_use (pc_sub (wc := [(a_this, .inr (10, [.int (nI v_letters), .ref a_this_text, .int (nI v_position), .int (nI v_tokenAt), .int v_token, .int v_number, .int (nI v_figures), .int v_faultAt, .int v_faultIs, .int v_readRooms, .int v_readStore, .int (nI v_readRains), .int (nI v_readDoors), .int (nI v_readPersons), .ref a_this_readRain, .ref a_this_readDoor, .ref a_this_readPerson, .int v_rooms, .int (nI v_rains), .int (nI v_doors), .int (nI v_persons), .ref a_this_rain, .ref a_this_door, .ref a_this_now, .ref a_this_tried, .ref a_this_backOf, .int (nI v_backs), .ref a_this_image, .ref a_this_imageSeed, .ref a_this_isKept, .int v_seed, .int (nI v_seen), .ref a_this_sight, .int (nI v_entries), .ref a_this_entry])), (a_this_rain, .inl (cA, 12, .inl v_rain))]) hP [0, 3] rfl) hK⟩ rfl rfl hl.1 rfl (lv_room (Nat.le_of_ble_eq_true rfl)) dX10_lastsOf_47 ⟨Nat.zero_le _, Nat.zero_le _⟩) ?_
            refine pv_call (v := (mX10_lessBy y2_11 ((mX10_rainAt v_rains v_rain ((v_now 1).toNatClampNeg + k_11))))) (va_runS (As := [.int y2_11, .int ((mX10_rainAt v_rains v_rain ((v_now 1).toNatClampNeg + k_11)))]) (rest := []) ⟨hx, hb, hml, hown, ht⟩ (kX10_lessBy l dC dI cA cZ y2_11 ((mX10_rainAt v_rains v_rain ((v_now 1).toNatClampNeg + k_11)))) (va_cwS 2 ht (gi_S w_5_213 w_5_214 w_1_12 (gi_code w_5_215)) rfl rfl rfl h_X10_lessBy ⟨Nat.le_of_ble_eq_true rfl, Nat.le_of_ble_eq_true rfl⟩) ⟨pp_blind, pp_use (ws := []) (fun _ _ h => by cases h) hK⟩ rfl rfl hl.1 rfl (lv_room (Nat.le_of_ble_eq_true rfl)) dX10_lastsOf_50 ⟨Nat.zero_le _, Nat.zero_le _⟩) ?_
            refine lv_istore_n (lv' := [(2, .int ((mX10_lessBy y2_11 ((mX10_rainAt v_rains v_rain ((v_now 1).toNatClampNeg + k_11)))))), (3, .int (nI k_11)), (0, .ref a_this), (1, .int (nI x1))]) hx hb dX10_lastsOf_53 rfl hl (by decide) rfl (fun ls hl => ?_)
            refine lv_iinc (v := nI (k_11 + 1)) (lv' := [(3, .int (nI (k_11 + 1))), (2, .int ((mX10_lessBy y2_11 ((mX10_rainAt v_rains v_rain ((v_now 1).toNatClampNeg + k_11)))))), (0, .ref a_this), (1, .int (nI x1))]) hx hb dX10_lastsOf_54 hl (k := 1) rfl (nI_1 _) (by decide) rfl (fun ls hl => ?_)
            refine lv_goto (tgt := 11) hx hb dX10_lastsOf_57 (by decide) ?_
            exact ih (k_11 + 1) (by omega) ((mX10_lessBy y2_11 ((mX10_rainAt v_rains v_rain ((v_now 1).toNatClampNeg + k_11))))) hm ls (lv_sub hl [0, 1, 2, 3] rfl)
          · have hm := (if_pos c_4).symm.trans hm
            refine lv_iload_n hx hb dX10_lastsOf_35 rfl (lv_at hl 0 rfl) ?_
            exact W.iret (v := nI k_11) hx hb hr (fun t ht9 _ => ⟨_, rfl, hm, ht9⟩) (fun q hq => absurd hq List.not_mem_nil) dX10_lastsOf_36
  exact L_11 100 0 (Nat.zero_add _) (v_now (3 + x1)) hm ls (lv_sub hl [0, 1, 2, 3] rfl)
theorem dX10_lasts_0 : decode cX10_lasts 0 = .ok (.aload_n 0, 1) := by decide +kernel
theorem dX10_lasts_1 : decode cX10_lasts 1 = .ok (.iload_n 1, 1) := by decide +kernel
theorem dX10_lasts_2 : decode cX10_lasts 2 = .ok (.invokevirtual 182, 3) := by decide +kernel
theorem dX10_lasts_5 : decode cX10_lasts 5 = .ok (.ifCond .eq 11, 3) := by decide +kernel
theorem dX10_lasts_8 : decode cX10_lasts 8 = .ok (.aload_n 0, 1) := by decide +kernel
theorem dX10_lasts_9 : decode cX10_lasts 9 = .ok (.iload_n 1, 1) := by decide +kernel
theorem dX10_lasts_10 : decode cX10_lasts 10 = .ok (.invokevirtual 244, 3) := by decide +kernel
theorem dX10_lasts_13 : decode cX10_lasts 13 = .ok (.goto 5, 3) := by decide +kernel
theorem dX10_lasts_16 : decode cX10_lasts 16 = .ok (.ldc 185, 2) := by decide +kernel
theorem dX10_lasts_18 : decode cX10_lasts 18 = .ok (.ireturn, 1) := by decide +kernel
theorem h_X10_lasts : yX10_lasts.cls ≠ "java/lang/invoke/MethodHandle" ∧ yX10_lasts.cls ≠ "java/lang/invoke/VarHandle" ∧ (parseMethodDescriptor yX10_lasts.desc).map (fun d => d.parameters.length) = some 1 := by decide +kernel
def mX10_lasts (v_rains : Nat) (v_doors : Nat) (v_door : Nat → Int32) (v_now : Nat → Int32) (v_rain : Nat → Int32) (x1 : Int32) : Int32 := (if ((mX10_isDoor v_doors x1)) = 0 then (-1000000001 : Int32) else (mX10_lastsOf v_rains v_door v_now v_rain x1.toNatClampNeg))
set_option maxHeartbeats 4000000 in
set_option maxRecDepth 100000 in
theorem kX10_lasts (l : Launch) (dC : Nat → ClassId) (dI : Nat → Nat → Nat) (cA cZ : ClassId) (a_this a_this_text a_this_readRain a_this_readDoor a_this_readPerson a_this_rain a_this_door a_this_now a_this_tried a_this_backOf a_this_image a_this_imageSeed a_this_isKept a_this_sight a_this_entry : Nat) (v_letters : Nat) (v_position : Nat) (v_tokenAt : Nat) (v_token : Int32) (v_number : Int32) (v_figures : Nat) (v_faultAt : Int32) (v_faultIs : Int32) (v_readRooms : Int32) (v_readStore : Int32) (v_readRains : Nat) (v_readDoors : Nat) (v_readPersons : Nat) (v_rooms : Int32) (v_rains : Nat) (v_doors : Nat) (v_persons : Nat) (v_backs : Nat) (v_seed : Int32) (v_seen : Nat) (v_entries : Nat) (v_door : Nat → Int32) (v_now : Nat → Int32) (v_rain : Nat → Int32) (x1 : Int32) (hD : v_doors ≤ 10) (hR : v_rains ≤ 12) (hH : hoursOK v_now 100000) : Met l yX10_lasts (Cond.code yX10_lasts cX10_lasts 2 (some .int) :: wt) ({ frames := 2, cells := 0, slots := 0, locals := 44 } : Room) (va_Pc [.ref a_this, .int x1] (PreP (dC, dI) [(cA, .int), (cZ, .boolean)] [(a_this, .inr (10, [.int (nI v_letters), .ref a_this_text, .int (nI v_position), .int (nI v_tokenAt), .int v_token, .int v_number, .int (nI v_figures), .int v_faultAt, .int v_faultIs, .int v_readRooms, .int v_readStore, .int (nI v_readRains), .int (nI v_readDoors), .int (nI v_readPersons), .ref a_this_readRain, .ref a_this_readDoor, .ref a_this_readPerson, .int v_rooms, .int (nI v_rains), .int (nI v_doors), .int (nI v_persons), .ref a_this_rain, .ref a_this_door, .ref a_this_now, .ref a_this_tried, .ref a_this_backOf, .int (nI v_backs), .ref a_this_image, .ref a_this_imageSeed, .ref a_this_isKept, .int v_seed, .int (nI v_seen), .ref a_this_sight, .int (nI v_entries), .ref a_this_entry])), (a_this_door, .inl (cA, 40, .inl v_door)), (a_this_now, .inl (cA, 35, .inl v_now)), (a_this_rain, .inl (cA, 12, .inl v_rain))])) (vp_Si (fun r => r = (mX10_lasts v_rains v_doors v_door v_now v_rain x1))) 0 0 (fun _ => False) := by
  refine Met.ofW (cc := cX10_lasts) (maxL := 2) (ret := (some .int)) (by decide) rfl ?_
  intro p e s m args below meth c s₁ B hml hv
  obtain ⟨ha, hP, hK⟩ := hv
  have hx := B.exec
  have hb := B.bytes
  have hr := B.returns
  have ht : ∀ w ∈ wt, w.before args s = true := fun w h => atoms_spec (ws := (Cond.code yX10_lasts cX10_lasts 2 (some .int) :: wt)) B.pre w (List.mem_cons_of_mem _ h)
  have hown : s.vm.findClass RX10 = some m.cls := findClass_of_methodNamed B.named
  have hlocks := B.notSynchronized
  have hl := lv_entry ([.ref a_this, .int x1]) (n := 2) (Nat.le_of_ble_eq_true rfl)
  rw [show entryFrame m args 2 = _ from (congrArg (fun a => entryFrame m a 2) ha).trans (lg_entry_eq m [.ref a_this, .int x1] 2)]
  generalize (lg_sl ([.ref a_this, .int x1]) ++ List.replicate (2 - (lg_sl ([.ref a_this, .int x1])).length) Slot.unset).toArray = ls at hl ⊢
  have hl : lv_has ls 2 [(0, .ref a_this), (1, .int x1)] := hl
  have hm : (if ((mX10_isDoor v_doors x1)) = 0 then (-1000000001 : Int32) else (mX10_lastsOf v_rains v_door v_now v_rain x1.toNatClampNeg)) = (mX10_lasts v_rains v_doors v_door v_now v_rain x1) := rfl
  refine lv_aload_n hx hb dX10_lasts_0 rfl (lv_at hl 0 rfl) ?_
  refine lv_iload_n hx hb dX10_lasts_1 rfl (lv_at hl 1 rfl) ?_
  refine pv_call (v := (mX10_isDoor v_doors x1)) (va_runV (As := [.int x1]) (rest := []) ⟨hx, hb, hml, hown, ht⟩ (kX10_isDoor l dC dI cA cZ a_this a_this_text a_this_readRain a_this_readDoor a_this_readPerson a_this_rain a_this_door a_this_now a_this_tried a_this_backOf a_this_image a_this_imageSeed a_this_isKept a_this_sight a_this_entry v_letters v_position v_tokenAt v_token v_number v_figures v_faultAt v_faultIs v_readRooms v_readStore v_readRains v_readDoors v_readPersons v_rooms v_rains v_doors v_persons v_backs v_seed v_seen v_entries x1) (cwV 1 ht (gi_V (C := RX10) w_5_163 w_5_165 w_0_32 w_1_12 (gi_code w_5_166)) rfl rfl rfl ⟨rfl, h_X10_isDoor⟩ ⟨Nat.le_of_ble_eq_true rfl, Nat.le_of_ble_eq_true rfl⟩) ⟨pp_blind, va_recv hK.1 hP (ci := 10) (q0 := 0) rfl rfl, pp_use (pc_sub (wc := [(a_this, .inr (10, [.int (nI v_letters), .ref a_this_text, .int (nI v_position), .int (nI v_tokenAt), .int v_token, .int v_number, .int (nI v_figures), .int v_faultAt, .int v_faultIs, .int v_readRooms, .int v_readStore, .int (nI v_readRains), .int (nI v_readDoors), .int (nI v_readPersons), .ref a_this_readRain, .ref a_this_readDoor, .ref a_this_readPerson, .int v_rooms, .int (nI v_rains), .int (nI v_doors), .int (nI v_persons), .ref a_this_rain, .ref a_this_door, .ref a_this_now, .ref a_this_tried, .ref a_this_backOf, .int (nI v_backs), .ref a_this_image, .ref a_this_imageSeed, .ref a_this_isKept, .int v_seed, .int (nI v_seen), .ref a_this_sight, .int (nI v_entries), .ref a_this_entry]))]) hP [0] rfl) hK⟩ rfl rfl hl.1 rfl (lv_room (Nat.le_of_ble_eq_true rfl)) dX10_lasts_2 ⟨Nat.zero_le _, Nat.zero_le _⟩) ?_
  refine lv_if_eq (tgt := 16) hx hb dX10_lasts_5 (by decide) (fun c_1 => ?_) (fun c_1 => ?_)
  · have hm := (if_pos c_1).symm.trans hm
    refine lv_ldc (v := (-1000000001 : Int32)) hx hb hown (ht _ w_5_167) dX10_lasts_16 ?_
    exact W.iret (v := (-1000000001 : Int32)) hx hb hr (fun t ht9 _ => ⟨_, rfl, hm, ht9⟩) (fun q hq => absurd hq List.not_mem_nil) dX10_lasts_18
  · have hm := (if_neg c_1).symm.trans hm
    obtain ⟨hj1, hx1⟩ := isDoor_spec (by omega) c_1
    have hl : lv_has ls 2 [(0, .ref a_this), (1, .int (nI x1.toNatClampNeg))] := by rw [← hx1]; exact hl
    refine lv_aload_n hx hb dX10_lasts_8 rfl (lv_at hl 0 rfl) ?_
    refine lv_iload_n hx hb dX10_lasts_9 rfl (lv_at hl 1 rfl) ?_
    refine pv_call (v := (mX10_lastsOf v_rains v_door v_now v_rain x1.toNatClampNeg)) (va_runV (As := [.int (nI x1.toNatClampNeg)]) (rest := []) ⟨hx, hb, hml, hown, ht⟩ (kX10_lastsOf l dC dI cA cZ a_this a_this_text a_this_readRain a_this_readDoor a_this_readPerson a_this_rain a_this_door a_this_now a_this_tried a_this_backOf a_this_image a_this_imageSeed a_this_isKept a_this_sight a_this_entry v_letters v_position v_tokenAt v_token v_number v_figures v_faultAt v_faultIs v_readRooms v_readStore v_readRains v_readDoors v_readPersons v_rooms v_rains v_doors v_persons v_backs v_seed v_seen v_entries v_door v_now v_rain x1.toNatClampNeg (by omega) (by omega) (hH)) (cwV 1 ht (gi_V (C := RX10) w_6_63 w_6_65 w_0_44 w_1_12 (gi_code w_6_66)) rfl rfl rfl ⟨rfl, h_X10_lastsOf⟩ ⟨Nat.le_of_ble_eq_true rfl, Nat.le_of_ble_eq_true rfl⟩) ⟨pp_blind, va_recv hK.1 hP (ci := 10) (q0 := 0) rfl rfl, pp_use hP hK⟩ rfl rfl hl.1 rfl (lv_room (Nat.le_of_ble_eq_true rfl)) dX10_lasts_10 ⟨Nat.zero_le _, Nat.zero_le _⟩) ?_
    refine lv_goto (tgt := 18) hx hb dX10_lasts_13 (by decide) ?_
    exact W.iret (v := (mX10_lastsOf v_rains v_door v_now v_rain x1.toNatClampNeg)) hx hb hr (fun t ht9 _ => ⟨_, rfl, hm, ht9⟩) (fun q hq => absurd hq List.not_mem_nil) dX10_lasts_18
theorem dX10_mend_0 : decode cX10_mend 0 = .ok (.iload_n 1, 1) := by decide +kernel
theorem dX10_mend_1 : decode cX10_mend 1 = .ok (.iconst 0, 1) := by decide +kernel
theorem dX10_mend_2 : decode cX10_mend 2 = .ok (.bipush 99, 2) := by decide +kernel
theorem dX10_mend_4 : decode cX10_mend 4 = .ok (.invokestatic 60, 3) := by decide +kernel
theorem dX10_mend_7 : decode cX10_mend 7 = .ok (.ifCond .ne 6, 3) := by decide +kernel
theorem dX10_mend_10 : decode cX10_mend 10 = .ok (.ldc 70, 2) := by decide +kernel
theorem dX10_mend_12 : decode cX10_mend 12 = .ok (.ireturn, 1) := by decide +kernel
theorem dX10_mend_13 : decode cX10_mend 13 = .ok (.iconst 0, 1) := by decide +kernel
theorem dX10_mend_14 : decode cX10_mend 14 = .ok (.istore_n 2, 1) := by decide +kernel
theorem dX10_mend_15 : decode cX10_mend 15 = .ok (.iconst 0, 1) := by decide +kernel
theorem dX10_mend_16 : decode cX10_mend 16 = .ok (.istore_n 3, 1) := by decide +kernel
theorem dX10_mend_17 : decode cX10_mend 17 = .ok (.iload_n 3, 1) := by decide +kernel
theorem dX10_mend_18 : decode cX10_mend 18 = .ok (.iload_n 1, 1) := by decide +kernel
theorem dX10_mend_19 : decode cX10_mend 19 = .ok (.if_icmp .ge 80, 3) := by decide +kernel
theorem dX10_mend_22 : decode cX10_mend 22 = .ok (.iconst 0, 1) := by decide +kernel
theorem dX10_mend_23 : decode cX10_mend 23 = .ok (.istore 4, 2) := by decide +kernel
theorem dX10_mend_25 : decode cX10_mend 25 = .ok (.iload 4, 2) := by decide +kernel
theorem dX10_mend_27 : decode cX10_mend 27 = .ok (.aload_n 0, 1) := by decide +kernel
theorem dX10_mend_28 : decode cX10_mend 28 = .ok (.getfield 64, 3) := by decide +kernel
theorem dX10_mend_31 : decode cX10_mend 31 = .ok (.if_icmp .ge 62, 3) := by decide +kernel
theorem dX10_mend_34 : decode cX10_mend 34 = .ok (.aload_n 0, 1) := by decide +kernel
theorem dX10_mend_35 : decode cX10_mend 35 = .ok (.getfield 29, 3) := by decide +kernel
theorem dX10_mend_38 : decode cX10_mend 38 = .ok (.iconst 4, 1) := by decide +kernel
theorem dX10_mend_39 : decode cX10_mend 39 = .ok (.iload 4, 2) := by decide +kernel
theorem dX10_mend_41 : decode cX10_mend 41 = .ok (.imul, 1) := by decide +kernel
theorem dX10_mend_42 : decode cX10_mend 42 = .ok (.iconst 3, 1) := by decide +kernel
theorem dX10_mend_43 : decode cX10_mend 43 = .ok (.iadd, 1) := by decide +kernel
theorem dX10_mend_44 : decode cX10_mend 44 = .ok (.iaload, 1) := by decide +kernel
theorem dX10_mend_45 : decode cX10_mend 45 = .ok (.iconst 1, 1) := by decide +kernel
theorem dX10_mend_46 : decode cX10_mend 46 = .ok (.if_icmp .ne 15, 3) := by decide +kernel
theorem dX10_mend_49 : decode cX10_mend 49 = .ok (.aload_n 0, 1) := by decide +kernel
theorem dX10_mend_50 : decode cX10_mend 50 = .ok (.getfield 32, 3) := by decide +kernel
theorem dX10_mend_53 : decode cX10_mend 53 = .ok (.iconst 3, 1) := by decide +kernel
theorem dX10_mend_54 : decode cX10_mend 54 = .ok (.iload 4, 2) := by decide +kernel
theorem dX10_mend_56 : decode cX10_mend 56 = .ok (.iadd, 1) := by decide +kernel
theorem dX10_mend_57 : decode cX10_mend 57 = .ok (.iaload, 1) := by decide +kernel
theorem dX10_mend_58 : decode cX10_mend 58 = .ok (.goto 4, 3) := by decide +kernel
theorem dX10_mend_61 : decode cX10_mend 61 = .ok (.iconst 0, 1) := by decide +kernel
theorem dX10_mend_62 : decode cX10_mend 62 = .ok (.istore 5, 2) := by decide +kernel
theorem dX10_mend_64 : decode cX10_mend 64 = .ok (.iload_n 2, 1) := by decide +kernel
theorem dX10_mend_65 : decode cX10_mend 65 = .ok (.iload 5, 2) := by decide +kernel
theorem dX10_mend_67 : decode cX10_mend 67 = .ok (.iload 5, 2) := by decide +kernel
theorem dX10_mend_69 : decode cX10_mend 69 = .ok (.aload_n 0, 1) := by decide +kernel
theorem dX10_mend_70 : decode cX10_mend 70 = .ok (.aload_n 0, 1) := by decide +kernel
theorem dX10_mend_71 : decode cX10_mend 71 = .ok (.getfield 32, 3) := by decide +kernel
theorem dX10_mend_74 : decode cX10_mend 74 = .ok (.iconst 1, 1) := by decide +kernel
theorem dX10_mend_75 : decode cX10_mend 75 = .ok (.iaload, 1) := by decide +kernel
theorem dX10_mend_76 : decode cX10_mend 76 = .ok (.iload_n 3, 1) := by decide +kernel
theorem dX10_mend_77 : decode cX10_mend 77 = .ok (.iadd, 1) := by decide +kernel
theorem dX10_mend_78 : decode cX10_mend 78 = .ok (.invokevirtual 197, 3) := by decide +kernel
theorem dX10_mend_81 : decode cX10_mend 81 = .ok (.invokestatic 200, 3) := by decide +kernel
theorem dX10_mend_84 : decode cX10_mend 84 = .ok (.isub, 1) := by decide +kernel
theorem dX10_mend_85 : decode cX10_mend 85 = .ok (.iadd, 1) := by decide +kernel
theorem dX10_mend_86 : decode cX10_mend 86 = .ok (.istore_n 2, 1) := by decide +kernel
theorem dX10_mend_87 : decode cX10_mend 87 = .ok (.iinc 4 1, 3) := by decide +kernel
theorem dX10_mend_90 : decode cX10_mend 90 = .ok (.goto (-65), 3) := by decide +kernel
theorem dX10_mend_93 : decode cX10_mend 93 = .ok (.iinc 3 1, 3) := by decide +kernel
theorem dX10_mend_96 : decode cX10_mend 96 = .ok (.goto (-79), 3) := by decide +kernel
theorem dX10_mend_99 : decode cX10_mend 99 = .ok (.iload_n 2, 1) := by decide +kernel
theorem dX10_mend_100 : decode cX10_mend 100 = .ok (.ireturn, 1) := by decide +kernel
theorem h_X10_mend : yX10_mend.cls ≠ "java/lang/invoke/MethodHandle" ∧ yX10_mend.cls ≠ "java/lang/invoke/VarHandle" ∧ (parseMethodDescriptor yX10_mend.desc).map (fun d => d.parameters.length) = some 1 := by decide +kernel
def mX10_mend_l25 (v_rains : Nat) (v_door : Nat → Int32) (v_now : Nat → Int32) (v_rain : Nat → Int32) (k_17 : Nat) (k_25 : Nat) (y2_25 : Int32) : Int32 := (if (v_door (4 * k_25 + 3)) = (nI 1) then y2_25 + ((v_now (3 + k_25)) - ((mX10_lessBy (v_now (3 + k_25)) ((mX10_rainAt v_rains v_rain ((v_now 1).toNatClampNeg + k_17)))))) else y2_25 + ((nI 0) - ((mX10_lessBy (nI 0) ((mX10_rainAt v_rains v_rain ((v_now 1).toNatClampNeg + k_17)))))))
def mX10_mend_l17 (v_rains : Nat) (v_doors : Nat) (v_door : Nat → Int32) (v_now : Nat → Int32) (v_rain : Nat → Int32) (k_17 : Nat) (y2_17 : Int32) : Int32 := (iter (mX10_mend_l25 v_rains v_door v_now v_rain k_17) v_doors y2_17)
def mX10_mend (v_rains : Nat) (v_doors : Nat) (v_door : Nat → Int32) (v_now : Nat → Int32) (v_rain : Nat → Int32) (x1 : Int32) : Int32 := (if ((mX10_in x1 (nI 0) (nI 99))) = 0 then (-1000000002 : Int32) else (iter (mX10_mend_l17 v_rains v_doors v_door v_now v_rain) x1.toNatClampNeg (nI 0)))
set_option maxHeartbeats 4000000 in
set_option maxRecDepth 100000 in
theorem kX10_mend (l : Launch) (dC : Nat → ClassId) (dI : Nat → Nat → Nat) (cA cZ : ClassId) (a_this a_this_text a_this_readRain a_this_readDoor a_this_readPerson a_this_rain a_this_door a_this_now a_this_tried a_this_backOf a_this_image a_this_imageSeed a_this_isKept a_this_sight a_this_entry : Nat) (v_letters : Nat) (v_position : Nat) (v_tokenAt : Nat) (v_token : Int32) (v_number : Int32) (v_figures : Nat) (v_faultAt : Int32) (v_faultIs : Int32) (v_readRooms : Int32) (v_readStore : Int32) (v_readRains : Nat) (v_readDoors : Nat) (v_readPersons : Nat) (v_rooms : Int32) (v_rains : Nat) (v_doors : Nat) (v_persons : Nat) (v_backs : Nat) (v_seed : Int32) (v_seen : Nat) (v_entries : Nat) (v_door : Nat → Int32) (v_now : Nat → Int32) (v_rain : Nat → Int32) (x1 : Int32) (hD : v_doors ≤ 10) (hR : v_rains ≤ 12) (hH : hoursOK v_now 100000) : Met l yX10_mend (Cond.code yX10_mend cX10_mend 6 (some .int) :: wt) ({ frames := 1, cells := 0, slots := 0, locals := 22 } : Room) (va_Pc [.ref a_this, .int x1] (PreP (dC, dI) [(cA, .int), (cZ, .boolean)] [(a_this, .inr (10, [.int (nI v_letters), .ref a_this_text, .int (nI v_position), .int (nI v_tokenAt), .int v_token, .int v_number, .int (nI v_figures), .int v_faultAt, .int v_faultIs, .int v_readRooms, .int v_readStore, .int (nI v_readRains), .int (nI v_readDoors), .int (nI v_readPersons), .ref a_this_readRain, .ref a_this_readDoor, .ref a_this_readPerson, .int v_rooms, .int (nI v_rains), .int (nI v_doors), .int (nI v_persons), .ref a_this_rain, .ref a_this_door, .ref a_this_now, .ref a_this_tried, .ref a_this_backOf, .int (nI v_backs), .ref a_this_image, .ref a_this_imageSeed, .ref a_this_isKept, .int v_seed, .int (nI v_seen), .ref a_this_sight, .int (nI v_entries), .ref a_this_entry])), (a_this_door, .inl (cA, 40, .inl v_door)), (a_this_now, .inl (cA, 35, .inl v_now)), (a_this_rain, .inl (cA, 12, .inl v_rain))])) (vp_Si (fun r => r = (mX10_mend v_rains v_doors v_door v_now v_rain x1))) 0 0 (fun _ => False) := by
  refine Met.ofW (cc := cX10_mend) (maxL := 6) (ret := (some .int)) (by decide) rfl ?_
  intro p e s m args below meth c s₁ B hml hv
  obtain ⟨ha, hP, hK⟩ := hv
  have hx := B.exec
  have hb := B.bytes
  have hr := B.returns
  have ht : ∀ w ∈ wt, w.before args s = true := fun w h => atoms_spec (ws := (Cond.code yX10_mend cX10_mend 6 (some .int) :: wt)) B.pre w (List.mem_cons_of_mem _ h)
  have hown : s.vm.findClass RX10 = some m.cls := findClass_of_methodNamed B.named
  have hlocks := B.notSynchronized
  have hl := lv_entry ([.ref a_this, .int x1]) (n := 6) (Nat.le_of_ble_eq_true rfl)
  rw [show entryFrame m args 6 = _ from (congrArg (fun a => entryFrame m a 6) ha).trans (lg_entry_eq m [.ref a_this, .int x1] 6)]
  generalize (lg_sl ([.ref a_this, .int x1]) ++ List.replicate (6 - (lg_sl ([.ref a_this, .int x1])).length) Slot.unset).toArray = ls at hl ⊢
  have hl : lv_has ls 6 [(0, .ref a_this), (1, .int x1)] := hl
  have hm : (if ((mX10_in x1 (nI 0) (nI 99))) = 0 then (-1000000002 : Int32) else (iter (mX10_mend_l17 v_rains v_doors v_door v_now v_rain) x1.toNatClampNeg (nI 0))) = (mX10_mend v_rains v_doors v_door v_now v_rain x1) := rfl
  refine lv_iload_n hx hb dX10_mend_0 rfl (lv_at hl 1 rfl) ?_
  refine lv_iconst (v := nI 0) hx hb dX10_mend_1 (by decide) ?_
  refine lv_bipush (v := nI 99) hx hb dX10_mend_2 (by decide) ?_
  refine pv_call (v := (mX10_in x1 (nI 0) (nI 99))) (va_runS (As := [.int x1, .int (nI 0), .int (nI 99)]) (rest := []) ⟨hx, hb, hml, hown, ht⟩ (kX10_in l dC dI cA cZ x1 (nI 0) (nI 99)) (va_cwS 3 ht (gi_S w_5_74 w_5_75 w_1_12 (gi_code w_5_76)) rfl rfl rfl h_X10_in ⟨Nat.le_of_ble_eq_true rfl, Nat.le_of_ble_eq_true rfl⟩) ⟨pp_blind, pp_use (ws := []) (fun _ _ h => by cases h) hK⟩ rfl rfl hl.1 rfl (lv_room (Nat.le_of_ble_eq_true rfl)) dX10_mend_4 ⟨Nat.zero_le _, Nat.zero_le _⟩) ?_
  refine lv_if_ne (tgt := 13) hx hb dX10_mend_7 (by decide) (fun c_1 => ?_) (fun c_1 => ?_)
  · have hm := (if_neg c_1).symm.trans hm
    have hx99 := (in_nat (B := 99) (by omega) c_1).1
    refine lv_iconst (v := nI 0) hx hb dX10_mend_13 (by decide) ?_
    refine lv_istore_n (lv' := [(2, .int (nI 0)), (0, .ref a_this), (1, .int x1)]) hx hb dX10_mend_14 rfl hl (by decide) rfl (fun ls hl => ?_)
    refine lv_iconst (v := nI 0) hx hb dX10_mend_15 (by decide) ?_
    refine lv_istore_n (lv' := [(3, .int (nI 0)), (2, .int (nI 0)), (0, .ref a_this), (1, .int x1)]) hx hb dX10_mend_16 rfl hl (by decide) rfl (fun ls hl => ?_)
    have L_17 : ∀ (n_17 k_17 : Nat), k_17 + n_17 = x1.toNatClampNeg → ∀ (y2_17 : Int32), y2_17 = (iter (mX10_mend_l17 v_rains v_doors v_door v_now v_rain) k_17 (nI 0)) → ∀ (ls : Array Slot), lv_has ls 6 [(3, .int (nI k_17)), (2, .int y2_17), (0, .ref a_this), (1, .int x1)] → W p l e (headSpec (Cond.code yX10_mend cX10_mend 6 (some .int) :: wt) ({ frames := 1, cells := 0, slots := 0, locals := 22 } : Room)).room s m args below meth c s.heap [] 0 0 (MQ below (vp_Si (fun r => r = (mX10_mend v_rains v_doors v_door v_now v_rain x1))) args s 0 0 (fun _ => False)) (F0 m 17 ls []) := by
      intro n_17
      induction n_17 with
      | zero =>
        intro k_17 hk y2_17 ex0_17 ls hl
        obtain rfl : x1.toNatClampNeg = k_17 := by omega
        subst ex0_17
        refine lv_iload_n hx hb dX10_mend_17 rfl (lv_at hl 0 rfl) ?_
        refine lv_iload_n hx hb dX10_mend_18 rfl (lv_at hl 3 rfl) ?_
        refine lv_icmp_ge (tgt := 99) hx hb dX10_mend_19 (by decide) (fun c_6 => ?_) (fun c_6 => ?_)
        · skip
          refine lv_iload_n hx hb dX10_mend_99 rfl (lv_at hl 1 rfl) ?_
          exact W.iret (v := (iter (mX10_mend_l17 v_rains v_doors v_door v_now v_rain) x1.toNatClampNeg (nI 0))) hx hb hr (fun t ht9 _ => ⟨_, rfl, hm, ht9⟩) (fun q hq => absurd hq List.not_mem_nil) dX10_mend_100
        · exact absurd (lpE (by omega) (by have := clampLt x1; omega)) c_6
      | succ n_17 ih =>
        intro k_17 hk y2_17 ex0_17 ls hl
        have hm : (mX10_mend_l17 v_rains v_doors v_door v_now v_rain) k_17 y2_17 = (iter (mX10_mend_l17 v_rains v_doors v_door v_now v_rain) (k_17 + 1) (nI 0)) := by rw [ex0_17]; rfl
        have hm : (iter (mX10_mend_l25 v_rains v_door v_now v_rain k_17) v_doors y2_17) = (iter (mX10_mend_l17 v_rains v_doors v_door v_now v_rain) (k_17 + 1) (nI 0)) := hm
        refine lv_iload_n hx hb dX10_mend_17 rfl (lv_at hl 0 rfl) ?_
        refine lv_iload_n hx hb dX10_mend_18 rfl (lv_at hl 3 rfl) ?_
        refine lv_icmp_ge (tgt := 99) hx hb dX10_mend_19 (by decide) (fun c_2 => ?_) (fun c_2 => ?_)
        · exact absurd c_2 (lpN (by omega))
        · skip
          refine lv_iconst (v := nI 0) hx hb dX10_mend_22 (by decide) ?_
          refine lv_istore (lv' := [(4, .int (nI 0)), (3, .int (nI k_17)), (2, .int y2_17), (0, .ref a_this), (1, .int x1)]) hx hb dX10_mend_23 hl (by decide) rfl (fun ls hl => ?_)
          have L_25 : ∀ (n_25 k_25 : Nat), k_25 + n_25 = v_doors → ∀ (y2_25 : Int32), y2_25 = (iter (mX10_mend_l25 v_rains v_door v_now v_rain k_17) k_25 y2_17) → ∀ (ls : Array Slot), lv_has ls 6 [(4, .int (nI k_25)), (3, .int (nI k_17)), (2, .int y2_25), (0, .ref a_this), (1, .int x1)] → W p l e (headSpec (Cond.code yX10_mend cX10_mend 6 (some .int) :: wt) ({ frames := 1, cells := 0, slots := 0, locals := 22 } : Room)).room s m args below meth c s.heap [] 0 0 (MQ below (vp_Si (fun r => r = (mX10_mend v_rains v_doors v_door v_now v_rain x1))) args s 0 0 (fun _ => False)) (F0 m 25 ls []) := by
            intro n_25
            induction n_25 with
            | zero =>
              intro k_25 hk y2_25 ex0_25 ls hl
              obtain rfl : v_doors = k_25 := by omega
              subst ex0_25
              refine lv_iload hx hb dX10_mend_25 (lv_at hl 0 rfl) ?_
              refine lv_aload_n hx hb dX10_mend_27 rfl (lv_at hl 3 rfl) ?_
              refine va_get (D := (dC, dI)) (ci := 10) (v := .int (nI v_doors)) (C := RX10) (T := TX10) (N := 35) hx hb ht iX10 hown hK.1 hP 0 rfl rfl 19 (by decide) (ht _ w_4_222) (fun _ h9 => h9) rfl dX10_mend_28 ?_
              refine lv_icmp_ge (tgt := 93) hx hb dX10_mend_31 (by decide) (fun c_5 => ?_) (fun c_5 => ?_)
              · skip
                refine lv_iinc (v := nI (k_17 + 1)) (lv' := [(3, .int (nI (k_17 + 1))), (4, .int (nI v_doors)), (2, .int ((iter (mX10_mend_l25 v_rains v_door v_now v_rain k_17) v_doors y2_17))), (0, .ref a_this), (1, .int x1)]) hx hb dX10_mend_93 hl (k := 1) rfl (nI_1 _) (by decide) rfl (fun ls hl => ?_)
                refine lv_goto (tgt := 17) hx hb dX10_mend_96 (by decide) ?_
                exact ih (k_17 + 1) (by omega) ((iter (mX10_mend_l25 v_rains v_door v_now v_rain k_17) v_doors y2_17)) hm ls (lv_sub hl [0, 2, 3, 4] rfl)
              · exact absurd (nI_le (by omega) (by omega)) c_5
            | succ n_25 ih =>
              intro k_25 hk y2_25 ex0_25 ls hl
              have hm : (mX10_mend_l25 v_rains v_door v_now v_rain k_17) k_25 y2_25 = (iter (mX10_mend_l25 v_rains v_door v_now v_rain k_17) (k_25 + 1) y2_17) := by rw [ex0_25]; rfl
              have hm : (if (v_door (4 * k_25 + 3)) = (nI 1) then y2_25 + ((v_now (3 + k_25)) - ((mX10_lessBy (v_now (3 + k_25)) ((mX10_rainAt v_rains v_rain ((v_now 1).toNatClampNeg + k_17)))))) else y2_25 + ((nI 0) - ((mX10_lessBy (nI 0) ((mX10_rainAt v_rains v_rain ((v_now 1).toNatClampNeg + k_17))))))) = (iter (mX10_mend_l25 v_rains v_door v_now v_rain k_17) (k_25 + 1) y2_17) := hm
              refine lv_iload hx hb dX10_mend_25 (lv_at hl 0 rfl) ?_
              refine lv_aload_n hx hb dX10_mend_27 rfl (lv_at hl 3 rfl) ?_
              refine va_get (D := (dC, dI)) (ci := 10) (v := .int (nI v_doors)) (C := RX10) (T := TX10) (N := 35) hx hb ht iX10 hown hK.1 hP 0 rfl rfl 19 (by decide) (ht _ w_4_222) (fun _ h9 => h9) rfl dX10_mend_28 ?_
              refine lv_icmp_ge (tgt := 93) hx hb dX10_mend_31 (by decide) (fun c_3 => ?_) (fun c_3 => ?_)
              · exact absurd c_3 (nI_ge (by omega) (by omega))
              · skip
                refine lv_aload_n hx hb dX10_mend_34 rfl (lv_at hl 3 rfl) ?_
                refine va_get (D := (dC, dI)) (ci := 10) (v := .ref a_this_door) (C := RX10) (T := TX10) (N := 35) hx hb ht iX10 hown hK.1 hP 0 rfl rfl 22 (by decide) (ht _ w_4_225) (fun _ h9 => h9) rfl dX10_mend_35 ?_
                refine lv_iconst (v := nI 4) hx hb dX10_mend_38 (by decide) ?_
                refine lv_iload hx hb dX10_mend_39 (lv_at hl 0 rfl) ?_
                refine nv_imul hx hb dX10_mend_41 ?_
                refine lv_iconst (v := nI 3) hx hb dX10_mend_42 (by decide) ?_
                refine nv_iadd hx hb dX10_mend_43 ?_
                refine nv_iald (e := 4 * k_25 + 3) (by omega) (by omega) hx hb hK.1 hP 1 0 rfl rfl dX10_mend_44 ?_
                refine lv_iconst (v := nI 1) hx hb dX10_mend_45 (by decide) ?_
                refine lv_icmp_ne (tgt := 61) hx hb dX10_mend_46 (by decide) (fun c_4 => ?_) (fun c_4 => ?_)
                · have hm := (if_neg c_4).symm.trans hm
                  refine lv_iconst (v := nI 0) hx hb dX10_mend_61 (by decide) ?_
                  refine lv_istore (lv' := [(5, .int (nI 0)), (4, .int (nI k_25)), (3, .int (nI k_17)), (2, .int y2_25), (0, .ref a_this), (1, .int x1)]) hx hb dX10_mend_62 hl (by decide) rfl (fun ls hl => ?_)
                  refine lv_iload_n hx hb dX10_mend_64 rfl (lv_at hl 3 rfl) ?_
                  refine lv_iload hx hb dX10_mend_65 (lv_at hl 0 rfl) ?_
                  refine lv_iload hx hb dX10_mend_67 (lv_at hl 0 rfl) ?_
                  refine lv_aload_n hx hb dX10_mend_69 rfl (lv_at hl 4 rfl) ?_
                  refine lv_aload_n hx hb dX10_mend_70 rfl (lv_at hl 4 rfl) ?_
                  refine va_get (D := (dC, dI)) (ci := 10) (v := .ref a_this_now) (C := RX10) (T := TX10) (N := 35) hx hb ht iX10 hown hK.1 hP 0 rfl rfl 23 (by decide) (ht _ w_4_226) (fun _ h9 => h9) rfl dX10_mend_71 ?_
                  refine lv_iconst (v := nI 1) hx hb dX10_mend_74 (by decide) ?_
                  refine nv_iald (e := 1) (by omega) (by omega) hx hb hK.1 hP 2 0 rfl rfl dX10_mend_75 ?_
                  refine lv_topi (fun x ex => ?_)
                  obtain rfl : x = nI ((v_now 1).toNatClampNeg) := ex.trans (hH.1)
                  refine lv_iload_n hx hb dX10_mend_76 rfl (lv_at hl 2 rfl) ?_
                  refine nv_iadd hx hb dX10_mend_77 ?_
                  refine pv_call (v := (mX10_rainAt v_rains v_rain ((v_now 1).toNatClampNeg + k_17))) (va_runV (As := [.int (nI ((v_now 1).toNatClampNeg + k_17))]) (rest := [.int (nI 0), .int (nI 0), .int y2_25]) ⟨hx, hb, hml, hown, ht⟩ (kX10_rainAt l dC dI cA cZ a_this a_this_text a_this_readRain a_this_readDoor a_this_readPerson a_this_rain a_this_door a_this_now a_this_tried a_this_backOf a_this_image a_this_imageSeed a_this_isKept a_this_sight a_this_entry v_letters v_position v_tokenAt v_token v_number v_figures v_faultAt v_faultIs v_readRooms v_readStore v_readRains v_readDoors v_readPersons v_rooms v_rains v_doors v_persons v_backs v_seed v_seen v_entries v_rain ((v_now 1).toNatClampNeg + k_17) (by omega) (by have := hH.2; omega)) (cwV 1 ht (gi_V (C := RX10) w_5_192 w_5_194 w_0_35 w_1_12 (gi_code w_5_195)) rfl rfl rfl ⟨rfl, h_X10_rainAt⟩ ⟨Nat.le_of_ble_eq_true rfl, Nat.le_of_ble_eq_true rfl⟩) ⟨pp_blind, va_recv hK.1 hP (ci := 10) (q0 := 0) rfl rfl, pp_use (pc_sub (wc := [(a_this, .inr (10, [.int (nI v_letters), .ref a_this_text, .int (nI v_position), .int (nI v_tokenAt), .int v_token, .int v_number, .int (nI v_figures), .int v_faultAt, .int v_faultIs, .int v_readRooms, .int v_readStore, .int (nI v_readRains), .int (nI v_readDoors), .int (nI v_readPersons), .ref a_this_readRain, .ref a_this_readDoor, .ref a_this_readPerson, .int v_rooms, .int (nI v_rains), .int (nI v_doors), .int (nI v_persons), .ref a_this_rain, .ref a_this_door, .ref a_this_now, .ref a_this_tried, .ref a_this_backOf, .int (nI v_backs), .ref a_this_image, .ref a_this_imageSeed, .ref a_this_isKept, .int v_seed, .int (nI v_seen), .ref a_this_sight, .int (nI v_entries), .ref a_this_entry])), (a_this_rain, .inl (cA, 12, .inl v_rain))]) hP [0, 3] rfl) hK⟩ rfl rfl hl.1 rfl (lv_room (Nat.le_of_ble_eq_true rfl)) dX10_mend_78 ⟨Nat.zero_le _, Nat.zero_le _⟩) ?_
                  refine pv_call (v := (mX10_lessBy (nI 0) ((mX10_rainAt v_rains v_rain ((v_now 1).toNatClampNeg + k_17))))) (va_runS (As := [.int (nI 0), .int ((mX10_rainAt v_rains v_rain ((v_now 1).toNatClampNeg + k_17)))]) (rest := [.int (nI 0), .int y2_25]) ⟨hx, hb, hml, hown, ht⟩ (kX10_lessBy l dC dI cA cZ (nI 0) ((mX10_rainAt v_rains v_rain ((v_now 1).toNatClampNeg + k_17)))) (va_cwS 2 ht (gi_S w_5_213 w_5_214 w_1_12 (gi_code w_5_215)) rfl rfl rfl h_X10_lessBy ⟨Nat.le_of_ble_eq_true rfl, Nat.le_of_ble_eq_true rfl⟩) ⟨pp_blind, pp_use (ws := []) (fun _ _ h => by cases h) hK⟩ rfl rfl hl.1 rfl (lv_room (Nat.le_of_ble_eq_true rfl)) dX10_mend_81 ⟨Nat.zero_le _, Nat.zero_le _⟩) ?_
                  refine lv_isub hx hb dX10_mend_84 ?_
                  refine lv_iadd hx hb dX10_mend_85 ?_
                  refine lv_istore_n (lv' := [(2, .int (y2_25 + ((nI 0) - ((mX10_lessBy (nI 0) ((mX10_rainAt v_rains v_rain ((v_now 1).toNatClampNeg + k_17)))))))), (5, .int (nI 0)), (4, .int (nI k_25)), (3, .int (nI k_17)), (0, .ref a_this), (1, .int x1)]) hx hb dX10_mend_86 rfl hl (by decide) rfl (fun ls hl => ?_)
                  refine lv_iinc (v := nI (k_25 + 1)) (lv' := [(4, .int (nI (k_25 + 1))), (2, .int (y2_25 + ((nI 0) - ((mX10_lessBy (nI 0) ((mX10_rainAt v_rains v_rain ((v_now 1).toNatClampNeg + k_17)))))))), (5, .int (nI 0)), (3, .int (nI k_17)), (0, .ref a_this), (1, .int x1)]) hx hb dX10_mend_87 hl (k := 2) rfl (nI_1 _) (by decide) rfl (fun ls hl => ?_)
                  refine lv_goto (tgt := 25) hx hb dX10_mend_90 (by decide) ?_
                  exact ih (k_25 + 1) (by omega) (y2_25 + ((nI 0) - ((mX10_lessBy (nI 0) ((mX10_rainAt v_rains v_rain ((v_now 1).toNatClampNeg + k_17))))))) hm ls (lv_sub hl [0, 3, 1, 4, 5] rfl)
                · have hm := (if_pos c_4).symm.trans hm
                  refine lv_aload_n hx hb dX10_mend_49 rfl (lv_at hl 3 rfl) ?_
                  refine va_get (D := (dC, dI)) (ci := 10) (v := .ref a_this_now) (C := RX10) (T := TX10) (N := 35) hx hb ht iX10 hown hK.1 hP 0 rfl rfl 23 (by decide) (ht _ w_4_226) (fun _ h9 => h9) rfl dX10_mend_50 ?_
                  refine lv_iconst (v := nI 3) hx hb dX10_mend_53 (by decide) ?_
                  refine lv_iload hx hb dX10_mend_54 (lv_at hl 0 rfl) ?_
                  refine nv_iadd hx hb dX10_mend_56 ?_
                  refine nv_iald (e := 3 + k_25) (by omega) (by omega) hx hb hK.1 hP 2 0 rfl rfl dX10_mend_57 ?_
                  refine lv_goto (tgt := 62) hx hb dX10_mend_58 (by decide) ?_
                  refine lv_istore (lv' := [(5, .int (v_now (3 + k_25))), (4, .int (nI k_25)), (3, .int (nI k_17)), (2, .int y2_25), (0, .ref a_this), (1, .int x1)]) hx hb dX10_mend_62 hl (by decide) rfl (fun ls hl => ?_)
                  refine lv_iload_n hx hb dX10_mend_64 rfl (lv_at hl 3 rfl) ?_
                  refine lv_iload hx hb dX10_mend_65 (lv_at hl 0 rfl) ?_
                  refine lv_iload hx hb dX10_mend_67 (lv_at hl 0 rfl) ?_
                  refine lv_aload_n hx hb dX10_mend_69 rfl (lv_at hl 4 rfl) ?_
                  refine lv_aload_n hx hb dX10_mend_70 rfl (lv_at hl 4 rfl) ?_
                  refine va_get (D := (dC, dI)) (ci := 10) (v := .ref a_this_now) (C := RX10) (T := TX10) (N := 35) hx hb ht iX10 hown hK.1 hP 0 rfl rfl 23 (by decide) (ht _ w_4_226) (fun _ h9 => h9) rfl dX10_mend_71 ?_
                  refine lv_iconst (v := nI 1) hx hb dX10_mend_74 (by decide) ?_
                  refine nv_iald (e := 1) (by omega) (by omega) hx hb hK.1 hP 2 0 rfl rfl dX10_mend_75 ?_
                  refine lv_topi (fun x ex => ?_)
                  obtain rfl : x = nI ((v_now 1).toNatClampNeg) := ex.trans (hH.1)
                  refine lv_iload_n hx hb dX10_mend_76 rfl (lv_at hl 2 rfl) ?_
                  refine nv_iadd hx hb dX10_mend_77 ?_
                  refine pv_call (v := (mX10_rainAt v_rains v_rain ((v_now 1).toNatClampNeg + k_17))) (va_runV (As := [.int (nI ((v_now 1).toNatClampNeg + k_17))]) (rest := [.int (v_now (3 + k_25)), .int (v_now (3 + k_25)), .int y2_25]) ⟨hx, hb, hml, hown, ht⟩ (kX10_rainAt l dC dI cA cZ a_this a_this_text a_this_readRain a_this_readDoor a_this_readPerson a_this_rain a_this_door a_this_now a_this_tried a_this_backOf a_this_image a_this_imageSeed a_this_isKept a_this_sight a_this_entry v_letters v_position v_tokenAt v_token v_number v_figures v_faultAt v_faultIs v_readRooms v_readStore v_readRains v_readDoors v_readPersons v_rooms v_rains v_doors v_persons v_backs v_seed v_seen v_entries v_rain ((v_now 1).toNatClampNeg + k_17) (by omega) (by have := hH.2; omega)) (cwV 1 ht (gi_V (C := RX10) w_5_192 w_5_194 w_0_35 w_1_12 (gi_code w_5_195)) rfl rfl rfl ⟨rfl, h_X10_rainAt⟩ ⟨Nat.le_of_ble_eq_true rfl, Nat.le_of_ble_eq_true rfl⟩) ⟨pp_blind, va_recv hK.1 hP (ci := 10) (q0 := 0) rfl rfl, pp_use (pc_sub (wc := [(a_this, .inr (10, [.int (nI v_letters), .ref a_this_text, .int (nI v_position), .int (nI v_tokenAt), .int v_token, .int v_number, .int (nI v_figures), .int v_faultAt, .int v_faultIs, .int v_readRooms, .int v_readStore, .int (nI v_readRains), .int (nI v_readDoors), .int (nI v_readPersons), .ref a_this_readRain, .ref a_this_readDoor, .ref a_this_readPerson, .int v_rooms, .int (nI v_rains), .int (nI v_doors), .int (nI v_persons), .ref a_this_rain, .ref a_this_door, .ref a_this_now, .ref a_this_tried, .ref a_this_backOf, .int (nI v_backs), .ref a_this_image, .ref a_this_imageSeed, .ref a_this_isKept, .int v_seed, .int (nI v_seen), .ref a_this_sight, .int (nI v_entries), .ref a_this_entry])), (a_this_rain, .inl (cA, 12, .inl v_rain))]) hP [0, 3] rfl) hK⟩ rfl rfl hl.1 rfl (lv_room (Nat.le_of_ble_eq_true rfl)) dX10_mend_78 ⟨Nat.zero_le _, Nat.zero_le _⟩) ?_
                  refine pv_call (v := (mX10_lessBy (v_now (3 + k_25)) ((mX10_rainAt v_rains v_rain ((v_now 1).toNatClampNeg + k_17))))) (va_runS (As := [.int (v_now (3 + k_25)), .int ((mX10_rainAt v_rains v_rain ((v_now 1).toNatClampNeg + k_17)))]) (rest := [.int (v_now (3 + k_25)), .int y2_25]) ⟨hx, hb, hml, hown, ht⟩ (kX10_lessBy l dC dI cA cZ (v_now (3 + k_25)) ((mX10_rainAt v_rains v_rain ((v_now 1).toNatClampNeg + k_17)))) (va_cwS 2 ht (gi_S w_5_213 w_5_214 w_1_12 (gi_code w_5_215)) rfl rfl rfl h_X10_lessBy ⟨Nat.le_of_ble_eq_true rfl, Nat.le_of_ble_eq_true rfl⟩) ⟨pp_blind, pp_use (ws := []) (fun _ _ h => by cases h) hK⟩ rfl rfl hl.1 rfl (lv_room (Nat.le_of_ble_eq_true rfl)) dX10_mend_81 ⟨Nat.zero_le _, Nat.zero_le _⟩) ?_
                  refine lv_isub hx hb dX10_mend_84 ?_
                  refine lv_iadd hx hb dX10_mend_85 ?_
                  refine lv_istore_n (lv' := [(2, .int (y2_25 + ((v_now (3 + k_25)) - ((mX10_lessBy (v_now (3 + k_25)) ((mX10_rainAt v_rains v_rain ((v_now 1).toNatClampNeg + k_17)))))))), (5, .int (v_now (3 + k_25))), (4, .int (nI k_25)), (3, .int (nI k_17)), (0, .ref a_this), (1, .int x1)]) hx hb dX10_mend_86 rfl hl (by decide) rfl (fun ls hl => ?_)
                  refine lv_iinc (v := nI (k_25 + 1)) (lv' := [(4, .int (nI (k_25 + 1))), (2, .int (y2_25 + ((v_now (3 + k_25)) - ((mX10_lessBy (v_now (3 + k_25)) ((mX10_rainAt v_rains v_rain ((v_now 1).toNatClampNeg + k_17)))))))), (5, .int (v_now (3 + k_25))), (3, .int (nI k_17)), (0, .ref a_this), (1, .int x1)]) hx hb dX10_mend_87 hl (k := 2) rfl (nI_1 _) (by decide) rfl (fun ls hl => ?_)
                  refine lv_goto (tgt := 25) hx hb dX10_mend_90 (by decide) ?_
                  exact ih (k_25 + 1) (by omega) (y2_25 + ((v_now (3 + k_25)) - ((mX10_lessBy (v_now (3 + k_25)) ((mX10_rainAt v_rains v_rain ((v_now 1).toNatClampNeg + k_17))))))) hm ls (lv_sub hl [0, 3, 1, 4, 5] rfl)
          exact L_25 v_doors 0 (Nat.zero_add _) y2_17 rfl ls (lv_sub hl [0, 1, 2, 3, 4] rfl)
    exact L_17 x1.toNatClampNeg 0 (Nat.zero_add _) (nI 0) rfl ls (lv_sub hl [0, 1, 2, 3] rfl)
  · have hm := (if_pos c_1).symm.trans hm
    refine lv_ldc (v := (-1000000002 : Int32)) hx hb hown (ht _ w_5_77) dX10_mend_10 ?_
    exact W.iret (v := (-1000000002 : Int32)) hx hb hr (fun t ht9 _ => ⟨_, rfl, hm, ht9⟩) (fun q hq => absurd hq List.not_mem_nil) dX10_mend_12
theorem dX10_holds_0 : decode cX10_holds 0 = .ok (.iload_n 1, 1) := by decide +kernel
theorem dX10_holds_1 : decode cX10_holds 1 = .ok (.iconst 0, 1) := by decide +kernel
theorem dX10_holds_2 : decode cX10_holds 2 = .ok (.iconst 1, 1) := by decide +kernel
theorem dX10_holds_3 : decode cX10_holds 3 = .ok (.invokestatic 60, 3) := by decide +kernel
theorem dX10_holds_6 : decode cX10_holds 6 = .ok (.ifCond .ne 6, 3) := by decide +kernel
theorem dX10_holds_9 : decode cX10_holds 9 = .ok (.ldc 70, 2) := by decide +kernel
theorem dX10_holds_11 : decode cX10_holds 11 = .ok (.ireturn, 1) := by decide +kernel
theorem dX10_holds_12 : decode cX10_holds 12 = .ok (.iconst (-1), 1) := by decide +kernel
theorem dX10_holds_13 : decode cX10_holds 13 = .ok (.istore_n 2, 1) := by decide +kernel
theorem dX10_holds_14 : decode cX10_holds 14 = .ok (.iconst (-1), 1) := by decide +kernel
theorem dX10_holds_15 : decode cX10_holds 15 = .ok (.istore_n 3, 1) := by decide +kernel
theorem dX10_holds_16 : decode cX10_holds 16 = .ok (.iconst 0, 1) := by decide +kernel
theorem dX10_holds_17 : decode cX10_holds 17 = .ok (.istore 4, 2) := by decide +kernel
theorem dX10_holds_19 : decode cX10_holds 19 = .ok (.iload 4, 2) := by decide +kernel
theorem dX10_holds_21 : decode cX10_holds 21 = .ok (.aload_n 0, 1) := by decide +kernel
theorem dX10_holds_22 : decode cX10_holds 22 = .ok (.getfield 64, 3) := by decide +kernel
theorem dX10_holds_25 : decode cX10_holds 25 = .ok (.if_icmp .ge 56, 3) := by decide +kernel
theorem dX10_holds_28 : decode cX10_holds 28 = .ok (.aload_n 0, 1) := by decide +kernel
theorem dX10_holds_29 : decode cX10_holds 29 = .ok (.getfield 32, 3) := by decide +kernel
theorem dX10_holds_32 : decode cX10_holds 32 = .ok (.iconst 3, 1) := by decide +kernel
theorem dX10_holds_33 : decode cX10_holds 33 = .ok (.iload 4, 2) := by decide +kernel
theorem dX10_holds_35 : decode cX10_holds 35 = .ok (.iadd, 1) := by decide +kernel
theorem dX10_holds_36 : decode cX10_holds 36 = .ok (.iaload, 1) := by decide +kernel
theorem dX10_holds_37 : decode cX10_holds 37 = .ok (.ifCond .le 12, 3) := by decide +kernel
theorem dX10_holds_40 : decode cX10_holds 40 = .ok (.aload_n 0, 1) := by decide +kernel
theorem dX10_holds_41 : decode cX10_holds 41 = .ok (.iload 4, 2) := by decide +kernel
theorem dX10_holds_43 : decode cX10_holds 43 = .ok (.invokevirtual 244, 3) := by decide +kernel
theorem dX10_holds_46 : decode cX10_holds 46 = .ok (.goto 4, 3) := by decide +kernel
theorem dX10_holds_49 : decode cX10_holds 49 = .ok (.iconst (-1), 1) := by decide +kernel
theorem dX10_holds_50 : decode cX10_holds 50 = .ok (.istore 5, 2) := by decide +kernel
theorem dX10_holds_52 : decode cX10_holds 52 = .ok (.iload 5, 2) := by decide +kernel
theorem dX10_holds_54 : decode cX10_holds 54 = .ok (.iconst (-1), 1) := by decide +kernel
theorem dX10_holds_55 : decode cX10_holds 55 = .ok (.if_icmp .eq 20, 3) := by decide +kernel
theorem dX10_holds_58 : decode cX10_holds 58 = .ok (.iload_n 2, 1) := by decide +kernel
theorem dX10_holds_59 : decode cX10_holds 59 = .ok (.iconst (-1), 1) := by decide +kernel
theorem dX10_holds_60 : decode cX10_holds 60 = .ok (.if_icmp .eq 9, 3) := by decide +kernel
theorem dX10_holds_63 : decode cX10_holds 63 = .ok (.iload 5, 2) := by decide +kernel
theorem dX10_holds_65 : decode cX10_holds 65 = .ok (.iload_n 3, 1) := by decide +kernel
theorem dX10_holds_66 : decode cX10_holds 66 = .ok (.if_icmp .ge 9, 3) := by decide +kernel
theorem dX10_holds_69 : decode cX10_holds 69 = .ok (.iload 4, 2) := by decide +kernel
theorem dX10_holds_71 : decode cX10_holds 71 = .ok (.istore_n 2, 1) := by decide +kernel
theorem dX10_holds_72 : decode cX10_holds 72 = .ok (.iload 5, 2) := by decide +kernel
theorem dX10_holds_74 : decode cX10_holds 74 = .ok (.istore_n 3, 1) := by decide +kernel
theorem dX10_holds_75 : decode cX10_holds 75 = .ok (.iinc 4 1, 3) := by decide +kernel
theorem dX10_holds_78 : decode cX10_holds 78 = .ok (.goto (-59), 3) := by decide +kernel
theorem dX10_holds_81 : decode cX10_holds 81 = .ok (.iload_n 1, 1) := by decide +kernel
theorem dX10_holds_82 : decode cX10_holds 82 = .ok (.ifCond .ne 7, 3) := by decide +kernel
theorem dX10_holds_85 : decode cX10_holds 85 = .ok (.iload_n 2, 1) := by decide +kernel
theorem dX10_holds_86 : decode cX10_holds 86 = .ok (.goto 4, 3) := by decide +kernel
theorem dX10_holds_89 : decode cX10_holds 89 = .ok (.iload_n 3, 1) := by decide +kernel
theorem dX10_holds_90 : decode cX10_holds 90 = .ok (.ireturn, 1) := by decide +kernel
theorem h_X10_holds : yX10_holds.cls ≠ "java/lang/invoke/MethodHandle" ∧ yX10_holds.cls ≠ "java/lang/invoke/VarHandle" ∧ (parseMethodDescriptor yX10_holds.desc).map (fun d => d.parameters.length) = some 1 := by decide +kernel
def mX10_holds_l19 (v_rains : Nat) (v_door : Nat → Int32) (v_now : Nat → Int32) (v_rain : Nat → Int32) (k_19 : Nat) (s : Int32 × Int32) : Int32 × Int32 := (if (v_now (3 + k_19)) ≤ 0 then (s.1, s.2) else (if ((mX10_lastsOf v_rains v_door v_now v_rain k_19)) = ((-1 : Int32)) then (s.1, s.2) else (if s.1 = ((-1 : Int32)) then (nI k_19, (mX10_lastsOf v_rains v_door v_now v_rain k_19)) else (if s.2 ≤ ((mX10_lastsOf v_rains v_door v_now v_rain k_19)) then (s.1, s.2) else (nI k_19, (mX10_lastsOf v_rains v_door v_now v_rain k_19))))))
def mX10_holds (v_rains : Nat) (v_doors : Nat) (v_door : Nat → Int32) (v_now : Nat → Int32) (v_rain : Nat → Int32) (x1 : Int32) : Int32 := (if ((mX10_in x1 (nI 0) (nI 1))) = 0 then (-1000000002 : Int32) else ((fun (w_19 : Int32 × Int32) => (if x1 = 0 then w_19.1 else w_19.2)) (iter (mX10_holds_l19 v_rains v_door v_now v_rain) v_doors (((-1 : Int32), (-1 : Int32))))))
set_option maxHeartbeats 4000000 in
set_option maxRecDepth 100000 in
theorem kX10_holds (l : Launch) (dC : Nat → ClassId) (dI : Nat → Nat → Nat) (cA cZ : ClassId) (a_this a_this_text a_this_readRain a_this_readDoor a_this_readPerson a_this_rain a_this_door a_this_now a_this_tried a_this_backOf a_this_image a_this_imageSeed a_this_isKept a_this_sight a_this_entry : Nat) (v_letters : Nat) (v_position : Nat) (v_tokenAt : Nat) (v_token : Int32) (v_number : Int32) (v_figures : Nat) (v_faultAt : Int32) (v_faultIs : Int32) (v_readRooms : Int32) (v_readStore : Int32) (v_readRains : Nat) (v_readDoors : Nat) (v_readPersons : Nat) (v_rooms : Int32) (v_rains : Nat) (v_doors : Nat) (v_persons : Nat) (v_backs : Nat) (v_seed : Int32) (v_seen : Nat) (v_entries : Nat) (v_door : Nat → Int32) (v_now : Nat → Int32) (v_rain : Nat → Int32) (x1 : Int32) (hD : v_doors ≤ 10) (hR : v_rains ≤ 12) (hH : hoursOK v_now 100000) : Met l yX10_holds (Cond.code yX10_holds cX10_holds 6 (some .int) :: wt) ({ frames := 2, cells := 0, slots := 0, locals := 44 } : Room) (va_Pc [.ref a_this, .int x1] (PreP (dC, dI) [(cA, .int), (cZ, .boolean)] [(a_this, .inr (10, [.int (nI v_letters), .ref a_this_text, .int (nI v_position), .int (nI v_tokenAt), .int v_token, .int v_number, .int (nI v_figures), .int v_faultAt, .int v_faultIs, .int v_readRooms, .int v_readStore, .int (nI v_readRains), .int (nI v_readDoors), .int (nI v_readPersons), .ref a_this_readRain, .ref a_this_readDoor, .ref a_this_readPerson, .int v_rooms, .int (nI v_rains), .int (nI v_doors), .int (nI v_persons), .ref a_this_rain, .ref a_this_door, .ref a_this_now, .ref a_this_tried, .ref a_this_backOf, .int (nI v_backs), .ref a_this_image, .ref a_this_imageSeed, .ref a_this_isKept, .int v_seed, .int (nI v_seen), .ref a_this_sight, .int (nI v_entries), .ref a_this_entry])), (a_this_door, .inl (cA, 40, .inl v_door)), (a_this_now, .inl (cA, 35, .inl v_now)), (a_this_rain, .inl (cA, 12, .inl v_rain))])) (vp_Si (fun r => r = (mX10_holds v_rains v_doors v_door v_now v_rain x1))) 0 0 (fun _ => False) := by
  refine Met.ofW (cc := cX10_holds) (maxL := 6) (ret := (some .int)) (by decide) rfl ?_
  intro p e s m args below meth c s₁ B hml hv
  obtain ⟨ha, hP, hK⟩ := hv
  have hx := B.exec
  have hb := B.bytes
  have hr := B.returns
  have ht : ∀ w ∈ wt, w.before args s = true := fun w h => atoms_spec (ws := (Cond.code yX10_holds cX10_holds 6 (some .int) :: wt)) B.pre w (List.mem_cons_of_mem _ h)
  have hown : s.vm.findClass RX10 = some m.cls := findClass_of_methodNamed B.named
  have hlocks := B.notSynchronized
  have hl := lv_entry ([.ref a_this, .int x1]) (n := 6) (Nat.le_of_ble_eq_true rfl)
  rw [show entryFrame m args 6 = _ from (congrArg (fun a => entryFrame m a 6) ha).trans (lg_entry_eq m [.ref a_this, .int x1] 6)]
  generalize (lg_sl ([.ref a_this, .int x1]) ++ List.replicate (6 - (lg_sl ([.ref a_this, .int x1])).length) Slot.unset).toArray = ls at hl ⊢
  have hl : lv_has ls 6 [(0, .ref a_this), (1, .int x1)] := hl
  have hm : (if ((mX10_in x1 (nI 0) (nI 1))) = 0 then (-1000000002 : Int32) else ((fun (w_19 : Int32 × Int32) => (if x1 = 0 then w_19.1 else w_19.2)) (iter (mX10_holds_l19 v_rains v_door v_now v_rain) v_doors (((-1 : Int32), (-1 : Int32)))))) = (mX10_holds v_rains v_doors v_door v_now v_rain x1) := rfl
  refine lv_iload_n hx hb dX10_holds_0 rfl (lv_at hl 1 rfl) ?_
  refine lv_iconst (v := nI 0) hx hb dX10_holds_1 (by decide) ?_
  refine lv_iconst (v := nI 1) hx hb dX10_holds_2 (by decide) ?_
  refine pv_call (v := (mX10_in x1 (nI 0) (nI 1))) (va_runS (As := [.int x1, .int (nI 0), .int (nI 1)]) (rest := []) ⟨hx, hb, hml, hown, ht⟩ (kX10_in l dC dI cA cZ x1 (nI 0) (nI 1)) (va_cwS 3 ht (gi_S w_5_74 w_5_75 w_1_12 (gi_code w_5_76)) rfl rfl rfl h_X10_in ⟨Nat.le_of_ble_eq_true rfl, Nat.le_of_ble_eq_true rfl⟩) ⟨pp_blind, pp_use (ws := []) (fun _ _ h => by cases h) hK⟩ rfl rfl hl.1 rfl (lv_room (Nat.le_of_ble_eq_true rfl)) dX10_holds_3 ⟨Nat.zero_le _, Nat.zero_le _⟩) ?_
  refine lv_if_ne (tgt := 12) hx hb dX10_holds_6 (by decide) (fun c_1 => ?_) (fun c_1 => ?_)
  · have hm := (if_neg c_1).symm.trans hm
    refine lv_iconst (v := (-1 : Int32)) hx hb dX10_holds_12 (by decide) ?_
    refine lv_istore_n (lv' := [(2, .int ((-1 : Int32))), (0, .ref a_this), (1, .int x1)]) hx hb dX10_holds_13 rfl hl (by decide) rfl (fun ls hl => ?_)
    refine lv_iconst (v := (-1 : Int32)) hx hb dX10_holds_14 (by decide) ?_
    refine lv_istore_n (lv' := [(3, .int ((-1 : Int32))), (2, .int ((-1 : Int32))), (0, .ref a_this), (1, .int x1)]) hx hb dX10_holds_15 rfl hl (by decide) rfl (fun ls hl => ?_)
    refine lv_iconst (v := nI 0) hx hb dX10_holds_16 (by decide) ?_
    refine lv_istore (lv' := [(4, .int (nI 0)), (3, .int ((-1 : Int32))), (2, .int ((-1 : Int32))), (0, .ref a_this), (1, .int x1)]) hx hb dX10_holds_17 hl (by decide) rfl (fun ls hl => ?_)
    have L_19 : ∀ (n_19 k_19 : Nat), k_19 + n_19 = v_doors → ∀ (y2_19 : Int32) (y3_19 : Int32), y2_19 = ((iter (mX10_holds_l19 v_rains v_door v_now v_rain) k_19 (((-1 : Int32), (-1 : Int32))))).1 → y3_19 = ((iter (mX10_holds_l19 v_rains v_door v_now v_rain) k_19 (((-1 : Int32), (-1 : Int32))))).2 → ∀ (ls : Array Slot), lv_has ls 6 [(4, .int (nI k_19)), (3, .int y3_19), (2, .int y2_19), (0, .ref a_this), (1, .int x1)] → W p l e (headSpec (Cond.code yX10_holds cX10_holds 6 (some .int) :: wt) ({ frames := 2, cells := 0, slots := 0, locals := 44 } : Room)).room s m args below meth c s.heap [] 0 0 (MQ below (vp_Si (fun r => r = (mX10_holds v_rains v_doors v_door v_now v_rain x1))) args s 0 0 (fun _ => False)) (F0 m 19 ls []) := by
      intro n_19
      induction n_19 with
      | zero =>
        intro k_19 hk y2_19 y3_19 ex0_19 ex1_19 ls hl
        obtain rfl : v_doors = k_19 := by omega
        have he : (y2_19, y3_19) = (iter (mX10_holds_l19 v_rains v_door v_now v_rain) v_doors (((-1 : Int32), (-1 : Int32)))) := by rw [ex0_19, ex1_19]
        rw [← he] at hm
        have hm : (if x1 = 0 then y2_19 else y3_19) = _ := hm
        refine lv_iload hx hb dX10_holds_19 (lv_at hl 0 rfl) ?_
        refine lv_aload_n hx hb dX10_holds_21 rfl (lv_at hl 3 rfl) ?_
        refine va_get (D := (dC, dI)) (ci := 10) (v := .int (nI v_doors)) (C := RX10) (T := TX10) (N := 35) hx hb ht iX10 hown hK.1 hP 0 rfl rfl 19 (by decide) (ht _ w_4_222) (fun _ h9 => h9) rfl dX10_holds_22 ?_
        refine lv_icmp_ge (tgt := 81) hx hb dX10_holds_25 (by decide) (fun c_8 => ?_) (fun c_8 => ?_)
        · skip
          refine lv_iload_n hx hb dX10_holds_81 rfl (lv_at hl 4 rfl) ?_
          refine lv_if_ne (tgt := 89) hx hb dX10_holds_82 (by decide) (fun c_9 => ?_) (fun c_9 => ?_)
          · have hm := (if_neg c_9).symm.trans hm
            refine lv_iload_n hx hb dX10_holds_89 rfl (lv_at hl 1 rfl) ?_
            exact W.iret (v := y3_19) hx hb hr (fun t ht9 _ => ⟨_, rfl, hm, ht9⟩) (fun q hq => absurd hq List.not_mem_nil) dX10_holds_90
          · have hm := (if_pos c_9).symm.trans hm
            refine lv_iload_n hx hb dX10_holds_85 rfl (lv_at hl 2 rfl) ?_
            refine lv_goto (tgt := 90) hx hb dX10_holds_86 (by decide) ?_
            exact W.iret (v := y2_19) hx hb hr (fun t ht9 _ => ⟨_, rfl, hm, ht9⟩) (fun q hq => absurd hq List.not_mem_nil) dX10_holds_90
        · exact absurd (nI_le (by omega) (by omega)) c_8
      | succ n_19 ih =>
        intro k_19 hk y2_19 y3_19 ex0_19 ex1_19 ls hl
        have hm : (mX10_holds_l19 v_rains v_door v_now v_rain) k_19 (y2_19, y3_19) = (iter (mX10_holds_l19 v_rains v_door v_now v_rain) (k_19 + 1) (((-1 : Int32), (-1 : Int32)))) := by rw [ex0_19, ex1_19]; rfl
        have hm : (if (v_now (3 + k_19)) ≤ 0 then (y2_19, y3_19) else (if ((mX10_lastsOf v_rains v_door v_now v_rain k_19)) = ((-1 : Int32)) then (y2_19, y3_19) else (if y2_19 = ((-1 : Int32)) then (nI k_19, (mX10_lastsOf v_rains v_door v_now v_rain k_19)) else (if y3_19 ≤ ((mX10_lastsOf v_rains v_door v_now v_rain k_19)) then (y2_19, y3_19) else (nI k_19, (mX10_lastsOf v_rains v_door v_now v_rain k_19)))))) = (iter (mX10_holds_l19 v_rains v_door v_now v_rain) (k_19 + 1) (((-1 : Int32), (-1 : Int32)))) := hm
        refine lv_iload hx hb dX10_holds_19 (lv_at hl 0 rfl) ?_
        refine lv_aload_n hx hb dX10_holds_21 rfl (lv_at hl 3 rfl) ?_
        refine va_get (D := (dC, dI)) (ci := 10) (v := .int (nI v_doors)) (C := RX10) (T := TX10) (N := 35) hx hb ht iX10 hown hK.1 hP 0 rfl rfl 19 (by decide) (ht _ w_4_222) (fun _ h9 => h9) rfl dX10_holds_22 ?_
        refine lv_icmp_ge (tgt := 81) hx hb dX10_holds_25 (by decide) (fun c_2 => ?_) (fun c_2 => ?_)
        · exact absurd c_2 (nI_ge (by omega) (by omega))
        · skip
          refine lv_aload_n hx hb dX10_holds_28 rfl (lv_at hl 3 rfl) ?_
          refine va_get (D := (dC, dI)) (ci := 10) (v := .ref a_this_now) (C := RX10) (T := TX10) (N := 35) hx hb ht iX10 hown hK.1 hP 0 rfl rfl 23 (by decide) (ht _ w_4_226) (fun _ h9 => h9) rfl dX10_holds_29 ?_
          refine lv_iconst (v := nI 3) hx hb dX10_holds_32 (by decide) ?_
          refine lv_iload hx hb dX10_holds_33 (lv_at hl 0 rfl) ?_
          refine nv_iadd hx hb dX10_holds_35 ?_
          refine nv_iald (e := 3 + k_19) (by omega) (by omega) hx hb hK.1 hP 2 0 rfl rfl dX10_holds_36 ?_
          refine lv_if_le (tgt := 49) hx hb dX10_holds_37 (by decide) (fun c_3 => ?_) (fun c_3 => ?_)
          · have hm := (if_pos c_3).symm.trans hm
            refine lv_iconst (v := (-1 : Int32)) hx hb dX10_holds_49 (by decide) ?_
            refine lv_istore (lv' := [(5, .int ((-1 : Int32))), (4, .int (nI k_19)), (3, .int y3_19), (2, .int y2_19), (0, .ref a_this), (1, .int x1)]) hx hb dX10_holds_50 hl (by decide) rfl (fun ls hl => ?_)
            refine lv_iload hx hb dX10_holds_52 (lv_at hl 0 rfl) ?_
            refine lv_iconst (v := (-1 : Int32)) hx hb dX10_holds_54 (by decide) ?_
            refine lv_icmp_eq (tgt := 75) hx hb dX10_holds_55 (by decide) (fun c_4 => ?_) (fun c_4 => ?_)
            · skip
              refine lv_iinc (v := nI (k_19 + 1)) (lv' := [(4, .int (nI (k_19 + 1))), (5, .int ((-1 : Int32))), (3, .int y3_19), (2, .int y2_19), (0, .ref a_this), (1, .int x1)]) hx hb dX10_holds_75 hl (k := 1) rfl (nI_1 _) (by decide) rfl (fun ls hl => ?_)
              refine lv_goto (tgt := 19) hx hb dX10_holds_78 (by decide) ?_
              exact ih (k_19 + 1) (by omega) y2_19 y3_19 (congrArg (fun z => z.1) hm) (congrArg (fun z => z.2) hm) ls (lv_sub hl [0, 2, 3, 4, 5] rfl)
            · exact absurd c_4 (by decide)
          · have hm := (if_neg c_3).symm.trans hm
            refine lv_aload_n hx hb dX10_holds_40 rfl (lv_at hl 3 rfl) ?_
            refine lv_iload hx hb dX10_holds_41 (lv_at hl 0 rfl) ?_
            refine pv_call (v := (mX10_lastsOf v_rains v_door v_now v_rain k_19)) (va_runV (As := [.int (nI k_19)]) (rest := []) ⟨hx, hb, hml, hown, ht⟩ (kX10_lastsOf l dC dI cA cZ a_this a_this_text a_this_readRain a_this_readDoor a_this_readPerson a_this_rain a_this_door a_this_now a_this_tried a_this_backOf a_this_image a_this_imageSeed a_this_isKept a_this_sight a_this_entry v_letters v_position v_tokenAt v_token v_number v_figures v_faultAt v_faultIs v_readRooms v_readStore v_readRains v_readDoors v_readPersons v_rooms v_rains v_doors v_persons v_backs v_seed v_seen v_entries v_door v_now v_rain k_19 (by omega) (by omega) (hH)) (cwV 1 ht (gi_V (C := RX10) w_6_63 w_6_65 w_0_44 w_1_12 (gi_code w_6_66)) rfl rfl rfl ⟨rfl, h_X10_lastsOf⟩ ⟨Nat.le_of_ble_eq_true rfl, Nat.le_of_ble_eq_true rfl⟩) ⟨pp_blind, va_recv hK.1 hP (ci := 10) (q0 := 0) rfl rfl, pp_use hP hK⟩ rfl rfl hl.1 rfl (lv_room (Nat.le_of_ble_eq_true rfl)) dX10_holds_43 ⟨Nat.zero_le _, Nat.zero_le _⟩) ?_
            refine lv_goto (tgt := 50) hx hb dX10_holds_46 (by decide) ?_
            refine lv_istore (lv' := [(5, .int ((mX10_lastsOf v_rains v_door v_now v_rain k_19))), (4, .int (nI k_19)), (3, .int y3_19), (2, .int y2_19), (0, .ref a_this), (1, .int x1)]) hx hb dX10_holds_50 hl (by decide) rfl (fun ls hl => ?_)
            refine lv_iload hx hb dX10_holds_52 (lv_at hl 0 rfl) ?_
            refine lv_iconst (v := (-1 : Int32)) hx hb dX10_holds_54 (by decide) ?_
            refine lv_icmp_eq (tgt := 75) hx hb dX10_holds_55 (by decide) (fun c_5 => ?_) (fun c_5 => ?_)
            · have hm := (if_pos c_5).symm.trans hm
              refine lv_iinc (v := nI (k_19 + 1)) (lv' := [(4, .int (nI (k_19 + 1))), (5, .int ((mX10_lastsOf v_rains v_door v_now v_rain k_19))), (3, .int y3_19), (2, .int y2_19), (0, .ref a_this), (1, .int x1)]) hx hb dX10_holds_75 hl (k := 1) rfl (nI_1 _) (by decide) rfl (fun ls hl => ?_)
              refine lv_goto (tgt := 19) hx hb dX10_holds_78 (by decide) ?_
              exact ih (k_19 + 1) (by omega) y2_19 y3_19 (congrArg (fun z => z.1) hm) (congrArg (fun z => z.2) hm) ls (lv_sub hl [0, 2, 3, 4, 5] rfl)
            · have hm := (if_neg c_5).symm.trans hm
              refine lv_iload_n hx hb dX10_holds_58 rfl (lv_at hl 3 rfl) ?_
              refine lv_iconst (v := (-1 : Int32)) hx hb dX10_holds_59 (by decide) ?_
              refine lv_icmp_eq (tgt := 69) hx hb dX10_holds_60 (by decide) (fun c_6 => ?_) (fun c_6 => ?_)
              · have hm := (if_pos c_6).symm.trans hm
                refine lv_iload hx hb dX10_holds_69 (lv_at hl 1 rfl) ?_
                refine lv_istore_n (lv' := [(2, .int (nI k_19)), (5, .int ((mX10_lastsOf v_rains v_door v_now v_rain k_19))), (4, .int (nI k_19)), (3, .int y3_19), (0, .ref a_this), (1, .int x1)]) hx hb dX10_holds_71 rfl hl (by decide) rfl (fun ls hl => ?_)
                refine lv_iload hx hb dX10_holds_72 (lv_at hl 1 rfl) ?_
                refine lv_istore_n (lv' := [(3, .int ((mX10_lastsOf v_rains v_door v_now v_rain k_19))), (2, .int (nI k_19)), (5, .int ((mX10_lastsOf v_rains v_door v_now v_rain k_19))), (4, .int (nI k_19)), (0, .ref a_this), (1, .int x1)]) hx hb dX10_holds_74 rfl hl (by decide) rfl (fun ls hl => ?_)
                refine lv_iinc (v := nI (k_19 + 1)) (lv' := [(4, .int (nI (k_19 + 1))), (3, .int ((mX10_lastsOf v_rains v_door v_now v_rain k_19))), (2, .int (nI k_19)), (5, .int ((mX10_lastsOf v_rains v_door v_now v_rain k_19))), (0, .ref a_this), (1, .int x1)]) hx hb dX10_holds_75 hl (k := 3) rfl (nI_1 _) (by decide) rfl (fun ls hl => ?_)
                refine lv_goto (tgt := 19) hx hb dX10_holds_78 (by decide) ?_
                exact ih (k_19 + 1) (by omega) (nI k_19) ((mX10_lastsOf v_rains v_door v_now v_rain k_19)) (congrArg (fun z => z.1) hm) (congrArg (fun z => z.2) hm) ls (lv_sub hl [0, 1, 2, 4, 5] rfl)
              · have hm := (if_neg c_6).symm.trans hm
                refine lv_iload hx hb dX10_holds_63 (lv_at hl 0 rfl) ?_
                refine lv_iload_n hx hb dX10_holds_65 rfl (lv_at hl 2 rfl) ?_
                refine lv_icmp_ge (tgt := 75) hx hb dX10_holds_66 (by decide) (fun c_7 => ?_) (fun c_7 => ?_)
                · have hm := (if_pos c_7).symm.trans hm
                  refine lv_iinc (v := nI (k_19 + 1)) (lv' := [(4, .int (nI (k_19 + 1))), (5, .int ((mX10_lastsOf v_rains v_door v_now v_rain k_19))), (3, .int y3_19), (2, .int y2_19), (0, .ref a_this), (1, .int x1)]) hx hb dX10_holds_75 hl (k := 1) rfl (nI_1 _) (by decide) rfl (fun ls hl => ?_)
                  refine lv_goto (tgt := 19) hx hb dX10_holds_78 (by decide) ?_
                  exact ih (k_19 + 1) (by omega) y2_19 y3_19 (congrArg (fun z => z.1) hm) (congrArg (fun z => z.2) hm) ls (lv_sub hl [0, 2, 3, 4, 5] rfl)
                · have hm := (if_neg c_7).symm.trans hm
                  refine lv_iload hx hb dX10_holds_69 (lv_at hl 1 rfl) ?_
                  refine lv_istore_n (lv' := [(2, .int (nI k_19)), (5, .int ((mX10_lastsOf v_rains v_door v_now v_rain k_19))), (4, .int (nI k_19)), (3, .int y3_19), (0, .ref a_this), (1, .int x1)]) hx hb dX10_holds_71 rfl hl (by decide) rfl (fun ls hl => ?_)
                  refine lv_iload hx hb dX10_holds_72 (lv_at hl 1 rfl) ?_
                  refine lv_istore_n (lv' := [(3, .int ((mX10_lastsOf v_rains v_door v_now v_rain k_19))), (2, .int (nI k_19)), (5, .int ((mX10_lastsOf v_rains v_door v_now v_rain k_19))), (4, .int (nI k_19)), (0, .ref a_this), (1, .int x1)]) hx hb dX10_holds_74 rfl hl (by decide) rfl (fun ls hl => ?_)
                  refine lv_iinc (v := nI (k_19 + 1)) (lv' := [(4, .int (nI (k_19 + 1))), (3, .int ((mX10_lastsOf v_rains v_door v_now v_rain k_19))), (2, .int (nI k_19)), (5, .int ((mX10_lastsOf v_rains v_door v_now v_rain k_19))), (0, .ref a_this), (1, .int x1)]) hx hb dX10_holds_75 hl (k := 3) rfl (nI_1 _) (by decide) rfl (fun ls hl => ?_)
                  refine lv_goto (tgt := 19) hx hb dX10_holds_78 (by decide) ?_
                  exact ih (k_19 + 1) (by omega) (nI k_19) ((mX10_lastsOf v_rains v_door v_now v_rain k_19)) (congrArg (fun z => z.1) hm) (congrArg (fun z => z.2) hm) ls (lv_sub hl [0, 1, 2, 4, 5] rfl)
    exact L_19 v_doors 0 (Nat.zero_add _) ((-1 : Int32)) ((-1 : Int32)) rfl rfl ls (lv_sub hl [0, 1, 2, 3, 4] rfl)
  · have hm := (if_pos c_1).symm.trans hm
    refine lv_ldc (v := (-1000000002 : Int32)) hx hb hown (ht _ w_5_77) dX10_holds_9 ?_
    exact W.iret (v := (-1000000002 : Int32)) hx hb hr (fun t ht9 _ => ⟨_, rfl, hm, ht9⟩) (fun q hq => absurd hq List.not_mem_nil) dX10_holds_11
theorem dX10_mostCrossed_0 : decode cX10_mostCrossed 0 = .ok (.iconst (-1), 1) := by decide +kernel
theorem dX10_mostCrossed_1 : decode cX10_mostCrossed 1 = .ok (.istore_n 1, 1) := by decide +kernel
theorem dX10_mostCrossed_2 : decode cX10_mostCrossed 2 = .ok (.iconst 0, 1) := by decide +kernel
theorem dX10_mostCrossed_3 : decode cX10_mostCrossed 3 = .ok (.istore_n 2, 1) := by decide +kernel
theorem dX10_mostCrossed_4 : decode cX10_mostCrossed 4 = .ok (.iconst 0, 1) := by decide +kernel
theorem dX10_mostCrossed_5 : decode cX10_mostCrossed 5 = .ok (.istore_n 3, 1) := by decide +kernel
theorem dX10_mostCrossed_6 : decode cX10_mostCrossed 6 = .ok (.iload_n 3, 1) := by decide +kernel
theorem dX10_mostCrossed_7 : decode cX10_mostCrossed 7 = .ok (.aload_n 0, 1) := by decide +kernel
theorem dX10_mostCrossed_8 : decode cX10_mostCrossed 8 = .ok (.getfield 64, 3) := by decide +kernel
theorem dX10_mostCrossed_11 : decode cX10_mostCrossed 11 = .ok (.if_icmp .ge 55, 3) := by decide +kernel
theorem dX10_mostCrossed_14 : decode cX10_mostCrossed 14 = .ok (.aload_n 0, 1) := by decide +kernel
theorem dX10_mostCrossed_15 : decode cX10_mostCrossed 15 = .ok (.getfield 32, 3) := by decide +kernel
theorem dX10_mostCrossed_18 : decode cX10_mostCrossed 18 = .ok (.bipush 13, 2) := by decide +kernel
theorem dX10_mostCrossed_20 : decode cX10_mostCrossed 20 = .ok (.iload_n 3, 1) := by decide +kernel
theorem dX10_mostCrossed_21 : decode cX10_mostCrossed 21 = .ok (.iadd, 1) := by decide +kernel
theorem dX10_mostCrossed_22 : decode cX10_mostCrossed 22 = .ok (.iaload, 1) := by decide +kernel
theorem dX10_mostCrossed_23 : decode cX10_mostCrossed 23 = .ok (.iload_n 2, 1) := by decide +kernel
theorem dX10_mostCrossed_24 : decode cX10_mostCrossed 24 = .ok (.if_icmp .le 7, 3) := by decide +kernel
theorem dX10_mostCrossed_27 : decode cX10_mostCrossed 27 = .ok (.iload_n 3, 1) := by decide +kernel
theorem dX10_mostCrossed_28 : decode cX10_mostCrossed 28 = .ok (.goto 4, 3) := by decide +kernel
theorem dX10_mostCrossed_31 : decode cX10_mostCrossed 31 = .ok (.iload_n 1, 1) := by decide +kernel
theorem dX10_mostCrossed_32 : decode cX10_mostCrossed 32 = .ok (.istore_n 1, 1) := by decide +kernel
theorem dX10_mostCrossed_33 : decode cX10_mostCrossed 33 = .ok (.aload_n 0, 1) := by decide +kernel
theorem dX10_mostCrossed_34 : decode cX10_mostCrossed 34 = .ok (.getfield 32, 3) := by decide +kernel
theorem dX10_mostCrossed_37 : decode cX10_mostCrossed 37 = .ok (.bipush 13, 2) := by decide +kernel
theorem dX10_mostCrossed_39 : decode cX10_mostCrossed 39 = .ok (.iload_n 3, 1) := by decide +kernel
theorem dX10_mostCrossed_40 : decode cX10_mostCrossed 40 = .ok (.iadd, 1) := by decide +kernel
theorem dX10_mostCrossed_41 : decode cX10_mostCrossed 41 = .ok (.iaload, 1) := by decide +kernel
theorem dX10_mostCrossed_42 : decode cX10_mostCrossed 42 = .ok (.iload_n 2, 1) := by decide +kernel
theorem dX10_mostCrossed_43 : decode cX10_mostCrossed 43 = .ok (.if_icmp .le 15, 3) := by decide +kernel
theorem dX10_mostCrossed_46 : decode cX10_mostCrossed 46 = .ok (.aload_n 0, 1) := by decide +kernel
theorem dX10_mostCrossed_47 : decode cX10_mostCrossed 47 = .ok (.getfield 32, 3) := by decide +kernel
theorem dX10_mostCrossed_50 : decode cX10_mostCrossed 50 = .ok (.bipush 13, 2) := by decide +kernel
theorem dX10_mostCrossed_52 : decode cX10_mostCrossed 52 = .ok (.iload_n 3, 1) := by decide +kernel
theorem dX10_mostCrossed_53 : decode cX10_mostCrossed 53 = .ok (.iadd, 1) := by decide +kernel
theorem dX10_mostCrossed_54 : decode cX10_mostCrossed 54 = .ok (.iaload, 1) := by decide +kernel
theorem dX10_mostCrossed_55 : decode cX10_mostCrossed 55 = .ok (.goto 4, 3) := by decide +kernel
theorem dX10_mostCrossed_58 : decode cX10_mostCrossed 58 = .ok (.iload_n 2, 1) := by decide +kernel
theorem dX10_mostCrossed_59 : decode cX10_mostCrossed 59 = .ok (.istore_n 2, 1) := by decide +kernel
theorem dX10_mostCrossed_60 : decode cX10_mostCrossed 60 = .ok (.iinc 3 1, 3) := by decide +kernel
theorem dX10_mostCrossed_63 : decode cX10_mostCrossed 63 = .ok (.goto (-57), 3) := by decide +kernel
theorem dX10_mostCrossed_66 : decode cX10_mostCrossed 66 = .ok (.iload_n 1, 1) := by decide +kernel
theorem dX10_mostCrossed_67 : decode cX10_mostCrossed 67 = .ok (.ireturn, 1) := by decide +kernel
theorem h_X10_mostCrossed : yX10_mostCrossed.cls ≠ "java/lang/invoke/MethodHandle" ∧ yX10_mostCrossed.cls ≠ "java/lang/invoke/VarHandle" ∧ (parseMethodDescriptor yX10_mostCrossed.desc).map (fun d => d.parameters.length) = some 0 := by decide +kernel
def mX10_mostCrossed_l6 (v_now : Nat → Int32) (k_6 : Nat) (s : Int32 × Int32) : Int32 × Int32 := (if (v_now (13 + k_6)) ≤ s.2 then (if (v_now (13 + k_6)) ≤ s.2 then (s.1, s.2) else (s.1, v_now (13 + k_6))) else (if (v_now (13 + k_6)) ≤ s.2 then (nI k_6, s.2) else (nI k_6, v_now (13 + k_6))))
def mX10_mostCrossed (v_doors : Nat) (v_now : Nat → Int32) : Int32 := ((fun (w_6 : Int32 × Int32) => w_6.1) (iter (mX10_mostCrossed_l6 v_now) v_doors (((-1 : Int32), nI 0))))
set_option maxHeartbeats 4000000 in
set_option maxRecDepth 100000 in
theorem kX10_mostCrossed (l : Launch) (dC : Nat → ClassId) (dI : Nat → Nat → Nat) (cA cZ : ClassId) (a_this a_this_text a_this_readRain a_this_readDoor a_this_readPerson a_this_rain a_this_door a_this_now a_this_tried a_this_backOf a_this_image a_this_imageSeed a_this_isKept a_this_sight a_this_entry : Nat) (v_letters : Nat) (v_position : Nat) (v_tokenAt : Nat) (v_token : Int32) (v_number : Int32) (v_figures : Nat) (v_faultAt : Int32) (v_faultIs : Int32) (v_readRooms : Int32) (v_readStore : Int32) (v_readRains : Nat) (v_readDoors : Nat) (v_readPersons : Nat) (v_rooms : Int32) (v_rains : Nat) (v_doors : Nat) (v_persons : Nat) (v_backs : Nat) (v_seed : Int32) (v_seen : Nat) (v_entries : Nat) (v_now : Nat → Int32) (hD : v_doors ≤ 10) : Met l yX10_mostCrossed (Cond.code yX10_mostCrossed cX10_mostCrossed 4 (some .int) :: wt) ({ frames := 0, cells := 0, slots := 0, locals := 0 } : Room) (va_Pc [.ref a_this] (PreP (dC, dI) [(cA, .int), (cZ, .boolean)] [(a_this, .inr (10, [.int (nI v_letters), .ref a_this_text, .int (nI v_position), .int (nI v_tokenAt), .int v_token, .int v_number, .int (nI v_figures), .int v_faultAt, .int v_faultIs, .int v_readRooms, .int v_readStore, .int (nI v_readRains), .int (nI v_readDoors), .int (nI v_readPersons), .ref a_this_readRain, .ref a_this_readDoor, .ref a_this_readPerson, .int v_rooms, .int (nI v_rains), .int (nI v_doors), .int (nI v_persons), .ref a_this_rain, .ref a_this_door, .ref a_this_now, .ref a_this_tried, .ref a_this_backOf, .int (nI v_backs), .ref a_this_image, .ref a_this_imageSeed, .ref a_this_isKept, .int v_seed, .int (nI v_seen), .ref a_this_sight, .int (nI v_entries), .ref a_this_entry])), (a_this_now, .inl (cA, 35, .inl v_now))])) (vp_Si (fun r => r = (mX10_mostCrossed v_doors v_now))) 0 0 (fun _ => False) := by
  refine Met.ofW (cc := cX10_mostCrossed) (maxL := 4) (ret := (some .int)) (by decide) rfl ?_
  intro p e s m args below meth c s₁ B hml hv
  obtain ⟨ha, hP, hK⟩ := hv
  have hx := B.exec
  have hb := B.bytes
  have hr := B.returns
  have ht : ∀ w ∈ wt, w.before args s = true := fun w h => atoms_spec (ws := (Cond.code yX10_mostCrossed cX10_mostCrossed 4 (some .int) :: wt)) B.pre w (List.mem_cons_of_mem _ h)
  have hown : s.vm.findClass RX10 = some m.cls := findClass_of_methodNamed B.named
  have hlocks := B.notSynchronized
  have hl := lv_entry ([.ref a_this]) (n := 4) (Nat.le_of_ble_eq_true rfl)
  rw [show entryFrame m args 4 = _ from (congrArg (fun a => entryFrame m a 4) ha).trans (lg_entry_eq m [.ref a_this] 4)]
  generalize (lg_sl ([.ref a_this]) ++ List.replicate (4 - (lg_sl ([.ref a_this])).length) Slot.unset).toArray = ls at hl ⊢
  have hl : lv_has ls 4 [(0, .ref a_this)] := hl
  have hm : ((fun (w_6 : Int32 × Int32) => w_6.1) (iter (mX10_mostCrossed_l6 v_now) v_doors (((-1 : Int32), nI 0)))) = (mX10_mostCrossed v_doors v_now) := rfl
  refine lv_iconst (v := (-1 : Int32)) hx hb dX10_mostCrossed_0 (by decide) ?_
  refine lv_istore_n (lv' := [(1, .int ((-1 : Int32))), (0, .ref a_this)]) hx hb dX10_mostCrossed_1 rfl hl (by decide) rfl (fun ls hl => ?_)
  refine lv_iconst (v := nI 0) hx hb dX10_mostCrossed_2 (by decide) ?_
  refine lv_istore_n (lv' := [(2, .int (nI 0)), (1, .int ((-1 : Int32))), (0, .ref a_this)]) hx hb dX10_mostCrossed_3 rfl hl (by decide) rfl (fun ls hl => ?_)
  refine lv_iconst (v := nI 0) hx hb dX10_mostCrossed_4 (by decide) ?_
  refine lv_istore_n (lv' := [(3, .int (nI 0)), (2, .int (nI 0)), (1, .int ((-1 : Int32))), (0, .ref a_this)]) hx hb dX10_mostCrossed_5 rfl hl (by decide) rfl (fun ls hl => ?_)
  have L_6 : ∀ (n_6 k_6 : Nat), k_6 + n_6 = v_doors → ∀ (y1_6 : Int32) (y2_6 : Int32), y1_6 = ((iter (mX10_mostCrossed_l6 v_now) k_6 (((-1 : Int32), nI 0)))).1 → y2_6 = ((iter (mX10_mostCrossed_l6 v_now) k_6 (((-1 : Int32), nI 0)))).2 → ∀ (ls : Array Slot), lv_has ls 4 [(3, .int (nI k_6)), (2, .int y2_6), (1, .int y1_6), (0, .ref a_this)] → W p l e (headSpec (Cond.code yX10_mostCrossed cX10_mostCrossed 4 (some .int) :: wt) ({ frames := 0, cells := 0, slots := 0, locals := 0 } : Room)).room s m args below meth c s.heap [] 0 0 (MQ below (vp_Si (fun r => r = (mX10_mostCrossed v_doors v_now))) args s 0 0 (fun _ => False)) (F0 m 6 ls []) := by
    intro n_6
    induction n_6 with
    | zero =>
      intro k_6 hk y1_6 y2_6 ex0_6 ex1_6 ls hl
      obtain rfl : v_doors = k_6 := by omega
      have he : (y1_6, y2_6) = (iter (mX10_mostCrossed_l6 v_now) v_doors (((-1 : Int32), nI 0))) := by rw [ex0_6, ex1_6]
      rw [← he] at hm
      have hm : y1_6 = _ := hm
      refine lv_iload_n hx hb dX10_mostCrossed_6 rfl (lv_at hl 0 rfl) ?_
      refine lv_aload_n hx hb dX10_mostCrossed_7 rfl (lv_at hl 3 rfl) ?_
      refine va_get (D := (dC, dI)) (ci := 10) (v := .int (nI v_doors)) (C := RX10) (T := TX10) (N := 35) hx hb ht iX10 hown hK.1 hP 0 rfl rfl 19 (by decide) (ht _ w_4_222) (fun _ h9 => h9) rfl dX10_mostCrossed_8 ?_
      refine lv_icmp_ge (tgt := 66) hx hb dX10_mostCrossed_11 (by decide) (fun c_5 => ?_) (fun c_5 => ?_)
      · skip
        refine lv_iload_n hx hb dX10_mostCrossed_66 rfl (lv_at hl 2 rfl) ?_
        exact W.iret (v := y1_6) hx hb hr (fun t ht9 _ => ⟨_, rfl, hm, ht9⟩) (fun q hq => absurd hq List.not_mem_nil) dX10_mostCrossed_67
      · exact absurd (nI_le (by omega) (by omega)) c_5
    | succ n_6 ih =>
      intro k_6 hk y1_6 y2_6 ex0_6 ex1_6 ls hl
      have hm : (mX10_mostCrossed_l6 v_now) k_6 (y1_6, y2_6) = (iter (mX10_mostCrossed_l6 v_now) (k_6 + 1) (((-1 : Int32), nI 0))) := by rw [ex0_6, ex1_6]; rfl
      have hm : (if (v_now (13 + k_6)) ≤ y2_6 then (if (v_now (13 + k_6)) ≤ y2_6 then (y1_6, y2_6) else (y1_6, v_now (13 + k_6))) else (if (v_now (13 + k_6)) ≤ y2_6 then (nI k_6, y2_6) else (nI k_6, v_now (13 + k_6)))) = (iter (mX10_mostCrossed_l6 v_now) (k_6 + 1) (((-1 : Int32), nI 0))) := hm
      refine lv_iload_n hx hb dX10_mostCrossed_6 rfl (lv_at hl 0 rfl) ?_
      refine lv_aload_n hx hb dX10_mostCrossed_7 rfl (lv_at hl 3 rfl) ?_
      refine va_get (D := (dC, dI)) (ci := 10) (v := .int (nI v_doors)) (C := RX10) (T := TX10) (N := 35) hx hb ht iX10 hown hK.1 hP 0 rfl rfl 19 (by decide) (ht _ w_4_222) (fun _ h9 => h9) rfl dX10_mostCrossed_8 ?_
      refine lv_icmp_ge (tgt := 66) hx hb dX10_mostCrossed_11 (by decide) (fun c_1 => ?_) (fun c_1 => ?_)
      · exact absurd c_1 (nI_ge (by omega) (by omega))
      · skip
        refine lv_aload_n hx hb dX10_mostCrossed_14 rfl (lv_at hl 3 rfl) ?_
        refine va_get (D := (dC, dI)) (ci := 10) (v := .ref a_this_now) (C := RX10) (T := TX10) (N := 35) hx hb ht iX10 hown hK.1 hP 0 rfl rfl 23 (by decide) (ht _ w_4_226) (fun _ h9 => h9) rfl dX10_mostCrossed_15 ?_
        refine lv_bipush (v := nI 13) hx hb dX10_mostCrossed_18 (by decide) ?_
        refine lv_iload_n hx hb dX10_mostCrossed_20 rfl (lv_at hl 0 rfl) ?_
        refine nv_iadd hx hb dX10_mostCrossed_21 ?_
        refine nv_iald (e := 13 + k_6) (by omega) (by omega) hx hb hK.1 hP 1 0 rfl rfl dX10_mostCrossed_22 ?_
        refine lv_iload_n hx hb dX10_mostCrossed_23 rfl (lv_at hl 1 rfl) ?_
        refine lv_icmp_le (tgt := 31) hx hb dX10_mostCrossed_24 (by decide) (fun c_2 => ?_) (fun c_2 => ?_)
        · have hm := (if_pos c_2).symm.trans hm
          refine lv_iload_n hx hb dX10_mostCrossed_31 rfl (lv_at hl 2 rfl) ?_
          refine lv_istore_n (lv' := [(1, .int y1_6), (3, .int (nI k_6)), (2, .int y2_6), (0, .ref a_this)]) hx hb dX10_mostCrossed_32 rfl hl (by decide) rfl (fun ls hl => ?_)
          refine lv_aload_n hx hb dX10_mostCrossed_33 rfl (lv_at hl 3 rfl) ?_
          refine va_get (D := (dC, dI)) (ci := 10) (v := .ref a_this_now) (C := RX10) (T := TX10) (N := 35) hx hb ht iX10 hown hK.1 hP 0 rfl rfl 23 (by decide) (ht _ w_4_226) (fun _ h9 => h9) rfl dX10_mostCrossed_34 ?_
          refine lv_bipush (v := nI 13) hx hb dX10_mostCrossed_37 (by decide) ?_
          refine lv_iload_n hx hb dX10_mostCrossed_39 rfl (lv_at hl 1 rfl) ?_
          refine nv_iadd hx hb dX10_mostCrossed_40 ?_
          refine nv_iald (e := 13 + k_6) (by omega) (by omega) hx hb hK.1 hP 1 0 rfl rfl dX10_mostCrossed_41 ?_
          refine lv_iload_n hx hb dX10_mostCrossed_42 rfl (lv_at hl 2 rfl) ?_
          refine lv_icmp_le (tgt := 58) hx hb dX10_mostCrossed_43 (by decide) (fun c_3 => ?_) (fun c_3 => ?_)
          · have hm := (if_pos c_3).symm.trans hm
            refine lv_iload_n hx hb dX10_mostCrossed_58 rfl (lv_at hl 2 rfl) ?_
            refine lv_istore_n (lv' := [(2, .int y2_6), (1, .int y1_6), (3, .int (nI k_6)), (0, .ref a_this)]) hx hb dX10_mostCrossed_59 rfl hl (by decide) rfl (fun ls hl => ?_)
            refine lv_iinc (v := nI (k_6 + 1)) (lv' := [(3, .int (nI (k_6 + 1))), (2, .int y2_6), (1, .int y1_6), (0, .ref a_this)]) hx hb dX10_mostCrossed_60 hl (k := 2) rfl (nI_1 _) (by decide) rfl (fun ls hl => ?_)
            refine lv_goto (tgt := 6) hx hb dX10_mostCrossed_63 (by decide) ?_
            exact ih (k_6 + 1) (by omega) y1_6 y2_6 (congrArg (fun z => z.1) hm) (congrArg (fun z => z.2) hm) ls (lv_sub hl [0, 1, 2, 3] rfl)
          · have hm := (if_neg c_3).symm.trans hm
            refine lv_aload_n hx hb dX10_mostCrossed_46 rfl (lv_at hl 3 rfl) ?_
            refine va_get (D := (dC, dI)) (ci := 10) (v := .ref a_this_now) (C := RX10) (T := TX10) (N := 35) hx hb ht iX10 hown hK.1 hP 0 rfl rfl 23 (by decide) (ht _ w_4_226) (fun _ h9 => h9) rfl dX10_mostCrossed_47 ?_
            refine lv_bipush (v := nI 13) hx hb dX10_mostCrossed_50 (by decide) ?_
            refine lv_iload_n hx hb dX10_mostCrossed_52 rfl (lv_at hl 1 rfl) ?_
            refine nv_iadd hx hb dX10_mostCrossed_53 ?_
            refine nv_iald (e := 13 + k_6) (by omega) (by omega) hx hb hK.1 hP 1 0 rfl rfl dX10_mostCrossed_54 ?_
            refine lv_goto (tgt := 59) hx hb dX10_mostCrossed_55 (by decide) ?_
            refine lv_istore_n (lv' := [(2, .int (v_now (13 + k_6))), (1, .int y1_6), (3, .int (nI k_6)), (0, .ref a_this)]) hx hb dX10_mostCrossed_59 rfl hl (by decide) rfl (fun ls hl => ?_)
            refine lv_iinc (v := nI (k_6 + 1)) (lv' := [(3, .int (nI (k_6 + 1))), (2, .int (v_now (13 + k_6))), (1, .int y1_6), (0, .ref a_this)]) hx hb dX10_mostCrossed_60 hl (k := 2) rfl (nI_1 _) (by decide) rfl (fun ls hl => ?_)
            refine lv_goto (tgt := 6) hx hb dX10_mostCrossed_63 (by decide) ?_
            exact ih (k_6 + 1) (by omega) y1_6 (v_now (13 + k_6)) (congrArg (fun z => z.1) hm) (congrArg (fun z => z.2) hm) ls (lv_sub hl [0, 1, 2, 3] rfl)
        · have hm := (if_neg c_2).symm.trans hm
          refine lv_iload_n hx hb dX10_mostCrossed_27 rfl (lv_at hl 0 rfl) ?_
          refine lv_goto (tgt := 32) hx hb dX10_mostCrossed_28 (by decide) ?_
          refine lv_istore_n (lv' := [(1, .int (nI k_6)), (3, .int (nI k_6)), (2, .int y2_6), (0, .ref a_this)]) hx hb dX10_mostCrossed_32 rfl hl (by decide) rfl (fun ls hl => ?_)
          refine lv_aload_n hx hb dX10_mostCrossed_33 rfl (lv_at hl 3 rfl) ?_
          refine va_get (D := (dC, dI)) (ci := 10) (v := .ref a_this_now) (C := RX10) (T := TX10) (N := 35) hx hb ht iX10 hown hK.1 hP 0 rfl rfl 23 (by decide) (ht _ w_4_226) (fun _ h9 => h9) rfl dX10_mostCrossed_34 ?_
          refine lv_bipush (v := nI 13) hx hb dX10_mostCrossed_37 (by decide) ?_
          refine lv_iload_n hx hb dX10_mostCrossed_39 rfl (lv_at hl 1 rfl) ?_
          refine nv_iadd hx hb dX10_mostCrossed_40 ?_
          refine nv_iald (e := 13 + k_6) (by omega) (by omega) hx hb hK.1 hP 1 0 rfl rfl dX10_mostCrossed_41 ?_
          refine lv_iload_n hx hb dX10_mostCrossed_42 rfl (lv_at hl 2 rfl) ?_
          refine lv_icmp_le (tgt := 58) hx hb dX10_mostCrossed_43 (by decide) (fun c_4 => ?_) (fun c_4 => ?_)
          · have hm := (if_pos c_4).symm.trans hm
            refine lv_iload_n hx hb dX10_mostCrossed_58 rfl (lv_at hl 2 rfl) ?_
            refine lv_istore_n (lv' := [(2, .int y2_6), (1, .int (nI k_6)), (3, .int (nI k_6)), (0, .ref a_this)]) hx hb dX10_mostCrossed_59 rfl hl (by decide) rfl (fun ls hl => ?_)
            refine lv_iinc (v := nI (k_6 + 1)) (lv' := [(3, .int (nI (k_6 + 1))), (2, .int y2_6), (1, .int (nI k_6)), (0, .ref a_this)]) hx hb dX10_mostCrossed_60 hl (k := 2) rfl (nI_1 _) (by decide) rfl (fun ls hl => ?_)
            refine lv_goto (tgt := 6) hx hb dX10_mostCrossed_63 (by decide) ?_
            exact ih (k_6 + 1) (by omega) (nI k_6) y2_6 (congrArg (fun z => z.1) hm) (congrArg (fun z => z.2) hm) ls (lv_sub hl [0, 1, 2, 3] rfl)
          · have hm := (if_neg c_4).symm.trans hm
            refine lv_aload_n hx hb dX10_mostCrossed_46 rfl (lv_at hl 3 rfl) ?_
            refine va_get (D := (dC, dI)) (ci := 10) (v := .ref a_this_now) (C := RX10) (T := TX10) (N := 35) hx hb ht iX10 hown hK.1 hP 0 rfl rfl 23 (by decide) (ht _ w_4_226) (fun _ h9 => h9) rfl dX10_mostCrossed_47 ?_
            refine lv_bipush (v := nI 13) hx hb dX10_mostCrossed_50 (by decide) ?_
            refine lv_iload_n hx hb dX10_mostCrossed_52 rfl (lv_at hl 1 rfl) ?_
            refine nv_iadd hx hb dX10_mostCrossed_53 ?_
            refine nv_iald (e := 13 + k_6) (by omega) (by omega) hx hb hK.1 hP 1 0 rfl rfl dX10_mostCrossed_54 ?_
            refine lv_goto (tgt := 59) hx hb dX10_mostCrossed_55 (by decide) ?_
            refine lv_istore_n (lv' := [(2, .int (v_now (13 + k_6))), (1, .int (nI k_6)), (3, .int (nI k_6)), (0, .ref a_this)]) hx hb dX10_mostCrossed_59 rfl hl (by decide) rfl (fun ls hl => ?_)
            refine lv_iinc (v := nI (k_6 + 1)) (lv' := [(3, .int (nI (k_6 + 1))), (2, .int (v_now (13 + k_6))), (1, .int (nI k_6)), (0, .ref a_this)]) hx hb dX10_mostCrossed_60 hl (k := 2) rfl (nI_1 _) (by decide) rfl (fun ls hl => ?_)
            refine lv_goto (tgt := 6) hx hb dX10_mostCrossed_63 (by decide) ?_
            exact ih (k_6 + 1) (by omega) (nI k_6) (v_now (13 + k_6)) (congrArg (fun z => z.1) hm) (congrArg (fun z => z.2) hm) ls (lv_sub hl [0, 1, 2, 3] rfl)
  exact L_6 v_doors 0 (Nat.zero_add _) ((-1 : Int32)) (nI 0) rfl rfl ls (lv_sub hl [0, 1, 2, 3] rfl)
theorem dX10_narrow_0 : decode cX10_narrow 0 = .ok (.iconst 0, 1) := by decide +kernel
theorem dX10_narrow_1 : decode cX10_narrow 1 = .ok (.istore_n 1, 1) := by decide +kernel
theorem dX10_narrow_2 : decode cX10_narrow 2 = .ok (.iconst 0, 1) := by decide +kernel
theorem dX10_narrow_3 : decode cX10_narrow 3 = .ok (.istore_n 2, 1) := by decide +kernel
theorem dX10_narrow_4 : decode cX10_narrow 4 = .ok (.iload_n 2, 1) := by decide +kernel
theorem dX10_narrow_5 : decode cX10_narrow 5 = .ok (.aload_n 0, 1) := by decide +kernel
theorem dX10_narrow_6 : decode cX10_narrow 6 = .ok (.getfield 64, 3) := by decide +kernel
theorem dX10_narrow_9 : decode cX10_narrow 9 = .ok (.if_icmp .ge 34, 3) := by decide +kernel
theorem dX10_narrow_12 : decode cX10_narrow 12 = .ok (.iload_n 1, 1) := by decide +kernel
theorem dX10_narrow_13 : decode cX10_narrow 13 = .ok (.aload_n 0, 1) := by decide +kernel
theorem dX10_narrow_14 : decode cX10_narrow 14 = .ok (.iconst 0, 1) := by decide +kernel
theorem dX10_narrow_15 : decode cX10_narrow 15 = .ok (.iload_n 2, 1) := by decide +kernel
theorem dX10_narrow_16 : decode cX10_narrow 16 = .ok (.invokevirtual 241, 3) := by decide +kernel
theorem dX10_narrow_19 : decode cX10_narrow 19 = .ok (.aload_n 0, 1) := by decide +kernel
theorem dX10_narrow_20 : decode cX10_narrow 20 = .ok (.iconst 0, 1) := by decide +kernel
theorem dX10_narrow_21 : decode cX10_narrow 21 = .ok (.iconst (-1), 1) := by decide +kernel
theorem dX10_narrow_22 : decode cX10_narrow 22 = .ok (.invokevirtual 241, 3) := by decide +kernel
theorem dX10_narrow_25 : decode cX10_narrow 25 = .ok (.if_icmp .le 9, 3) := by decide +kernel
theorem dX10_narrow_28 : decode cX10_narrow 28 = .ok (.iconst 1, 1) := by decide +kernel
theorem dX10_narrow_29 : decode cX10_narrow 29 = .ok (.iload_n 2, 1) := by decide +kernel
theorem dX10_narrow_30 : decode cX10_narrow 30 = .ok (.ishl, 1) := by decide +kernel
theorem dX10_narrow_31 : decode cX10_narrow 31 = .ok (.goto 4, 3) := by decide +kernel
theorem dX10_narrow_34 : decode cX10_narrow 34 = .ok (.iconst 0, 1) := by decide +kernel
theorem dX10_narrow_35 : decode cX10_narrow 35 = .ok (.ior, 1) := by decide +kernel
theorem dX10_narrow_36 : decode cX10_narrow 36 = .ok (.istore_n 1, 1) := by decide +kernel
theorem dX10_narrow_37 : decode cX10_narrow 37 = .ok (.iinc 2 1, 3) := by decide +kernel
theorem dX10_narrow_40 : decode cX10_narrow 40 = .ok (.goto (-36), 3) := by decide +kernel
theorem dX10_narrow_43 : decode cX10_narrow 43 = .ok (.iload_n 1, 1) := by decide +kernel
theorem dX10_narrow_44 : decode cX10_narrow 44 = .ok (.ireturn, 1) := by decide +kernel
theorem h_X10_narrow : yX10_narrow.cls ≠ "java/lang/invoke/MethodHandle" ∧ yX10_narrow.cls ≠ "java/lang/invoke/VarHandle" ∧ (parseMethodDescriptor yX10_narrow.desc).map (fun d => d.parameters.length) = some 0 := by decide +kernel
def mX10_narrow_l4 (v_rooms : Int32) (v_doors : Nat) (v_door : Nat → Int32) (v_now : Nat → Int32) (k_4 : Nat) (y1_4 : Int32) : Int32 := (if ((mX10_partsBy v_rooms v_doors v_door v_now (nI 0) (nI k_4))) ≤ ((mX10_partsBy v_rooms v_doors v_door v_now (nI 0) ((-1 : Int32)))) then y1_4 ||| (nI 0) else y1_4 ||| ((nI 1) <<< ((nI k_4) &&& 31)))
def mX10_narrow (v_rooms : Int32) (v_doors : Nat) (v_door : Nat → Int32) (v_now : Nat → Int32) : Int32 := (iter (mX10_narrow_l4 v_rooms v_doors v_door v_now) v_doors (nI 0))
set_option maxHeartbeats 4000000 in
set_option maxRecDepth 100000 in
theorem kX10_narrow (l : Launch) (dC : Nat → ClassId) (dI : Nat → Nat → Nat) (cA cZ : ClassId) (a_this a_this_text a_this_readRain a_this_readDoor a_this_readPerson a_this_rain a_this_door a_this_now a_this_tried a_this_backOf a_this_image a_this_imageSeed a_this_isKept a_this_sight a_this_entry : Nat) (v_letters : Nat) (v_position : Nat) (v_tokenAt : Nat) (v_token : Int32) (v_number : Int32) (v_figures : Nat) (v_faultAt : Int32) (v_faultIs : Int32) (v_readRooms : Int32) (v_readStore : Int32) (v_readRains : Nat) (v_readDoors : Nat) (v_readPersons : Nat) (v_rooms : Int32) (v_rains : Nat) (v_doors : Nat) (v_persons : Nat) (v_backs : Nat) (v_seed : Int32) (v_seen : Nat) (v_entries : Nat) (v_door : Nat → Int32) (v_now : Nat → Int32) (hD : v_doors ≤ 10) : Met l yX10_narrow (Cond.code yX10_narrow cX10_narrow 3 (some .int) :: wt) ({ frames := 3, cells := 0, slots := 0, locals := 75 } : Room) (va_Pc [.ref a_this] (PreP (dC, dI) [(cA, .int), (cZ, .boolean)] [(a_this, .inr (10, [.int (nI v_letters), .ref a_this_text, .int (nI v_position), .int (nI v_tokenAt), .int v_token, .int v_number, .int (nI v_figures), .int v_faultAt, .int v_faultIs, .int v_readRooms, .int v_readStore, .int (nI v_readRains), .int (nI v_readDoors), .int (nI v_readPersons), .ref a_this_readRain, .ref a_this_readDoor, .ref a_this_readPerson, .int v_rooms, .int (nI v_rains), .int (nI v_doors), .int (nI v_persons), .ref a_this_rain, .ref a_this_door, .ref a_this_now, .ref a_this_tried, .ref a_this_backOf, .int (nI v_backs), .ref a_this_image, .ref a_this_imageSeed, .ref a_this_isKept, .int v_seed, .int (nI v_seen), .ref a_this_sight, .int (nI v_entries), .ref a_this_entry])), (a_this_door, .inl (cA, 40, .inl v_door)), (a_this_now, .inl (cA, 35, .inl v_now))])) (vp_Si (fun r => r = (mX10_narrow v_rooms v_doors v_door v_now))) 0 0 (fun _ => False) := by
  refine Met.ofW (cc := cX10_narrow) (maxL := 3) (ret := (some .int)) (by decide) rfl ?_
  intro p e s m args below meth c s₁ B hml hv
  obtain ⟨ha, hP, hK⟩ := hv
  have hx := B.exec
  have hb := B.bytes
  have hr := B.returns
  have ht : ∀ w ∈ wt, w.before args s = true := fun w h => atoms_spec (ws := (Cond.code yX10_narrow cX10_narrow 3 (some .int) :: wt)) B.pre w (List.mem_cons_of_mem _ h)
  have hown : s.vm.findClass RX10 = some m.cls := findClass_of_methodNamed B.named
  have hlocks := B.notSynchronized
  have hl := lv_entry ([.ref a_this]) (n := 3) (Nat.le_of_ble_eq_true rfl)
  rw [show entryFrame m args 3 = _ from (congrArg (fun a => entryFrame m a 3) ha).trans (lg_entry_eq m [.ref a_this] 3)]
  generalize (lg_sl ([.ref a_this]) ++ List.replicate (3 - (lg_sl ([.ref a_this])).length) Slot.unset).toArray = ls at hl ⊢
  have hl : lv_has ls 3 [(0, .ref a_this)] := hl
  have hm : (iter (mX10_narrow_l4 v_rooms v_doors v_door v_now) v_doors (nI 0)) = (mX10_narrow v_rooms v_doors v_door v_now) := rfl
  refine lv_iconst (v := nI 0) hx hb dX10_narrow_0 (by decide) ?_
  refine lv_istore_n (lv' := [(1, .int (nI 0)), (0, .ref a_this)]) hx hb dX10_narrow_1 rfl hl (by decide) rfl (fun ls hl => ?_)
  refine lv_iconst (v := nI 0) hx hb dX10_narrow_2 (by decide) ?_
  refine lv_istore_n (lv' := [(2, .int (nI 0)), (1, .int (nI 0)), (0, .ref a_this)]) hx hb dX10_narrow_3 rfl hl (by decide) rfl (fun ls hl => ?_)
  have L_4 : ∀ (n_4 k_4 : Nat), k_4 + n_4 = v_doors → ∀ (y1_4 : Int32), y1_4 = (iter (mX10_narrow_l4 v_rooms v_doors v_door v_now) k_4 (nI 0)) → ∀ (ls : Array Slot), lv_has ls 3 [(2, .int (nI k_4)), (1, .int y1_4), (0, .ref a_this)] → W p l e (headSpec (Cond.code yX10_narrow cX10_narrow 3 (some .int) :: wt) ({ frames := 3, cells := 0, slots := 0, locals := 75 } : Room)).room s m args below meth c s.heap [] 0 0 (MQ below (vp_Si (fun r => r = (mX10_narrow v_rooms v_doors v_door v_now))) args s 0 0 (fun _ => False)) (F0 m 4 ls []) := by
    intro n_4
    induction n_4 with
    | zero =>
      intro k_4 hk y1_4 ex0_4 ls hl
      obtain rfl : v_doors = k_4 := by omega
      subst ex0_4
      refine lv_iload_n hx hb dX10_narrow_4 rfl (lv_at hl 0 rfl) ?_
      refine lv_aload_n hx hb dX10_narrow_5 rfl (lv_at hl 2 rfl) ?_
      refine va_get (D := (dC, dI)) (ci := 10) (v := .int (nI v_doors)) (C := RX10) (T := TX10) (N := 35) hx hb ht iX10 hown hK.1 hP 0 rfl rfl 19 (by decide) (ht _ w_4_222) (fun _ h9 => h9) rfl dX10_narrow_6 ?_
      refine lv_icmp_ge (tgt := 43) hx hb dX10_narrow_9 (by decide) (fun c_3 => ?_) (fun c_3 => ?_)
      · skip
        refine lv_iload_n hx hb dX10_narrow_43 rfl (lv_at hl 1 rfl) ?_
        exact W.iret (v := (iter (mX10_narrow_l4 v_rooms v_doors v_door v_now) v_doors (nI 0))) hx hb hr (fun t ht9 _ => ⟨_, rfl, hm, ht9⟩) (fun q hq => absurd hq List.not_mem_nil) dX10_narrow_44
      · exact absurd (nI_le (by omega) (by omega)) c_3
    | succ n_4 ih =>
      intro k_4 hk y1_4 ex0_4 ls hl
      have hm : (mX10_narrow_l4 v_rooms v_doors v_door v_now) k_4 y1_4 = (iter (mX10_narrow_l4 v_rooms v_doors v_door v_now) (k_4 + 1) (nI 0)) := by rw [ex0_4]; rfl
      have hm : (if ((mX10_partsBy v_rooms v_doors v_door v_now (nI 0) (nI k_4))) ≤ ((mX10_partsBy v_rooms v_doors v_door v_now (nI 0) ((-1 : Int32)))) then y1_4 ||| (nI 0) else y1_4 ||| ((nI 1) <<< ((nI k_4) &&& 31))) = (iter (mX10_narrow_l4 v_rooms v_doors v_door v_now) (k_4 + 1) (nI 0)) := hm
      refine lv_iload_n hx hb dX10_narrow_4 rfl (lv_at hl 0 rfl) ?_
      refine lv_aload_n hx hb dX10_narrow_5 rfl (lv_at hl 2 rfl) ?_
      refine va_get (D := (dC, dI)) (ci := 10) (v := .int (nI v_doors)) (C := RX10) (T := TX10) (N := 35) hx hb ht iX10 hown hK.1 hP 0 rfl rfl 19 (by decide) (ht _ w_4_222) (fun _ h9 => h9) rfl dX10_narrow_6 ?_
      refine lv_icmp_ge (tgt := 43) hx hb dX10_narrow_9 (by decide) (fun c_1 => ?_) (fun c_1 => ?_)
      · exact absurd c_1 (nI_ge (by omega) (by omega))
      · skip
        refine lv_iload_n hx hb dX10_narrow_12 rfl (lv_at hl 1 rfl) ?_
        refine lv_aload_n hx hb dX10_narrow_13 rfl (lv_at hl 2 rfl) ?_
        refine lv_iconst (v := nI 0) hx hb dX10_narrow_14 (by decide) ?_
        refine lv_iload_n hx hb dX10_narrow_15 rfl (lv_at hl 0 rfl) ?_
        refine pv_call (v := (mX10_partsBy v_rooms v_doors v_door v_now (nI 0) (nI k_4))) (va_runV (As := [.int (nI 0), .int (nI k_4)]) (rest := [.int y1_4]) ⟨hx, hb, hml, hown, ht⟩ (kX10_partsBy l dC dI cA cZ a_this a_this_text a_this_readRain a_this_readDoor a_this_readPerson a_this_rain a_this_door a_this_now a_this_tried a_this_backOf a_this_image a_this_imageSeed a_this_isKept a_this_sight a_this_entry v_letters v_position v_tokenAt v_token v_number v_figures v_faultAt v_faultIs v_readRooms v_readStore v_readRains v_readDoors v_readPersons v_rooms v_rains v_doors v_persons v_backs v_seed v_seen v_entries v_door v_now (nI 0) (nI k_4) (by omega)) (cwV 2 ht (gi_V (C := RX10) w_6_51 w_6_53 w_0_43 w_1_12 (gi_code w_6_54)) rfl rfl rfl ⟨rfl, h_X10_partsBy⟩ ⟨Nat.le_of_ble_eq_true rfl, Nat.le_of_ble_eq_true rfl⟩) ⟨pp_blind, va_recv hK.1 hP (ci := 10) (q0 := 0) rfl rfl, pp_use hP hK⟩ rfl rfl hl.1 rfl (lv_room (Nat.le_of_ble_eq_true rfl)) dX10_narrow_16 ⟨Nat.zero_le _, Nat.zero_le _⟩) ?_
        refine lv_aload_n hx hb dX10_narrow_19 rfl (lv_at hl 2 rfl) ?_
        refine lv_iconst (v := nI 0) hx hb dX10_narrow_20 (by decide) ?_
        refine lv_iconst (v := (-1 : Int32)) hx hb dX10_narrow_21 (by decide) ?_
        refine pv_call (v := (mX10_partsBy v_rooms v_doors v_door v_now (nI 0) ((-1 : Int32)))) (va_runV (As := [.int (nI 0), .int ((-1 : Int32))]) (rest := [.int ((mX10_partsBy v_rooms v_doors v_door v_now (nI 0) (nI k_4))), .int y1_4]) ⟨hx, hb, hml, hown, ht⟩ (kX10_partsBy l dC dI cA cZ a_this a_this_text a_this_readRain a_this_readDoor a_this_readPerson a_this_rain a_this_door a_this_now a_this_tried a_this_backOf a_this_image a_this_imageSeed a_this_isKept a_this_sight a_this_entry v_letters v_position v_tokenAt v_token v_number v_figures v_faultAt v_faultIs v_readRooms v_readStore v_readRains v_readDoors v_readPersons v_rooms v_rains v_doors v_persons v_backs v_seed v_seen v_entries v_door v_now (nI 0) ((-1 : Int32)) (by omega)) (cwV 2 ht (gi_V (C := RX10) w_6_51 w_6_53 w_0_43 w_1_12 (gi_code w_6_54)) rfl rfl rfl ⟨rfl, h_X10_partsBy⟩ ⟨Nat.le_of_ble_eq_true rfl, Nat.le_of_ble_eq_true rfl⟩) ⟨pp_blind, va_recv hK.1 hP (ci := 10) (q0 := 0) rfl rfl, pp_use hP hK⟩ rfl rfl hl.1 rfl (lv_room (Nat.le_of_ble_eq_true rfl)) dX10_narrow_22 ⟨Nat.zero_le _, Nat.zero_le _⟩) ?_
        refine lv_icmp_le (tgt := 34) hx hb dX10_narrow_25 (by decide) (fun c_2 => ?_) (fun c_2 => ?_)
        · have hm := (if_pos c_2).symm.trans hm
          refine lv_iconst (v := nI 0) hx hb dX10_narrow_34 (by decide) ?_
          refine lv_ior hx hb dX10_narrow_35 ?_
          refine lv_istore_n (lv' := [(1, .int (y1_4 ||| (nI 0))), (2, .int (nI k_4)), (0, .ref a_this)]) hx hb dX10_narrow_36 rfl hl (by decide) rfl (fun ls hl => ?_)
          refine lv_iinc (v := nI (k_4 + 1)) (lv' := [(2, .int (nI (k_4 + 1))), (1, .int (y1_4 ||| (nI 0))), (0, .ref a_this)]) hx hb dX10_narrow_37 hl (k := 1) rfl (nI_1 _) (by decide) rfl (fun ls hl => ?_)
          refine lv_goto (tgt := 4) hx hb dX10_narrow_40 (by decide) ?_
          exact ih (k_4 + 1) (by omega) (y1_4 ||| (nI 0)) hm ls (lv_sub hl [0, 1, 2] rfl)
        · have hm := (if_neg c_2).symm.trans hm
          refine lv_iconst (v := nI 1) hx hb dX10_narrow_28 (by decide) ?_
          refine lv_iload_n hx hb dX10_narrow_29 rfl (lv_at hl 0 rfl) ?_
          refine lv_ishl hx hb dX10_narrow_30 ?_
          refine lv_goto (tgt := 35) hx hb dX10_narrow_31 (by decide) ?_
          refine lv_ior hx hb dX10_narrow_35 ?_
          refine lv_istore_n (lv' := [(1, .int (y1_4 ||| ((nI 1) <<< ((nI k_4) &&& 31)))), (2, .int (nI k_4)), (0, .ref a_this)]) hx hb dX10_narrow_36 rfl hl (by decide) rfl (fun ls hl => ?_)
          refine lv_iinc (v := nI (k_4 + 1)) (lv' := [(2, .int (nI (k_4 + 1))), (1, .int (y1_4 ||| ((nI 1) <<< ((nI k_4) &&& 31)))), (0, .ref a_this)]) hx hb dX10_narrow_37 hl (k := 1) rfl (nI_1 _) (by decide) rfl (fun ls hl => ?_)
          refine lv_goto (tgt := 4) hx hb dX10_narrow_40 (by decide) ?_
          exact ih (k_4 + 1) (by omega) (y1_4 ||| ((nI 1) <<< ((nI k_4) &&& 31))) hm ls (lv_sub hl [0, 1, 2] rfl)
  exact L_4 v_doors 0 (Nat.zero_add _) (nI 0) rfl ls (lv_sub hl [0, 1, 2] rfl)
theorem dX10_first_0 : decode cX10_first 0 = .ok (.iconst (-1), 1) := by decide +kernel
theorem dX10_first_1 : decode cX10_first 1 = .ok (.istore_n 1, 1) := by decide +kernel
theorem dX10_first_2 : decode cX10_first 2 = .ok (.iconst (-1), 1) := by decide +kernel
theorem dX10_first_3 : decode cX10_first 3 = .ok (.istore_n 2, 1) := by decide +kernel
theorem dX10_first_4 : decode cX10_first 4 = .ok (.iconst 0, 1) := by decide +kernel
theorem dX10_first_5 : decode cX10_first 5 = .ok (.istore_n 3, 1) := by decide +kernel
theorem dX10_first_6 : decode cX10_first 6 = .ok (.iload_n 3, 1) := by decide +kernel
theorem dX10_first_7 : decode cX10_first 7 = .ok (.aload_n 0, 1) := by decide +kernel
theorem dX10_first_8 : decode cX10_first 8 = .ok (.getfield 67, 3) := by decide +kernel
theorem dX10_first_11 : decode cX10_first 11 = .ok (.if_icmp .ge 69, 3) := by decide +kernel
theorem dX10_first_14 : decode cX10_first 14 = .ok (.aload_n 0, 1) := by decide +kernel
theorem dX10_first_15 : decode cX10_first 15 = .ok (.iload_n 3, 1) := by decide +kernel
theorem dX10_first_16 : decode cX10_first 16 = .ok (.invokevirtual 168, 3) := by decide +kernel
theorem dX10_first_19 : decode cX10_first 19 = .ok (.iconst 0, 1) := by decide +kernel
theorem dX10_first_20 : decode cX10_first 20 = .ok (.invokestatic 161, 3) := by decide +kernel
theorem dX10_first_23 : decode cX10_first 23 = .ok (.ifCond .eq 19, 3) := by decide +kernel
theorem dX10_first_26 : decode cX10_first 26 = .ok (.aload_n 0, 1) := by decide +kernel
theorem dX10_first_27 : decode cX10_first 27 = .ok (.getfield 32, 3) := by decide +kernel
theorem dX10_first_30 : decode cX10_first 30 = .ok (.iload_n 3, 1) := by decide +kernel
theorem dX10_first_31 : decode cX10_first 31 = .ok (.invokestatic 154, 3) := by decide +kernel
theorem dX10_first_34 : decode cX10_first 34 = .ok (.iload_n 2, 1) := by decide +kernel
theorem dX10_first_35 : decode cX10_first 35 = .ok (.if_icmp .le 7, 3) := by decide +kernel
theorem dX10_first_38 : decode cX10_first 38 = .ok (.iconst 1, 1) := by decide +kernel
theorem dX10_first_39 : decode cX10_first 39 = .ok (.goto 4, 3) := by decide +kernel
theorem dX10_first_42 : decode cX10_first 42 = .ok (.iconst 0, 1) := by decide +kernel
theorem dX10_first_43 : decode cX10_first 43 = .ok (.istore 4, 2) := by decide +kernel
theorem dX10_first_45 : decode cX10_first 45 = .ok (.iload 4, 2) := by decide +kernel
theorem dX10_first_47 : decode cX10_first 47 = .ok (.ifCond .eq 7, 3) := by decide +kernel
theorem dX10_first_50 : decode cX10_first 50 = .ok (.iload_n 3, 1) := by decide +kernel
theorem dX10_first_51 : decode cX10_first 51 = .ok (.goto 4, 3) := by decide +kernel
theorem dX10_first_54 : decode cX10_first 54 = .ok (.iload_n 1, 1) := by decide +kernel
theorem dX10_first_55 : decode cX10_first 55 = .ok (.istore_n 1, 1) := by decide +kernel
theorem dX10_first_56 : decode cX10_first 56 = .ok (.iload 4, 2) := by decide +kernel
theorem dX10_first_58 : decode cX10_first 58 = .ok (.ifCond .eq 14, 3) := by decide +kernel
theorem dX10_first_61 : decode cX10_first 61 = .ok (.aload_n 0, 1) := by decide +kernel
theorem dX10_first_62 : decode cX10_first 62 = .ok (.getfield 32, 3) := by decide +kernel
theorem dX10_first_65 : decode cX10_first 65 = .ok (.iload_n 3, 1) := by decide +kernel
theorem dX10_first_66 : decode cX10_first 66 = .ok (.invokestatic 154, 3) := by decide +kernel
theorem dX10_first_69 : decode cX10_first 69 = .ok (.goto 4, 3) := by decide +kernel
theorem dX10_first_72 : decode cX10_first 72 = .ok (.iload_n 2, 1) := by decide +kernel
theorem dX10_first_73 : decode cX10_first 73 = .ok (.istore_n 2, 1) := by decide +kernel
theorem dX10_first_74 : decode cX10_first 74 = .ok (.iinc 3 1, 3) := by decide +kernel
theorem dX10_first_77 : decode cX10_first 77 = .ok (.goto (-71), 3) := by decide +kernel
theorem dX10_first_80 : decode cX10_first 80 = .ok (.iload_n 1, 1) := by decide +kernel
theorem dX10_first_81 : decode cX10_first 81 = .ok (.ireturn, 1) := by decide +kernel
theorem h_X10_first : yX10_first.cls ≠ "java/lang/invoke/MethodHandle" ∧ yX10_first.cls ≠ "java/lang/invoke/VarHandle" ∧ (parseMethodDescriptor yX10_first.desc).map (fun d => d.parameters.length) = some 0 := by decide +kernel
def mX10_first_l6 (v_doors : Nat) (v_door : Nat → Int32) (v_now : Nat → Int32) (k_6 : Nat) (s : Int32 × Int32) : Int32 × Int32 := (if ((mX10_has ((mX10_comesOf v_doors v_door v_now k_6)) (nI 0))) = 0 then (s.1, s.2) else (if ((mX10_illOf v_now k_6)) ≤ s.2 then (s.1, s.2) else (nI k_6, (mX10_illOf v_now k_6))))
def mX10_first (v_doors : Nat) (v_persons : Nat) (v_door : Nat → Int32) (v_now : Nat → Int32) : Int32 := ((fun (w_6 : Int32 × Int32) => w_6.1) (iter (mX10_first_l6 v_doors v_door v_now) v_persons (((-1 : Int32), (-1 : Int32)))))
set_option maxHeartbeats 4000000 in
set_option maxRecDepth 100000 in
theorem kX10_first (l : Launch) (dC : Nat → ClassId) (dI : Nat → Nat → Nat) (cA cZ : ClassId) (a_this a_this_text a_this_readRain a_this_readDoor a_this_readPerson a_this_rain a_this_door a_this_now a_this_tried a_this_backOf a_this_image a_this_imageSeed a_this_isKept a_this_sight a_this_entry : Nat) (v_letters : Nat) (v_position : Nat) (v_tokenAt : Nat) (v_token : Int32) (v_number : Int32) (v_figures : Nat) (v_faultAt : Int32) (v_faultIs : Int32) (v_readRooms : Int32) (v_readStore : Int32) (v_readRains : Nat) (v_readDoors : Nat) (v_readPersons : Nat) (v_rooms : Int32) (v_rains : Nat) (v_doors : Nat) (v_persons : Nat) (v_backs : Nat) (v_seed : Int32) (v_seen : Nat) (v_entries : Nat) (v_door : Nat → Int32) (v_now : Nat → Int32) (hD : v_doors ≤ 10) (hPn : v_persons ≤ 6) : Met l yX10_first (Cond.code yX10_first cX10_first 5 (some .int) :: wt) ({ frames := 3, cells := 0, slots := 0, locals := 71 } : Room) (va_Pc [.ref a_this] (PreP (dC, dI) [(cA, .int), (cZ, .boolean)] [(a_this, .inr (10, [.int (nI v_letters), .ref a_this_text, .int (nI v_position), .int (nI v_tokenAt), .int v_token, .int v_number, .int (nI v_figures), .int v_faultAt, .int v_faultIs, .int v_readRooms, .int v_readStore, .int (nI v_readRains), .int (nI v_readDoors), .int (nI v_readPersons), .ref a_this_readRain, .ref a_this_readDoor, .ref a_this_readPerson, .int v_rooms, .int (nI v_rains), .int (nI v_doors), .int (nI v_persons), .ref a_this_rain, .ref a_this_door, .ref a_this_now, .ref a_this_tried, .ref a_this_backOf, .int (nI v_backs), .ref a_this_image, .ref a_this_imageSeed, .ref a_this_isKept, .int v_seed, .int (nI v_seen), .ref a_this_sight, .int (nI v_entries), .ref a_this_entry])), (a_this_door, .inl (cA, 40, .inl v_door)), (a_this_now, .inl (cA, 35, .inl v_now))])) (vp_Si (fun r => r = (mX10_first v_doors v_persons v_door v_now))) 0 0 (fun _ => False) := by
  refine Met.ofW (cc := cX10_first) (maxL := 5) (ret := (some .int)) (by decide) rfl ?_
  intro p e s m args below meth c s₁ B hml hv
  obtain ⟨ha, hP, hK⟩ := hv
  have hx := B.exec
  have hb := B.bytes
  have hr := B.returns
  have ht : ∀ w ∈ wt, w.before args s = true := fun w h => atoms_spec (ws := (Cond.code yX10_first cX10_first 5 (some .int) :: wt)) B.pre w (List.mem_cons_of_mem _ h)
  have hown : s.vm.findClass RX10 = some m.cls := findClass_of_methodNamed B.named
  have hlocks := B.notSynchronized
  have hl := lv_entry ([.ref a_this]) (n := 5) (Nat.le_of_ble_eq_true rfl)
  rw [show entryFrame m args 5 = _ from (congrArg (fun a => entryFrame m a 5) ha).trans (lg_entry_eq m [.ref a_this] 5)]
  generalize (lg_sl ([.ref a_this]) ++ List.replicate (5 - (lg_sl ([.ref a_this])).length) Slot.unset).toArray = ls at hl ⊢
  have hl : lv_has ls 5 [(0, .ref a_this)] := hl
  have hm : ((fun (w_6 : Int32 × Int32) => w_6.1) (iter (mX10_first_l6 v_doors v_door v_now) v_persons (((-1 : Int32), (-1 : Int32))))) = (mX10_first v_doors v_persons v_door v_now) := rfl
  refine lv_iconst (v := (-1 : Int32)) hx hb dX10_first_0 (by decide) ?_
  refine lv_istore_n (lv' := [(1, .int ((-1 : Int32))), (0, .ref a_this)]) hx hb dX10_first_1 rfl hl (by decide) rfl (fun ls hl => ?_)
  refine lv_iconst (v := (-1 : Int32)) hx hb dX10_first_2 (by decide) ?_
  refine lv_istore_n (lv' := [(2, .int ((-1 : Int32))), (1, .int ((-1 : Int32))), (0, .ref a_this)]) hx hb dX10_first_3 rfl hl (by decide) rfl (fun ls hl => ?_)
  refine lv_iconst (v := nI 0) hx hb dX10_first_4 (by decide) ?_
  refine lv_istore_n (lv' := [(3, .int (nI 0)), (2, .int ((-1 : Int32))), (1, .int ((-1 : Int32))), (0, .ref a_this)]) hx hb dX10_first_5 rfl hl (by decide) rfl (fun ls hl => ?_)
  have L_6 : ∀ (n_6 k_6 : Nat), k_6 + n_6 = v_persons → ∀ (y1_6 : Int32) (y2_6 : Int32), y1_6 = ((iter (mX10_first_l6 v_doors v_door v_now) k_6 (((-1 : Int32), (-1 : Int32))))).1 → y2_6 = ((iter (mX10_first_l6 v_doors v_door v_now) k_6 (((-1 : Int32), (-1 : Int32))))).2 → ∀ (ls : Array Slot), lv_has ls 5 [(3, .int (nI k_6)), (2, .int y2_6), (1, .int y1_6), (0, .ref a_this)] → W p l e (headSpec (Cond.code yX10_first cX10_first 5 (some .int) :: wt) ({ frames := 3, cells := 0, slots := 0, locals := 71 } : Room)).room s m args below meth c s.heap [] 0 0 (MQ below (vp_Si (fun r => r = (mX10_first v_doors v_persons v_door v_now))) args s 0 0 (fun _ => False)) (F0 m 6 ls []) := by
    intro n_6
    induction n_6 with
    | zero =>
      intro k_6 hk y1_6 y2_6 ex0_6 ex1_6 ls hl
      obtain rfl : v_persons = k_6 := by omega
      have he : (y1_6, y2_6) = (iter (mX10_first_l6 v_doors v_door v_now) v_persons (((-1 : Int32), (-1 : Int32)))) := by rw [ex0_6, ex1_6]
      rw [← he] at hm
      have hm : y1_6 = _ := hm
      refine lv_iload_n hx hb dX10_first_6 rfl (lv_at hl 0 rfl) ?_
      refine lv_aload_n hx hb dX10_first_7 rfl (lv_at hl 3 rfl) ?_
      refine va_get (D := (dC, dI)) (ci := 10) (v := .int (nI v_persons)) (C := RX10) (T := TX10) (N := 35) hx hb ht iX10 hown hK.1 hP 0 rfl rfl 20 (by decide) (ht _ w_4_223) (fun _ h9 => h9) rfl dX10_first_8 ?_
      refine lv_icmp_ge (tgt := 80) hx hb dX10_first_11 (by decide) (fun c_10 => ?_) (fun c_10 => ?_)
      · skip
        refine lv_iload_n hx hb dX10_first_80 rfl (lv_at hl 2 rfl) ?_
        exact W.iret (v := y1_6) hx hb hr (fun t ht9 _ => ⟨_, rfl, hm, ht9⟩) (fun q hq => absurd hq List.not_mem_nil) dX10_first_81
      · exact absurd (nI_le (by omega) (by omega)) c_10
    | succ n_6 ih =>
      intro k_6 hk y1_6 y2_6 ex0_6 ex1_6 ls hl
      have hm : (mX10_first_l6 v_doors v_door v_now) k_6 (y1_6, y2_6) = (iter (mX10_first_l6 v_doors v_door v_now) (k_6 + 1) (((-1 : Int32), (-1 : Int32)))) := by rw [ex0_6, ex1_6]; rfl
      have hm : (if ((mX10_has ((mX10_comesOf v_doors v_door v_now k_6)) (nI 0))) = 0 then (y1_6, y2_6) else (if ((mX10_illOf v_now k_6)) ≤ y2_6 then (y1_6, y2_6) else (nI k_6, (mX10_illOf v_now k_6)))) = (iter (mX10_first_l6 v_doors v_door v_now) (k_6 + 1) (((-1 : Int32), (-1 : Int32)))) := hm
      refine lv_iload_n hx hb dX10_first_6 rfl (lv_at hl 0 rfl) ?_
      refine lv_aload_n hx hb dX10_first_7 rfl (lv_at hl 3 rfl) ?_
      refine va_get (D := (dC, dI)) (ci := 10) (v := .int (nI v_persons)) (C := RX10) (T := TX10) (N := 35) hx hb ht iX10 hown hK.1 hP 0 rfl rfl 20 (by decide) (ht _ w_4_223) (fun _ h9 => h9) rfl dX10_first_8 ?_
      refine lv_icmp_ge (tgt := 80) hx hb dX10_first_11 (by decide) (fun c_1 => ?_) (fun c_1 => ?_)
      · exact absurd c_1 (nI_ge (by omega) (by omega))
      · skip
        refine lv_aload_n hx hb dX10_first_14 rfl (lv_at hl 3 rfl) ?_
        refine lv_iload_n hx hb dX10_first_15 rfl (lv_at hl 0 rfl) ?_
        refine pv_call (v := (mX10_comesOf v_doors v_door v_now k_6)) (va_runV (As := [.int (nI k_6)]) (rest := []) ⟨hx, hb, hml, hown, ht⟩ (kX10_comesOf l dC dI cA cZ a_this a_this_text a_this_readRain a_this_readDoor a_this_readPerson a_this_rain a_this_door a_this_now a_this_tried a_this_backOf a_this_image a_this_imageSeed a_this_isKept a_this_sight a_this_entry v_letters v_position v_tokenAt v_token v_number v_figures v_faultAt v_faultIs v_readRooms v_readStore v_readRains v_readDoors v_readPersons v_rooms v_rains v_doors v_persons v_backs v_seed v_seen v_entries v_door v_now k_6 (by omega) (by omega)) (cwV 1 ht (gi_V (C := RX10) w_5_138 w_5_140 w_0_29 w_1_12 (gi_code w_5_141)) rfl rfl rfl ⟨rfl, h_X10_comesOf⟩ ⟨Nat.le_of_ble_eq_true rfl, Nat.le_of_ble_eq_true rfl⟩) ⟨pp_blind, va_recv hK.1 hP (ci := 10) (q0 := 0) rfl rfl, pp_use hP hK⟩ rfl rfl hl.1 rfl (lv_room (Nat.le_of_ble_eq_true rfl)) dX10_first_16 ⟨Nat.zero_le _, Nat.zero_le _⟩) ?_
        refine lv_iconst (v := nI 0) hx hb dX10_first_19 (by decide) ?_
        refine pv_call (v := (mX10_has ((mX10_comesOf v_doors v_door v_now k_6)) (nI 0))) (va_runS (As := [.int ((mX10_comesOf v_doors v_door v_now k_6)), .int (nI 0)]) (rest := []) ⟨hx, hb, hml, hown, ht⟩ (kX10_has l dC dI cA cZ ((mX10_comesOf v_doors v_door v_now k_6)) (nI 0)) (va_cwS 2 ht (gi_S w_5_149 w_5_150 w_1_12 (gi_code w_5_151)) rfl rfl rfl h_X10_has ⟨Nat.le_of_ble_eq_true rfl, Nat.le_of_ble_eq_true rfl⟩) ⟨pp_blind, pp_use (ws := []) (fun _ _ h => by cases h) hK⟩ rfl rfl hl.1 rfl (lv_room (Nat.le_of_ble_eq_true rfl)) dX10_first_20 ⟨Nat.zero_le _, Nat.zero_le _⟩) ?_
        refine lv_if_eq (tgt := 42) hx hb dX10_first_23 (by decide) (fun c_2 => ?_) (fun c_2 => ?_)
        · have hm := (if_pos c_2).symm.trans hm
          refine lv_iconst (v := nI 0) hx hb dX10_first_42 (by decide) ?_
          refine lv_istore (lv' := [(4, .int (nI 0)), (3, .int (nI k_6)), (2, .int y2_6), (1, .int y1_6), (0, .ref a_this)]) hx hb dX10_first_43 hl (by decide) rfl (fun ls hl => ?_)
          refine lv_iload hx hb dX10_first_45 (lv_at hl 0 rfl) ?_
          refine lv_if_eq (tgt := 54) hx hb dX10_first_47 (by decide) (fun c_3 => ?_) (fun c_3 => ?_)
          · skip
            refine lv_iload_n hx hb dX10_first_54 rfl (lv_at hl 3 rfl) ?_
            refine lv_istore_n (lv' := [(1, .int y1_6), (4, .int (nI 0)), (3, .int (nI k_6)), (2, .int y2_6), (0, .ref a_this)]) hx hb dX10_first_55 rfl hl (by decide) rfl (fun ls hl => ?_)
            refine lv_iload hx hb dX10_first_56 (lv_at hl 1 rfl) ?_
            refine lv_if_eq (tgt := 72) hx hb dX10_first_58 (by decide) (fun c_4 => ?_) (fun c_4 => ?_)
            · skip
              refine lv_iload_n hx hb dX10_first_72 rfl (lv_at hl 3 rfl) ?_
              refine lv_istore_n (lv' := [(2, .int y2_6), (1, .int y1_6), (4, .int (nI 0)), (3, .int (nI k_6)), (0, .ref a_this)]) hx hb dX10_first_73 rfl hl (by decide) rfl (fun ls hl => ?_)
              refine lv_iinc (v := nI (k_6 + 1)) (lv' := [(3, .int (nI (k_6 + 1))), (2, .int y2_6), (1, .int y1_6), (4, .int (nI 0)), (0, .ref a_this)]) hx hb dX10_first_74 hl (k := 3) rfl (nI_1 _) (by decide) rfl (fun ls hl => ?_)
              refine lv_goto (tgt := 6) hx hb dX10_first_77 (by decide) ?_
              exact ih (k_6 + 1) (by omega) y1_6 y2_6 (congrArg (fun z => z.1) hm) (congrArg (fun z => z.2) hm) ls (lv_sub hl [0, 1, 2, 4] rfl)
            · exact absurd c_4 (by decide)
          · exact absurd c_3 (by decide)
        · have hm := (if_neg c_2).symm.trans hm
          refine lv_aload_n hx hb dX10_first_26 rfl (lv_at hl 3 rfl) ?_
          refine va_get (D := (dC, dI)) (ci := 10) (v := .ref a_this_now) (C := RX10) (T := TX10) (N := 35) hx hb ht iX10 hown hK.1 hP 0 rfl rfl 23 (by decide) (ht _ w_4_226) (fun _ h9 => h9) rfl dX10_first_27 ?_
          refine lv_iload_n hx hb dX10_first_30 rfl (lv_at hl 0 rfl) ?_
          refine pv_call (v := (mX10_illOf v_now k_6)) (va_runS (As := [.ref a_this_now, .int (nI k_6)]) (rest := []) ⟨hx, hb, hml, hown, ht⟩ (kX10_illOf l dC dI cA cZ a_this_now v_now k_6 (by omega)) (va_cwS 2 ht (gi_S w_5_142 w_5_143 w_1_12 (gi_code w_5_144)) rfl rfl rfl h_X10_illOf ⟨Nat.le_of_ble_eq_true rfl, Nat.le_of_ble_eq_true rfl⟩) ⟨pp_blind, pp_use (pc_sub (wc := [(a_this_now, .inl (cA, 35, .inl v_now))]) hP [2] rfl) hK⟩ rfl rfl hl.1 rfl (lv_room (Nat.le_of_ble_eq_true rfl)) dX10_first_31 ⟨Nat.zero_le _, Nat.zero_le _⟩) ?_
          refine lv_iload_n hx hb dX10_first_34 rfl (lv_at hl 1 rfl) ?_
          refine lv_icmp_le (tgt := 42) hx hb dX10_first_35 (by decide) (fun c_5 => ?_) (fun c_5 => ?_)
          · have hm := (if_pos c_5).symm.trans hm
            refine lv_iconst (v := nI 0) hx hb dX10_first_42 (by decide) ?_
            refine lv_istore (lv' := [(4, .int (nI 0)), (3, .int (nI k_6)), (2, .int y2_6), (1, .int y1_6), (0, .ref a_this)]) hx hb dX10_first_43 hl (by decide) rfl (fun ls hl => ?_)
            refine lv_iload hx hb dX10_first_45 (lv_at hl 0 rfl) ?_
            refine lv_if_eq (tgt := 54) hx hb dX10_first_47 (by decide) (fun c_6 => ?_) (fun c_6 => ?_)
            · skip
              refine lv_iload_n hx hb dX10_first_54 rfl (lv_at hl 3 rfl) ?_
              refine lv_istore_n (lv' := [(1, .int y1_6), (4, .int (nI 0)), (3, .int (nI k_6)), (2, .int y2_6), (0, .ref a_this)]) hx hb dX10_first_55 rfl hl (by decide) rfl (fun ls hl => ?_)
              refine lv_iload hx hb dX10_first_56 (lv_at hl 1 rfl) ?_
              refine lv_if_eq (tgt := 72) hx hb dX10_first_58 (by decide) (fun c_7 => ?_) (fun c_7 => ?_)
              · skip
                refine lv_iload_n hx hb dX10_first_72 rfl (lv_at hl 3 rfl) ?_
                refine lv_istore_n (lv' := [(2, .int y2_6), (1, .int y1_6), (4, .int (nI 0)), (3, .int (nI k_6)), (0, .ref a_this)]) hx hb dX10_first_73 rfl hl (by decide) rfl (fun ls hl => ?_)
                refine lv_iinc (v := nI (k_6 + 1)) (lv' := [(3, .int (nI (k_6 + 1))), (2, .int y2_6), (1, .int y1_6), (4, .int (nI 0)), (0, .ref a_this)]) hx hb dX10_first_74 hl (k := 3) rfl (nI_1 _) (by decide) rfl (fun ls hl => ?_)
                refine lv_goto (tgt := 6) hx hb dX10_first_77 (by decide) ?_
                exact ih (k_6 + 1) (by omega) y1_6 y2_6 (congrArg (fun z => z.1) hm) (congrArg (fun z => z.2) hm) ls (lv_sub hl [0, 1, 2, 4] rfl)
              · exact absurd c_7 (by decide)
            · exact absurd c_6 (by decide)
          · have hm := (if_neg c_5).symm.trans hm
            refine lv_iconst (v := nI 1) hx hb dX10_first_38 (by decide) ?_
            refine lv_goto (tgt := 43) hx hb dX10_first_39 (by decide) ?_
            refine lv_istore (lv' := [(4, .int (nI 1)), (3, .int (nI k_6)), (2, .int y2_6), (1, .int y1_6), (0, .ref a_this)]) hx hb dX10_first_43 hl (by decide) rfl (fun ls hl => ?_)
            refine lv_iload hx hb dX10_first_45 (lv_at hl 0 rfl) ?_
            refine lv_if_eq (tgt := 54) hx hb dX10_first_47 (by decide) (fun c_8 => ?_) (fun c_8 => ?_)
            · exact absurd c_8 (by decide)
            · skip
              refine lv_iload_n hx hb dX10_first_50 rfl (lv_at hl 1 rfl) ?_
              refine lv_goto (tgt := 55) hx hb dX10_first_51 (by decide) ?_
              refine lv_istore_n (lv' := [(1, .int (nI k_6)), (4, .int (nI 1)), (3, .int (nI k_6)), (2, .int y2_6), (0, .ref a_this)]) hx hb dX10_first_55 rfl hl (by decide) rfl (fun ls hl => ?_)
              refine lv_iload hx hb dX10_first_56 (lv_at hl 1 rfl) ?_
              refine lv_if_eq (tgt := 72) hx hb dX10_first_58 (by decide) (fun c_9 => ?_) (fun c_9 => ?_)
              · exact absurd c_9 (by decide)
              · skip
                refine lv_aload_n hx hb dX10_first_61 rfl (lv_at hl 4 rfl) ?_
                refine va_get (D := (dC, dI)) (ci := 10) (v := .ref a_this_now) (C := RX10) (T := TX10) (N := 35) hx hb ht iX10 hown hK.1 hP 0 rfl rfl 23 (by decide) (ht _ w_4_226) (fun _ h9 => h9) rfl dX10_first_62 ?_
                refine lv_iload_n hx hb dX10_first_65 rfl (lv_at hl 2 rfl) ?_
                refine pv_call (v := (mX10_illOf v_now k_6)) (va_runS (As := [.ref a_this_now, .int (nI k_6)]) (rest := []) ⟨hx, hb, hml, hown, ht⟩ (kX10_illOf l dC dI cA cZ a_this_now v_now k_6 (by omega)) (va_cwS 2 ht (gi_S w_5_142 w_5_143 w_1_12 (gi_code w_5_144)) rfl rfl rfl h_X10_illOf ⟨Nat.le_of_ble_eq_true rfl, Nat.le_of_ble_eq_true rfl⟩) ⟨pp_blind, pp_use (pc_sub (wc := [(a_this_now, .inl (cA, 35, .inl v_now))]) hP [2] rfl) hK⟩ rfl rfl hl.1 rfl (lv_room (Nat.le_of_ble_eq_true rfl)) dX10_first_66 ⟨Nat.zero_le _, Nat.zero_le _⟩) ?_
                refine lv_goto (tgt := 73) hx hb dX10_first_69 (by decide) ?_
                refine lv_istore_n (lv' := [(2, .int ((mX10_illOf v_now k_6))), (1, .int (nI k_6)), (4, .int (nI 1)), (3, .int (nI k_6)), (0, .ref a_this)]) hx hb dX10_first_73 rfl hl (by decide) rfl (fun ls hl => ?_)
                refine lv_iinc (v := nI (k_6 + 1)) (lv' := [(3, .int (nI (k_6 + 1))), (2, .int ((mX10_illOf v_now k_6))), (1, .int (nI k_6)), (4, .int (nI 1)), (0, .ref a_this)]) hx hb dX10_first_74 hl (k := 3) rfl (nI_1 _) (by decide) rfl (fun ls hl => ?_)
                refine lv_goto (tgt := 6) hx hb dX10_first_77 (by decide) ?_
                exact ih (k_6 + 1) (by omega) (nI k_6) ((mX10_illOf v_now k_6)) (congrArg (fun z => z.1) hm) (congrArg (fun z => z.2) hm) ls (lv_sub hl [0, 1, 2, 4] rfl)
  exact L_6 v_persons 0 (Nat.zero_add _) ((-1 : Int32)) ((-1 : Int32)) rfl rfl ls (lv_sub hl [0, 1, 2, 3] rfl)
