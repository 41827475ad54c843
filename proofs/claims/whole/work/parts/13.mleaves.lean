theorem dX10_in_0 : decode cX10_in 0 = .ok (.iload_n 0, 1) := by decide +kernel
theorem dX10_in_1 : decode cX10_in 1 = .ok (.iload_n 1, 1) := by decide +kernel
theorem dX10_in_2 : decode cX10_in 2 = .ok (.if_icmp .lt 12, 3) := by decide +kernel
theorem dX10_in_5 : decode cX10_in 5 = .ok (.iload_n 0, 1) := by decide +kernel
theorem dX10_in_6 : decode cX10_in 6 = .ok (.iload_n 2, 1) := by decide +kernel
theorem dX10_in_7 : decode cX10_in 7 = .ok (.if_icmp .gt 7, 3) := by decide +kernel
theorem dX10_in_10 : decode cX10_in 10 = .ok (.iconst 1, 1) := by decide +kernel
theorem dX10_in_11 : decode cX10_in 11 = .ok (.goto 4, 3) := by decide +kernel
theorem dX10_in_14 : decode cX10_in 14 = .ok (.iconst 0, 1) := by decide +kernel
theorem dX10_in_15 : decode cX10_in 15 = .ok (.ireturn, 1) := by decide +kernel
theorem h_X10_in : yX10_in.cls ≠ "java/lang/invoke/MethodHandle" ∧ yX10_in.cls ≠ "java/lang/invoke/VarHandle" ∧ (parseMethodDescriptor yX10_in.desc).map (fun d => d.parameters.length) = some 3 := by decide +kernel
def mX10_in (x0 : Int32) (x1 : Int32) (x2 : Int32) : Int32 := (if x0 < x1 then (0 : Int32) else (if x2 < x0 then (0 : Int32) else (1 : Int32)))
set_option maxHeartbeats 4000000 in
set_option maxRecDepth 100000 in
theorem kX10_in (l : Launch) (dC : Nat → ClassId) (dI : Nat → Nat → Nat) (cA cZ : ClassId) (x0 : Int32) (x1 : Int32) (x2 : Int32) : Met l yX10_in (Cond.code yX10_in cX10_in 3 (some .boolean) :: wt) ({ frames := 0, cells := 0, slots := 0, locals := 0 } : Room) (va_Pc [.int x0, .int x1, .int x2] (PreP (dC, dI) [(cA, .int), (cZ, .boolean)] [])) (vp_Si (fun r => r = (mX10_in x0 x1 x2))) 0 0 (fun _ => False) := by
  refine Met.ofW (cc := cX10_in) (maxL := 3) (ret := (some .boolean)) (by decide) rfl ?_
  intro p e s m args below meth c s₁ B hml hv
  obtain ⟨ha, hP, hK⟩ := hv
  have hx := B.exec
  have hb := B.bytes
  have hr := B.returns
  have ht : ∀ w ∈ wt, w.before args s = true := fun w h => atoms_spec (ws := (Cond.code yX10_in cX10_in 3 (some .boolean) :: wt)) B.pre w (List.mem_cons_of_mem _ h)
  have hown : s.vm.findClass RX10 = some m.cls := findClass_of_methodNamed B.named
  have hlocks := B.notSynchronized
  have hl := lv_entry ([.int x0, .int x1, .int x2]) (n := 3) (Nat.le_of_ble_eq_true rfl)
  rw [show entryFrame m args 3 = _ from (congrArg (fun a => entryFrame m a 3) ha).trans (lg_entry_eq m [.int x0, .int x1, .int x2] 3)]
  generalize (lg_sl ([.int x0, .int x1, .int x2]) ++ List.replicate (3 - (lg_sl ([.int x0, .int x1, .int x2])).length) Slot.unset).toArray = ls at hl ⊢
  have hl : lv_has ls 3 [(0, .int x0), (1, .int x1), (2, .int x2)] := hl
  have hm : (if x0 < x1 then (0 : Int32) else (if x2 < x0 then (0 : Int32) else (1 : Int32))) = (mX10_in x0 x1 x2) := rfl
  refine lv_iload_n hx hb dX10_in_0 rfl (lv_at hl 0 rfl) ?_
  refine lv_iload_n hx hb dX10_in_1 rfl (lv_at hl 1 rfl) ?_
  refine lv_icmp_lt (tgt := 14) hx hb dX10_in_2 (by decide) (fun c_1 => ?_) (fun c_1 => ?_)
  · have hm := (if_pos c_1).symm.trans hm
    refine lv_iconst (v := (0 : Int32)) hx hb dX10_in_14 (by decide) ?_
    exact W.zret (v := (0 : Int32)) (ty := .boolean) hx hb hr rfl (fun t ht9 _ => ⟨_, rfl, hm, ht9⟩) (fun q hq => absurd hq List.not_mem_nil) dX10_in_15
  · have hm := (if_neg c_1).symm.trans hm
    refine lv_iload_n hx hb dX10_in_5 rfl (lv_at hl 0 rfl) ?_
    refine lv_iload_n hx hb dX10_in_6 rfl (lv_at hl 2 rfl) ?_
    refine lv_icmp_gt (tgt := 14) hx hb dX10_in_7 (by decide) (fun c_2 => ?_) (fun c_2 => ?_)
    · have hm := (if_pos c_2).symm.trans hm
      refine lv_iconst (v := (0 : Int32)) hx hb dX10_in_14 (by decide) ?_
      exact W.zret (v := (0 : Int32)) (ty := .boolean) hx hb hr rfl (fun t ht9 _ => ⟨_, rfl, hm, ht9⟩) (fun q hq => absurd hq List.not_mem_nil) dX10_in_15
    · have hm := (if_neg c_2).symm.trans hm
      refine lv_iconst (v := (1 : Int32)) hx hb dX10_in_10 (by decide) ?_
      refine lv_goto (tgt := 15) hx hb dX10_in_11 (by decide) ?_
      exact W.zret (v := (1 : Int32)) (ty := .boolean) hx hb hr rfl (fun t ht9 _ => ⟨_, rfl, hm, ht9⟩) (fun q hq => absurd hq List.not_mem_nil) dX10_in_15
theorem zX10_in (x0 : Int32) (x1 : Int32) (x2 : Int32) : narrow .boolean (.int (mX10_in x0 x1 x2)) = .int (mX10_in x0 x1 x2) := by
  unfold mX10_in
  repeat' split
  all_goals first | rfl
theorem dX10_has_0 : decode cX10_has 0 = .ok (.iload_n 0, 1) := by decide +kernel
theorem dX10_has_1 : decode cX10_has 1 = .ok (.iload_n 1, 1) := by decide +kernel
theorem dX10_has_2 : decode cX10_has 2 = .ok (.ishr, 1) := by decide +kernel
theorem dX10_has_3 : decode cX10_has 3 = .ok (.iconst 1, 1) := by decide +kernel
theorem dX10_has_4 : decode cX10_has 4 = .ok (.iand, 1) := by decide +kernel
theorem dX10_has_5 : decode cX10_has 5 = .ok (.iconst 1, 1) := by decide +kernel
theorem dX10_has_6 : decode cX10_has 6 = .ok (.if_icmp .ne 7, 3) := by decide +kernel
theorem dX10_has_9 : decode cX10_has 9 = .ok (.iconst 1, 1) := by decide +kernel
theorem dX10_has_10 : decode cX10_has 10 = .ok (.goto 4, 3) := by decide +kernel
theorem dX10_has_13 : decode cX10_has 13 = .ok (.iconst 0, 1) := by decide +kernel
theorem dX10_has_14 : decode cX10_has 14 = .ok (.ireturn, 1) := by decide +kernel
theorem h_X10_has : yX10_has.cls ≠ "java/lang/invoke/MethodHandle" ∧ yX10_has.cls ≠ "java/lang/invoke/VarHandle" ∧ (parseMethodDescriptor yX10_has.desc).map (fun d => d.parameters.length) = some 2 := by decide +kernel
def mX10_has (x0 : Int32) (x1 : Int32) : Int32 := (if ((x0 >>> (x1 &&& 31)) &&& ((1 : Int32))) = ((1 : Int32)) then (1 : Int32) else (0 : Int32))
set_option maxHeartbeats 4000000 in
set_option maxRecDepth 100000 in
theorem kX10_has (l : Launch) (dC : Nat → ClassId) (dI : Nat → Nat → Nat) (cA cZ : ClassId) (x0 : Int32) (x1 : Int32) : Met l yX10_has (Cond.code yX10_has cX10_has 2 (some .boolean) :: wt) ({ frames := 0, cells := 0, slots := 0, locals := 0 } : Room) (va_Pc [.int x0, .int x1] (PreP (dC, dI) [(cA, .int), (cZ, .boolean)] [])) (vp_Si (fun r => r = (mX10_has x0 x1))) 0 0 (fun _ => False) := by
  refine Met.ofW (cc := cX10_has) (maxL := 2) (ret := (some .boolean)) (by decide) rfl ?_
  intro p e s m args below meth c s₁ B hml hv
  obtain ⟨ha, hP, hK⟩ := hv
  have hx := B.exec
  have hb := B.bytes
  have hr := B.returns
  have ht : ∀ w ∈ wt, w.before args s = true := fun w h => atoms_spec (ws := (Cond.code yX10_has cX10_has 2 (some .boolean) :: wt)) B.pre w (List.mem_cons_of_mem _ h)
  have hown : s.vm.findClass RX10 = some m.cls := findClass_of_methodNamed B.named
  have hlocks := B.notSynchronized
  have hl := lv_entry ([.int x0, .int x1]) (n := 2) (Nat.le_of_ble_eq_true rfl)
  rw [show entryFrame m args 2 = _ from (congrArg (fun a => entryFrame m a 2) ha).trans (lg_entry_eq m [.int x0, .int x1] 2)]
  generalize (lg_sl ([.int x0, .int x1]) ++ List.replicate (2 - (lg_sl ([.int x0, .int x1])).length) Slot.unset).toArray = ls at hl ⊢
  have hl : lv_has ls 2 [(0, .int x0), (1, .int x1)] := hl
  have hm : (if ((x0 >>> (x1 &&& 31)) &&& ((1 : Int32))) = ((1 : Int32)) then (1 : Int32) else (0 : Int32)) = (mX10_has x0 x1) := rfl
  refine lv_iload_n hx hb dX10_has_0 rfl (lv_at hl 0 rfl) ?_
  refine lv_iload_n hx hb dX10_has_1 rfl (lv_at hl 1 rfl) ?_
  refine lv_ishr hx hb dX10_has_2 ?_
  refine lv_iconst (v := (1 : Int32)) hx hb dX10_has_3 (by decide) ?_
  refine lv_iand hx hb dX10_has_4 ?_
  refine lv_iconst (v := (1 : Int32)) hx hb dX10_has_5 (by decide) ?_
  refine lv_icmp_ne (tgt := 13) hx hb dX10_has_6 (by decide) (fun c_1 => ?_) (fun c_1 => ?_)
  · have hm := (if_neg c_1).symm.trans hm
    refine lv_iconst (v := (0 : Int32)) hx hb dX10_has_13 (by decide) ?_
    exact W.zret (v := (0 : Int32)) (ty := .boolean) hx hb hr rfl (fun t ht9 _ => ⟨_, rfl, hm, ht9⟩) (fun q hq => absurd hq List.not_mem_nil) dX10_has_14
  · have hm := (if_pos c_1).symm.trans hm
    refine lv_iconst (v := (1 : Int32)) hx hb dX10_has_9 (by decide) ?_
    refine lv_goto (tgt := 14) hx hb dX10_has_10 (by decide) ?_
    exact W.zret (v := (1 : Int32)) (ty := .boolean) hx hb hr rfl (fun t ht9 _ => ⟨_, rfl, hm, ht9⟩) (fun q hq => absurd hq List.not_mem_nil) dX10_has_14
theorem zX10_has (x0 : Int32) (x1 : Int32) : narrow .boolean (.int (mX10_has x0 x1)) = .int (mX10_has x0 x1) := by
  unfold mX10_has
  repeat' split
  all_goals first | rfl
theorem dX10_stopsBy_0 : decode cX10_stopsBy 0 = .ok (.iload_n 0, 1) := by decide +kernel
theorem dX10_stopsBy_1 : decode cX10_stopsBy 1 = .ok (.ifCond .le 19, 3) := by decide +kernel
theorem dX10_stopsBy_4 : decode cX10_stopsBy 4 = .ok (.iload_n 1, 1) := by decide +kernel
theorem dX10_stopsBy_5 : decode cX10_stopsBy 5 = .ok (.ifCond .le 15, 3) := by decide +kernel
theorem dX10_stopsBy_8 : decode cX10_stopsBy 8 = .ok (.iload_n 0, 1) := by decide +kernel
theorem dX10_stopsBy_9 : decode cX10_stopsBy 9 = .ok (.iload_n 1, 1) := by decide +kernel
theorem dX10_stopsBy_10 : decode cX10_stopsBy 10 = .ok (.iadd, 1) := by decide +kernel
theorem dX10_stopsBy_11 : decode cX10_stopsBy 11 = .ok (.bipush 10, 2) := by decide +kernel
theorem dX10_stopsBy_13 : decode cX10_stopsBy 13 = .ok (.if_icmp .lt 7, 3) := by decide +kernel
theorem dX10_stopsBy_16 : decode cX10_stopsBy 16 = .ok (.iconst 1, 1) := by decide +kernel
theorem dX10_stopsBy_17 : decode cX10_stopsBy 17 = .ok (.goto 4, 3) := by decide +kernel
theorem dX10_stopsBy_20 : decode cX10_stopsBy 20 = .ok (.iconst 0, 1) := by decide +kernel
theorem dX10_stopsBy_21 : decode cX10_stopsBy 21 = .ok (.ireturn, 1) := by decide +kernel
theorem h_X10_stopsBy : yX10_stopsBy.cls ≠ "java/lang/invoke/MethodHandle" ∧ yX10_stopsBy.cls ≠ "java/lang/invoke/VarHandle" ∧ (parseMethodDescriptor yX10_stopsBy.desc).map (fun d => d.parameters.length) = some 2 := by decide +kernel
def mX10_stopsBy (x0 : Int32) (x1 : Int32) : Int32 := (if x0 ≤ 0 then (0 : Int32) else (if x1 ≤ 0 then (0 : Int32) else (if (x0 + x1) < ((10 : Int32)) then (0 : Int32) else (1 : Int32))))
set_option maxHeartbeats 4000000 in
set_option maxRecDepth 100000 in
theorem kX10_stopsBy (l : Launch) (dC : Nat → ClassId) (dI : Nat → Nat → Nat) (cA cZ : ClassId) (x0 : Int32) (x1 : Int32) : Met l yX10_stopsBy (Cond.code yX10_stopsBy cX10_stopsBy 2 (some .boolean) :: wt) ({ frames := 0, cells := 0, slots := 0, locals := 0 } : Room) (va_Pc [.int x0, .int x1] (PreP (dC, dI) [(cA, .int), (cZ, .boolean)] [])) (vp_Si (fun r => r = (mX10_stopsBy x0 x1))) 0 0 (fun _ => False) := by
  refine Met.ofW (cc := cX10_stopsBy) (maxL := 2) (ret := (some .boolean)) (by decide) rfl ?_
  intro p e s m args below meth c s₁ B hml hv
  obtain ⟨ha, hP, hK⟩ := hv
  have hx := B.exec
  have hb := B.bytes
  have hr := B.returns
  have ht : ∀ w ∈ wt, w.before args s = true := fun w h => atoms_spec (ws := (Cond.code yX10_stopsBy cX10_stopsBy 2 (some .boolean) :: wt)) B.pre w (List.mem_cons_of_mem _ h)
  have hown : s.vm.findClass RX10 = some m.cls := findClass_of_methodNamed B.named
  have hlocks := B.notSynchronized
  have hl := lv_entry ([.int x0, .int x1]) (n := 2) (Nat.le_of_ble_eq_true rfl)
  rw [show entryFrame m args 2 = _ from (congrArg (fun a => entryFrame m a 2) ha).trans (lg_entry_eq m [.int x0, .int x1] 2)]
  generalize (lg_sl ([.int x0, .int x1]) ++ List.replicate (2 - (lg_sl ([.int x0, .int x1])).length) Slot.unset).toArray = ls at hl ⊢
  have hl : lv_has ls 2 [(0, .int x0), (1, .int x1)] := hl
  have hm : (if x0 ≤ 0 then (0 : Int32) else (if x1 ≤ 0 then (0 : Int32) else (if (x0 + x1) < ((10 : Int32)) then (0 : Int32) else (1 : Int32)))) = (mX10_stopsBy x0 x1) := rfl
  refine lv_iload_n hx hb dX10_stopsBy_0 rfl (lv_at hl 0 rfl) ?_
  refine lv_if_le (tgt := 20) hx hb dX10_stopsBy_1 (by decide) (fun c_1 => ?_) (fun c_1 => ?_)
  · have hm := (if_pos c_1).symm.trans hm
    refine lv_iconst (v := (0 : Int32)) hx hb dX10_stopsBy_20 (by decide) ?_
    exact W.zret (v := (0 : Int32)) (ty := .boolean) hx hb hr rfl (fun t ht9 _ => ⟨_, rfl, hm, ht9⟩) (fun q hq => absurd hq List.not_mem_nil) dX10_stopsBy_21
  · have hm := (if_neg c_1).symm.trans hm
    refine lv_iload_n hx hb dX10_stopsBy_4 rfl (lv_at hl 1 rfl) ?_
    refine lv_if_le (tgt := 20) hx hb dX10_stopsBy_5 (by decide) (fun c_2 => ?_) (fun c_2 => ?_)
    · have hm := (if_pos c_2).symm.trans hm
      refine lv_iconst (v := (0 : Int32)) hx hb dX10_stopsBy_20 (by decide) ?_
      exact W.zret (v := (0 : Int32)) (ty := .boolean) hx hb hr rfl (fun t ht9 _ => ⟨_, rfl, hm, ht9⟩) (fun q hq => absurd hq List.not_mem_nil) dX10_stopsBy_21
    · have hm := (if_neg c_2).symm.trans hm
      refine lv_iload_n hx hb dX10_stopsBy_8 rfl (lv_at hl 0 rfl) ?_
      refine lv_iload_n hx hb dX10_stopsBy_9 rfl (lv_at hl 1 rfl) ?_
      refine lv_iadd hx hb dX10_stopsBy_10 ?_
      refine lv_bipush (v := (10 : Int32)) hx hb dX10_stopsBy_11 (by decide) ?_
      refine lv_icmp_lt (tgt := 20) hx hb dX10_stopsBy_13 (by decide) (fun c_3 => ?_) (fun c_3 => ?_)
      · have hm := (if_pos c_3).symm.trans hm
        refine lv_iconst (v := (0 : Int32)) hx hb dX10_stopsBy_20 (by decide) ?_
        exact W.zret (v := (0 : Int32)) (ty := .boolean) hx hb hr rfl (fun t ht9 _ => ⟨_, rfl, hm, ht9⟩) (fun q hq => absurd hq List.not_mem_nil) dX10_stopsBy_21
      · have hm := (if_neg c_3).symm.trans hm
        refine lv_iconst (v := (1 : Int32)) hx hb dX10_stopsBy_16 (by decide) ?_
        refine lv_goto (tgt := 21) hx hb dX10_stopsBy_17 (by decide) ?_
        exact W.zret (v := (1 : Int32)) (ty := .boolean) hx hb hr rfl (fun t ht9 _ => ⟨_, rfl, hm, ht9⟩) (fun q hq => absurd hq List.not_mem_nil) dX10_stopsBy_21
theorem zX10_stopsBy (x0 : Int32) (x1 : Int32) : narrow .boolean (.int (mX10_stopsBy x0 x1)) = .int (mX10_stopsBy x0 x1) := by
  unfold mX10_stopsBy
  repeat' split
  all_goals first | rfl
theorem dX10_lessBy_0 : decode cX10_lessBy 0 = .ok (.iload_n 0, 1) := by decide +kernel
theorem dX10_lessBy_1 : decode cX10_lessBy 1 = .ok (.iload_n 1, 1) := by decide +kernel
theorem dX10_lessBy_2 : decode cX10_lessBy 2 = .ok (.if_icmp .le 9, 3) := by decide +kernel
theorem dX10_lessBy_5 : decode cX10_lessBy 5 = .ok (.iload_n 0, 1) := by decide +kernel
theorem dX10_lessBy_6 : decode cX10_lessBy 6 = .ok (.iload_n 1, 1) := by decide +kernel
theorem dX10_lessBy_7 : decode cX10_lessBy 7 = .ok (.isub, 1) := by decide +kernel
theorem dX10_lessBy_8 : decode cX10_lessBy 8 = .ok (.goto 4, 3) := by decide +kernel
theorem dX10_lessBy_11 : decode cX10_lessBy 11 = .ok (.iconst 0, 1) := by decide +kernel
theorem dX10_lessBy_12 : decode cX10_lessBy 12 = .ok (.ireturn, 1) := by decide +kernel
theorem h_X10_lessBy : yX10_lessBy.cls ≠ "java/lang/invoke/MethodHandle" ∧ yX10_lessBy.cls ≠ "java/lang/invoke/VarHandle" ∧ (parseMethodDescriptor yX10_lessBy.desc).map (fun d => d.parameters.length) = some 2 := by decide +kernel
def mX10_lessBy (x0 : Int32) (x1 : Int32) : Int32 := (if x0 ≤ x1 then (0 : Int32) else x0 - x1)
set_option maxHeartbeats 4000000 in
set_option maxRecDepth 100000 in
theorem kX10_lessBy (l : Launch) (dC : Nat → ClassId) (dI : Nat → Nat → Nat) (cA cZ : ClassId) (x0 : Int32) (x1 : Int32) : Met l yX10_lessBy (Cond.code yX10_lessBy cX10_lessBy 2 (some .int) :: wt) ({ frames := 0, cells := 0, slots := 0, locals := 0 } : Room) (va_Pc [.int x0, .int x1] (PreP (dC, dI) [(cA, .int), (cZ, .boolean)] [])) (vp_Si (fun r => r = (mX10_lessBy x0 x1))) 0 0 (fun _ => False) := by
  refine Met.ofW (cc := cX10_lessBy) (maxL := 2) (ret := (some .int)) (by decide) rfl ?_
  intro p e s m args below meth c s₁ B hml hv
  obtain ⟨ha, hP, hK⟩ := hv
  have hx := B.exec
  have hb := B.bytes
  have hr := B.returns
  have ht : ∀ w ∈ wt, w.before args s = true := fun w h => atoms_spec (ws := (Cond.code yX10_lessBy cX10_lessBy 2 (some .int) :: wt)) B.pre w (List.mem_cons_of_mem _ h)
  have hown : s.vm.findClass RX10 = some m.cls := findClass_of_methodNamed B.named
  have hlocks := B.notSynchronized
  have hl := lv_entry ([.int x0, .int x1]) (n := 2) (Nat.le_of_ble_eq_true rfl)
  rw [show entryFrame m args 2 = _ from (congrArg (fun a => entryFrame m a 2) ha).trans (lg_entry_eq m [.int x0, .int x1] 2)]
  generalize (lg_sl ([.int x0, .int x1]) ++ List.replicate (2 - (lg_sl ([.int x0, .int x1])).length) Slot.unset).toArray = ls at hl ⊢
  have hl : lv_has ls 2 [(0, .int x0), (1, .int x1)] := hl
  have hm : (if x0 ≤ x1 then (0 : Int32) else x0 - x1) = (mX10_lessBy x0 x1) := rfl
  refine lv_iload_n hx hb dX10_lessBy_0 rfl (lv_at hl 0 rfl) ?_
  refine lv_iload_n hx hb dX10_lessBy_1 rfl (lv_at hl 1 rfl) ?_
  refine lv_icmp_le (tgt := 11) hx hb dX10_lessBy_2 (by decide) (fun c_1 => ?_) (fun c_1 => ?_)
  · have hm := (if_pos c_1).symm.trans hm
    refine lv_iconst (v := (0 : Int32)) hx hb dX10_lessBy_11 (by decide) ?_
    exact W.iret (v := (0 : Int32)) hx hb hr (fun t ht9 _ => ⟨_, rfl, hm, ht9⟩) (fun q hq => absurd hq List.not_mem_nil) dX10_lessBy_12
  · have hm := (if_neg c_1).symm.trans hm
    refine lv_iload_n hx hb dX10_lessBy_5 rfl (lv_at hl 0 rfl) ?_
    refine lv_iload_n hx hb dX10_lessBy_6 rfl (lv_at hl 1 rfl) ?_
    refine lv_isub hx hb dX10_lessBy_7 ?_
    refine lv_goto (tgt := 12) hx hb dX10_lessBy_8 (by decide) ?_
    exact W.iret (v := x0 - x1) hx hb hr (fun t ht9 _ => ⟨_, rfl, hm, ht9⟩) (fun q hq => absurd hq List.not_mem_nil) dX10_lessBy_12
theorem dX10_capped_0 : decode cX10_capped 0 = .ok (.iload_n 0, 1) := by decide +kernel
theorem dX10_capped_1 : decode cX10_capped 1 = .ok (.sipush 999, 3) := by decide +kernel
theorem dX10_capped_4 : decode cX10_capped 4 = .ok (.if_icmp .le 9, 3) := by decide +kernel
theorem dX10_capped_7 : decode cX10_capped 7 = .ok (.sipush 999, 3) := by decide +kernel
theorem dX10_capped_10 : decode cX10_capped 10 = .ok (.goto 4, 3) := by decide +kernel
theorem dX10_capped_13 : decode cX10_capped 13 = .ok (.iload_n 0, 1) := by decide +kernel
theorem dX10_capped_14 : decode cX10_capped 14 = .ok (.ireturn, 1) := by decide +kernel
theorem h_X10_capped : yX10_capped.cls ≠ "java/lang/invoke/MethodHandle" ∧ yX10_capped.cls ≠ "java/lang/invoke/VarHandle" ∧ (parseMethodDescriptor yX10_capped.desc).map (fun d => d.parameters.length) = some 1 := by decide +kernel
def mX10_capped (x0 : Int32) : Int32 := (if x0 ≤ ((999 : Int32)) then x0 else (999 : Int32))
set_option maxHeartbeats 4000000 in
set_option maxRecDepth 100000 in
theorem kX10_capped (l : Launch) (dC : Nat → ClassId) (dI : Nat → Nat → Nat) (cA cZ : ClassId) (x0 : Int32) : Met l yX10_capped (Cond.code yX10_capped cX10_capped 1 (some .int) :: wt) ({ frames := 0, cells := 0, slots := 0, locals := 0 } : Room) (va_Pc [.int x0] (PreP (dC, dI) [(cA, .int), (cZ, .boolean)] [])) (vp_Si (fun r => r = (mX10_capped x0))) 0 0 (fun _ => False) := by
  refine Met.ofW (cc := cX10_capped) (maxL := 1) (ret := (some .int)) (by decide) rfl ?_
  intro p e s m args below meth c s₁ B hml hv
  obtain ⟨ha, hP, hK⟩ := hv
  have hx := B.exec
  have hb := B.bytes
  have hr := B.returns
  have ht : ∀ w ∈ wt, w.before args s = true := fun w h => atoms_spec (ws := (Cond.code yX10_capped cX10_capped 1 (some .int) :: wt)) B.pre w (List.mem_cons_of_mem _ h)
  have hown : s.vm.findClass RX10 = some m.cls := findClass_of_methodNamed B.named
  have hlocks := B.notSynchronized
  have hl := lv_entry ([.int x0]) (n := 1) (Nat.le_of_ble_eq_true rfl)
  rw [show entryFrame m args 1 = _ from (congrArg (fun a => entryFrame m a 1) ha).trans (lg_entry_eq m [.int x0] 1)]
  generalize (lg_sl ([.int x0]) ++ List.replicate (1 - (lg_sl ([.int x0])).length) Slot.unset).toArray = ls at hl ⊢
  have hl : lv_has ls 1 [(0, .int x0)] := hl
  have hm : (if x0 ≤ ((999 : Int32)) then x0 else (999 : Int32)) = (mX10_capped x0) := rfl
  refine lv_iload_n hx hb dX10_capped_0 rfl (lv_at hl 0 rfl) ?_
  refine lv_sipush (v := (999 : Int32)) hx hb dX10_capped_1 (by decide) ?_
  refine lv_icmp_le (tgt := 13) hx hb dX10_capped_4 (by decide) (fun c_1 => ?_) (fun c_1 => ?_)
  · have hm := (if_pos c_1).symm.trans hm
    refine lv_iload_n hx hb dX10_capped_13 rfl (lv_at hl 0 rfl) ?_
    exact W.iret (v := x0) hx hb hr (fun t ht9 _ => ⟨_, rfl, hm, ht9⟩) (fun q hq => absurd hq List.not_mem_nil) dX10_capped_14
  · have hm := (if_neg c_1).symm.trans hm
    refine lv_sipush (v := (999 : Int32)) hx hb dX10_capped_7 (by decide) ?_
    refine lv_goto (tgt := 14) hx hb dX10_capped_10 (by decide) ?_
    exact W.iret (v := (999 : Int32)) hx hb hr (fun t ht9 _ => ⟨_, rfl, hm, ht9⟩) (fun q hq => absurd hq List.not_mem_nil) dX10_capped_14
theorem dX10_isRoom_0 : decode cX10_isRoom 0 = .ok (.iload_n 1, 1) := by decide +kernel
theorem dX10_isRoom_1 : decode cX10_isRoom 1 = .ok (.iconst 0, 1) := by decide +kernel
theorem dX10_isRoom_2 : decode cX10_isRoom 2 = .ok (.aload_n 0, 1) := by decide +kernel
theorem dX10_isRoom_3 : decode cX10_isRoom 3 = .ok (.getfield 57, 3) := by decide +kernel
theorem dX10_isRoom_6 : decode cX10_isRoom 6 = .ok (.iconst 1, 1) := by decide +kernel
theorem dX10_isRoom_7 : decode cX10_isRoom 7 = .ok (.isub, 1) := by decide +kernel
theorem dX10_isRoom_8 : decode cX10_isRoom 8 = .ok (.invokestatic 60, 3) := by decide +kernel
theorem dX10_isRoom_11 : decode cX10_isRoom 11 = .ok (.ireturn, 1) := by decide +kernel
theorem h_X10_isRoom : yX10_isRoom.cls ≠ "java/lang/invoke/MethodHandle" ∧ yX10_isRoom.cls ≠ "java/lang/invoke/VarHandle" ∧ (parseMethodDescriptor yX10_isRoom.desc).map (fun d => d.parameters.length) = some 1 := by decide +kernel
def mX10_isRoom (v_rooms : Int32) (x1 : Int32) : Int32 := (mX10_in x1 (nI 0) (v_rooms - (nI 1)))
set_option maxHeartbeats 4000000 in
set_option maxRecDepth 100000 in
theorem kX10_isRoom (l : Launch) (dC : Nat → ClassId) (dI : Nat → Nat → Nat) (cA cZ : ClassId) (a_this a_this_text a_this_readRain a_this_readDoor a_this_readPerson a_this_rain a_this_door a_this_now a_this_tried a_this_backOf a_this_image a_this_imageSeed a_this_isKept a_this_sight a_this_entry : Nat) (v_letters : Nat) (v_position : Nat) (v_tokenAt : Nat) (v_token : Int32) (v_number : Int32) (v_figures : Nat) (v_faultAt : Int32) (v_faultIs : Int32) (v_readRooms : Int32) (v_readStore : Int32) (v_readRains : Nat) (v_readDoors : Nat) (v_readPersons : Nat) (v_rooms : Int32) (v_rains : Nat) (v_doors : Nat) (v_persons : Nat) (v_backs : Nat) (v_seed : Int32) (v_seen : Nat) (v_entries : Nat) (x1 : Int32) : Met l yX10_isRoom (Cond.code yX10_isRoom cX10_isRoom 2 (some .boolean) :: wt) ({ frames := 1, cells := 0, slots := 0, locals := 22 } : Room) (va_Pc [.ref a_this, .int x1] (PreP (dC, dI) [(cA, .int), (cZ, .boolean)] [(a_this, .inr (10, [.int (nI v_letters), .ref a_this_text, .int (nI v_position), .int (nI v_tokenAt), .int v_token, .int v_number, .int (nI v_figures), .int v_faultAt, .int v_faultIs, .int v_readRooms, .int v_readStore, .int (nI v_readRains), .int (nI v_readDoors), .int (nI v_readPersons), .ref a_this_readRain, .ref a_this_readDoor, .ref a_this_readPerson, .int v_rooms, .int (nI v_rains), .int (nI v_doors), .int (nI v_persons), .ref a_this_rain, .ref a_this_door, .ref a_this_now, .ref a_this_tried, .ref a_this_backOf, .int (nI v_backs), .ref a_this_image, .ref a_this_imageSeed, .ref a_this_isKept, .int v_seed, .int (nI v_seen), .ref a_this_sight, .int (nI v_entries), .ref a_this_entry]))])) (vp_Si (fun r => r = (mX10_isRoom v_rooms x1))) 0 0 (fun _ => False) := by
  refine Met.ofW (cc := cX10_isRoom) (maxL := 2) (ret := (some .boolean)) (by decide) rfl ?_
  intro p e s m args below meth c s₁ B hml hv
  obtain ⟨ha, hP, hK⟩ := hv
  have hx := B.exec
  have hb := B.bytes
  have hr := B.returns
  have ht : ∀ w ∈ wt, w.before args s = true := fun w h => atoms_spec (ws := (Cond.code yX10_isRoom cX10_isRoom 2 (some .boolean) :: wt)) B.pre w (List.mem_cons_of_mem _ h)
  have hown : s.vm.findClass RX10 = some m.cls := findClass_of_methodNamed B.named
  have hlocks := B.notSynchronized
  have hl := lv_entry ([.ref a_this, .int x1]) (n := 2) (Nat.le_of_ble_eq_true rfl)
  rw [show entryFrame m args 2 = _ from (congrArg (fun a => entryFrame m a 2) ha).trans (lg_entry_eq m [.ref a_this, .int x1] 2)]
  generalize (lg_sl ([.ref a_this, .int x1]) ++ List.replicate (2 - (lg_sl ([.ref a_this, .int x1])).length) Slot.unset).toArray = ls at hl ⊢
  have hl : lv_has ls 2 [(0, .ref a_this), (1, .int x1)] := hl
  have hm : (mX10_in x1 (nI 0) (v_rooms - (nI 1))) = (mX10_isRoom v_rooms x1) := rfl
  refine lv_iload_n hx hb dX10_isRoom_0 rfl (lv_at hl 1 rfl) ?_
  refine lv_iconst (v := nI 0) hx hb dX10_isRoom_1 (by decide) ?_
  refine lv_aload_n hx hb dX10_isRoom_2 rfl (lv_at hl 0 rfl) ?_
  refine va_get (D := (dC, dI)) (ci := 10) (v := .int v_rooms) (C := RX10) (T := TX10) (N := 35) hx hb ht iX10 hown hK.1 hP 0 rfl rfl 17 (by decide) (ht _ w_4_220) (fun _ h9 => h9) rfl dX10_isRoom_3 ?_
  refine lv_iconst (v := nI 1) hx hb dX10_isRoom_6 (by decide) ?_
  refine lv_isub hx hb dX10_isRoom_7 ?_
  refine pv_call (v := (mX10_in x1 (nI 0) (v_rooms - (nI 1)))) (va_runS (As := [.int x1, .int (nI 0), .int (v_rooms - (nI 1))]) (rest := []) ⟨hx, hb, hml, hown, ht⟩ (kX10_in l dC dI cA cZ x1 (nI 0) (v_rooms - (nI 1))) (va_cwS 3 ht (gi_S w_5_74 w_5_75 w_1_12 (gi_code w_5_76)) rfl rfl rfl h_X10_in ⟨Nat.le_of_ble_eq_true rfl, Nat.le_of_ble_eq_true rfl⟩) ⟨pp_blind, pp_use (ws := []) (fun _ _ h => by cases h) hK⟩ rfl rfl hl.1 rfl (lv_room (Nat.le_of_ble_eq_true rfl)) dX10_isRoom_8 ⟨Nat.zero_le _, Nat.zero_le _⟩) ?_
  exact W.zret (v := (mX10_in x1 (nI 0) (v_rooms - (nI 1)))) (ty := .boolean) hx hb hr (zX10_in _ _ _) (fun t ht9 _ => ⟨_, rfl, hm, ht9⟩) (fun q hq => absurd hq List.not_mem_nil) dX10_isRoom_11
theorem zX10_isRoom (v_rooms : Int32) (x1 : Int32) : narrow .boolean (.int (mX10_isRoom v_rooms x1)) = .int (mX10_isRoom v_rooms x1) := by
  unfold mX10_isRoom
  repeat' split
  all_goals first | rfl | exact (zX10_in _ _ _)
theorem dX10_isDoor_0 : decode cX10_isDoor 0 = .ok (.iload_n 1, 1) := by decide +kernel
theorem dX10_isDoor_1 : decode cX10_isDoor 1 = .ok (.iconst 0, 1) := by decide +kernel
theorem dX10_isDoor_2 : decode cX10_isDoor 2 = .ok (.aload_n 0, 1) := by decide +kernel
theorem dX10_isDoor_3 : decode cX10_isDoor 3 = .ok (.getfield 64, 3) := by decide +kernel
theorem dX10_isDoor_6 : decode cX10_isDoor 6 = .ok (.iconst 1, 1) := by decide +kernel
theorem dX10_isDoor_7 : decode cX10_isDoor 7 = .ok (.isub, 1) := by decide +kernel
theorem dX10_isDoor_8 : decode cX10_isDoor 8 = .ok (.invokestatic 60, 3) := by decide +kernel
theorem dX10_isDoor_11 : decode cX10_isDoor 11 = .ok (.ireturn, 1) := by decide +kernel
theorem h_X10_isDoor : yX10_isDoor.cls ≠ "java/lang/invoke/MethodHandle" ∧ yX10_isDoor.cls ≠ "java/lang/invoke/VarHandle" ∧ (parseMethodDescriptor yX10_isDoor.desc).map (fun d => d.parameters.length) = some 1 := by decide +kernel
def mX10_isDoor (v_doors : Nat) (x1 : Int32) : Int32 := (mX10_in x1 (nI 0) ((nI v_doors) - (nI 1)))
set_option maxHeartbeats 4000000 in
set_option maxRecDepth 100000 in
theorem kX10_isDoor (l : Launch) (dC : Nat → ClassId) (dI : Nat → Nat → Nat) (cA cZ : ClassId) (a_this a_this_text a_this_readRain a_this_readDoor a_this_readPerson a_this_rain a_this_door a_this_now a_this_tried a_this_backOf a_this_image a_this_imageSeed a_this_isKept a_this_sight a_this_entry : Nat) (v_letters : Nat) (v_position : Nat) (v_tokenAt : Nat) (v_token : Int32) (v_number : Int32) (v_figures : Nat) (v_faultAt : Int32) (v_faultIs : Int32) (v_readRooms : Int32) (v_readStore : Int32) (v_readRains : Nat) (v_readDoors : Nat) (v_readPersons : Nat) (v_rooms : Int32) (v_rains : Nat) (v_doors : Nat) (v_persons : Nat) (v_backs : Nat) (v_seed : Int32) (v_seen : Nat) (v_entries : Nat) (x1 : Int32) : Met l yX10_isDoor (Cond.code yX10_isDoor cX10_isDoor 2 (some .boolean) :: wt) ({ frames := 1, cells := 0, slots := 0, locals := 22 } : Room) (va_Pc [.ref a_this, .int x1] (PreP (dC, dI) [(cA, .int), (cZ, .boolean)] [(a_this, .inr (10, [.int (nI v_letters), .ref a_this_text, .int (nI v_position), .int (nI v_tokenAt), .int v_token, .int v_number, .int (nI v_figures), .int v_faultAt, .int v_faultIs, .int v_readRooms, .int v_readStore, .int (nI v_readRains), .int (nI v_readDoors), .int (nI v_readPersons), .ref a_this_readRain, .ref a_this_readDoor, .ref a_this_readPerson, .int v_rooms, .int (nI v_rains), .int (nI v_doors), .int (nI v_persons), .ref a_this_rain, .ref a_this_door, .ref a_this_now, .ref a_this_tried, .ref a_this_backOf, .int (nI v_backs), .ref a_this_image, .ref a_this_imageSeed, .ref a_this_isKept, .int v_seed, .int (nI v_seen), .ref a_this_sight, .int (nI v_entries), .ref a_this_entry]))])) (vp_Si (fun r => r = (mX10_isDoor v_doors x1))) 0 0 (fun _ => False) := by
  refine Met.ofW (cc := cX10_isDoor) (maxL := 2) (ret := (some .boolean)) (by decide) rfl ?_
  intro p e s m args below meth c s₁ B hml hv
  obtain ⟨ha, hP, hK⟩ := hv
  have hx := B.exec
  have hb := B.bytes
  have hr := B.returns
  have ht : ∀ w ∈ wt, w.before args s = true := fun w h => atoms_spec (ws := (Cond.code yX10_isDoor cX10_isDoor 2 (some .boolean) :: wt)) B.pre w (List.mem_cons_of_mem _ h)
  have hown : s.vm.findClass RX10 = some m.cls := findClass_of_methodNamed B.named
  have hlocks := B.notSynchronized
  have hl := lv_entry ([.ref a_this, .int x1]) (n := 2) (Nat.le_of_ble_eq_true rfl)
  rw [show entryFrame m args 2 = _ from (congrArg (fun a => entryFrame m a 2) ha).trans (lg_entry_eq m [.ref a_this, .int x1] 2)]
  generalize (lg_sl ([.ref a_this, .int x1]) ++ List.replicate (2 - (lg_sl ([.ref a_this, .int x1])).length) Slot.unset).toArray = ls at hl ⊢
  have hl : lv_has ls 2 [(0, .ref a_this), (1, .int x1)] := hl
  have hm : (mX10_in x1 (nI 0) ((nI v_doors) - (nI 1))) = (mX10_isDoor v_doors x1) := rfl
  refine lv_iload_n hx hb dX10_isDoor_0 rfl (lv_at hl 1 rfl) ?_
  refine lv_iconst (v := nI 0) hx hb dX10_isDoor_1 (by decide) ?_
  refine lv_aload_n hx hb dX10_isDoor_2 rfl (lv_at hl 0 rfl) ?_
  refine va_get (D := (dC, dI)) (ci := 10) (v := .int (nI v_doors)) (C := RX10) (T := TX10) (N := 35) hx hb ht iX10 hown hK.1 hP 0 rfl rfl 19 (by decide) (ht _ w_4_222) (fun _ h9 => h9) rfl dX10_isDoor_3 ?_
  refine lv_iconst (v := nI 1) hx hb dX10_isDoor_6 (by decide) ?_
  refine lv_isub hx hb dX10_isDoor_7 ?_
  refine pv_call (v := (mX10_in x1 (nI 0) ((nI v_doors) - (nI 1)))) (va_runS (As := [.int x1, .int (nI 0), .int ((nI v_doors) - (nI 1))]) (rest := []) ⟨hx, hb, hml, hown, ht⟩ (kX10_in l dC dI cA cZ x1 (nI 0) ((nI v_doors) - (nI 1))) (va_cwS 3 ht (gi_S w_5_74 w_5_75 w_1_12 (gi_code w_5_76)) rfl rfl rfl h_X10_in ⟨Nat.le_of_ble_eq_true rfl, Nat.le_of_ble_eq_true rfl⟩) ⟨pp_blind, pp_use (ws := []) (fun _ _ h => by cases h) hK⟩ rfl rfl hl.1 rfl (lv_room (Nat.le_of_ble_eq_true rfl)) dX10_isDoor_8 ⟨Nat.zero_le _, Nat.zero_le _⟩) ?_
  exact W.zret (v := (mX10_in x1 (nI 0) ((nI v_doors) - (nI 1)))) (ty := .boolean) hx hb hr (zX10_in _ _ _) (fun t ht9 _ => ⟨_, rfl, hm, ht9⟩) (fun q hq => absurd hq List.not_mem_nil) dX10_isDoor_11
theorem zX10_isDoor (v_doors : Nat) (x1 : Int32) : narrow .boolean (.int (mX10_isDoor v_doors x1)) = .int (mX10_isDoor v_doors x1) := by
  unfold mX10_isDoor
  repeat' split
  all_goals first | rfl | exact (zX10_in _ _ _)
theorem dX10_isPerson_0 : decode cX10_isPerson 0 = .ok (.iload_n 1, 1) := by decide +kernel
theorem dX10_isPerson_1 : decode cX10_isPerson 1 = .ok (.iconst 0, 1) := by decide +kernel
theorem dX10_isPerson_2 : decode cX10_isPerson 2 = .ok (.aload_n 0, 1) := by decide +kernel
theorem dX10_isPerson_3 : decode cX10_isPerson 3 = .ok (.getfield 67, 3) := by decide +kernel
theorem dX10_isPerson_6 : decode cX10_isPerson 6 = .ok (.iconst 1, 1) := by decide +kernel
theorem dX10_isPerson_7 : decode cX10_isPerson 7 = .ok (.isub, 1) := by decide +kernel
theorem dX10_isPerson_8 : decode cX10_isPerson 8 = .ok (.invokestatic 60, 3) := by decide +kernel
theorem dX10_isPerson_11 : decode cX10_isPerson 11 = .ok (.ireturn, 1) := by decide +kernel
theorem h_X10_isPerson : yX10_isPerson.cls ≠ "java/lang/invoke/MethodHandle" ∧ yX10_isPerson.cls ≠ "java/lang/invoke/VarHandle" ∧ (parseMethodDescriptor yX10_isPerson.desc).map (fun d => d.parameters.length) = some 1 := by decide +kernel
def mX10_isPerson (v_persons : Nat) (x1 : Int32) : Int32 := (mX10_in x1 (nI 0) ((nI v_persons) - (nI 1)))
set_option maxHeartbeats 4000000 in
set_option maxRecDepth 100000 in
theorem kX10_isPerson (l : Launch) (dC : Nat → ClassId) (dI : Nat → Nat → Nat) (cA cZ : ClassId) (a_this a_this_text a_this_readRain a_this_readDoor a_this_readPerson a_this_rain a_this_door a_this_now a_this_tried a_this_backOf a_this_image a_this_imageSeed a_this_isKept a_this_sight a_this_entry : Nat) (v_letters : Nat) (v_position : Nat) (v_tokenAt : Nat) (v_token : Int32) (v_number : Int32) (v_figures : Nat) (v_faultAt : Int32) (v_faultIs : Int32) (v_readRooms : Int32) (v_readStore : Int32) (v_readRains : Nat) (v_readDoors : Nat) (v_readPersons : Nat) (v_rooms : Int32) (v_rains : Nat) (v_doors : Nat) (v_persons : Nat) (v_backs : Nat) (v_seed : Int32) (v_seen : Nat) (v_entries : Nat) (x1 : Int32) : Met l yX10_isPerson (Cond.code yX10_isPerson cX10_isPerson 2 (some .boolean) :: wt) ({ frames := 1, cells := 0, slots := 0, locals := 22 } : Room) (va_Pc [.ref a_this, .int x1] (PreP (dC, dI) [(cA, .int), (cZ, .boolean)] [(a_this, .inr (10, [.int (nI v_letters), .ref a_this_text, .int (nI v_position), .int (nI v_tokenAt), .int v_token, .int v_number, .int (nI v_figures), .int v_faultAt, .int v_faultIs, .int v_readRooms, .int v_readStore, .int (nI v_readRains), .int (nI v_readDoors), .int (nI v_readPersons), .ref a_this_readRain, .ref a_this_readDoor, .ref a_this_readPerson, .int v_rooms, .int (nI v_rains), .int (nI v_doors), .int (nI v_persons), .ref a_this_rain, .ref a_this_door, .ref a_this_now, .ref a_this_tried, .ref a_this_backOf, .int (nI v_backs), .ref a_this_image, .ref a_this_imageSeed, .ref a_this_isKept, .int v_seed, .int (nI v_seen), .ref a_this_sight, .int (nI v_entries), .ref a_this_entry]))])) (vp_Si (fun r => r = (mX10_isPerson v_persons x1))) 0 0 (fun _ => False) := by
  refine Met.ofW (cc := cX10_isPerson) (maxL := 2) (ret := (some .boolean)) (by decide) rfl ?_
  intro p e s m args below meth c s₁ B hml hv
  obtain ⟨ha, hP, hK⟩ := hv
  have hx := B.exec
  have hb := B.bytes
  have hr := B.returns
  have ht : ∀ w ∈ wt, w.before args s = true := fun w h => atoms_spec (ws := (Cond.code yX10_isPerson cX10_isPerson 2 (some .boolean) :: wt)) B.pre w (List.mem_cons_of_mem _ h)
  have hown : s.vm.findClass RX10 = some m.cls := findClass_of_methodNamed B.named
  have hlocks := B.notSynchronized
  have hl := lv_entry ([.ref a_this, .int x1]) (n := 2) (Nat.le_of_ble_eq_true rfl)
  rw [show entryFrame m args 2 = _ from (congrArg (fun a => entryFrame m a 2) ha).trans (lg_entry_eq m [.ref a_this, .int x1] 2)]
  generalize (lg_sl ([.ref a_this, .int x1]) ++ List.replicate (2 - (lg_sl ([.ref a_this, .int x1])).length) Slot.unset).toArray = ls at hl ⊢
  have hl : lv_has ls 2 [(0, .ref a_this), (1, .int x1)] := hl
  have hm : (mX10_in x1 (nI 0) ((nI v_persons) - (nI 1))) = (mX10_isPerson v_persons x1) := rfl
  refine lv_iload_n hx hb dX10_isPerson_0 rfl (lv_at hl 1 rfl) ?_
  refine lv_iconst (v := nI 0) hx hb dX10_isPerson_1 (by decide) ?_
  refine lv_aload_n hx hb dX10_isPerson_2 rfl (lv_at hl 0 rfl) ?_
  refine va_get (D := (dC, dI)) (ci := 10) (v := .int (nI v_persons)) (C := RX10) (T := TX10) (N := 35) hx hb ht iX10 hown hK.1 hP 0 rfl rfl 20 (by decide) (ht _ w_4_223) (fun _ h9 => h9) rfl dX10_isPerson_3 ?_
  refine lv_iconst (v := nI 1) hx hb dX10_isPerson_6 (by decide) ?_
  refine lv_isub hx hb dX10_isPerson_7 ?_
  refine pv_call (v := (mX10_in x1 (nI 0) ((nI v_persons) - (nI 1)))) (va_runS (As := [.int x1, .int (nI 0), .int ((nI v_persons) - (nI 1))]) (rest := []) ⟨hx, hb, hml, hown, ht⟩ (kX10_in l dC dI cA cZ x1 (nI 0) ((nI v_persons) - (nI 1))) (va_cwS 3 ht (gi_S w_5_74 w_5_75 w_1_12 (gi_code w_5_76)) rfl rfl rfl h_X10_in ⟨Nat.le_of_ble_eq_true rfl, Nat.le_of_ble_eq_true rfl⟩) ⟨pp_blind, pp_use (ws := []) (fun _ _ h => by cases h) hK⟩ rfl rfl hl.1 rfl (lv_room (Nat.le_of_ble_eq_true rfl)) dX10_isPerson_8 ⟨Nat.zero_le _, Nat.zero_le _⟩) ?_
  exact W.zret (v := (mX10_in x1 (nI 0) ((nI v_persons) - (nI 1)))) (ty := .boolean) hx hb hr (zX10_in _ _ _) (fun t ht9 _ => ⟨_, rfl, hm, ht9⟩) (fun q hq => absurd hq List.not_mem_nil) dX10_isPerson_11
theorem zX10_isPerson (v_persons : Nat) (x1 : Int32) : narrow .boolean (.int (mX10_isPerson v_persons x1)) = .int (mX10_isPerson v_persons x1) := by
  unfold mX10_isPerson
  repeat' split
  all_goals first | rfl | exact (zX10_in _ _ _)
theorem ne_nI {a b : Nat} (h : ¬ nI a = nI b) : a ≠ b := fun q => h (by rw [q])
theorem nn_nat {x : Int32} (h : 0 ≤ x.toInt) : x = nI x.toNatClampNeg := by
  have := clampLt x
  apply Int32.toInt_inj.mp
  rw [nI_toInt (by omega), clampE]; omega
theorem in_spec {x a b : Int32} (h : ¬ mX10_in x a b = 0) : a.toInt ≤ x.toInt ∧ x.toInt ≤ b.toInt := by
  unfold mX10_in at h
  split at h
  · exact absurd rfl h
  · rename_i h1
    split at h
    · exact absurd rfl h
    · rename_i h2
      rw [Int32.lt_iff_toInt_lt] at h1 h2
      omega
theorem nI0i : (nI 0).toInt = 0 := rfl
theorem isDoor_spec {D : Nat} {x : Int32} (hD : D ≤ 1000) (h : ¬ mX10_isDoor D x = 0) : x.toNatClampNeg < D ∧ x = nI x.toNatClampNeg := by
  unfold mX10_isDoor at h
  have := in_spec h
  rw [nI0i, pk_sub_toInt (by omega) (by omega)] at this
  refine ⟨?_, nn_nat this.1⟩
  rw [clampE]; omega
theorem isPerson_spec {D : Nat} {x : Int32} (hD : D ≤ 1000) (h : ¬ mX10_isPerson D x = 0) : x.toNatClampNeg < D ∧ x = nI x.toNatClampNeg := by
  unfold mX10_isPerson at h
  have := in_spec h
  rw [nI0i, pk_sub_toInt (by omega) (by omega)] at this
  refine ⟨?_, nn_nat this.1⟩
  rw [clampE]; omega
theorem dX10_bring_0 : decode cX10_bring 0 = .ok (.iconst 0, 1) := by decide +kernel
theorem dX10_bring_1 : decode cX10_bring 1 = .ok (.istore 5, 2) := by decide +kernel
theorem dX10_bring_3 : decode cX10_bring 3 = .ok (.iload 5, 2) := by decide +kernel
theorem dX10_bring_5 : decode cX10_bring 5 = .ok (.iload 4, 2) := by decide +kernel
theorem dX10_bring_7 : decode cX10_bring 7 = .ok (.if_icmp .ge 21, 3) := by decide +kernel
theorem dX10_bring_10 : decode cX10_bring 10 = .ok (.aload_n 2, 1) := by decide +kernel
theorem dX10_bring_11 : decode cX10_bring 11 = .ok (.iload_n 3, 1) := by decide +kernel
theorem dX10_bring_12 : decode cX10_bring 12 = .ok (.iload 5, 2) := by decide +kernel
theorem dX10_bring_14 : decode cX10_bring 14 = .ok (.iadd, 1) := by decide +kernel
theorem dX10_bring_15 : decode cX10_bring 15 = .ok (.aload_n 0, 1) := by decide +kernel
theorem dX10_bring_16 : decode cX10_bring 16 = .ok (.iload_n 1, 1) := by decide +kernel
theorem dX10_bring_17 : decode cX10_bring 17 = .ok (.iload 5, 2) := by decide +kernel
theorem dX10_bring_19 : decode cX10_bring 19 = .ok (.iadd, 1) := by decide +kernel
theorem dX10_bring_20 : decode cX10_bring 20 = .ok (.iaload, 1) := by decide +kernel
theorem dX10_bring_21 : decode cX10_bring 21 = .ok (.iastore, 1) := by decide +kernel
theorem dX10_bring_22 : decode cX10_bring 22 = .ok (.iinc 5 1, 3) := by decide +kernel
theorem dX10_bring_25 : decode cX10_bring 25 = .ok (.goto (-22), 3) := by decide +kernel
theorem dX10_bring_28 : decode cX10_bring 28 = .ok (.return_, 1) := by decide +kernel
theorem h_X10_bring : yX10_bring.cls ≠ "java/lang/invoke/MethodHandle" ∧ yX10_bring.cls ≠ "java/lang/invoke/VarHandle" ∧ (parseMethodDescriptor yX10_bring.desc).map (fun d => d.parameters.length) = some 5 := by decide +kernel
def mX10_bring_l3 (v_p0 : Nat → Int32) (x1 : Nat) (x3 : Nat) (k_3 : Nat) (u_p2_3 : (Nat → Int32)) : (Nat → Int32) := upd u_p2_3 (x3 + k_3) (v_p0 (x1 + k_3))
def mX10_bring (v_p0 : Nat → Int32) (v_p2 : Nat → Int32) (x1 : Nat) (x3 : Nat) (x4 : Nat) : (Nat → Int32) := (iter (mX10_bring_l3 v_p0 x1 x3) x4 v_p2)
set_option maxHeartbeats 4000000 in
set_option maxRecDepth 100000 in
theorem kX10_bring (l : Launch) (dC : Nat → ClassId) (dI : Nat → Nat → Nat) (cA cZ : ClassId) (a_p0 a_p2 : Nat) (n_p0 n_p2 : Nat) (v_p0 : Nat → Int32) (v_p2 : Nat → Int32) (x1 : Nat) (x3 : Nat) (x4 : Nat) (hn_p0 : n_p0 < 2147483648) (hn_p2 : n_p2 < 2147483648) (hi : x1 + x4 ≤ n_p0) (hj : x3 + x4 ≤ n_p2) (sz : Nat) : Met l yX10_bring (Cond.code yX10_bring cX10_bring 6 none :: wt) ({ frames := 0, cells := 0, slots := 0, locals := 0 } : Room) (va_Pc [.ref a_p0, .int (nI x1), .ref a_p2, .int (nI x3), .int (nI x4)] (PreM (dC, dI) [(cA, .int), (cZ, .boolean)] sz [(a_p0, .inl (cA, n_p0, .inl v_p0)), (a_p2, .inl (cA, n_p2, .inl v_p2))])) (PoV (dC, dI) sz [(a_p0, .inl (cA, n_p0, .inl v_p0)), (a_p2, .inl (cA, n_p2, .inl v_p2))] [(a_p0, .inl (cA, n_p0, .inl v_p0)), (a_p2, .inl (cA, n_p2, .inl ((mX10_bring v_p0 v_p2 x1 x3 x4))))]) 0 0 (va_A [(a_p0, .inl (cA, n_p0, .inl v_p0)), (a_p2, .inl (cA, n_p2, .inl v_p2))] sz) := by
  refine Met.ofW (cc := cX10_bring) (maxL := 6) (ret := none) (by decide) rfl ?_
  intro p e s m args below meth c s₁ B hml hv
  obtain ⟨ha, hsz, hP, hK, hD0⟩ := hv
  have hx := B.exec
  have hb := B.bytes
  have hr := B.returns
  have ht : ∀ w ∈ wt, w.before args s = true := fun w h => atoms_spec (ws := (Cond.code yX10_bring cX10_bring 6 none :: wt)) B.pre w (List.mem_cons_of_mem _ h)
  have hown : s.vm.findClass RX10 = some m.cls := findClass_of_methodNamed B.named
  have hlocks := B.notSynchronized
  subst hsz
  have hD := hD0.self (sz := s.heap.size)
  have hA : ∀ q : Nat, s.heap.size ≤ q → va_A [(a_p0, .inl (cA, n_p0, .inl v_p0)), (a_p2, .inl (cA, n_p2, .inl v_p2))] s.heap.size q := fun q h => Or.inr h
  have hS : va_S (va_A [(a_p0, .inl (cA, n_p0, .inl v_p0)), (a_p2, .inl (cA, n_p2, .inl v_p2))] s.heap.size) s.heap s.heap [] := va_S.rf
  have hl := lv_entry ([.ref a_p0, .int (nI x1), .ref a_p2, .int (nI x3), .int (nI x4)]) (n := 6) (Nat.le_of_ble_eq_true rfl)
  rw [show entryFrame m args 6 = _ from (congrArg (fun a => entryFrame m a 6) ha).trans (lg_entry_eq m [.ref a_p0, .int (nI x1), .ref a_p2, .int (nI x3), .int (nI x4)] 6)]
  generalize (lg_sl ([.ref a_p0, .int (nI x1), .ref a_p2, .int (nI x3), .int (nI x4)]) ++ List.replicate (6 - (lg_sl ([.ref a_p0, .int (nI x1), .ref a_p2, .int (nI x3), .int (nI x4)])).length) Slot.unset).toArray = ls at hl ⊢
  have hl : lv_has ls 6 [(0, .ref a_p0), (1, .int (nI x1)), (2, .ref a_p2), (3, .int (nI x3)), (4, .int (nI x4))] := hl
  have hm : (iter (mX10_bring_l3 v_p0 x1 x3) x4 v_p2) = (mX10_bring v_p0 v_p2 x1 x3 x4) := rfl
  refine lv_iconst (v := nI 0) hx hb dX10_bring_0 (by decide) ?_
  refine lv_istore (lv' := [(5, .int (nI 0)), (0, .ref a_p0), (1, .int (nI x1)), (2, .ref a_p2), (3, .int (nI x3)), (4, .int (nI x4))]) hx hb dX10_bring_1 hl (by decide) rfl (fun ls hl => ?_)
  have L_3 : ∀ (n_3 k_3 : Nat), k_3 + n_3 = x4 → ∀ (u_p2_3 : Nat → Int32), u_p2_3 = (iter (mX10_bring_l3 v_p0 x1 x3) k_3 v_p2) → ∀ (ls : Array Slot), lv_has ls 6 [(5, .int (nI k_3)), (0, .ref a_p0), (1, .int (nI x1)), (2, .ref a_p2), (3, .int (nI x3)), (4, .int (nI x4))] → ∀ (H : Heap) (locs : List Loc), va_P (dC, dI) vwCl [(a_p0, .inl (cA, n_p0, .inl v_p0)), (a_p2, .inl (cA, n_p2, .inl u_p2_3))] H → va_D (va_A [(a_p0, .inl (cA, n_p0, .inl v_p0)), (a_p2, .inl (cA, n_p2, .inl v_p2))] s.heap.size) [(a_p0, .inl (cA, n_p0, .inl v_p0)), (a_p2, .inl (cA, n_p2, .inl u_p2_3))] → va_S (va_A [(a_p0, .inl (cA, n_p0, .inl v_p0)), (a_p2, .inl (cA, n_p2, .inl v_p2))] s.heap.size) s.heap H locs → W p l e (headSpec (Cond.code yX10_bring cX10_bring 6 none :: wt) ({ frames := 0, cells := 0, slots := 0, locals := 0 } : Room)).room s m args below meth c H locs 0 0 (MQ below (PoV (dC, dI) s.heap.size [(a_p0, .inl (cA, n_p0, .inl v_p0)), (a_p2, .inl (cA, n_p2, .inl v_p2))] [(a_p0, .inl (cA, n_p0, .inl v_p0)), (a_p2, .inl (cA, n_p2, .inl ((mX10_bring v_p0 v_p2 x1 x3 x4))))]) args s 0 0 (va_A [(a_p0, .inl (cA, n_p0, .inl v_p0)), (a_p2, .inl (cA, n_p2, .inl v_p2))] s.heap.size)) (F0 m 3 ls []) := by
    intro n_3
    induction n_3 with
    | zero =>
      intro k_3 hk u_p2_3 ex0_3 ls hl H locs hP hD hS
      obtain rfl : x4 = k_3 := by omega
      subst ex0_3
      refine lv_iload hx hb dX10_bring_3 (lv_at hl 0 rfl) ?_
      refine lv_iload hx hb dX10_bring_5 (lv_at hl 5 rfl) ?_
      refine lv_icmp_ge (tgt := 28) hx hb dX10_bring_7 (by decide) (fun c_2 => ?_) (fun c_2 => ?_)
      · skip
        have hP9 := pc_sub (wc := [(a_p0, .inl (cA, n_p0, .inl v_p0)), (a_p2, .inl (cA, n_p2, .inl ((iter (mX10_bring_l3 v_p0 x1 x3) x4 v_p2))))]) hP [0, 1] rfl
        have hD9 := hD.sub (ws' := [(a_p0, .inl (cA, n_p0, .inl v_p0)), (a_p2, .inl (cA, n_p2, .inl ((iter (mX10_bring_l3 v_p0 x1 x3) x4 v_p2))))]) [0, 1] (by decide) rfl
        exact W.vret hx hb hr (fun t ht9 _ => by rw [← hm]; exact ⟨⟨(), rfl, trivial, by rw [ht9]; exact hP9, hD9⟩, hS.F ht9⟩) hS.2.2 dX10_bring_28
      · exact absurd (nI_le (by omega) (by omega)) c_2
    | succ n_3 ih =>
      intro k_3 hk u_p2_3 ex0_3 ls hl H locs hP hD hS
      have hm : (mX10_bring_l3 v_p0 x1 x3) k_3 u_p2_3 = (iter (mX10_bring_l3 v_p0 x1 x3) (k_3 + 1) v_p2) := by rw [ex0_3]; rfl
      have hm : upd u_p2_3 (x3 + k_3) (v_p0 (x1 + k_3)) = (iter (mX10_bring_l3 v_p0 x1 x3) (k_3 + 1) v_p2) := hm
      refine lv_iload hx hb dX10_bring_3 (lv_at hl 0 rfl) ?_
      refine lv_iload hx hb dX10_bring_5 (lv_at hl 5 rfl) ?_
      refine lv_icmp_ge (tgt := 28) hx hb dX10_bring_7 (by decide) (fun c_1 => ?_) (fun c_1 => ?_)
      · exact absurd c_1 (nI_ge (by omega) (by omega))
      · skip
        refine lv_aload_n hx hb dX10_bring_10 rfl (lv_at hl 3 rfl) ?_
        refine lv_iload_n hx hb dX10_bring_11 rfl (lv_at hl 4 rfl) ?_
        refine lv_iload hx hb dX10_bring_12 (lv_at hl 0 rfl) ?_
        refine nv_iadd hx hb dX10_bring_14 ?_
        refine lv_aload_n hx hb dX10_bring_15 rfl (lv_at hl 1 rfl) ?_
        refine lv_iload_n hx hb dX10_bring_16 rfl (lv_at hl 2 rfl) ?_
        refine lv_iload hx hb dX10_bring_17 (lv_at hl 0 rfl) ?_
        refine nv_iadd hx hb dX10_bring_19 ?_
        refine nv_iald (e := x1 + k_3) (by omega) (by omega) hx hb hK.1 hP 0 0 rfl rfl dX10_bring_20 ?_
        refine nv_iast (e := x3 + k_3) (by omega) (by omega) hx hb hK.1 hP hD hS 1 0 rfl rfl dX10_bring_21 (fun H locs hP hD hS => ?_)
        have hP : va_P (dC, dI) vwCl [(a_p0, .inl (cA, n_p0, .inl v_p0)), (a_p2, .inl (cA, n_p2, .inl (upd u_p2_3 (x3 + k_3) (v_p0 (x1 + k_3)))))] H := hP
        have hD : va_D (va_A [(a_p0, .inl (cA, n_p0, .inl v_p0)), (a_p2, .inl (cA, n_p2, .inl v_p2))] s.heap.size) [(a_p0, .inl (cA, n_p0, .inl v_p0)), (a_p2, .inl (cA, n_p2, .inl (upd u_p2_3 (x3 + k_3) (v_p0 (x1 + k_3)))))] := hD
        refine lv_iinc (v := nI (k_3 + 1)) (lv' := [(5, .int (nI (k_3 + 1))), (0, .ref a_p0), (1, .int (nI x1)), (2, .ref a_p2), (3, .int (nI x3)), (4, .int (nI x4))]) hx hb dX10_bring_22 hl (k := 0) rfl (nI_1 _) (by decide) rfl (fun ls hl => ?_)
        refine lv_goto (tgt := 3) hx hb dX10_bring_25 (by decide) ?_
        exact ih (k_3 + 1) (by omega) (upd u_p2_3 (x3 + k_3) (v_p0 (x1 + k_3))) hm ls (lv_sub hl [0, 1, 2, 3, 4, 5] rfl) H locs hP hD hS
  exact L_3 x4 0 (Nat.zero_add _) v_p2 rfl ls (lv_sub hl [0, 1, 2, 3, 4, 5] rfl) s.heap [] hP hD hS
def mX10_bringS_l3 (x1 : Nat) (x3 : Nat) (k_3 : Nat) (u_p0_3 : (Nat → Int32)) : (Nat → Int32) := upd u_p0_3 (x3 + k_3) (u_p0_3 (x1 + k_3))
def mX10_bringS (v_p0 : Nat → Int32) (x1 : Nat) (x3 : Nat) (x4 : Nat) : (Nat → Int32) := (iter (mX10_bringS_l3 x1 x3) x4 v_p0)
set_option maxHeartbeats 4000000 in
set_option maxRecDepth 100000 in
theorem kX10_bringS (l : Launch) (dC : Nat → ClassId) (dI : Nat → Nat → Nat) (cA cZ : ClassId) (a_p0 : Nat) (n_p0 : Nat) (v_p0 : Nat → Int32) (x1 : Nat) (x3 : Nat) (x4 : Nat) (hn_p0 : n_p0 < 2147483648) (hi : x1 + x4 ≤ n_p0) (hj : x3 + x4 ≤ n_p0) (sz : Nat) : Met l yX10_bring (Cond.code yX10_bring cX10_bring 6 none :: wt) ({ frames := 0, cells := 0, slots := 0, locals := 0 } : Room) (va_Pc [.ref a_p0, .int (nI x1), .ref a_p0, .int (nI x3), .int (nI x4)] (PreM (dC, dI) [(cA, .int), (cZ, .boolean)] sz [(a_p0, .inl (cA, n_p0, .inl v_p0))])) (PoV (dC, dI) sz [(a_p0, .inl (cA, n_p0, .inl v_p0))] [(a_p0, .inl (cA, n_p0, .inl ((mX10_bringS v_p0 x1 x3 x4))))]) 0 0 (va_A [(a_p0, .inl (cA, n_p0, .inl v_p0))] sz) := by
  refine Met.ofW (cc := cX10_bring) (maxL := 6) (ret := none) (by decide) rfl ?_
  intro p e s m args below meth c s₁ B hml hv
  obtain ⟨ha, hsz, hP, hK, hD0⟩ := hv
  have hx := B.exec
  have hb := B.bytes
  have hr := B.returns
  have ht : ∀ w ∈ wt, w.before args s = true := fun w h => atoms_spec (ws := (Cond.code yX10_bring cX10_bring 6 none :: wt)) B.pre w (List.mem_cons_of_mem _ h)
  have hown : s.vm.findClass RX10 = some m.cls := findClass_of_methodNamed B.named
  have hlocks := B.notSynchronized
  subst hsz
  have hD := hD0.self (sz := s.heap.size)
  have hA : ∀ q : Nat, s.heap.size ≤ q → va_A [(a_p0, .inl (cA, n_p0, .inl v_p0))] s.heap.size q := fun q h => Or.inr h
  have hS : va_S (va_A [(a_p0, .inl (cA, n_p0, .inl v_p0))] s.heap.size) s.heap s.heap [] := va_S.rf
  have hl := lv_entry ([.ref a_p0, .int (nI x1), .ref a_p0, .int (nI x3), .int (nI x4)]) (n := 6) (Nat.le_of_ble_eq_true rfl)
  rw [show entryFrame m args 6 = _ from (congrArg (fun a => entryFrame m a 6) ha).trans (lg_entry_eq m [.ref a_p0, .int (nI x1), .ref a_p0, .int (nI x3), .int (nI x4)] 6)]
  generalize (lg_sl ([.ref a_p0, .int (nI x1), .ref a_p0, .int (nI x3), .int (nI x4)]) ++ List.replicate (6 - (lg_sl ([.ref a_p0, .int (nI x1), .ref a_p0, .int (nI x3), .int (nI x4)])).length) Slot.unset).toArray = ls at hl ⊢
  have hl : lv_has ls 6 [(0, .ref a_p0), (1, .int (nI x1)), (2, .ref a_p0), (3, .int (nI x3)), (4, .int (nI x4))] := hl
  have hm : (iter (mX10_bringS_l3 x1 x3) x4 v_p0) = (mX10_bringS v_p0 x1 x3 x4) := rfl
  refine lv_iconst (v := nI 0) hx hb dX10_bring_0 (by decide) ?_
  refine lv_istore (lv' := [(5, .int (nI 0)), (0, .ref a_p0), (1, .int (nI x1)), (2, .ref a_p0), (3, .int (nI x3)), (4, .int (nI x4))]) hx hb dX10_bring_1 hl (by decide) rfl (fun ls hl => ?_)
  have L_3 : ∀ (n_3 k_3 : Nat), k_3 + n_3 = x4 → ∀ (u_p0_3 : Nat → Int32), u_p0_3 = (iter (mX10_bringS_l3 x1 x3) k_3 v_p0) → ∀ (ls : Array Slot), lv_has ls 6 [(5, .int (nI k_3)), (0, .ref a_p0), (1, .int (nI x1)), (2, .ref a_p0), (3, .int (nI x3)), (4, .int (nI x4))] → ∀ (H : Heap) (locs : List Loc), va_P (dC, dI) vwCl [(a_p0, .inl (cA, n_p0, .inl u_p0_3))] H → va_D (va_A [(a_p0, .inl (cA, n_p0, .inl v_p0))] s.heap.size) [(a_p0, .inl (cA, n_p0, .inl u_p0_3))] → va_S (va_A [(a_p0, .inl (cA, n_p0, .inl v_p0))] s.heap.size) s.heap H locs → W p l e (headSpec (Cond.code yX10_bring cX10_bring 6 none :: wt) ({ frames := 0, cells := 0, slots := 0, locals := 0 } : Room)).room s m args below meth c H locs 0 0 (MQ below (PoV (dC, dI) s.heap.size [(a_p0, .inl (cA, n_p0, .inl v_p0))] [(a_p0, .inl (cA, n_p0, .inl ((mX10_bringS v_p0 x1 x3 x4))))]) args s 0 0 (va_A [(a_p0, .inl (cA, n_p0, .inl v_p0))] s.heap.size)) (F0 m 3 ls []) := by
    intro n_3
    induction n_3 with
    | zero =>
      intro k_3 hk u_p0_3 ex0_3 ls hl H locs hP hD hS
      obtain rfl : x4 = k_3 := by omega
      subst ex0_3
      refine lv_iload hx hb dX10_bring_3 (lv_at hl 0 rfl) ?_
      refine lv_iload hx hb dX10_bring_5 (lv_at hl 5 rfl) ?_
      refine lv_icmp_ge (tgt := 28) hx hb dX10_bring_7 (by decide) (fun c_2 => ?_) (fun c_2 => ?_)
      · skip
        have hP9 := pc_sub (wc := [(a_p0, .inl (cA, n_p0, .inl ((iter (mX10_bringS_l3 x1 x3) x4 v_p0))))]) hP [0] rfl
        have hD9 := hD.sub (ws' := [(a_p0, .inl (cA, n_p0, .inl ((iter (mX10_bringS_l3 x1 x3) x4 v_p0))))]) [0] (by decide) rfl
        exact W.vret hx hb hr (fun t ht9 _ => by rw [← hm]; exact ⟨⟨(), rfl, trivial, by rw [ht9]; exact hP9, hD9⟩, hS.F ht9⟩) hS.2.2 dX10_bring_28
      · exact absurd (nI_le (by omega) (by omega)) c_2
    | succ n_3 ih =>
      intro k_3 hk u_p0_3 ex0_3 ls hl H locs hP hD hS
      have hm : (mX10_bringS_l3 x1 x3) k_3 u_p0_3 = (iter (mX10_bringS_l3 x1 x3) (k_3 + 1) v_p0) := by rw [ex0_3]; rfl
      have hm : upd u_p0_3 (x3 + k_3) (u_p0_3 (x1 + k_3)) = (iter (mX10_bringS_l3 x1 x3) (k_3 + 1) v_p0) := hm
      refine lv_iload hx hb dX10_bring_3 (lv_at hl 0 rfl) ?_
      refine lv_iload hx hb dX10_bring_5 (lv_at hl 5 rfl) ?_
      refine lv_icmp_ge (tgt := 28) hx hb dX10_bring_7 (by decide) (fun c_1 => ?_) (fun c_1 => ?_)
      · exact absurd c_1 (nI_ge (by omega) (by omega))
      · skip
        refine lv_aload_n hx hb dX10_bring_10 rfl (lv_at hl 3 rfl) ?_
        refine lv_iload_n hx hb dX10_bring_11 rfl (lv_at hl 4 rfl) ?_
        refine lv_iload hx hb dX10_bring_12 (lv_at hl 0 rfl) ?_
        refine nv_iadd hx hb dX10_bring_14 ?_
        refine lv_aload_n hx hb dX10_bring_15 rfl (lv_at hl 1 rfl) ?_
        refine lv_iload_n hx hb dX10_bring_16 rfl (lv_at hl 2 rfl) ?_
        refine lv_iload hx hb dX10_bring_17 (lv_at hl 0 rfl) ?_
        refine nv_iadd hx hb dX10_bring_19 ?_
        refine nv_iald (e := x1 + k_3) (by omega) (by omega) hx hb hK.1 hP 0 0 rfl rfl dX10_bring_20 ?_
        refine nv_iast (e := x3 + k_3) (by omega) (by omega) hx hb hK.1 hP hD hS 0 0 rfl rfl dX10_bring_21 (fun H locs hP hD hS => ?_)
        have hP : va_P (dC, dI) vwCl [(a_p0, .inl (cA, n_p0, .inl (upd u_p0_3 (x3 + k_3) (u_p0_3 (x1 + k_3)))))] H := hP
        have hD : va_D (va_A [(a_p0, .inl (cA, n_p0, .inl v_p0))] s.heap.size) [(a_p0, .inl (cA, n_p0, .inl (upd u_p0_3 (x3 + k_3) (u_p0_3 (x1 + k_3)))))] := hD
        refine lv_iinc (v := nI (k_3 + 1)) (lv' := [(5, .int (nI (k_3 + 1))), (0, .ref a_p0), (1, .int (nI x1)), (2, .ref a_p0), (3, .int (nI x3)), (4, .int (nI x4))]) hx hb dX10_bring_22 hl (k := 0) rfl (nI_1 _) (by decide) rfl (fun ls hl => ?_)
        refine lv_goto (tgt := 3) hx hb dX10_bring_25 (by decide) ?_
        exact ih (k_3 + 1) (by omega) (upd u_p0_3 (x3 + k_3) (u_p0_3 (x1 + k_3))) hm ls (lv_sub hl [0, 1, 2, 3, 4, 5] rfl) H locs hP hD hS
  exact L_3 x4 0 (Nat.zero_add _) v_p0 rfl ls (lv_sub hl [0, 1, 2, 3, 4, 5] rfl) s.heap [] hP hD hS
theorem dX10_illOf_0 : decode cX10_illOf 0 = .ok (.aload_n 0, 1) := by decide +kernel
theorem dX10_illOf_1 : decode cX10_illOf 1 = .ok (.bipush 29, 2) := by decide +kernel
theorem dX10_illOf_3 : decode cX10_illOf 3 = .ok (.iload_n 1, 1) := by decide +kernel
theorem dX10_illOf_4 : decode cX10_illOf 4 = .ok (.iadd, 1) := by decide +kernel
theorem dX10_illOf_5 : decode cX10_illOf 5 = .ok (.iaload, 1) := by decide +kernel
theorem dX10_illOf_6 : decode cX10_illOf 6 = .ok (.bipush 9, 2) := by decide +kernel
theorem dX10_illOf_8 : decode cX10_illOf 8 = .ok (.if_icmp .ge 15, 3) := by decide +kernel
theorem dX10_illOf_11 : decode cX10_illOf 11 = .ok (.bipush 9, 2) := by decide +kernel
theorem dX10_illOf_13 : decode cX10_illOf 13 = .ok (.aload_n 0, 1) := by decide +kernel
theorem dX10_illOf_14 : decode cX10_illOf 14 = .ok (.bipush 29, 2) := by decide +kernel
theorem dX10_illOf_16 : decode cX10_illOf 16 = .ok (.iload_n 1, 1) := by decide +kernel
theorem dX10_illOf_17 : decode cX10_illOf 17 = .ok (.iadd, 1) := by decide +kernel
theorem dX10_illOf_18 : decode cX10_illOf 18 = .ok (.iaload, 1) := by decide +kernel
theorem dX10_illOf_19 : decode cX10_illOf 19 = .ok (.isub, 1) := by decide +kernel
theorem dX10_illOf_20 : decode cX10_illOf 20 = .ok (.goto 4, 3) := by decide +kernel
theorem dX10_illOf_23 : decode cX10_illOf 23 = .ok (.iconst 0, 1) := by decide +kernel
theorem dX10_illOf_24 : decode cX10_illOf 24 = .ok (.ireturn, 1) := by decide +kernel
theorem h_X10_illOf : yX10_illOf.cls ≠ "java/lang/invoke/MethodHandle" ∧ yX10_illOf.cls ≠ "java/lang/invoke/VarHandle" ∧ (parseMethodDescriptor yX10_illOf.desc).map (fun d => d.parameters.length) = some 2 := by decide +kernel
def mX10_illOf (v_p0 : Nat → Int32) (x1 : Nat) : Int32 := (if (nI 9) ≤ (v_p0 (29 + x1)) then nI 0 else (nI 9) - (v_p0 (29 + x1)))
set_option maxHeartbeats 4000000 in
set_option maxRecDepth 100000 in
theorem kX10_illOf (l : Launch) (dC : Nat → ClassId) (dI : Nat → Nat → Nat) (cA cZ : ClassId) (a_p0 : Nat) (v_p0 : Nat → Int32) (x1 : Nat) (hp : x1 < 6) : Met l yX10_illOf (Cond.code yX10_illOf cX10_illOf 2 (some .int) :: wt) ({ frames := 0, cells := 0, slots := 0, locals := 0 } : Room) (va_Pc [.ref a_p0, .int (nI x1)] (PreP (dC, dI) [(cA, .int), (cZ, .boolean)] [(a_p0, .inl (cA, 35, .inl v_p0))])) (vp_Si (fun r => r = (mX10_illOf v_p0 x1))) 0 0 (fun _ => False) := by
  refine Met.ofW (cc := cX10_illOf) (maxL := 2) (ret := (some .int)) (by decide) rfl ?_
  intro p e s m args below meth c s₁ B hml hv
  obtain ⟨ha, hP, hK⟩ := hv
  have hx := B.exec
  have hb := B.bytes
  have hr := B.returns
  have ht : ∀ w ∈ wt, w.before args s = true := fun w h => atoms_spec (ws := (Cond.code yX10_illOf cX10_illOf 2 (some .int) :: wt)) B.pre w (List.mem_cons_of_mem _ h)
  have hown : s.vm.findClass RX10 = some m.cls := findClass_of_methodNamed B.named
  have hlocks := B.notSynchronized
  have hl := lv_entry ([.ref a_p0, .int (nI x1)]) (n := 2) (Nat.le_of_ble_eq_true rfl)
  rw [show entryFrame m args 2 = _ from (congrArg (fun a => entryFrame m a 2) ha).trans (lg_entry_eq m [.ref a_p0, .int (nI x1)] 2)]
  generalize (lg_sl ([.ref a_p0, .int (nI x1)]) ++ List.replicate (2 - (lg_sl ([.ref a_p0, .int (nI x1)])).length) Slot.unset).toArray = ls at hl ⊢
  have hl : lv_has ls 2 [(0, .ref a_p0), (1, .int (nI x1))] := hl
  have hm : (if (nI 9) ≤ (v_p0 (29 + x1)) then nI 0 else (nI 9) - (v_p0 (29 + x1))) = (mX10_illOf v_p0 x1) := rfl
  refine lv_aload_n hx hb dX10_illOf_0 rfl (lv_at hl 0 rfl) ?_
  refine lv_bipush (v := nI 29) hx hb dX10_illOf_1 (by decide) ?_
  refine lv_iload_n hx hb dX10_illOf_3 rfl (lv_at hl 1 rfl) ?_
  refine nv_iadd hx hb dX10_illOf_4 ?_
  refine nv_iald (e := 29 + x1) (by omega) (by omega) hx hb hK.1 hP 0 0 rfl rfl dX10_illOf_5 ?_
  refine lv_bipush (v := nI 9) hx hb dX10_illOf_6 (by decide) ?_
  refine lv_icmp_ge (tgt := 23) hx hb dX10_illOf_8 (by decide) (fun c_1 => ?_) (fun c_1 => ?_)
  · have hm := (if_pos c_1).symm.trans hm
    refine lv_iconst (v := nI 0) hx hb dX10_illOf_23 (by decide) ?_
    exact W.iret (v := nI 0) hx hb hr (fun t ht9 _ => ⟨_, rfl, hm, ht9⟩) (fun q hq => absurd hq List.not_mem_nil) dX10_illOf_24
  · have hm := (if_neg c_1).symm.trans hm
    refine lv_bipush (v := nI 9) hx hb dX10_illOf_11 (by decide) ?_
    refine lv_aload_n hx hb dX10_illOf_13 rfl (lv_at hl 0 rfl) ?_
    refine lv_bipush (v := nI 29) hx hb dX10_illOf_14 (by decide) ?_
    refine lv_iload_n hx hb dX10_illOf_16 rfl (lv_at hl 1 rfl) ?_
    refine nv_iadd hx hb dX10_illOf_17 ?_
    refine nv_iald (e := 29 + x1) (by omega) (by omega) hx hb hK.1 hP 0 0 rfl rfl dX10_illOf_18 ?_
    refine lv_isub hx hb dX10_illOf_19 ?_
    refine lv_goto (tgt := 24) hx hb dX10_illOf_20 (by decide) ?_
    exact W.iret (v := (nI 9) - (v_p0 (29 + x1))) hx hb hr (fun t ht9 _ => ⟨_, rfl, hm, ht9⟩) (fun q hq => absurd hq List.not_mem_nil) dX10_illOf_24
theorem dX10_stopsIn_0 : decode cX10_stopsIn 0 = .ok (.aload_n 0, 1) := by decide +kernel
theorem dX10_stopsIn_1 : decode cX10_stopsIn 1 = .ok (.iconst 3, 1) := by decide +kernel
theorem dX10_stopsIn_2 : decode cX10_stopsIn 2 = .ok (.iload_n 2, 1) := by decide +kernel
theorem dX10_stopsIn_3 : decode cX10_stopsIn 3 = .ok (.iadd, 1) := by decide +kernel
theorem dX10_stopsIn_4 : decode cX10_stopsIn 4 = .ok (.iaload, 1) := by decide +kernel
theorem dX10_stopsIn_5 : decode cX10_stopsIn 5 = .ok (.aload_n 0, 1) := by decide +kernel
theorem dX10_stopsIn_6 : decode cX10_stopsIn 6 = .ok (.iload_n 1, 1) := by decide +kernel
theorem dX10_stopsIn_7 : decode cX10_stopsIn 7 = .ok (.invokestatic 154, 3) := by decide +kernel
theorem dX10_stopsIn_10 : decode cX10_stopsIn 10 = .ok (.invokestatic 158, 3) := by decide +kernel
theorem dX10_stopsIn_13 : decode cX10_stopsIn 13 = .ok (.ireturn, 1) := by decide +kernel
theorem h_X10_stopsIn : yX10_stopsIn.cls ≠ "java/lang/invoke/MethodHandle" ∧ yX10_stopsIn.cls ≠ "java/lang/invoke/VarHandle" ∧ (parseMethodDescriptor yX10_stopsIn.desc).map (fun d => d.parameters.length) = some 3 := by decide +kernel
def mX10_stopsIn (v_p0 : Nat → Int32) (x1 : Nat) (x2 : Nat) : Int32 := (mX10_stopsBy (v_p0 (3 + x2)) ((mX10_illOf v_p0 x1)))
set_option maxHeartbeats 4000000 in
set_option maxRecDepth 100000 in
theorem kX10_stopsIn (l : Launch) (dC : Nat → ClassId) (dI : Nat → Nat → Nat) (cA cZ : ClassId) (a_p0 : Nat) (v_p0 : Nat → Int32) (x1 : Nat) (x2 : Nat) (hp : x1 < 6) (hd : x2 < 10) : Met l yX10_stopsIn (Cond.code yX10_stopsIn cX10_stopsIn 3 (some .boolean) :: wt) ({ frames := 1, cells := 0, slots := 0, locals := 21 } : Room) (va_Pc [.ref a_p0, .int (nI x1), .int (nI x2)] (PreP (dC, dI) [(cA, .int), (cZ, .boolean)] [(a_p0, .inl (cA, 35, .inl v_p0))])) (vp_Si (fun r => r = (mX10_stopsIn v_p0 x1 x2))) 0 0 (fun _ => False) := by
  refine Met.ofW (cc := cX10_stopsIn) (maxL := 3) (ret := (some .boolean)) (by decide) rfl ?_
  intro p e s m args below meth c s₁ B hml hv
  obtain ⟨ha, hP, hK⟩ := hv
  have hx := B.exec
  have hb := B.bytes
  have hr := B.returns
  have ht : ∀ w ∈ wt, w.before args s = true := fun w h => atoms_spec (ws := (Cond.code yX10_stopsIn cX10_stopsIn 3 (some .boolean) :: wt)) B.pre w (List.mem_cons_of_mem _ h)
  have hown : s.vm.findClass RX10 = some m.cls := findClass_of_methodNamed B.named
  have hlocks := B.notSynchronized
  have hl := lv_entry ([.ref a_p0, .int (nI x1), .int (nI x2)]) (n := 3) (Nat.le_of_ble_eq_true rfl)
  rw [show entryFrame m args 3 = _ from (congrArg (fun a => entryFrame m a 3) ha).trans (lg_entry_eq m [.ref a_p0, .int (nI x1), .int (nI x2)] 3)]
  generalize (lg_sl ([.ref a_p0, .int (nI x1), .int (nI x2)]) ++ List.replicate (3 - (lg_sl ([.ref a_p0, .int (nI x1), .int (nI x2)])).length) Slot.unset).toArray = ls at hl ⊢
  have hl : lv_has ls 3 [(0, .ref a_p0), (1, .int (nI x1)), (2, .int (nI x2))] := hl
  have hm : (mX10_stopsBy (v_p0 (3 + x2)) ((mX10_illOf v_p0 x1))) = (mX10_stopsIn v_p0 x1 x2) := rfl
  refine lv_aload_n hx hb dX10_stopsIn_0 rfl (lv_at hl 0 rfl) ?_
  refine lv_iconst (v := nI 3) hx hb dX10_stopsIn_1 (by decide) ?_
  refine lv_iload_n hx hb dX10_stopsIn_2 rfl (lv_at hl 2 rfl) ?_
  refine nv_iadd hx hb dX10_stopsIn_3 ?_
  refine nv_iald (e := 3 + x2) (by omega) (by omega) hx hb hK.1 hP 0 0 rfl rfl dX10_stopsIn_4 ?_
  refine lv_aload_n hx hb dX10_stopsIn_5 rfl (lv_at hl 0 rfl) ?_
  refine lv_iload_n hx hb dX10_stopsIn_6 rfl (lv_at hl 1 rfl) ?_
  refine pv_call (v := (mX10_illOf v_p0 x1)) (va_runS (As := [.ref a_p0, .int (nI x1)]) (rest := [.int (v_p0 (3 + x2))]) ⟨hx, hb, hml, hown, ht⟩ (kX10_illOf l dC dI cA cZ a_p0 v_p0 x1 (by omega)) (va_cwS 2 ht (gi_S w_5_142 w_5_143 w_1_12 (gi_code w_5_144)) rfl rfl rfl h_X10_illOf ⟨Nat.le_of_ble_eq_true rfl, Nat.le_of_ble_eq_true rfl⟩) ⟨pp_blind, pp_use hP hK⟩ rfl rfl hl.1 rfl (lv_room (Nat.le_of_ble_eq_true rfl)) dX10_stopsIn_7 ⟨Nat.zero_le _, Nat.zero_le _⟩) ?_
  refine pv_call (v := (mX10_stopsBy (v_p0 (3 + x2)) ((mX10_illOf v_p0 x1)))) (va_runS (As := [.int (v_p0 (3 + x2)), .int ((mX10_illOf v_p0 x1))]) (rest := []) ⟨hx, hb, hml, hown, ht⟩ (kX10_stopsBy l dC dI cA cZ (v_p0 (3 + x2)) ((mX10_illOf v_p0 x1))) (va_cwS 2 ht (gi_S w_5_152 w_5_153 w_1_12 (gi_code w_5_154)) rfl rfl rfl h_X10_stopsBy ⟨Nat.le_of_ble_eq_true rfl, Nat.le_of_ble_eq_true rfl⟩) ⟨pp_blind, pp_use (ws := []) (fun _ _ h => by cases h) hK⟩ rfl rfl hl.1 rfl (lv_room (Nat.le_of_ble_eq_true rfl)) dX10_stopsIn_10 ⟨Nat.zero_le _, Nat.zero_le _⟩) ?_
  exact W.zret (v := (mX10_stopsBy (v_p0 (3 + x2)) ((mX10_illOf v_p0 x1)))) (ty := .boolean) hx hb hr (zX10_stopsBy _ _) (fun t ht9 _ => ⟨_, rfl, hm, ht9⟩) (fun q hq => absurd hq List.not_mem_nil) dX10_stopsIn_13
theorem zX10_stopsIn (v_p0 : Nat → Int32) (x1 : Nat) (x2 : Nat) : narrow .boolean (.int (mX10_stopsIn v_p0 x1 x2)) = .int (mX10_stopsIn v_p0 x1 x2) := by
  unfold mX10_stopsIn
  repeat' split
  all_goals first | rfl | exact (zX10_stopsBy _ _)
theorem dX10_feed_0 : decode cX10_feed 0 = .ok (.iload_n 1, 1) := by decide +kernel
theorem dX10_feed_1 : decode cX10_feed 1 = .ok (.iconst 0, 1) := by decide +kernel
theorem dX10_feed_2 : decode cX10_feed 2 = .ok (.sipush 255, 3) := by decide +kernel
theorem dX10_feed_5 : decode cX10_feed 5 = .ok (.invokestatic 60, 3) := by decide +kernel
theorem dX10_feed_8 : decode cX10_feed 8 = .ok (.ifCond .ne 6, 3) := by decide +kernel
theorem dX10_feed_11 : decode cX10_feed 11 = .ok (.ldc 70, 2) := by decide +kernel
theorem dX10_feed_13 : decode cX10_feed 13 = .ok (.ireturn, 1) := by decide +kernel
theorem dX10_feed_14 : decode cX10_feed 14 = .ok (.aload_n 0, 1) := by decide +kernel
theorem dX10_feed_15 : decode cX10_feed 15 = .ok (.getfield 71, 3) := by decide +kernel
theorem dX10_feed_18 : decode cX10_feed 18 = .ok (.sipush 240, 3) := by decide +kernel
theorem dX10_feed_21 : decode cX10_feed 21 = .ok (.if_icmp .ne 6, 3) := by decide +kernel
theorem dX10_feed_24 : decode cX10_feed 24 = .ok (.ldc 74, 2) := by decide +kernel
theorem dX10_feed_26 : decode cX10_feed 26 = .ok (.ireturn, 1) := by decide +kernel
theorem dX10_feed_27 : decode cX10_feed 27 = .ok (.aload_n 0, 1) := by decide +kernel
theorem dX10_feed_28 : decode cX10_feed 28 = .ok (.getfield 7, 3) := by decide +kernel
theorem dX10_feed_31 : decode cX10_feed 31 = .ok (.aload_n 0, 1) := by decide +kernel
theorem dX10_feed_32 : decode cX10_feed 32 = .ok (.getfield 71, 3) := by decide +kernel
theorem dX10_feed_35 : decode cX10_feed 35 = .ok (.iload_n 1, 1) := by decide +kernel
theorem dX10_feed_36 : decode cX10_feed 36 = .ok (.iastore, 1) := by decide +kernel
theorem dX10_feed_37 : decode cX10_feed 37 = .ok (.aload_n 0, 1) := by decide +kernel
theorem dX10_feed_38 : decode cX10_feed 38 = .ok (.dup, 1) := by decide +kernel
theorem dX10_feed_39 : decode cX10_feed 39 = .ok (.getfield 71, 3) := by decide +kernel
theorem dX10_feed_42 : decode cX10_feed 42 = .ok (.iconst 1, 1) := by decide +kernel
theorem dX10_feed_43 : decode cX10_feed 43 = .ok (.iadd, 1) := by decide +kernel
theorem dX10_feed_44 : decode cX10_feed 44 = .ok (.putfield 71, 3) := by decide +kernel
theorem dX10_feed_47 : decode cX10_feed 47 = .ok (.aload_n 0, 1) := by decide +kernel
theorem dX10_feed_48 : decode cX10_feed 48 = .ok (.getfield 71, 3) := by decide +kernel
theorem dX10_feed_51 : decode cX10_feed 51 = .ok (.ireturn, 1) := by decide +kernel
theorem h_X10_feed : yX10_feed.cls ≠ "java/lang/invoke/MethodHandle" ∧ yX10_feed.cls ≠ "java/lang/invoke/VarHandle" ∧ (parseMethodDescriptor yX10_feed.desc).map (fun d => d.parameters.length) = some 1 := by decide +kernel
def mX10_feed (v_letters : Nat) (v_text : Nat → Int32) (x1 : Int32) : Int32 × Nat × (Nat → Int32) := (if ((mX10_in x1 (nI 0) (nI 255))) = 0 then ((-1000000002 : Int32), v_letters, v_text) else (if (nI v_letters) = (nI 240) then ((-1000000004 : Int32), v_letters, v_text) else (nI (v_letters + 1), v_letters + 1, upd v_text v_letters x1)))
set_option maxHeartbeats 4000000 in
set_option maxRecDepth 100000 in
theorem kX10_feed (l : Launch) (dC : Nat → ClassId) (dI : Nat → Nat → Nat) (cA cZ : ClassId) (a_this a_this_text a_this_readRain a_this_readDoor a_this_readPerson a_this_rain a_this_door a_this_now a_this_tried a_this_backOf a_this_image a_this_imageSeed a_this_isKept a_this_sight a_this_entry : Nat) (v_letters : Nat) (v_position : Nat) (v_tokenAt : Nat) (v_token : Int32) (v_number : Int32) (v_figures : Nat) (v_faultAt : Int32) (v_faultIs : Int32) (v_readRooms : Int32) (v_readStore : Int32) (v_readRains : Nat) (v_readDoors : Nat) (v_readPersons : Nat) (v_rooms : Int32) (v_rains : Nat) (v_doors : Nat) (v_persons : Nat) (v_backs : Nat) (v_seed : Int32) (v_seen : Nat) (v_entries : Nat) (v_text : Nat → Int32) (x1 : Int32) (hL : v_letters ≤ 240) (sz : Nat) : Met l yX10_feed (Cond.code yX10_feed cX10_feed 2 (some .int) :: wt) ({ frames := 1, cells := 0, slots := 0, locals := 22 } : Room) (va_Pc [.ref a_this, .int x1] (PreM (dC, dI) [(cA, .int), (cZ, .boolean)] sz [(a_this, .inr (10, [.int (nI v_letters), .ref a_this_text, .int (nI v_position), .int (nI v_tokenAt), .int v_token, .int v_number, .int (nI v_figures), .int v_faultAt, .int v_faultIs, .int v_readRooms, .int v_readStore, .int (nI v_readRains), .int (nI v_readDoors), .int (nI v_readPersons), .ref a_this_readRain, .ref a_this_readDoor, .ref a_this_readPerson, .int v_rooms, .int (nI v_rains), .int (nI v_doors), .int (nI v_persons), .ref a_this_rain, .ref a_this_door, .ref a_this_now, .ref a_this_tried, .ref a_this_backOf, .int (nI v_backs), .ref a_this_image, .ref a_this_imageSeed, .ref a_this_isKept, .int v_seed, .int (nI v_seen), .ref a_this_sight, .int (nI v_entries), .ref a_this_entry])), (a_this_text, .inl (cA, 240, .inl v_text))])) (PoI (dC, dI) sz [(a_this, .inr (10, [.int (nI v_letters), .ref a_this_text, .int (nI v_position), .int (nI v_tokenAt), .int v_token, .int v_number, .int (nI v_figures), .int v_faultAt, .int v_faultIs, .int v_readRooms, .int v_readStore, .int (nI v_readRains), .int (nI v_readDoors), .int (nI v_readPersons), .ref a_this_readRain, .ref a_this_readDoor, .ref a_this_readPerson, .int v_rooms, .int (nI v_rains), .int (nI v_doors), .int (nI v_persons), .ref a_this_rain, .ref a_this_door, .ref a_this_now, .ref a_this_tried, .ref a_this_backOf, .int (nI v_backs), .ref a_this_image, .ref a_this_imageSeed, .ref a_this_isKept, .int v_seed, .int (nI v_seen), .ref a_this_sight, .int (nI v_entries), .ref a_this_entry])), (a_this_text, .inl (cA, 240, .inl v_text))] ((mX10_feed v_letters v_text x1)).1 [(a_this, .inr (10, [.int (nI (((mX10_feed v_letters v_text x1)).2.1)), .ref a_this_text, .int (nI v_position), .int (nI v_tokenAt), .int v_token, .int v_number, .int (nI v_figures), .int v_faultAt, .int v_faultIs, .int v_readRooms, .int v_readStore, .int (nI v_readRains), .int (nI v_readDoors), .int (nI v_readPersons), .ref a_this_readRain, .ref a_this_readDoor, .ref a_this_readPerson, .int v_rooms, .int (nI v_rains), .int (nI v_doors), .int (nI v_persons), .ref a_this_rain, .ref a_this_door, .ref a_this_now, .ref a_this_tried, .ref a_this_backOf, .int (nI v_backs), .ref a_this_image, .ref a_this_imageSeed, .ref a_this_isKept, .int v_seed, .int (nI v_seen), .ref a_this_sight, .int (nI v_entries), .ref a_this_entry])), (a_this_text, .inl (cA, 240, .inl (((mX10_feed v_letters v_text x1)).2.2)))]) 0 0 (va_A [(a_this, .inr (10, [.int (nI v_letters), .ref a_this_text, .int (nI v_position), .int (nI v_tokenAt), .int v_token, .int v_number, .int (nI v_figures), .int v_faultAt, .int v_faultIs, .int v_readRooms, .int v_readStore, .int (nI v_readRains), .int (nI v_readDoors), .int (nI v_readPersons), .ref a_this_readRain, .ref a_this_readDoor, .ref a_this_readPerson, .int v_rooms, .int (nI v_rains), .int (nI v_doors), .int (nI v_persons), .ref a_this_rain, .ref a_this_door, .ref a_this_now, .ref a_this_tried, .ref a_this_backOf, .int (nI v_backs), .ref a_this_image, .ref a_this_imageSeed, .ref a_this_isKept, .int v_seed, .int (nI v_seen), .ref a_this_sight, .int (nI v_entries), .ref a_this_entry])), (a_this_text, .inl (cA, 240, .inl v_text))] sz) := by
  refine Met.ofW (cc := cX10_feed) (maxL := 2) (ret := (some .int)) (by decide) rfl ?_
  intro p e s m args below meth c s₁ B hml hv
  obtain ⟨ha, hsz, hP, hK, hD0⟩ := hv
  have hx := B.exec
  have hb := B.bytes
  have hr := B.returns
  have ht : ∀ w ∈ wt, w.before args s = true := fun w h => atoms_spec (ws := (Cond.code yX10_feed cX10_feed 2 (some .int) :: wt)) B.pre w (List.mem_cons_of_mem _ h)
  have hown : s.vm.findClass RX10 = some m.cls := findClass_of_methodNamed B.named
  have hlocks := B.notSynchronized
  subst hsz
  have hD := hD0.self (sz := s.heap.size)
  have hA : ∀ q : Nat, s.heap.size ≤ q → va_A [(a_this, .inr (10, [.int (nI v_letters), .ref a_this_text, .int (nI v_position), .int (nI v_tokenAt), .int v_token, .int v_number, .int (nI v_figures), .int v_faultAt, .int v_faultIs, .int v_readRooms, .int v_readStore, .int (nI v_readRains), .int (nI v_readDoors), .int (nI v_readPersons), .ref a_this_readRain, .ref a_this_readDoor, .ref a_this_readPerson, .int v_rooms, .int (nI v_rains), .int (nI v_doors), .int (nI v_persons), .ref a_this_rain, .ref a_this_door, .ref a_this_now, .ref a_this_tried, .ref a_this_backOf, .int (nI v_backs), .ref a_this_image, .ref a_this_imageSeed, .ref a_this_isKept, .int v_seed, .int (nI v_seen), .ref a_this_sight, .int (nI v_entries), .ref a_this_entry])), (a_this_text, .inl (cA, 240, .inl v_text))] s.heap.size q := fun q h => Or.inr h
  have hS : va_S (va_A [(a_this, .inr (10, [.int (nI v_letters), .ref a_this_text, .int (nI v_position), .int (nI v_tokenAt), .int v_token, .int v_number, .int (nI v_figures), .int v_faultAt, .int v_faultIs, .int v_readRooms, .int v_readStore, .int (nI v_readRains), .int (nI v_readDoors), .int (nI v_readPersons), .ref a_this_readRain, .ref a_this_readDoor, .ref a_this_readPerson, .int v_rooms, .int (nI v_rains), .int (nI v_doors), .int (nI v_persons), .ref a_this_rain, .ref a_this_door, .ref a_this_now, .ref a_this_tried, .ref a_this_backOf, .int (nI v_backs), .ref a_this_image, .ref a_this_imageSeed, .ref a_this_isKept, .int v_seed, .int (nI v_seen), .ref a_this_sight, .int (nI v_entries), .ref a_this_entry])), (a_this_text, .inl (cA, 240, .inl v_text))] s.heap.size) s.heap s.heap [] := va_S.rf
  have hl := lv_entry ([.ref a_this, .int x1]) (n := 2) (Nat.le_of_ble_eq_true rfl)
  rw [show entryFrame m args 2 = _ from (congrArg (fun a => entryFrame m a 2) ha).trans (lg_entry_eq m [.ref a_this, .int x1] 2)]
  generalize (lg_sl ([.ref a_this, .int x1]) ++ List.replicate (2 - (lg_sl ([.ref a_this, .int x1])).length) Slot.unset).toArray = ls at hl ⊢
  have hl : lv_has ls 2 [(0, .ref a_this), (1, .int x1)] := hl
  have hm : (if ((mX10_in x1 (nI 0) (nI 255))) = 0 then ((-1000000002 : Int32), v_letters, v_text) else (if (nI v_letters) = (nI 240) then ((-1000000004 : Int32), v_letters, v_text) else (nI (v_letters + 1), v_letters + 1, upd v_text v_letters x1))) = (mX10_feed v_letters v_text x1) := rfl
  refine lv_iload_n hx hb dX10_feed_0 rfl (lv_at hl 1 rfl) ?_
  refine lv_iconst (v := nI 0) hx hb dX10_feed_1 (by decide) ?_
  refine lv_sipush (v := nI 255) hx hb dX10_feed_2 (by decide) ?_
  refine pv_call (v := (mX10_in x1 (nI 0) (nI 255))) (va_runS (As := [.int x1, .int (nI 0), .int (nI 255)]) (rest := []) ⟨hx, hb, hml, hown, ht⟩ (kX10_in l dC dI cA cZ x1 (nI 0) (nI 255)) (va_cwS 3 ht (gi_S w_5_74 w_5_75 w_1_12 (gi_code w_5_76)) rfl rfl rfl h_X10_in ⟨Nat.le_of_ble_eq_true rfl, Nat.le_of_ble_eq_true rfl⟩) ⟨pp_blind, pp_use (ws := []) (fun _ _ h => by cases h) hK⟩ rfl rfl hl.1 rfl (lv_room (Nat.le_of_ble_eq_true rfl)) dX10_feed_5 ⟨Nat.zero_le _, Nat.zero_le _⟩) ?_
  refine lv_if_ne (tgt := 14) hx hb dX10_feed_8 (by decide) (fun c_1 => ?_) (fun c_1 => ?_)
  · have hm := (if_neg c_1).symm.trans hm
    refine lv_aload_n hx hb dX10_feed_14 rfl (lv_at hl 0 rfl) ?_
    refine va_get (D := (dC, dI)) (ci := 10) (v := .int (nI v_letters)) (C := RX10) (T := TX10) (N := 35) hx hb ht iX10 hown hK.1 hP 0 rfl rfl 0 (by decide) (ht _ w_4_203) (fun _ h9 => h9) rfl dX10_feed_15 ?_
    refine lv_sipush (v := nI 240) hx hb dX10_feed_18 (by decide) ?_
    refine lv_icmp_ne (tgt := 27) hx hb dX10_feed_21 (by decide) (fun c_2 => ?_) (fun c_2 => ?_)
    · have hm := (if_neg c_2).symm.trans hm
      refine lv_aload_n hx hb dX10_feed_27 rfl (lv_at hl 0 rfl) ?_
      refine va_get (D := (dC, dI)) (ci := 10) (v := .ref a_this_text) (C := RX10) (T := TX10) (N := 35) hx hb ht iX10 hown hK.1 hP 0 rfl rfl 1 (by decide) (ht _ w_4_204) (fun _ h9 => h9) rfl dX10_feed_28 ?_
      refine lv_aload_n hx hb dX10_feed_31 rfl (lv_at hl 0 rfl) ?_
      refine va_get (D := (dC, dI)) (ci := 10) (v := .int (nI v_letters)) (C := RX10) (T := TX10) (N := 35) hx hb ht iX10 hown hK.1 hP 0 rfl rfl 0 (by decide) (ht _ w_4_203) (fun _ h9 => h9) rfl dX10_feed_32 ?_
      refine lv_iload_n hx hb dX10_feed_35 rfl (lv_at hl 1 rfl) ?_
      refine nv_iast (e := v_letters) (by have := ne_nI c_2; omega) (by omega) hx hb hK.1 hP hD hS 1 0 rfl rfl dX10_feed_36 (fun H locs hP hD hS => ?_)
      have hP : va_P (dC, dI) vwCl [(a_this, .inr (10, [.int (nI v_letters), .ref a_this_text, .int (nI v_position), .int (nI v_tokenAt), .int v_token, .int v_number, .int (nI v_figures), .int v_faultAt, .int v_faultIs, .int v_readRooms, .int v_readStore, .int (nI v_readRains), .int (nI v_readDoors), .int (nI v_readPersons), .ref a_this_readRain, .ref a_this_readDoor, .ref a_this_readPerson, .int v_rooms, .int (nI v_rains), .int (nI v_doors), .int (nI v_persons), .ref a_this_rain, .ref a_this_door, .ref a_this_now, .ref a_this_tried, .ref a_this_backOf, .int (nI v_backs), .ref a_this_image, .ref a_this_imageSeed, .ref a_this_isKept, .int v_seed, .int (nI v_seen), .ref a_this_sight, .int (nI v_entries), .ref a_this_entry])), (a_this_text, .inl (cA, 240, .inl (upd v_text v_letters x1)))] H := hP
      have hD : va_D (va_A [(a_this, .inr (10, [.int (nI v_letters), .ref a_this_text, .int (nI v_position), .int (nI v_tokenAt), .int v_token, .int v_number, .int (nI v_figures), .int v_faultAt, .int v_faultIs, .int v_readRooms, .int v_readStore, .int (nI v_readRains), .int (nI v_readDoors), .int (nI v_readPersons), .ref a_this_readRain, .ref a_this_readDoor, .ref a_this_readPerson, .int v_rooms, .int (nI v_rains), .int (nI v_doors), .int (nI v_persons), .ref a_this_rain, .ref a_this_door, .ref a_this_now, .ref a_this_tried, .ref a_this_backOf, .int (nI v_backs), .ref a_this_image, .ref a_this_imageSeed, .ref a_this_isKept, .int v_seed, .int (nI v_seen), .ref a_this_sight, .int (nI v_entries), .ref a_this_entry])), (a_this_text, .inl (cA, 240, .inl v_text))] s.heap.size) [(a_this, .inr (10, [.int (nI v_letters), .ref a_this_text, .int (nI v_position), .int (nI v_tokenAt), .int v_token, .int v_number, .int (nI v_figures), .int v_faultAt, .int v_faultIs, .int v_readRooms, .int v_readStore, .int (nI v_readRains), .int (nI v_readDoors), .int (nI v_readPersons), .ref a_this_readRain, .ref a_this_readDoor, .ref a_this_readPerson, .int v_rooms, .int (nI v_rains), .int (nI v_doors), .int (nI v_persons), .ref a_this_rain, .ref a_this_door, .ref a_this_now, .ref a_this_tried, .ref a_this_backOf, .int (nI v_backs), .ref a_this_image, .ref a_this_imageSeed, .ref a_this_isKept, .int v_seed, .int (nI v_seen), .ref a_this_sight, .int (nI v_entries), .ref a_this_entry])), (a_this_text, .inl (cA, 240, .inl (upd v_text v_letters x1)))] := hD
      refine lv_aload_n hx hb dX10_feed_37 rfl (lv_at hl 0 rfl) ?_
      refine lv_dup hx hb dX10_feed_38 rfl ?_
      refine va_get (D := (dC, dI)) (ci := 10) (v := .int (nI v_letters)) (C := RX10) (T := TX10) (N := 35) hx hb ht iX10 hown hK.1 hP 0 rfl rfl 0 (by decide) (ht _ w_4_203) (fun _ h9 => h9) rfl dX10_feed_39 ?_
      refine lv_iconst (v := nI 1) hx hb dX10_feed_42 (by decide) ?_
      refine nv_iadd hx hb dX10_feed_43 ?_
      refine va_put (D := (dC, dI)) (ci := 10) (v := .int (nI (v_letters + 1))) (ty := .int) (C := RX10) (T := TX10) (N := 35) hx hb ht iX10 tyX10 tyX10_ok nmX10 hown hK.1 hP hD hS 0 rfl rfl 0 (by decide) (ht _ w_4_203) (fun _ h9 => h9) rfl rfl rfl rfl (Nat.le_of_ble_eq_true rfl) dX10_feed_44 (fun H locs hP hD hS => ?_)
      have hP : va_P (dC, dI) vwCl [(a_this, .inr (10, [.int (nI (v_letters + 1)), .ref a_this_text, .int (nI v_position), .int (nI v_tokenAt), .int v_token, .int v_number, .int (nI v_figures), .int v_faultAt, .int v_faultIs, .int v_readRooms, .int v_readStore, .int (nI v_readRains), .int (nI v_readDoors), .int (nI v_readPersons), .ref a_this_readRain, .ref a_this_readDoor, .ref a_this_readPerson, .int v_rooms, .int (nI v_rains), .int (nI v_doors), .int (nI v_persons), .ref a_this_rain, .ref a_this_door, .ref a_this_now, .ref a_this_tried, .ref a_this_backOf, .int (nI v_backs), .ref a_this_image, .ref a_this_imageSeed, .ref a_this_isKept, .int v_seed, .int (nI v_seen), .ref a_this_sight, .int (nI v_entries), .ref a_this_entry])), (a_this_text, .inl (cA, 240, .inl (upd v_text v_letters x1)))] H := hP
      have hD : va_D (va_A [(a_this, .inr (10, [.int (nI v_letters), .ref a_this_text, .int (nI v_position), .int (nI v_tokenAt), .int v_token, .int v_number, .int (nI v_figures), .int v_faultAt, .int v_faultIs, .int v_readRooms, .int v_readStore, .int (nI v_readRains), .int (nI v_readDoors), .int (nI v_readPersons), .ref a_this_readRain, .ref a_this_readDoor, .ref a_this_readPerson, .int v_rooms, .int (nI v_rains), .int (nI v_doors), .int (nI v_persons), .ref a_this_rain, .ref a_this_door, .ref a_this_now, .ref a_this_tried, .ref a_this_backOf, .int (nI v_backs), .ref a_this_image, .ref a_this_imageSeed, .ref a_this_isKept, .int v_seed, .int (nI v_seen), .ref a_this_sight, .int (nI v_entries), .ref a_this_entry])), (a_this_text, .inl (cA, 240, .inl v_text))] s.heap.size) [(a_this, .inr (10, [.int (nI (v_letters + 1)), .ref a_this_text, .int (nI v_position), .int (nI v_tokenAt), .int v_token, .int v_number, .int (nI v_figures), .int v_faultAt, .int v_faultIs, .int v_readRooms, .int v_readStore, .int (nI v_readRains), .int (nI v_readDoors), .int (nI v_readPersons), .ref a_this_readRain, .ref a_this_readDoor, .ref a_this_readPerson, .int v_rooms, .int (nI v_rains), .int (nI v_doors), .int (nI v_persons), .ref a_this_rain, .ref a_this_door, .ref a_this_now, .ref a_this_tried, .ref a_this_backOf, .int (nI v_backs), .ref a_this_image, .ref a_this_imageSeed, .ref a_this_isKept, .int v_seed, .int (nI v_seen), .ref a_this_sight, .int (nI v_entries), .ref a_this_entry])), (a_this_text, .inl (cA, 240, .inl (upd v_text v_letters x1)))] := hD
      refine lv_aload_n hx hb dX10_feed_47 rfl (lv_at hl 0 rfl) ?_
      refine va_get (D := (dC, dI)) (ci := 10) (v := .int (nI (v_letters + 1))) (C := RX10) (T := TX10) (N := 35) hx hb ht iX10 hown hK.1 hP 0 rfl rfl 0 (by decide) (ht _ w_4_203) (fun _ h9 => h9) rfl dX10_feed_48 ?_
      have hP9 := pc_sub (wc := [(a_this, .inr (10, [.int (nI (v_letters + 1)), .ref a_this_text, .int (nI v_position), .int (nI v_tokenAt), .int v_token, .int v_number, .int (nI v_figures), .int v_faultAt, .int v_faultIs, .int v_readRooms, .int v_readStore, .int (nI v_readRains), .int (nI v_readDoors), .int (nI v_readPersons), .ref a_this_readRain, .ref a_this_readDoor, .ref a_this_readPerson, .int v_rooms, .int (nI v_rains), .int (nI v_doors), .int (nI v_persons), .ref a_this_rain, .ref a_this_door, .ref a_this_now, .ref a_this_tried, .ref a_this_backOf, .int (nI v_backs), .ref a_this_image, .ref a_this_imageSeed, .ref a_this_isKept, .int v_seed, .int (nI v_seen), .ref a_this_sight, .int (nI v_entries), .ref a_this_entry])), (a_this_text, .inl (cA, 240, .inl (upd v_text v_letters x1)))]) hP [0, 1] rfl
      have hD9 := hD.sub (ws' := [(a_this, .inr (10, [.int (nI (v_letters + 1)), .ref a_this_text, .int (nI v_position), .int (nI v_tokenAt), .int v_token, .int v_number, .int (nI v_figures), .int v_faultAt, .int v_faultIs, .int v_readRooms, .int v_readStore, .int (nI v_readRains), .int (nI v_readDoors), .int (nI v_readPersons), .ref a_this_readRain, .ref a_this_readDoor, .ref a_this_readPerson, .int v_rooms, .int (nI v_rains), .int (nI v_doors), .int (nI v_persons), .ref a_this_rain, .ref a_this_door, .ref a_this_now, .ref a_this_tried, .ref a_this_backOf, .int (nI v_backs), .ref a_this_image, .ref a_this_imageSeed, .ref a_this_isKept, .int v_seed, .int (nI v_seen), .ref a_this_sight, .int (nI v_entries), .ref a_this_entry])), (a_this_text, .inl (cA, 240, .inl (upd v_text v_letters x1)))]) [0, 1] (by decide) rfl
      exact W.iret (v := nI (v_letters + 1)) hx hb hr (fun t ht9 _ => by rw [← hm]; exact ⟨⟨_, (), rfl, rfl, by rw [ht9]; exact hP9, hD9⟩, hS.F ht9⟩) hS.2.2 dX10_feed_51
    · have hm := (if_pos c_2).symm.trans hm
      refine lv_ldc (v := (-1000000004 : Int32)) hx hb hown (ht _ w_5_78) dX10_feed_24 ?_
      have hP9 := pc_sub (wc := [(a_this, .inr (10, [.int (nI v_letters), .ref a_this_text, .int (nI v_position), .int (nI v_tokenAt), .int v_token, .int v_number, .int (nI v_figures), .int v_faultAt, .int v_faultIs, .int v_readRooms, .int v_readStore, .int (nI v_readRains), .int (nI v_readDoors), .int (nI v_readPersons), .ref a_this_readRain, .ref a_this_readDoor, .ref a_this_readPerson, .int v_rooms, .int (nI v_rains), .int (nI v_doors), .int (nI v_persons), .ref a_this_rain, .ref a_this_door, .ref a_this_now, .ref a_this_tried, .ref a_this_backOf, .int (nI v_backs), .ref a_this_image, .ref a_this_imageSeed, .ref a_this_isKept, .int v_seed, .int (nI v_seen), .ref a_this_sight, .int (nI v_entries), .ref a_this_entry])), (a_this_text, .inl (cA, 240, .inl v_text))]) hP [0, 1] rfl
      have hD9 := hD.sub (ws' := [(a_this, .inr (10, [.int (nI v_letters), .ref a_this_text, .int (nI v_position), .int (nI v_tokenAt), .int v_token, .int v_number, .int (nI v_figures), .int v_faultAt, .int v_faultIs, .int v_readRooms, .int v_readStore, .int (nI v_readRains), .int (nI v_readDoors), .int (nI v_readPersons), .ref a_this_readRain, .ref a_this_readDoor, .ref a_this_readPerson, .int v_rooms, .int (nI v_rains), .int (nI v_doors), .int (nI v_persons), .ref a_this_rain, .ref a_this_door, .ref a_this_now, .ref a_this_tried, .ref a_this_backOf, .int (nI v_backs), .ref a_this_image, .ref a_this_imageSeed, .ref a_this_isKept, .int v_seed, .int (nI v_seen), .ref a_this_sight, .int (nI v_entries), .ref a_this_entry])), (a_this_text, .inl (cA, 240, .inl v_text))]) [0, 1] (by decide) rfl
      exact W.iret (v := (-1000000004 : Int32)) hx hb hr (fun t ht9 _ => by rw [← hm]; exact ⟨⟨_, (), rfl, rfl, by rw [ht9]; exact hP9, hD9⟩, hS.F ht9⟩) hS.2.2 dX10_feed_26
  · have hm := (if_pos c_1).symm.trans hm
    refine lv_ldc (v := (-1000000002 : Int32)) hx hb hown (ht _ w_5_77) dX10_feed_11 ?_
    have hP9 := pc_sub (wc := [(a_this, .inr (10, [.int (nI v_letters), .ref a_this_text, .int (nI v_position), .int (nI v_tokenAt), .int v_token, .int v_number, .int (nI v_figures), .int v_faultAt, .int v_faultIs, .int v_readRooms, .int v_readStore, .int (nI v_readRains), .int (nI v_readDoors), .int (nI v_readPersons), .ref a_this_readRain, .ref a_this_readDoor, .ref a_this_readPerson, .int v_rooms, .int (nI v_rains), .int (nI v_doors), .int (nI v_persons), .ref a_this_rain, .ref a_this_door, .ref a_this_now, .ref a_this_tried, .ref a_this_backOf, .int (nI v_backs), .ref a_this_image, .ref a_this_imageSeed, .ref a_this_isKept, .int v_seed, .int (nI v_seen), .ref a_this_sight, .int (nI v_entries), .ref a_this_entry])), (a_this_text, .inl (cA, 240, .inl v_text))]) hP [0, 1] rfl
    have hD9 := hD.sub (ws' := [(a_this, .inr (10, [.int (nI v_letters), .ref a_this_text, .int (nI v_position), .int (nI v_tokenAt), .int v_token, .int v_number, .int (nI v_figures), .int v_faultAt, .int v_faultIs, .int v_readRooms, .int v_readStore, .int (nI v_readRains), .int (nI v_readDoors), .int (nI v_readPersons), .ref a_this_readRain, .ref a_this_readDoor, .ref a_this_readPerson, .int v_rooms, .int (nI v_rains), .int (nI v_doors), .int (nI v_persons), .ref a_this_rain, .ref a_this_door, .ref a_this_now, .ref a_this_tried, .ref a_this_backOf, .int (nI v_backs), .ref a_this_image, .ref a_this_imageSeed, .ref a_this_isKept, .int v_seed, .int (nI v_seen), .ref a_this_sight, .int (nI v_entries), .ref a_this_entry])), (a_this_text, .inl (cA, 240, .inl v_text))]) [0, 1] (by decide) rfl
    exact W.iret (v := (-1000000002 : Int32)) hx hb hr (fun t ht9 _ => by rw [← hm]; exact ⟨⟨_, (), rfl, rfl, by rw [ht9]; exact hP9, hD9⟩, hS.F ht9⟩) hS.2.2 dX10_feed_13
theorem dX10_fault_0 : decode cX10_fault 0 = .ok (.aload_n 0, 1) := by decide +kernel
theorem dX10_fault_1 : decode cX10_fault 1 = .ok (.getfield 13, 3) := by decide +kernel
theorem dX10_fault_4 : decode cX10_fault 4 = .ok (.ireturn, 1) := by decide +kernel
theorem h_X10_fault : yX10_fault.cls ≠ "java/lang/invoke/MethodHandle" ∧ yX10_fault.cls ≠ "java/lang/invoke/VarHandle" ∧ (parseMethodDescriptor yX10_fault.desc).map (fun d => d.parameters.length) = some 0 := by decide +kernel
def mX10_fault (v_faultAt : Int32) : Int32 := v_faultAt
set_option maxHeartbeats 4000000 in
set_option maxRecDepth 100000 in
theorem kX10_fault (l : Launch) (dC : Nat → ClassId) (dI : Nat → Nat → Nat) (cA cZ : ClassId) (a_this a_this_text a_this_readRain a_this_readDoor a_this_readPerson a_this_rain a_this_door a_this_now a_this_tried a_this_backOf a_this_image a_this_imageSeed a_this_isKept a_this_sight a_this_entry : Nat) (v_letters : Nat) (v_position : Nat) (v_tokenAt : Nat) (v_token : Int32) (v_number : Int32) (v_figures : Nat) (v_faultAt : Int32) (v_faultIs : Int32) (v_readRooms : Int32) (v_readStore : Int32) (v_readRains : Nat) (v_readDoors : Nat) (v_readPersons : Nat) (v_rooms : Int32) (v_rains : Nat) (v_doors : Nat) (v_persons : Nat) (v_backs : Nat) (v_seed : Int32) (v_seen : Nat) (v_entries : Nat) : Met l yX10_fault (Cond.code yX10_fault cX10_fault 1 (some .int) :: wt) ({ frames := 0, cells := 0, slots := 0, locals := 0 } : Room) (va_Pc [.ref a_this] (PreP (dC, dI) [(cA, .int), (cZ, .boolean)] [(a_this, .inr (10, [.int (nI v_letters), .ref a_this_text, .int (nI v_position), .int (nI v_tokenAt), .int v_token, .int v_number, .int (nI v_figures), .int v_faultAt, .int v_faultIs, .int v_readRooms, .int v_readStore, .int (nI v_readRains), .int (nI v_readDoors), .int (nI v_readPersons), .ref a_this_readRain, .ref a_this_readDoor, .ref a_this_readPerson, .int v_rooms, .int (nI v_rains), .int (nI v_doors), .int (nI v_persons), .ref a_this_rain, .ref a_this_door, .ref a_this_now, .ref a_this_tried, .ref a_this_backOf, .int (nI v_backs), .ref a_this_image, .ref a_this_imageSeed, .ref a_this_isKept, .int v_seed, .int (nI v_seen), .ref a_this_sight, .int (nI v_entries), .ref a_this_entry]))])) (vp_Si (fun r => r = (mX10_fault v_faultAt))) 0 0 (fun _ => False) := by
  refine Met.ofW (cc := cX10_fault) (maxL := 1) (ret := (some .int)) (by decide) rfl ?_
  intro p e s m args below meth c s₁ B hml hv
  obtain ⟨ha, hP, hK⟩ := hv
  have hx := B.exec
  have hb := B.bytes
  have hr := B.returns
  have ht : ∀ w ∈ wt, w.before args s = true := fun w h => atoms_spec (ws := (Cond.code yX10_fault cX10_fault 1 (some .int) :: wt)) B.pre w (List.mem_cons_of_mem _ h)
  have hown : s.vm.findClass RX10 = some m.cls := findClass_of_methodNamed B.named
  have hlocks := B.notSynchronized
  have hl := lv_entry ([.ref a_this]) (n := 1) (Nat.le_of_ble_eq_true rfl)
  rw [show entryFrame m args 1 = _ from (congrArg (fun a => entryFrame m a 1) ha).trans (lg_entry_eq m [.ref a_this] 1)]
  generalize (lg_sl ([.ref a_this]) ++ List.replicate (1 - (lg_sl ([.ref a_this])).length) Slot.unset).toArray = ls at hl ⊢
  have hl : lv_has ls 1 [(0, .ref a_this)] := hl
  have hm : v_faultAt = (mX10_fault v_faultAt) := rfl
  refine lv_aload_n hx hb dX10_fault_0 rfl (lv_at hl 0 rfl) ?_
  refine va_get (D := (dC, dI)) (ci := 10) (v := .int v_faultAt) (C := RX10) (T := TX10) (N := 35) hx hb ht iX10 hown hK.1 hP 0 rfl rfl 7 (by decide) (ht _ w_4_210) (fun _ h9 => h9) rfl dX10_fault_1 ?_
  exact W.iret (v := v_faultAt) hx hb hr (fun t ht9 _ => ⟨_, rfl, hm, ht9⟩) (fun q hq => absurd hq List.not_mem_nil) dX10_fault_4
