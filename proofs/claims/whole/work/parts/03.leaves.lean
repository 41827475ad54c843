theorem dX9_within_0 : decode cX9_within 0 = .ok (.iload_n 0, 1) := by decide +kernel
theorem dX9_within_1 : decode cX9_within 1 = .ok (.iload_n 1, 1) := by decide +kernel
theorem dX9_within_2 : decode cX9_within 2 = .ok (.if_icmp .lt 12, 3) := by decide +kernel
theorem dX9_within_5 : decode cX9_within 5 = .ok (.iload_n 0, 1) := by decide +kernel
theorem dX9_within_6 : decode cX9_within 6 = .ok (.iload_n 2, 1) := by decide +kernel
theorem dX9_within_7 : decode cX9_within 7 = .ok (.if_icmp .gt 7, 3) := by decide +kernel
theorem dX9_within_10 : decode cX9_within 10 = .ok (.iconst 1, 1) := by decide +kernel
theorem dX9_within_11 : decode cX9_within 11 = .ok (.goto 4, 3) := by decide +kernel
theorem dX9_within_14 : decode cX9_within 14 = .ok (.iconst 0, 1) := by decide +kernel
theorem dX9_within_15 : decode cX9_within 15 = .ok (.ireturn, 1) := by decide +kernel
theorem h_X9_within : yX9_within.cls ≠ "java/lang/invoke/MethodHandle" ∧ yX9_within.cls ≠ "java/lang/invoke/VarHandle" ∧ (parseMethodDescriptor yX9_within.desc).map (fun d => d.parameters.length) = some 3 := by decide +kernel
def mX9_within (x0 : Int32) (x1 : Int32) (x2 : Int32) : Int32 := (if x0 < x1 then (0 : Int32) else (if x2 < x0 then (0 : Int32) else (1 : Int32)))
set_option maxHeartbeats 4000000 in
set_option maxRecDepth 100000 in
theorem kX9_within (l : Launch) (dC : Nat → ClassId) (dI : Nat → Nat → Nat) (cA cZ : ClassId) (x0 : Int32) (x1 : Int32) (x2 : Int32) : Met l yX9_within (Cond.code yX9_within cX9_within 3 (some .boolean) :: wt) ({ frames := 0, cells := 0, slots := 0, locals := 0 } : Room) (va_Pc [.int x0, .int x1, .int x2] (PreP (dC, dI) [(cA, .int), (cZ, .boolean)] [])) (vp_Si (fun r => r = (mX9_within x0 x1 x2))) 0 0 (fun _ => False) := by
  refine Met.ofW (cc := cX9_within) (maxL := 3) (ret := (some .boolean)) (by decide) rfl ?_
  intro p e s m args below meth c s₁ B hml hv
  obtain ⟨ha, hP, hK⟩ := hv
  have hx := B.exec
  have hb := B.bytes
  have hr := B.returns
  have ht : ∀ w ∈ wt, w.before args s = true := fun w h => atoms_spec (ws := (Cond.code yX9_within cX9_within 3 (some .boolean) :: wt)) B.pre w (List.mem_cons_of_mem _ h)
  have hown : s.vm.findClass RX9 = some m.cls := findClass_of_methodNamed B.named
  have hlocks := B.notSynchronized
  have hl := lv_entry ([.int x0, .int x1, .int x2]) (n := 3) (Nat.le_of_ble_eq_true rfl)
  rw [show entryFrame m args 3 = _ from (congrArg (fun a => entryFrame m a 3) ha).trans (lg_entry_eq m [.int x0, .int x1, .int x2] 3)]
  generalize (lg_sl ([.int x0, .int x1, .int x2]) ++ List.replicate (3 - (lg_sl ([.int x0, .int x1, .int x2])).length) Slot.unset).toArray = ls at hl ⊢
  have hl : lv_has ls 3 [(0, .int x0), (1, .int x1), (2, .int x2)] := hl
  have hm : (mX9_within x0 x1 x2) = (mX9_within x0 x1 x2) := rfl
  refine lv_iload_n hx hb dX9_within_0 rfl (lv_at hl 0 rfl) ?_
  refine lv_iload_n hx hb dX9_within_1 rfl (lv_at hl 1 rfl) ?_
  refine lv_icmp_lt (tgt := 14) hx hb dX9_within_2 (by decide) (fun c_1 => ?_) (fun c_1 => ?_)
  · have hm := (if_pos c_1).symm.trans hm
    refine lv_iconst (v := (0 : Int32)) hx hb dX9_within_14 (by decide) ?_
    exact W.zret (v := (0 : Int32)) (ty := .boolean) hx hb hr rfl (fun t ht9 _ => ⟨_, rfl, hm, ht9⟩) (fun q hq => absurd hq List.not_mem_nil) dX9_within_15
  · have hm := (if_neg c_1).symm.trans hm
    refine lv_iload_n hx hb dX9_within_5 rfl (lv_at hl 0 rfl) ?_
    refine lv_iload_n hx hb dX9_within_6 rfl (lv_at hl 2 rfl) ?_
    refine lv_icmp_gt (tgt := 14) hx hb dX9_within_7 (by decide) (fun c_2 => ?_) (fun c_2 => ?_)
    · have hm := (if_pos c_2).symm.trans hm
      refine lv_iconst (v := (0 : Int32)) hx hb dX9_within_14 (by decide) ?_
      exact W.zret (v := (0 : Int32)) (ty := .boolean) hx hb hr rfl (fun t ht9 _ => ⟨_, rfl, hm, ht9⟩) (fun q hq => absurd hq List.not_mem_nil) dX9_within_15
    · have hm := (if_neg c_2).symm.trans hm
      refine lv_iconst (v := (1 : Int32)) hx hb dX9_within_10 (by decide) ?_
      refine lv_goto (tgt := 15) hx hb dX9_within_11 (by decide) ?_
      exact W.zret (v := (1 : Int32)) (ty := .boolean) hx hb hr rfl (fun t ht9 _ => ⟨_, rfl, hm, ht9⟩) (fun q hq => absurd hq List.not_mem_nil) dX9_within_15
theorem zX9_within (x0 : Int32) (x1 : Int32) (x2 : Int32) : narrow .boolean (.int (mX9_within x0 x1 x2)) = .int (mX9_within x0 x1 x2) := by
  unfold mX9_within
  repeat' split
  all_goals first | rfl
theorem dX9_holdsBack_0 : decode cX9_holdsBack 0 = .ok (.iload_n 0, 1) := by decide +kernel
theorem dX9_holdsBack_1 : decode cX9_holdsBack 1 = .ok (.iconst 1, 1) := by decide +kernel
theorem dX9_holdsBack_2 : decode cX9_holdsBack 2 = .ok (.if_icmp .lt 20, 3) := by decide +kernel
theorem dX9_holdsBack_5 : decode cX9_holdsBack 5 = .ok (.iload_n 1, 1) := by decide +kernel
theorem dX9_holdsBack_6 : decode cX9_holdsBack 6 = .ok (.iconst 1, 1) := by decide +kernel
theorem dX9_holdsBack_7 : decode cX9_holdsBack 7 = .ok (.if_icmp .lt 15, 3) := by decide +kernel
theorem dX9_holdsBack_10 : decode cX9_holdsBack 10 = .ok (.iload_n 0, 1) := by decide +kernel
theorem dX9_holdsBack_11 : decode cX9_holdsBack 11 = .ok (.iload_n 1, 1) := by decide +kernel
theorem dX9_holdsBack_12 : decode cX9_holdsBack 12 = .ok (.iadd, 1) := by decide +kernel
theorem dX9_holdsBack_13 : decode cX9_holdsBack 13 = .ok (.bipush 10, 2) := by decide +kernel
theorem dX9_holdsBack_15 : decode cX9_holdsBack 15 = .ok (.if_icmp .lt 7, 3) := by decide +kernel
theorem dX9_holdsBack_18 : decode cX9_holdsBack 18 = .ok (.iconst 1, 1) := by decide +kernel
theorem dX9_holdsBack_19 : decode cX9_holdsBack 19 = .ok (.goto 4, 3) := by decide +kernel
theorem dX9_holdsBack_22 : decode cX9_holdsBack 22 = .ok (.iconst 0, 1) := by decide +kernel
theorem dX9_holdsBack_23 : decode cX9_holdsBack 23 = .ok (.ireturn, 1) := by decide +kernel
theorem h_X9_holdsBack : yX9_holdsBack.cls ≠ "java/lang/invoke/MethodHandle" ∧ yX9_holdsBack.cls ≠ "java/lang/invoke/VarHandle" ∧ (parseMethodDescriptor yX9_holdsBack.desc).map (fun d => d.parameters.length) = some 2 := by decide +kernel
def mX9_holdsBack (x0 : Int32) (x1 : Int32) : Int32 := (if x0 < ((1 : Int32)) then (0 : Int32) else (if x1 < ((1 : Int32)) then (0 : Int32) else (if (x0 + x1) < ((10 : Int32)) then (0 : Int32) else (1 : Int32))))
set_option maxHeartbeats 4000000 in
set_option maxRecDepth 100000 in
theorem kX9_holdsBack (l : Launch) (dC : Nat → ClassId) (dI : Nat → Nat → Nat) (cA cZ : ClassId) (x0 : Int32) (x1 : Int32) : Met l yX9_holdsBack (Cond.code yX9_holdsBack cX9_holdsBack 2 (some .boolean) :: wt) ({ frames := 0, cells := 0, slots := 0, locals := 0 } : Room) (va_Pc [.int x0, .int x1] (PreP (dC, dI) [(cA, .int), (cZ, .boolean)] [])) (vp_Si (fun r => r = (mX9_holdsBack x0 x1))) 0 0 (fun _ => False) := by
  refine Met.ofW (cc := cX9_holdsBack) (maxL := 2) (ret := (some .boolean)) (by decide) rfl ?_
  intro p e s m args below meth c s₁ B hml hv
  obtain ⟨ha, hP, hK⟩ := hv
  have hx := B.exec
  have hb := B.bytes
  have hr := B.returns
  have ht : ∀ w ∈ wt, w.before args s = true := fun w h => atoms_spec (ws := (Cond.code yX9_holdsBack cX9_holdsBack 2 (some .boolean) :: wt)) B.pre w (List.mem_cons_of_mem _ h)
  have hown : s.vm.findClass RX9 = some m.cls := findClass_of_methodNamed B.named
  have hlocks := B.notSynchronized
  have hl := lv_entry ([.int x0, .int x1]) (n := 2) (Nat.le_of_ble_eq_true rfl)
  rw [show entryFrame m args 2 = _ from (congrArg (fun a => entryFrame m a 2) ha).trans (lg_entry_eq m [.int x0, .int x1] 2)]
  generalize (lg_sl ([.int x0, .int x1]) ++ List.replicate (2 - (lg_sl ([.int x0, .int x1])).length) Slot.unset).toArray = ls at hl ⊢
  have hl : lv_has ls 2 [(0, .int x0), (1, .int x1)] := hl
  have hm : (mX9_holdsBack x0 x1) = (mX9_holdsBack x0 x1) := rfl
  refine lv_iload_n hx hb dX9_holdsBack_0 rfl (lv_at hl 0 rfl) ?_
  refine lv_iconst (v := (1 : Int32)) hx hb dX9_holdsBack_1 (by decide) ?_
  refine lv_icmp_lt (tgt := 22) hx hb dX9_holdsBack_2 (by decide) (fun c_1 => ?_) (fun c_1 => ?_)
  · have hm := (if_pos c_1).symm.trans hm
    refine lv_iconst (v := (0 : Int32)) hx hb dX9_holdsBack_22 (by decide) ?_
    exact W.zret (v := (0 : Int32)) (ty := .boolean) hx hb hr rfl (fun t ht9 _ => ⟨_, rfl, hm, ht9⟩) (fun q hq => absurd hq List.not_mem_nil) dX9_holdsBack_23
  · have hm := (if_neg c_1).symm.trans hm
    refine lv_iload_n hx hb dX9_holdsBack_5 rfl (lv_at hl 1 rfl) ?_
    refine lv_iconst (v := (1 : Int32)) hx hb dX9_holdsBack_6 (by decide) ?_
    refine lv_icmp_lt (tgt := 22) hx hb dX9_holdsBack_7 (by decide) (fun c_2 => ?_) (fun c_2 => ?_)
    · have hm := (if_pos c_2).symm.trans hm
      refine lv_iconst (v := (0 : Int32)) hx hb dX9_holdsBack_22 (by decide) ?_
      exact W.zret (v := (0 : Int32)) (ty := .boolean) hx hb hr rfl (fun t ht9 _ => ⟨_, rfl, hm, ht9⟩) (fun q hq => absurd hq List.not_mem_nil) dX9_holdsBack_23
    · have hm := (if_neg c_2).symm.trans hm
      refine lv_iload_n hx hb dX9_holdsBack_10 rfl (lv_at hl 0 rfl) ?_
      refine lv_iload_n hx hb dX9_holdsBack_11 rfl (lv_at hl 1 rfl) ?_
      refine lv_iadd hx hb dX9_holdsBack_12 ?_
      refine lv_bipush (v := (10 : Int32)) hx hb dX9_holdsBack_13 (by decide) ?_
      refine lv_icmp_lt (tgt := 22) hx hb dX9_holdsBack_15 (by decide) (fun c_3 => ?_) (fun c_3 => ?_)
      · have hm := (if_pos c_3).symm.trans hm
        refine lv_iconst (v := (0 : Int32)) hx hb dX9_holdsBack_22 (by decide) ?_
        exact W.zret (v := (0 : Int32)) (ty := .boolean) hx hb hr rfl (fun t ht9 _ => ⟨_, rfl, hm, ht9⟩) (fun q hq => absurd hq List.not_mem_nil) dX9_holdsBack_23
      · have hm := (if_neg c_3).symm.trans hm
        refine lv_iconst (v := (1 : Int32)) hx hb dX9_holdsBack_18 (by decide) ?_
        refine lv_goto (tgt := 23) hx hb dX9_holdsBack_19 (by decide) ?_
        exact W.zret (v := (1 : Int32)) (ty := .boolean) hx hb hr rfl (fun t ht9 _ => ⟨_, rfl, hm, ht9⟩) (fun q hq => absurd hq List.not_mem_nil) dX9_holdsBack_23
theorem zX9_holdsBack (x0 : Int32) (x1 : Int32) : narrow .boolean (.int (mX9_holdsBack x0 x1)) = .int (mX9_holdsBack x0 x1) := by
  unfold mX9_holdsBack
  repeat' split
  all_goals first | rfl
theorem dX9_illOfWish_0 : decode cX9_illOfWish 0 = .ok (.iload_n 0, 1) := by decide +kernel
theorem dX9_illOfWish_1 : decode cX9_illOfWish 1 = .ok (.ifCond .ge 8, 3) := by decide +kernel
theorem dX9_illOfWish_4 : decode cX9_illOfWish 4 = .ok (.iload_n 0, 1) := by decide +kernel
theorem dX9_illOfWish_5 : decode cX9_illOfWish 5 = .ok (.ineg, 1) := by decide +kernel
theorem dX9_illOfWish_6 : decode cX9_illOfWish 6 = .ok (.goto 4, 3) := by decide +kernel
theorem dX9_illOfWish_9 : decode cX9_illOfWish 9 = .ok (.iconst 0, 1) := by decide +kernel
theorem dX9_illOfWish_10 : decode cX9_illOfWish 10 = .ok (.ireturn, 1) := by decide +kernel
theorem h_X9_illOfWish : yX9_illOfWish.cls ≠ "java/lang/invoke/MethodHandle" ∧ yX9_illOfWish.cls ≠ "java/lang/invoke/VarHandle" ∧ (parseMethodDescriptor yX9_illOfWish.desc).map (fun d => d.parameters.length) = some 1 := by decide +kernel
def mX9_illOfWish (x0 : Int32) : Int32 := (if 0 ≤ x0 then (0 : Int32) else -x0)
set_option maxHeartbeats 4000000 in
set_option maxRecDepth 100000 in
theorem kX9_illOfWish (l : Launch) (dC : Nat → ClassId) (dI : Nat → Nat → Nat) (cA cZ : ClassId) (x0 : Int32) : Met l yX9_illOfWish (Cond.code yX9_illOfWish cX9_illOfWish 1 (some .int) :: wt) ({ frames := 0, cells := 0, slots := 0, locals := 0 } : Room) (va_Pc [.int x0] (PreP (dC, dI) [(cA, .int), (cZ, .boolean)] [])) (vp_Si (fun r => r = (mX9_illOfWish x0))) 0 0 (fun _ => False) := by
  refine Met.ofW (cc := cX9_illOfWish) (maxL := 1) (ret := (some .int)) (by decide) rfl ?_
  intro p e s m args below meth c s₁ B hml hv
  obtain ⟨ha, hP, hK⟩ := hv
  have hx := B.exec
  have hb := B.bytes
  have hr := B.returns
  have ht : ∀ w ∈ wt, w.before args s = true := fun w h => atoms_spec (ws := (Cond.code yX9_illOfWish cX9_illOfWish 1 (some .int) :: wt)) B.pre w (List.mem_cons_of_mem _ h)
  have hown : s.vm.findClass RX9 = some m.cls := findClass_of_methodNamed B.named
  have hlocks := B.notSynchronized
  have hl := lv_entry ([.int x0]) (n := 1) (Nat.le_of_ble_eq_true rfl)
  rw [show entryFrame m args 1 = _ from (congrArg (fun a => entryFrame m a 1) ha).trans (lg_entry_eq m [.int x0] 1)]
  generalize (lg_sl ([.int x0]) ++ List.replicate (1 - (lg_sl ([.int x0])).length) Slot.unset).toArray = ls at hl ⊢
  have hl : lv_has ls 1 [(0, .int x0)] := hl
  have hm : (mX9_illOfWish x0) = (mX9_illOfWish x0) := rfl
  refine lv_iload_n hx hb dX9_illOfWish_0 rfl (lv_at hl 0 rfl) ?_
  refine lv_if_ge (tgt := 9) hx hb dX9_illOfWish_1 (by decide) (fun c_1 => ?_) (fun c_1 => ?_)
  · have hm := (if_pos c_1).symm.trans hm
    refine lv_iconst (v := (0 : Int32)) hx hb dX9_illOfWish_9 (by decide) ?_
    exact W.iret (v := (0 : Int32)) hx hb hr (fun t ht9 _ => ⟨_, rfl, hm, ht9⟩) (fun q hq => absurd hq List.not_mem_nil) dX9_illOfWish_10
  · have hm := (if_neg c_1).symm.trans hm
    refine lv_iload_n hx hb dX9_illOfWish_4 rfl (lv_at hl 0 rfl) ?_
    refine lv_ineg hx hb dX9_illOfWish_5 ?_
    refine lv_goto (tgt := 10) hx hb dX9_illOfWish_6 (by decide) ?_
    exact W.iret (v := -x0) hx hb hr (fun t ht9 _ => ⟨_, rfl, hm, ht9⟩) (fun q hq => absurd hq List.not_mem_nil) dX9_illOfWish_10
theorem dX9_only_0 : decode cX9_only 0 = .ok (.iconst 1, 1) := by decide +kernel
theorem dX9_only_1 : decode cX9_only 1 = .ok (.iload_n 0, 1) := by decide +kernel
theorem dX9_only_2 : decode cX9_only 2 = .ok (.ishl, 1) := by decide +kernel
theorem dX9_only_3 : decode cX9_only 3 = .ok (.ireturn, 1) := by decide +kernel
theorem h_X9_only : yX9_only.cls ≠ "java/lang/invoke/MethodHandle" ∧ yX9_only.cls ≠ "java/lang/invoke/VarHandle" ∧ (parseMethodDescriptor yX9_only.desc).map (fun d => d.parameters.length) = some 1 := by decide +kernel
def mX9_only (x0 : Int32) : Int32 := ((1 : Int32)) <<< (x0 &&& 31)
set_option maxHeartbeats 4000000 in
set_option maxRecDepth 100000 in
theorem kX9_only (l : Launch) (dC : Nat → ClassId) (dI : Nat → Nat → Nat) (cA cZ : ClassId) (x0 : Int32) : Met l yX9_only (Cond.code yX9_only cX9_only 1 (some .int) :: wt) ({ frames := 0, cells := 0, slots := 0, locals := 0 } : Room) (va_Pc [.int x0] (PreP (dC, dI) [(cA, .int), (cZ, .boolean)] [])) (vp_Si (fun r => r = (mX9_only x0))) 0 0 (fun _ => False) := by
  refine Met.ofW (cc := cX9_only) (maxL := 1) (ret := (some .int)) (by decide) rfl ?_
  intro p e s m args below meth c s₁ B hml hv
  obtain ⟨ha, hP, hK⟩ := hv
  have hx := B.exec
  have hb := B.bytes
  have hr := B.returns
  have ht : ∀ w ∈ wt, w.before args s = true := fun w h => atoms_spec (ws := (Cond.code yX9_only cX9_only 1 (some .int) :: wt)) B.pre w (List.mem_cons_of_mem _ h)
  have hown : s.vm.findClass RX9 = some m.cls := findClass_of_methodNamed B.named
  have hlocks := B.notSynchronized
  have hl := lv_entry ([.int x0]) (n := 1) (Nat.le_of_ble_eq_true rfl)
  rw [show entryFrame m args 1 = _ from (congrArg (fun a => entryFrame m a 1) ha).trans (lg_entry_eq m [.int x0] 1)]
  generalize (lg_sl ([.int x0]) ++ List.replicate (1 - (lg_sl ([.int x0])).length) Slot.unset).toArray = ls at hl ⊢
  have hl : lv_has ls 1 [(0, .int x0)] := hl
  have hm : (mX9_only x0) = (mX9_only x0) := rfl
  refine lv_iconst (v := (1 : Int32)) hx hb dX9_only_0 (by decide) ?_
  refine lv_iload_n hx hb dX9_only_1 rfl (lv_at hl 0 rfl) ?_
  refine lv_ishl hx hb dX9_only_2 ?_
  exact W.iret (v := ((1 : Int32)) <<< (x0 &&& 31)) hx hb hr (fun t ht9 _ => ⟨_, rfl, hm, ht9⟩) (fun q hq => absurd hq List.not_mem_nil) dX9_only_3
theorem dX9_inSet_0 : decode cX9_inSet 0 = .ok (.iload_n 0, 1) := by decide +kernel
theorem dX9_inSet_1 : decode cX9_inSet 1 = .ok (.iload_n 1, 1) := by decide +kernel
theorem dX9_inSet_2 : decode cX9_inSet 2 = .ok (.ishr, 1) := by decide +kernel
theorem dX9_inSet_3 : decode cX9_inSet 3 = .ok (.iconst 1, 1) := by decide +kernel
theorem dX9_inSet_4 : decode cX9_inSet 4 = .ok (.iand, 1) := by decide +kernel
theorem dX9_inSet_5 : decode cX9_inSet 5 = .ok (.iconst 1, 1) := by decide +kernel
theorem dX9_inSet_6 : decode cX9_inSet 6 = .ok (.if_icmp .ne 7, 3) := by decide +kernel
theorem dX9_inSet_9 : decode cX9_inSet 9 = .ok (.iconst 1, 1) := by decide +kernel
theorem dX9_inSet_10 : decode cX9_inSet 10 = .ok (.goto 4, 3) := by decide +kernel
theorem dX9_inSet_13 : decode cX9_inSet 13 = .ok (.iconst 0, 1) := by decide +kernel
theorem dX9_inSet_14 : decode cX9_inSet 14 = .ok (.ireturn, 1) := by decide +kernel
theorem h_X9_inSet : yX9_inSet.cls ≠ "java/lang/invoke/MethodHandle" ∧ yX9_inSet.cls ≠ "java/lang/invoke/VarHandle" ∧ (parseMethodDescriptor yX9_inSet.desc).map (fun d => d.parameters.length) = some 2 := by decide +kernel
def mX9_inSet (x0 : Int32) (x1 : Int32) : Int32 := (if ((x0 >>> (x1 &&& 31)) &&& ((1 : Int32))) = ((1 : Int32)) then (1 : Int32) else (0 : Int32))
set_option maxHeartbeats 4000000 in
set_option maxRecDepth 100000 in
theorem kX9_inSet (l : Launch) (dC : Nat → ClassId) (dI : Nat → Nat → Nat) (cA cZ : ClassId) (x0 : Int32) (x1 : Int32) : Met l yX9_inSet (Cond.code yX9_inSet cX9_inSet 2 (some .boolean) :: wt) ({ frames := 0, cells := 0, slots := 0, locals := 0 } : Room) (va_Pc [.int x0, .int x1] (PreP (dC, dI) [(cA, .int), (cZ, .boolean)] [])) (vp_Si (fun r => r = (mX9_inSet x0 x1))) 0 0 (fun _ => False) := by
  refine Met.ofW (cc := cX9_inSet) (maxL := 2) (ret := (some .boolean)) (by decide) rfl ?_
  intro p e s m args below meth c s₁ B hml hv
  obtain ⟨ha, hP, hK⟩ := hv
  have hx := B.exec
  have hb := B.bytes
  have hr := B.returns
  have ht : ∀ w ∈ wt, w.before args s = true := fun w h => atoms_spec (ws := (Cond.code yX9_inSet cX9_inSet 2 (some .boolean) :: wt)) B.pre w (List.mem_cons_of_mem _ h)
  have hown : s.vm.findClass RX9 = some m.cls := findClass_of_methodNamed B.named
  have hlocks := B.notSynchronized
  have hl := lv_entry ([.int x0, .int x1]) (n := 2) (Nat.le_of_ble_eq_true rfl)
  rw [show entryFrame m args 2 = _ from (congrArg (fun a => entryFrame m a 2) ha).trans (lg_entry_eq m [.int x0, .int x1] 2)]
  generalize (lg_sl ([.int x0, .int x1]) ++ List.replicate (2 - (lg_sl ([.int x0, .int x1])).length) Slot.unset).toArray = ls at hl ⊢
  have hl : lv_has ls 2 [(0, .int x0), (1, .int x1)] := hl
  have hm : (mX9_inSet x0 x1) = (mX9_inSet x0 x1) := rfl
  refine lv_iload_n hx hb dX9_inSet_0 rfl (lv_at hl 0 rfl) ?_
  refine lv_iload_n hx hb dX9_inSet_1 rfl (lv_at hl 1 rfl) ?_
  refine lv_ishr hx hb dX9_inSet_2 ?_
  refine lv_iconst (v := (1 : Int32)) hx hb dX9_inSet_3 (by decide) ?_
  refine lv_iand hx hb dX9_inSet_4 ?_
  refine lv_iconst (v := (1 : Int32)) hx hb dX9_inSet_5 (by decide) ?_
  refine lv_icmp_ne (tgt := 13) hx hb dX9_inSet_6 (by decide) (fun c_1 => ?_) (fun c_1 => ?_)
  · have hm := (if_neg c_1).symm.trans hm
    refine lv_iconst (v := (0 : Int32)) hx hb dX9_inSet_13 (by decide) ?_
    exact W.zret (v := (0 : Int32)) (ty := .boolean) hx hb hr rfl (fun t ht9 _ => ⟨_, rfl, hm, ht9⟩) (fun q hq => absurd hq List.not_mem_nil) dX9_inSet_14
  · have hm := (if_pos c_1).symm.trans hm
    refine lv_iconst (v := (1 : Int32)) hx hb dX9_inSet_9 (by decide) ?_
    refine lv_goto (tgt := 14) hx hb dX9_inSet_10 (by decide) ?_
    exact W.zret (v := (1 : Int32)) (ty := .boolean) hx hb hr rfl (fun t ht9 _ => ⟨_, rfl, hm, ht9⟩) (fun q hq => absurd hq List.not_mem_nil) dX9_inSet_14
theorem zX9_inSet (x0 : Int32) (x1 : Int32) : narrow .boolean (.int (mX9_inSet x0 x1)) = .int (mX9_inSet x0 x1) := by
  unfold mX9_inSet
  repeat' split
  all_goals first | rfl
theorem dJ9_max_7cf53_0 : decode cJ9_max_7cf53 0 = .ok (.iload_n 0, 1) := by decide +kernel
theorem dJ9_max_7cf53_1 : decode cJ9_max_7cf53 1 = .ok (.iload_n 1, 1) := by decide +kernel
theorem dJ9_max_7cf53_2 : decode cJ9_max_7cf53 2 = .ok (.if_icmp .lt 7, 3) := by decide +kernel
theorem dJ9_max_7cf53_5 : decode cJ9_max_7cf53 5 = .ok (.iload_n 0, 1) := by decide +kernel
theorem dJ9_max_7cf53_6 : decode cJ9_max_7cf53 6 = .ok (.goto 4, 3) := by decide +kernel
theorem dJ9_max_7cf53_9 : decode cJ9_max_7cf53 9 = .ok (.iload_n 1, 1) := by decide +kernel
theorem dJ9_max_7cf53_10 : decode cJ9_max_7cf53 10 = .ok (.ireturn, 1) := by decide +kernel
theorem h_J9_max_7cf53 : yJ9_max_7cf53.cls ≠ "java/lang/invoke/MethodHandle" ∧ yJ9_max_7cf53.cls ≠ "java/lang/invoke/VarHandle" ∧ (parseMethodDescriptor yJ9_max_7cf53.desc).map (fun d => d.parameters.length) = some 2 := by decide +kernel
def mJ9_max_7cf53 (x0 : Int32) (x1 : Int32) : Int32 := (if x0 < x1 then x1 else x0)
set_option maxHeartbeats 4000000 in
set_option maxRecDepth 100000 in
theorem kJ9_max_7cf53 (l : Launch) (dC : Nat → ClassId) (dI : Nat → Nat → Nat) (cA cZ : ClassId) (x0 : Int32) (x1 : Int32) : Met l yJ9_max_7cf53 (Cond.code yJ9_max_7cf53 cJ9_max_7cf53 2 (some .int) :: wt) ({ frames := 0, cells := 0, slots := 0, locals := 0 } : Room) (va_Pc [.int x0, .int x1] (PreP (dC, dI) [(cA, .int), (cZ, .boolean)] [])) (vp_Si (fun r => r = (mJ9_max_7cf53 x0 x1))) 0 0 (fun _ => False) := by
  refine Met.ofWF (cc := cJ9_max_7cf53) (maxL := 2) (ret := (some .int)) (by decide +kernel) rfl ?_
  intro p e s m args below meth c s₁ B hml hv
  obtain ⟨ha, hP, hK⟩ := hv
  have hx := B.exec
  have hb := B.bytes
  have hr := B.returns
  have ht : ∀ w ∈ wt, w.before args s = true := fun w h => atoms_spec (ws := (Cond.code yJ9_max_7cf53 cJ9_max_7cf53 2 (some .int) :: wt)) B.pre w (List.mem_cons_of_mem _ h)
  have hown : s.vm.findClass RJ9 = some m.cls := findClass_of_methodNamed B.named
  have hlocks := B.notSynchronized
  have hl := lv_entry ([.int x0, .int x1]) (n := 2) (Nat.le_of_ble_eq_true rfl)
  rw [show entryFrame m args 2 = _ from (congrArg (fun a => entryFrame m a 2) ha).trans (lg_entry_eq m [.int x0, .int x1] 2)]
  generalize (lg_sl ([.int x0, .int x1]) ++ List.replicate (2 - (lg_sl ([.int x0, .int x1])).length) Slot.unset).toArray = ls at hl ⊢
  have hl : lv_has ls 2 [(0, .int x0), (1, .int x1)] := hl
  have hm : (mJ9_max_7cf53 x0 x1) = (mJ9_max_7cf53 x0 x1) := rfl
  refine lv_iload_n hx hb dJ9_max_7cf53_0 rfl (lv_at hl 0 rfl) ?_
  refine lv_iload_n hx hb dJ9_max_7cf53_1 rfl (lv_at hl 1 rfl) ?_
  refine lv_icmp_lt (tgt := 9) hx hb dJ9_max_7cf53_2 (by decide) (fun c_1 => ?_) (fun c_1 => ?_)
  · have hm := (if_pos c_1).symm.trans hm
    refine lv_iload_n hx hb dJ9_max_7cf53_9 rfl (lv_at hl 1 rfl) ?_
    exact W.iret (v := x1) hx hb hr (fun t ht9 _ => ⟨_, rfl, hm, ht9⟩) (fun q hq => absurd hq List.not_mem_nil) dJ9_max_7cf53_10
  · have hm := (if_neg c_1).symm.trans hm
    refine lv_iload_n hx hb dJ9_max_7cf53_5 rfl (lv_at hl 0 rfl) ?_
    refine lv_goto (tgt := 10) hx hb dJ9_max_7cf53_6 (by decide) ?_
    exact W.iret (v := x0) hx hb hr (fun t ht9 _ => ⟨_, rfl, hm, ht9⟩) (fun q hq => absurd hq List.not_mem_nil) dJ9_max_7cf53_10
theorem dJ9_min_7cf53_0 : decode cJ9_min_7cf53 0 = .ok (.iload_n 0, 1) := by decide +kernel
theorem dJ9_min_7cf53_1 : decode cJ9_min_7cf53 1 = .ok (.iload_n 1, 1) := by decide +kernel
theorem dJ9_min_7cf53_2 : decode cJ9_min_7cf53 2 = .ok (.if_icmp .gt 7, 3) := by decide +kernel
theorem dJ9_min_7cf53_5 : decode cJ9_min_7cf53 5 = .ok (.iload_n 0, 1) := by decide +kernel
theorem dJ9_min_7cf53_6 : decode cJ9_min_7cf53 6 = .ok (.goto 4, 3) := by decide +kernel
theorem dJ9_min_7cf53_9 : decode cJ9_min_7cf53 9 = .ok (.iload_n 1, 1) := by decide +kernel
theorem dJ9_min_7cf53_10 : decode cJ9_min_7cf53 10 = .ok (.ireturn, 1) := by decide +kernel
theorem h_J9_min_7cf53 : yJ9_min_7cf53.cls ≠ "java/lang/invoke/MethodHandle" ∧ yJ9_min_7cf53.cls ≠ "java/lang/invoke/VarHandle" ∧ (parseMethodDescriptor yJ9_min_7cf53.desc).map (fun d => d.parameters.length) = some 2 := by decide +kernel
def mJ9_min_7cf53 (x0 : Int32) (x1 : Int32) : Int32 := (if x1 < x0 then x1 else x0)
set_option maxHeartbeats 4000000 in
set_option maxRecDepth 100000 in
theorem kJ9_min_7cf53 (l : Launch) (dC : Nat → ClassId) (dI : Nat → Nat → Nat) (cA cZ : ClassId) (x0 : Int32) (x1 : Int32) : Met l yJ9_min_7cf53 (Cond.code yJ9_min_7cf53 cJ9_min_7cf53 2 (some .int) :: wt) ({ frames := 0, cells := 0, slots := 0, locals := 0 } : Room) (va_Pc [.int x0, .int x1] (PreP (dC, dI) [(cA, .int), (cZ, .boolean)] [])) (vp_Si (fun r => r = (mJ9_min_7cf53 x0 x1))) 0 0 (fun _ => False) := by
  refine Met.ofWF (cc := cJ9_min_7cf53) (maxL := 2) (ret := (some .int)) (by decide +kernel) rfl ?_
  intro p e s m args below meth c s₁ B hml hv
  obtain ⟨ha, hP, hK⟩ := hv
  have hx := B.exec
  have hb := B.bytes
  have hr := B.returns
  have ht : ∀ w ∈ wt, w.before args s = true := fun w h => atoms_spec (ws := (Cond.code yJ9_min_7cf53 cJ9_min_7cf53 2 (some .int) :: wt)) B.pre w (List.mem_cons_of_mem _ h)
  have hown : s.vm.findClass RJ9 = some m.cls := findClass_of_methodNamed B.named
  have hlocks := B.notSynchronized
  have hl := lv_entry ([.int x0, .int x1]) (n := 2) (Nat.le_of_ble_eq_true rfl)
  rw [show entryFrame m args 2 = _ from (congrArg (fun a => entryFrame m a 2) ha).trans (lg_entry_eq m [.int x0, .int x1] 2)]
  generalize (lg_sl ([.int x0, .int x1]) ++ List.replicate (2 - (lg_sl ([.int x0, .int x1])).length) Slot.unset).toArray = ls at hl ⊢
  have hl : lv_has ls 2 [(0, .int x0), (1, .int x1)] := hl
  have hm : (mJ9_min_7cf53 x0 x1) = (mJ9_min_7cf53 x0 x1) := rfl
  refine lv_iload_n hx hb dJ9_min_7cf53_0 rfl (lv_at hl 0 rfl) ?_
  refine lv_iload_n hx hb dJ9_min_7cf53_1 rfl (lv_at hl 1 rfl) ?_
  refine lv_icmp_gt (tgt := 9) hx hb dJ9_min_7cf53_2 (by decide) (fun c_1 => ?_) (fun c_1 => ?_)
  · have hm := (if_pos c_1).symm.trans hm
    refine lv_iload_n hx hb dJ9_min_7cf53_9 rfl (lv_at hl 1 rfl) ?_
    exact W.iret (v := x1) hx hb hr (fun t ht9 _ => ⟨_, rfl, hm, ht9⟩) (fun q hq => absurd hq List.not_mem_nil) dJ9_min_7cf53_10
  · have hm := (if_neg c_1).symm.trans hm
    refine lv_iload_n hx hb dJ9_min_7cf53_5 rfl (lv_at hl 0 rfl) ?_
    refine lv_goto (tgt := 10) hx hb dJ9_min_7cf53_6 (by decide) ?_
    exact W.iret (v := x0) hx hb hr (fun t ht9 _ => ⟨_, rfl, hm, ht9⟩) (fun q hq => absurd hq List.not_mem_nil) dJ9_min_7cf53_10
theorem dJ9_floorMod_7cf53_0 : decode cJ9_floorMod_7cf53 0 = .ok (.iload_n 0, 1) := by decide +kernel
theorem dJ9_floorMod_7cf53_1 : decode cJ9_floorMod_7cf53 1 = .ok (.iload_n 1, 1) := by decide +kernel
theorem dJ9_floorMod_7cf53_2 : decode cJ9_floorMod_7cf53 2 = .ok (.irem, 1) := by decide +kernel
theorem dJ9_floorMod_7cf53_3 : decode cJ9_floorMod_7cf53 3 = .ok (.istore_n 2, 1) := by decide +kernel
theorem dJ9_floorMod_7cf53_4 : decode cJ9_floorMod_7cf53 4 = .ok (.iload_n 0, 1) := by decide +kernel
theorem dJ9_floorMod_7cf53_5 : decode cJ9_floorMod_7cf53 5 = .ok (.iload_n 1, 1) := by decide +kernel
theorem dJ9_floorMod_7cf53_6 : decode cJ9_floorMod_7cf53 6 = .ok (.ixor, 1) := by decide +kernel
theorem dJ9_floorMod_7cf53_7 : decode cJ9_floorMod_7cf53 7 = .ok (.ifCond .ge 11, 3) := by decide +kernel
theorem dJ9_floorMod_7cf53_10 : decode cJ9_floorMod_7cf53 10 = .ok (.iload_n 2, 1) := by decide +kernel
theorem dJ9_floorMod_7cf53_11 : decode cJ9_floorMod_7cf53 11 = .ok (.ifCond .eq 7, 3) := by decide +kernel
theorem dJ9_floorMod_7cf53_14 : decode cJ9_floorMod_7cf53 14 = .ok (.iload_n 2, 1) := by decide +kernel
theorem dJ9_floorMod_7cf53_15 : decode cJ9_floorMod_7cf53 15 = .ok (.iload_n 1, 1) := by decide +kernel
theorem dJ9_floorMod_7cf53_16 : decode cJ9_floorMod_7cf53 16 = .ok (.iadd, 1) := by decide +kernel
theorem dJ9_floorMod_7cf53_17 : decode cJ9_floorMod_7cf53 17 = .ok (.ireturn, 1) := by decide +kernel
theorem dJ9_floorMod_7cf53_18 : decode cJ9_floorMod_7cf53 18 = .ok (.iload_n 2, 1) := by decide +kernel
theorem dJ9_floorMod_7cf53_19 : decode cJ9_floorMod_7cf53 19 = .ok (.ireturn, 1) := by decide +kernel
theorem h_J9_floorMod_7cf53 : yJ9_floorMod_7cf53.cls ≠ "java/lang/invoke/MethodHandle" ∧ yJ9_floorMod_7cf53.cls ≠ "java/lang/invoke/VarHandle" ∧ (parseMethodDescriptor yJ9_floorMod_7cf53.desc).map (fun d => d.parameters.length) = some 2 := by decide +kernel
def mJ9_floorMod_7cf53 (x0 : Int32) (x1 : Int32) : Int32 := (if 0 ≤ (x0 ^^^ x1) then x0 - x0 / x1 * x1 else (if (x0 - x0 / x1 * x1) = 0 then x0 - x0 / x1 * x1 else (x0 - x0 / x1 * x1) + x1))
set_option maxHeartbeats 4000000 in
set_option maxRecDepth 100000 in
theorem kJ9_floorMod_7cf53 (l : Launch) (dC : Nat → ClassId) (dI : Nat → Nat → Nat) (cA cZ : ClassId) (x0 : Int32) (x1 : Int32) (hy : ¬ x1 = 0) : Met l yJ9_floorMod_7cf53 (Cond.code yJ9_floorMod_7cf53 cJ9_floorMod_7cf53 3 (some .int) :: wt) ({ frames := 0, cells := 0, slots := 0, locals := 0 } : Room) (va_Pc [.int x0, .int x1] (PreP (dC, dI) [(cA, .int), (cZ, .boolean)] [])) (vp_Si (fun r => r = (mJ9_floorMod_7cf53 x0 x1))) 0 0 (fun _ => False) := by
  refine Met.ofWF (cc := cJ9_floorMod_7cf53) (maxL := 3) (ret := (some .int)) (by decide +kernel) rfl ?_
  intro p e s m args below meth c s₁ B hml hv
  obtain ⟨ha, hP, hK⟩ := hv
  have hx := B.exec
  have hb := B.bytes
  have hr := B.returns
  have ht : ∀ w ∈ wt, w.before args s = true := fun w h => atoms_spec (ws := (Cond.code yJ9_floorMod_7cf53 cJ9_floorMod_7cf53 3 (some .int) :: wt)) B.pre w (List.mem_cons_of_mem _ h)
  have hown : s.vm.findClass RJ9 = some m.cls := findClass_of_methodNamed B.named
  have hlocks := B.notSynchronized
  have hl := lv_entry ([.int x0, .int x1]) (n := 3) (Nat.le_of_ble_eq_true rfl)
  rw [show entryFrame m args 3 = _ from (congrArg (fun a => entryFrame m a 3) ha).trans (lg_entry_eq m [.int x0, .int x1] 3)]
  generalize (lg_sl ([.int x0, .int x1]) ++ List.replicate (3 - (lg_sl ([.int x0, .int x1])).length) Slot.unset).toArray = ls at hl ⊢
  have hl : lv_has ls 3 [(0, .int x0), (1, .int x1)] := hl
  have hm : (mJ9_floorMod_7cf53 x0 x1) = (mJ9_floorMod_7cf53 x0 x1) := rfl
  refine lv_iload_n hx hb dJ9_floorMod_7cf53_0 rfl (lv_at hl 0 rfl) ?_
  refine lv_iload_n hx hb dJ9_floorMod_7cf53_1 rfl (lv_at hl 1 rfl) ?_
  refine lv_irem hx hb dJ9_floorMod_7cf53_2 (hy) ?_
  refine lv_istore_n (lv' := [(2, .int (x0 - x0 / x1 * x1)), (0, .int x0), (1, .int x1)]) hx hb dJ9_floorMod_7cf53_3 rfl hl (by decide) rfl (fun ls hl => ?_)
  refine lv_iload_n hx hb dJ9_floorMod_7cf53_4 rfl (lv_at hl 1 rfl) ?_
  refine lv_iload_n hx hb dJ9_floorMod_7cf53_5 rfl (lv_at hl 2 rfl) ?_
  refine lv_ixor hx hb dJ9_floorMod_7cf53_6 ?_
  refine lv_if_ge (tgt := 18) hx hb dJ9_floorMod_7cf53_7 (by decide) (fun c_1 => ?_) (fun c_1 => ?_)
  · have hm := (if_pos c_1).symm.trans hm
    refine lv_iload_n hx hb dJ9_floorMod_7cf53_18 rfl (lv_at hl 0 rfl) ?_
    exact W.iret (v := x0 - x0 / x1 * x1) hx hb hr (fun t ht9 _ => ⟨_, rfl, hm, ht9⟩) (fun q hq => absurd hq List.not_mem_nil) dJ9_floorMod_7cf53_19
  · have hm := (if_neg c_1).symm.trans hm
    refine lv_iload_n hx hb dJ9_floorMod_7cf53_10 rfl (lv_at hl 0 rfl) ?_
    refine lv_if_eq (tgt := 18) hx hb dJ9_floorMod_7cf53_11 (by decide) (fun c_2 => ?_) (fun c_2 => ?_)
    · have hm := (if_pos c_2).symm.trans hm
      refine lv_iload_n hx hb dJ9_floorMod_7cf53_18 rfl (lv_at hl 0 rfl) ?_
      exact W.iret (v := x0 - x0 / x1 * x1) hx hb hr (fun t ht9 _ => ⟨_, rfl, hm, ht9⟩) (fun q hq => absurd hq List.not_mem_nil) dJ9_floorMod_7cf53_19
    · have hm := (if_neg c_2).symm.trans hm
      refine lv_iload_n hx hb dJ9_floorMod_7cf53_14 rfl (lv_at hl 0 rfl) ?_
      refine lv_iload_n hx hb dJ9_floorMod_7cf53_15 rfl (lv_at hl 2 rfl) ?_
      refine lv_iadd hx hb dJ9_floorMod_7cf53_16 ?_
      exact W.iret (v := (x0 - x0 / x1 * x1) + x1) hx hb hr (fun t ht9 _ => ⟨_, rfl, hm, ht9⟩) (fun q hq => absurd hq List.not_mem_nil) dJ9_floorMod_7cf53_17
theorem dJ6_signum_0f7a4_0 : decode cJ6_signum_0f7a4 0 = .ok (.iload_n 0, 1) := by decide +kernel
theorem dJ6_signum_0f7a4_1 : decode cJ6_signum_0f7a4 1 = .ok (.bipush 31, 2) := by decide +kernel
theorem dJ6_signum_0f7a4_3 : decode cJ6_signum_0f7a4 3 = .ok (.ishr, 1) := by decide +kernel
theorem dJ6_signum_0f7a4_4 : decode cJ6_signum_0f7a4 4 = .ok (.iload_n 0, 1) := by decide +kernel
theorem dJ6_signum_0f7a4_5 : decode cJ6_signum_0f7a4 5 = .ok (.ineg, 1) := by decide +kernel
theorem dJ6_signum_0f7a4_6 : decode cJ6_signum_0f7a4 6 = .ok (.bipush 31, 2) := by decide +kernel
theorem dJ6_signum_0f7a4_8 : decode cJ6_signum_0f7a4 8 = .ok (.iushr, 1) := by decide +kernel
theorem dJ6_signum_0f7a4_9 : decode cJ6_signum_0f7a4 9 = .ok (.ior, 1) := by decide +kernel
theorem dJ6_signum_0f7a4_10 : decode cJ6_signum_0f7a4 10 = .ok (.ireturn, 1) := by decide +kernel
theorem h_J6_signum_0f7a4 : yJ6_signum_0f7a4.cls ≠ "java/lang/invoke/MethodHandle" ∧ yJ6_signum_0f7a4.cls ≠ "java/lang/invoke/VarHandle" ∧ (parseMethodDescriptor yJ6_signum_0f7a4.desc).map (fun d => d.parameters.length) = some 1 := by decide +kernel
def mJ6_signum_0f7a4 (x0 : Int32) : Int32 := (x0 >>> (((31 : Int32)) &&& 31)) ||| (((-x0).toUInt32 >>> (((31 : Int32)).toUInt32 &&& Int32.toUInt32 31)).toInt32)
set_option maxHeartbeats 4000000 in
set_option maxRecDepth 100000 in
theorem kJ6_signum_0f7a4 (l : Launch) (dC : Nat → ClassId) (dI : Nat → Nat → Nat) (cA cZ : ClassId) (x0 : Int32) : Met l yJ6_signum_0f7a4 (Cond.code yJ6_signum_0f7a4 cJ6_signum_0f7a4 1 (some .int) :: wt) ({ frames := 0, cells := 0, slots := 0, locals := 0 } : Room) (va_Pc [.int x0] (PreP (dC, dI) [(cA, .int), (cZ, .boolean)] [])) (vp_Si (fun r => r = (mJ6_signum_0f7a4 x0))) 0 0 (fun _ => False) := by
  refine Met.ofW (cc := cJ6_signum_0f7a4) (maxL := 1) (ret := (some .int)) (by decide) rfl ?_
  intro p e s m args below meth c s₁ B hml hv
  obtain ⟨ha, hP, hK⟩ := hv
  have hx := B.exec
  have hb := B.bytes
  have hr := B.returns
  have ht : ∀ w ∈ wt, w.before args s = true := fun w h => atoms_spec (ws := (Cond.code yJ6_signum_0f7a4 cJ6_signum_0f7a4 1 (some .int) :: wt)) B.pre w (List.mem_cons_of_mem _ h)
  have hown : s.vm.findClass RJ6 = some m.cls := findClass_of_methodNamed B.named
  have hlocks := B.notSynchronized
  have hl := lv_entry ([.int x0]) (n := 1) (Nat.le_of_ble_eq_true rfl)
  rw [show entryFrame m args 1 = _ from (congrArg (fun a => entryFrame m a 1) ha).trans (lg_entry_eq m [.int x0] 1)]
  generalize (lg_sl ([.int x0]) ++ List.replicate (1 - (lg_sl ([.int x0])).length) Slot.unset).toArray = ls at hl ⊢
  have hl : lv_has ls 1 [(0, .int x0)] := hl
  have hm : (mJ6_signum_0f7a4 x0) = (mJ6_signum_0f7a4 x0) := rfl
  refine lv_iload_n hx hb dJ6_signum_0f7a4_0 rfl (lv_at hl 0 rfl) ?_
  refine lv_bipush (v := (31 : Int32)) hx hb dJ6_signum_0f7a4_1 (by decide) ?_
  refine lv_ishr hx hb dJ6_signum_0f7a4_3 ?_
  refine lv_iload_n hx hb dJ6_signum_0f7a4_4 rfl (lv_at hl 0 rfl) ?_
  refine lv_ineg hx hb dJ6_signum_0f7a4_5 ?_
  refine lv_bipush (v := (31 : Int32)) hx hb dJ6_signum_0f7a4_6 (by decide) ?_
  refine lv_iushr (v := ((-x0).toUInt32 >>> (((31 : Int32)).toUInt32 &&& Int32.toUInt32 31)).toInt32) hx hb dJ6_signum_0f7a4_8 rfl ?_
  refine lv_ior hx hb dJ6_signum_0f7a4_9 ?_
  exact W.iret (v := (x0 >>> (((31 : Int32)) &&& 31)) ||| (((-x0).toUInt32 >>> (((31 : Int32)).toUInt32 &&& Int32.toUInt32 31)).toInt32)) hx hb hr (fun t ht9 _ => ⟨_, rfl, hm, ht9⟩) (fun q hq => absurd hq List.not_mem_nil) dJ6_signum_0f7a4_10
theorem dJ6_bitCount_0f7a4_0 : decode cJ6_bitCount_0f7a4 0 = .ok (.iload_n 0, 1) := by decide +kernel
theorem dJ6_bitCount_0f7a4_1 : decode cJ6_bitCount_0f7a4 1 = .ok (.iload_n 0, 1) := by decide +kernel
theorem dJ6_bitCount_0f7a4_2 : decode cJ6_bitCount_0f7a4 2 = .ok (.iconst 1, 1) := by decide +kernel
theorem dJ6_bitCount_0f7a4_3 : decode cJ6_bitCount_0f7a4 3 = .ok (.iushr, 1) := by decide +kernel
theorem dJ6_bitCount_0f7a4_4 : decode cJ6_bitCount_0f7a4 4 = .ok (.ldc_w 265, 3) := by decide +kernel
theorem dJ6_bitCount_0f7a4_7 : decode cJ6_bitCount_0f7a4 7 = .ok (.iand, 1) := by decide +kernel
theorem dJ6_bitCount_0f7a4_8 : decode cJ6_bitCount_0f7a4 8 = .ok (.isub, 1) := by decide +kernel
theorem dJ6_bitCount_0f7a4_9 : decode cJ6_bitCount_0f7a4 9 = .ok (.istore_n 0, 1) := by decide +kernel
theorem dJ6_bitCount_0f7a4_10 : decode cJ6_bitCount_0f7a4 10 = .ok (.iload_n 0, 1) := by decide +kernel
theorem dJ6_bitCount_0f7a4_11 : decode cJ6_bitCount_0f7a4 11 = .ok (.ldc_w 266, 3) := by decide +kernel
theorem dJ6_bitCount_0f7a4_14 : decode cJ6_bitCount_0f7a4 14 = .ok (.iand, 1) := by decide +kernel
theorem dJ6_bitCount_0f7a4_15 : decode cJ6_bitCount_0f7a4 15 = .ok (.iload_n 0, 1) := by decide +kernel
theorem dJ6_bitCount_0f7a4_16 : decode cJ6_bitCount_0f7a4 16 = .ok (.iconst 2, 1) := by decide +kernel
theorem dJ6_bitCount_0f7a4_17 : decode cJ6_bitCount_0f7a4 17 = .ok (.iushr, 1) := by decide +kernel
theorem dJ6_bitCount_0f7a4_18 : decode cJ6_bitCount_0f7a4 18 = .ok (.ldc_w 266, 3) := by decide +kernel
theorem dJ6_bitCount_0f7a4_21 : decode cJ6_bitCount_0f7a4 21 = .ok (.iand, 1) := by decide +kernel
theorem dJ6_bitCount_0f7a4_22 : decode cJ6_bitCount_0f7a4 22 = .ok (.iadd, 1) := by decide +kernel
theorem dJ6_bitCount_0f7a4_23 : decode cJ6_bitCount_0f7a4 23 = .ok (.istore_n 0, 1) := by decide +kernel
theorem dJ6_bitCount_0f7a4_24 : decode cJ6_bitCount_0f7a4 24 = .ok (.iload_n 0, 1) := by decide +kernel
theorem dJ6_bitCount_0f7a4_25 : decode cJ6_bitCount_0f7a4 25 = .ok (.iload_n 0, 1) := by decide +kernel
theorem dJ6_bitCount_0f7a4_26 : decode cJ6_bitCount_0f7a4 26 = .ok (.iconst 4, 1) := by decide +kernel
theorem dJ6_bitCount_0f7a4_27 : decode cJ6_bitCount_0f7a4 27 = .ok (.iushr, 1) := by decide +kernel
theorem dJ6_bitCount_0f7a4_28 : decode cJ6_bitCount_0f7a4 28 = .ok (.iadd, 1) := by decide +kernel
theorem dJ6_bitCount_0f7a4_29 : decode cJ6_bitCount_0f7a4 29 = .ok (.ldc_w 267, 3) := by decide +kernel
theorem dJ6_bitCount_0f7a4_32 : decode cJ6_bitCount_0f7a4 32 = .ok (.iand, 1) := by decide +kernel
theorem dJ6_bitCount_0f7a4_33 : decode cJ6_bitCount_0f7a4 33 = .ok (.istore_n 0, 1) := by decide +kernel
theorem dJ6_bitCount_0f7a4_34 : decode cJ6_bitCount_0f7a4 34 = .ok (.iload_n 0, 1) := by decide +kernel
theorem dJ6_bitCount_0f7a4_35 : decode cJ6_bitCount_0f7a4 35 = .ok (.iload_n 0, 1) := by decide +kernel
theorem dJ6_bitCount_0f7a4_36 : decode cJ6_bitCount_0f7a4 36 = .ok (.bipush 8, 2) := by decide +kernel
theorem dJ6_bitCount_0f7a4_38 : decode cJ6_bitCount_0f7a4 38 = .ok (.iushr, 1) := by decide +kernel
theorem dJ6_bitCount_0f7a4_39 : decode cJ6_bitCount_0f7a4 39 = .ok (.iadd, 1) := by decide +kernel
theorem dJ6_bitCount_0f7a4_40 : decode cJ6_bitCount_0f7a4 40 = .ok (.istore_n 0, 1) := by decide +kernel
theorem dJ6_bitCount_0f7a4_41 : decode cJ6_bitCount_0f7a4 41 = .ok (.iload_n 0, 1) := by decide +kernel
theorem dJ6_bitCount_0f7a4_42 : decode cJ6_bitCount_0f7a4 42 = .ok (.iload_n 0, 1) := by decide +kernel
theorem dJ6_bitCount_0f7a4_43 : decode cJ6_bitCount_0f7a4 43 = .ok (.bipush 16, 2) := by decide +kernel
theorem dJ6_bitCount_0f7a4_45 : decode cJ6_bitCount_0f7a4 45 = .ok (.iushr, 1) := by decide +kernel
theorem dJ6_bitCount_0f7a4_46 : decode cJ6_bitCount_0f7a4 46 = .ok (.iadd, 1) := by decide +kernel
theorem dJ6_bitCount_0f7a4_47 : decode cJ6_bitCount_0f7a4 47 = .ok (.istore_n 0, 1) := by decide +kernel
theorem dJ6_bitCount_0f7a4_48 : decode cJ6_bitCount_0f7a4 48 = .ok (.iload_n 0, 1) := by decide +kernel
theorem dJ6_bitCount_0f7a4_49 : decode cJ6_bitCount_0f7a4 49 = .ok (.bipush 63, 2) := by decide +kernel
theorem dJ6_bitCount_0f7a4_51 : decode cJ6_bitCount_0f7a4 51 = .ok (.iand, 1) := by decide +kernel
theorem dJ6_bitCount_0f7a4_52 : decode cJ6_bitCount_0f7a4 52 = .ok (.ireturn, 1) := by decide +kernel
theorem h_J6_bitCount_0f7a4 : yJ6_bitCount_0f7a4.cls ≠ "java/lang/invoke/MethodHandle" ∧ yJ6_bitCount_0f7a4.cls ≠ "java/lang/invoke/VarHandle" ∧ (parseMethodDescriptor yJ6_bitCount_0f7a4.desc).map (fun d => d.parameters.length) = some 1 := by decide +kernel
def mJ6_bitCount_0f7a4 (x0 : Int32) : Int32 := (((((((x0 - (((x0.toUInt32 >>> (((1 : Int32)).toUInt32 &&& Int32.toUInt32 31)).toInt32) &&& ((1431655765 : Int32)))) &&& ((858993459 : Int32))) + ((((x0 - (((x0.toUInt32 >>> (((1 : Int32)).toUInt32 &&& Int32.toUInt32 31)).toInt32) &&& ((1431655765 : Int32)))).toUInt32 >>> (((2 : Int32)).toUInt32 &&& Int32.toUInt32 31)).toInt32) &&& ((858993459 : Int32)))) + (((((x0 - (((x0.toUInt32 >>> (((1 : Int32)).toUInt32 &&& Int32.toUInt32 31)).toInt32) &&& ((1431655765 : Int32)))) &&& ((858993459 : Int32))) + ((((x0 - (((x0.toUInt32 >>> (((1 : Int32)).toUInt32 &&& Int32.toUInt32 31)).toInt32) &&& ((1431655765 : Int32)))).toUInt32 >>> (((2 : Int32)).toUInt32 &&& Int32.toUInt32 31)).toInt32) &&& ((858993459 : Int32)))).toUInt32 >>> (((4 : Int32)).toUInt32 &&& Int32.toUInt32 31)).toInt32)) &&& ((252645135 : Int32))) + (((((((x0 - (((x0.toUInt32 >>> (((1 : Int32)).toUInt32 &&& Int32.toUInt32 31)).toInt32) &&& ((1431655765 : Int32)))) &&& ((858993459 : Int32))) + ((((x0 - (((x0.toUInt32 >>> (((1 : Int32)).toUInt32 &&& Int32.toUInt32 31)).toInt32) &&& ((1431655765 : Int32)))).toUInt32 >>> (((2 : Int32)).toUInt32 &&& Int32.toUInt32 31)).toInt32) &&& ((858993459 : Int32)))) + (((((x0 - (((x0.toUInt32 >>> (((1 : Int32)).toUInt32 &&& Int32.toUInt32 31)).toInt32) &&& ((1431655765 : Int32)))) &&& ((858993459 : Int32))) + ((((x0 - (((x0.toUInt32 >>> (((1 : Int32)).toUInt32 &&& Int32.toUInt32 31)).toInt32) &&& ((1431655765 : Int32)))).toUInt32 >>> (((2 : Int32)).toUInt32 &&& Int32.toUInt32 31)).toInt32) &&& ((858993459 : Int32)))).toUInt32 >>> (((4 : Int32)).toUInt32 &&& Int32.toUInt32 31)).toInt32)) &&& ((252645135 : Int32))).toUInt32 >>> (((8 : Int32)).toUInt32 &&& Int32.toUInt32 31)).toInt32)) + ((((((((x0 - (((x0.toUInt32 >>> (((1 : Int32)).toUInt32 &&& Int32.toUInt32 31)).toInt32) &&& ((1431655765 : Int32)))) &&& ((858993459 : Int32))) + ((((x0 - (((x0.toUInt32 >>> (((1 : Int32)).toUInt32 &&& Int32.toUInt32 31)).toInt32) &&& ((1431655765 : Int32)))).toUInt32 >>> (((2 : Int32)).toUInt32 &&& Int32.toUInt32 31)).toInt32) &&& ((858993459 : Int32)))) + (((((x0 - (((x0.toUInt32 >>> (((1 : Int32)).toUInt32 &&& Int32.toUInt32 31)).toInt32) &&& ((1431655765 : Int32)))) &&& ((858993459 : Int32))) + ((((x0 - (((x0.toUInt32 >>> (((1 : Int32)).toUInt32 &&& Int32.toUInt32 31)).toInt32) &&& ((1431655765 : Int32)))).toUInt32 >>> (((2 : Int32)).toUInt32 &&& Int32.toUInt32 31)).toInt32) &&& ((858993459 : Int32)))).toUInt32 >>> (((4 : Int32)).toUInt32 &&& Int32.toUInt32 31)).toInt32)) &&& ((252645135 : Int32))) + (((((((x0 - (((x0.toUInt32 >>> (((1 : Int32)).toUInt32 &&& Int32.toUInt32 31)).toInt32) &&& ((1431655765 : Int32)))) &&& ((858993459 : Int32))) + ((((x0 - (((x0.toUInt32 >>> (((1 : Int32)).toUInt32 &&& Int32.toUInt32 31)).toInt32) &&& ((1431655765 : Int32)))).toUInt32 >>> (((2 : Int32)).toUInt32 &&& Int32.toUInt32 31)).toInt32) &&& ((858993459 : Int32)))) + (((((x0 - (((x0.toUInt32 >>> (((1 : Int32)).toUInt32 &&& Int32.toUInt32 31)).toInt32) &&& ((1431655765 : Int32)))) &&& ((858993459 : Int32))) + ((((x0 - (((x0.toUInt32 >>> (((1 : Int32)).toUInt32 &&& Int32.toUInt32 31)).toInt32) &&& ((1431655765 : Int32)))).toUInt32 >>> (((2 : Int32)).toUInt32 &&& Int32.toUInt32 31)).toInt32) &&& ((858993459 : Int32)))).toUInt32 >>> (((4 : Int32)).toUInt32 &&& Int32.toUInt32 31)).toInt32)) &&& ((252645135 : Int32))).toUInt32 >>> (((8 : Int32)).toUInt32 &&& Int32.toUInt32 31)).toInt32)).toUInt32 >>> (((16 : Int32)).toUInt32 &&& Int32.toUInt32 31)).toInt32)) &&& ((63 : Int32))
set_option maxHeartbeats 4000000 in
set_option maxRecDepth 100000 in
theorem kJ6_bitCount_0f7a4 (l : Launch) (dC : Nat → ClassId) (dI : Nat → Nat → Nat) (cA cZ : ClassId) (x0 : Int32) : Met l yJ6_bitCount_0f7a4 (Cond.code yJ6_bitCount_0f7a4 cJ6_bitCount_0f7a4 1 (some .int) :: wt) ({ frames := 0, cells := 0, slots := 0, locals := 0 } : Room) (va_Pc [.int x0] (PreP (dC, dI) [(cA, .int), (cZ, .boolean)] [])) (vp_Si (fun r => r = (mJ6_bitCount_0f7a4 x0))) 0 0 (fun _ => False) := by
  refine Met.ofW (cc := cJ6_bitCount_0f7a4) (maxL := 1) (ret := (some .int)) (by decide) rfl ?_
  intro p e s m args below meth c s₁ B hml hv
  obtain ⟨ha, hP, hK⟩ := hv
  have hx := B.exec
  have hb := B.bytes
  have hr := B.returns
  have ht : ∀ w ∈ wt, w.before args s = true := fun w h => atoms_spec (ws := (Cond.code yJ6_bitCount_0f7a4 cJ6_bitCount_0f7a4 1 (some .int) :: wt)) B.pre w (List.mem_cons_of_mem _ h)
  have hown : s.vm.findClass RJ6 = some m.cls := findClass_of_methodNamed B.named
  have hlocks := B.notSynchronized
  have hl := lv_entry ([.int x0]) (n := 1) (Nat.le_of_ble_eq_true rfl)
  rw [show entryFrame m args 1 = _ from (congrArg (fun a => entryFrame m a 1) ha).trans (lg_entry_eq m [.int x0] 1)]
  generalize (lg_sl ([.int x0]) ++ List.replicate (1 - (lg_sl ([.int x0])).length) Slot.unset).toArray = ls at hl ⊢
  have hl : lv_has ls 1 [(0, .int x0)] := hl
  have hm : (mJ6_bitCount_0f7a4 x0) = (mJ6_bitCount_0f7a4 x0) := rfl
  refine lv_iload_n hx hb dJ6_bitCount_0f7a4_0 rfl (lv_at hl 0 rfl) ?_
  refine lv_iload_n hx hb dJ6_bitCount_0f7a4_1 rfl (lv_at hl 0 rfl) ?_
  refine lv_iconst (v := (1 : Int32)) hx hb dJ6_bitCount_0f7a4_2 (by decide) ?_
  refine lv_iushr (v := (x0.toUInt32 >>> (((1 : Int32)).toUInt32 &&& Int32.toUInt32 31)).toInt32) hx hb dJ6_bitCount_0f7a4_3 rfl ?_
  refine lv_ldcw (v := (1431655765 : Int32)) hx hb hown (ht _ w_4_140) dJ6_bitCount_0f7a4_4 ?_
  refine lv_iand hx hb dJ6_bitCount_0f7a4_7 ?_
  refine lv_isub hx hb dJ6_bitCount_0f7a4_8 ?_
  refine lv_istore_n (lv' := [(0, .int (x0 - (((x0.toUInt32 >>> (((1 : Int32)).toUInt32 &&& Int32.toUInt32 31)).toInt32) &&& ((1431655765 : Int32)))))]) hx hb dJ6_bitCount_0f7a4_9 rfl hl (by decide) rfl (fun ls hl => ?_)
  refine lv_iload_n hx hb dJ6_bitCount_0f7a4_10 rfl (lv_at hl 0 rfl) ?_
  refine lv_ldcw (v := (858993459 : Int32)) hx hb hown (ht _ w_4_141) dJ6_bitCount_0f7a4_11 ?_
  refine lv_iand hx hb dJ6_bitCount_0f7a4_14 ?_
  refine lv_iload_n hx hb dJ6_bitCount_0f7a4_15 rfl (lv_at hl 0 rfl) ?_
  refine lv_iconst (v := (2 : Int32)) hx hb dJ6_bitCount_0f7a4_16 (by decide) ?_
  refine lv_iushr (v := ((x0 - (((x0.toUInt32 >>> (((1 : Int32)).toUInt32 &&& Int32.toUInt32 31)).toInt32) &&& ((1431655765 : Int32)))).toUInt32 >>> (((2 : Int32)).toUInt32 &&& Int32.toUInt32 31)).toInt32) hx hb dJ6_bitCount_0f7a4_17 rfl ?_
  refine lv_ldcw (v := (858993459 : Int32)) hx hb hown (ht _ w_4_141) dJ6_bitCount_0f7a4_18 ?_
  refine lv_iand hx hb dJ6_bitCount_0f7a4_21 ?_
  refine lv_iadd hx hb dJ6_bitCount_0f7a4_22 ?_
  refine lv_istore_n (lv' := [(0, .int (((x0 - (((x0.toUInt32 >>> (((1 : Int32)).toUInt32 &&& Int32.toUInt32 31)).toInt32) &&& ((1431655765 : Int32)))) &&& ((858993459 : Int32))) + ((((x0 - (((x0.toUInt32 >>> (((1 : Int32)).toUInt32 &&& Int32.toUInt32 31)).toInt32) &&& ((1431655765 : Int32)))).toUInt32 >>> (((2 : Int32)).toUInt32 &&& Int32.toUInt32 31)).toInt32) &&& ((858993459 : Int32)))))]) hx hb dJ6_bitCount_0f7a4_23 rfl hl (by decide) rfl (fun ls hl => ?_)
  refine lv_iload_n hx hb dJ6_bitCount_0f7a4_24 rfl (lv_at hl 0 rfl) ?_
  refine lv_iload_n hx hb dJ6_bitCount_0f7a4_25 rfl (lv_at hl 0 rfl) ?_
  refine lv_iconst (v := (4 : Int32)) hx hb dJ6_bitCount_0f7a4_26 (by decide) ?_
  refine lv_iushr (v := ((((x0 - (((x0.toUInt32 >>> (((1 : Int32)).toUInt32 &&& Int32.toUInt32 31)).toInt32) &&& ((1431655765 : Int32)))) &&& ((858993459 : Int32))) + ((((x0 - (((x0.toUInt32 >>> (((1 : Int32)).toUInt32 &&& Int32.toUInt32 31)).toInt32) &&& ((1431655765 : Int32)))).toUInt32 >>> (((2 : Int32)).toUInt32 &&& Int32.toUInt32 31)).toInt32) &&& ((858993459 : Int32)))).toUInt32 >>> (((4 : Int32)).toUInt32 &&& Int32.toUInt32 31)).toInt32) hx hb dJ6_bitCount_0f7a4_27 rfl ?_
  refine lv_iadd hx hb dJ6_bitCount_0f7a4_28 ?_
  refine lv_ldcw (v := (252645135 : Int32)) hx hb hown (ht _ w_4_142) dJ6_bitCount_0f7a4_29 ?_
  refine lv_iand hx hb dJ6_bitCount_0f7a4_32 ?_
  refine lv_istore_n (lv' := [(0, .int (((((x0 - (((x0.toUInt32 >>> (((1 : Int32)).toUInt32 &&& Int32.toUInt32 31)).toInt32) &&& ((1431655765 : Int32)))) &&& ((858993459 : Int32))) + ((((x0 - (((x0.toUInt32 >>> (((1 : Int32)).toUInt32 &&& Int32.toUInt32 31)).toInt32) &&& ((1431655765 : Int32)))).toUInt32 >>> (((2 : Int32)).toUInt32 &&& Int32.toUInt32 31)).toInt32) &&& ((858993459 : Int32)))) + (((((x0 - (((x0.toUInt32 >>> (((1 : Int32)).toUInt32 &&& Int32.toUInt32 31)).toInt32) &&& ((1431655765 : Int32)))) &&& ((858993459 : Int32))) + ((((x0 - (((x0.toUInt32 >>> (((1 : Int32)).toUInt32 &&& Int32.toUInt32 31)).toInt32) &&& ((1431655765 : Int32)))).toUInt32 >>> (((2 : Int32)).toUInt32 &&& Int32.toUInt32 31)).toInt32) &&& ((858993459 : Int32)))).toUInt32 >>> (((4 : Int32)).toUInt32 &&& Int32.toUInt32 31)).toInt32)) &&& ((252645135 : Int32))))]) hx hb dJ6_bitCount_0f7a4_33 rfl hl (by decide) rfl (fun ls hl => ?_)
  refine lv_iload_n hx hb dJ6_bitCount_0f7a4_34 rfl (lv_at hl 0 rfl) ?_
  refine lv_iload_n hx hb dJ6_bitCount_0f7a4_35 rfl (lv_at hl 0 rfl) ?_
  refine lv_bipush (v := (8 : Int32)) hx hb dJ6_bitCount_0f7a4_36 (by decide) ?_
  refine lv_iushr (v := ((((((x0 - (((x0.toUInt32 >>> (((1 : Int32)).toUInt32 &&& Int32.toUInt32 31)).toInt32) &&& ((1431655765 : Int32)))) &&& ((858993459 : Int32))) + ((((x0 - (((x0.toUInt32 >>> (((1 : Int32)).toUInt32 &&& Int32.toUInt32 31)).toInt32) &&& ((1431655765 : Int32)))).toUInt32 >>> (((2 : Int32)).toUInt32 &&& Int32.toUInt32 31)).toInt32) &&& ((858993459 : Int32)))) + (((((x0 - (((x0.toUInt32 >>> (((1 : Int32)).toUInt32 &&& Int32.toUInt32 31)).toInt32) &&& ((1431655765 : Int32)))) &&& ((858993459 : Int32))) + ((((x0 - (((x0.toUInt32 >>> (((1 : Int32)).toUInt32 &&& Int32.toUInt32 31)).toInt32) &&& ((1431655765 : Int32)))).toUInt32 >>> (((2 : Int32)).toUInt32 &&& Int32.toUInt32 31)).toInt32) &&& ((858993459 : Int32)))).toUInt32 >>> (((4 : Int32)).toUInt32 &&& Int32.toUInt32 31)).toInt32)) &&& ((252645135 : Int32))).toUInt32 >>> (((8 : Int32)).toUInt32 &&& Int32.toUInt32 31)).toInt32) hx hb dJ6_bitCount_0f7a4_38 rfl ?_
  refine lv_iadd hx hb dJ6_bitCount_0f7a4_39 ?_
  refine lv_istore_n (lv' := [(0, .int ((((((x0 - (((x0.toUInt32 >>> (((1 : Int32)).toUInt32 &&& Int32.toUInt32 31)).toInt32) &&& ((1431655765 : Int32)))) &&& ((858993459 : Int32))) + ((((x0 - (((x0.toUInt32 >>> (((1 : Int32)).toUInt32 &&& Int32.toUInt32 31)).toInt32) &&& ((1431655765 : Int32)))).toUInt32 >>> (((2 : Int32)).toUInt32 &&& Int32.toUInt32 31)).toInt32) &&& ((858993459 : Int32)))) + (((((x0 - (((x0.toUInt32 >>> (((1 : Int32)).toUInt32 &&& Int32.toUInt32 31)).toInt32) &&& ((1431655765 : Int32)))) &&& ((858993459 : Int32))) + ((((x0 - (((x0.toUInt32 >>> (((1 : Int32)).toUInt32 &&& Int32.toUInt32 31)).toInt32) &&& ((1431655765 : Int32)))).toUInt32 >>> (((2 : Int32)).toUInt32 &&& Int32.toUInt32 31)).toInt32) &&& ((858993459 : Int32)))).toUInt32 >>> (((4 : Int32)).toUInt32 &&& Int32.toUInt32 31)).toInt32)) &&& ((252645135 : Int32))) + (((((((x0 - (((x0.toUInt32 >>> (((1 : Int32)).toUInt32 &&& Int32.toUInt32 31)).toInt32) &&& ((1431655765 : Int32)))) &&& ((858993459 : Int32))) + ((((x0 - (((x0.toUInt32 >>> (((1 : Int32)).toUInt32 &&& Int32.toUInt32 31)).toInt32) &&& ((1431655765 : Int32)))).toUInt32 >>> (((2 : Int32)).toUInt32 &&& Int32.toUInt32 31)).toInt32) &&& ((858993459 : Int32)))) + (((((x0 - (((x0.toUInt32 >>> (((1 : Int32)).toUInt32 &&& Int32.toUInt32 31)).toInt32) &&& ((1431655765 : Int32)))) &&& ((858993459 : Int32))) + ((((x0 - (((x0.toUInt32 >>> (((1 : Int32)).toUInt32 &&& Int32.toUInt32 31)).toInt32) &&& ((1431655765 : Int32)))).toUInt32 >>> (((2 : Int32)).toUInt32 &&& Int32.toUInt32 31)).toInt32) &&& ((858993459 : Int32)))).toUInt32 >>> (((4 : Int32)).toUInt32 &&& Int32.toUInt32 31)).toInt32)) &&& ((252645135 : Int32))).toUInt32 >>> (((8 : Int32)).toUInt32 &&& Int32.toUInt32 31)).toInt32)))]) hx hb dJ6_bitCount_0f7a4_40 rfl hl (by decide) rfl (fun ls hl => ?_)
  refine lv_iload_n hx hb dJ6_bitCount_0f7a4_41 rfl (lv_at hl 0 rfl) ?_
  refine lv_iload_n hx hb dJ6_bitCount_0f7a4_42 rfl (lv_at hl 0 rfl) ?_
  refine lv_bipush (v := (16 : Int32)) hx hb dJ6_bitCount_0f7a4_43 (by decide) ?_
  refine lv_iushr (v := (((((((x0 - (((x0.toUInt32 >>> (((1 : Int32)).toUInt32 &&& Int32.toUInt32 31)).toInt32) &&& ((1431655765 : Int32)))) &&& ((858993459 : Int32))) + ((((x0 - (((x0.toUInt32 >>> (((1 : Int32)).toUInt32 &&& Int32.toUInt32 31)).toInt32) &&& ((1431655765 : Int32)))).toUInt32 >>> (((2 : Int32)).toUInt32 &&& Int32.toUInt32 31)).toInt32) &&& ((858993459 : Int32)))) + (((((x0 - (((x0.toUInt32 >>> (((1 : Int32)).toUInt32 &&& Int32.toUInt32 31)).toInt32) &&& ((1431655765 : Int32)))) &&& ((858993459 : Int32))) + ((((x0 - (((x0.toUInt32 >>> (((1 : Int32)).toUInt32 &&& Int32.toUInt32 31)).toInt32) &&& ((1431655765 : Int32)))).toUInt32 >>> (((2 : Int32)).toUInt32 &&& Int32.toUInt32 31)).toInt32) &&& ((858993459 : Int32)))).toUInt32 >>> (((4 : Int32)).toUInt32 &&& Int32.toUInt32 31)).toInt32)) &&& ((252645135 : Int32))) + (((((((x0 - (((x0.toUInt32 >>> (((1 : Int32)).toUInt32 &&& Int32.toUInt32 31)).toInt32) &&& ((1431655765 : Int32)))) &&& ((858993459 : Int32))) + ((((x0 - (((x0.toUInt32 >>> (((1 : Int32)).toUInt32 &&& Int32.toUInt32 31)).toInt32) &&& ((1431655765 : Int32)))).toUInt32 >>> (((2 : Int32)).toUInt32 &&& Int32.toUInt32 31)).toInt32) &&& ((858993459 : Int32)))) + (((((x0 - (((x0.toUInt32 >>> (((1 : Int32)).toUInt32 &&& Int32.toUInt32 31)).toInt32) &&& ((1431655765 : Int32)))) &&& ((858993459 : Int32))) + ((((x0 - (((x0.toUInt32 >>> (((1 : Int32)).toUInt32 &&& Int32.toUInt32 31)).toInt32) &&& ((1431655765 : Int32)))).toUInt32 >>> (((2 : Int32)).toUInt32 &&& Int32.toUInt32 31)).toInt32) &&& ((858993459 : Int32)))).toUInt32 >>> (((4 : Int32)).toUInt32 &&& Int32.toUInt32 31)).toInt32)) &&& ((252645135 : Int32))).toUInt32 >>> (((8 : Int32)).toUInt32 &&& Int32.toUInt32 31)).toInt32)).toUInt32 >>> (((16 : Int32)).toUInt32 &&& Int32.toUInt32 31)).toInt32) hx hb dJ6_bitCount_0f7a4_45 rfl ?_
  refine lv_iadd hx hb dJ6_bitCount_0f7a4_46 ?_
  refine lv_istore_n (lv' := [(0, .int (((((((x0 - (((x0.toUInt32 >>> (((1 : Int32)).toUInt32 &&& Int32.toUInt32 31)).toInt32) &&& ((1431655765 : Int32)))) &&& ((858993459 : Int32))) + ((((x0 - (((x0.toUInt32 >>> (((1 : Int32)).toUInt32 &&& Int32.toUInt32 31)).toInt32) &&& ((1431655765 : Int32)))).toUInt32 >>> (((2 : Int32)).toUInt32 &&& Int32.toUInt32 31)).toInt32) &&& ((858993459 : Int32)))) + (((((x0 - (((x0.toUInt32 >>> (((1 : Int32)).toUInt32 &&& Int32.toUInt32 31)).toInt32) &&& ((1431655765 : Int32)))) &&& ((858993459 : Int32))) + ((((x0 - (((x0.toUInt32 >>> (((1 : Int32)).toUInt32 &&& Int32.toUInt32 31)).toInt32) &&& ((1431655765 : Int32)))).toUInt32 >>> (((2 : Int32)).toUInt32 &&& Int32.toUInt32 31)).toInt32) &&& ((858993459 : Int32)))).toUInt32 >>> (((4 : Int32)).toUInt32 &&& Int32.toUInt32 31)).toInt32)) &&& ((252645135 : Int32))) + (((((((x0 - (((x0.toUInt32 >>> (((1 : Int32)).toUInt32 &&& Int32.toUInt32 31)).toInt32) &&& ((1431655765 : Int32)))) &&& ((858993459 : Int32))) + ((((x0 - (((x0.toUInt32 >>> (((1 : Int32)).toUInt32 &&& Int32.toUInt32 31)).toInt32) &&& ((1431655765 : Int32)))).toUInt32 >>> (((2 : Int32)).toUInt32 &&& Int32.toUInt32 31)).toInt32) &&& ((858993459 : Int32)))) + (((((x0 - (((x0.toUInt32 >>> (((1 : Int32)).toUInt32 &&& Int32.toUInt32 31)).toInt32) &&& ((1431655765 : Int32)))) &&& ((858993459 : Int32))) + ((((x0 - (((x0.toUInt32 >>> (((1 : Int32)).toUInt32 &&& Int32.toUInt32 31)).toInt32) &&& ((1431655765 : Int32)))).toUInt32 >>> (((2 : Int32)).toUInt32 &&& Int32.toUInt32 31)).toInt32) &&& ((858993459 : Int32)))).toUInt32 >>> (((4 : Int32)).toUInt32 &&& Int32.toUInt32 31)).toInt32)) &&& ((252645135 : Int32))).toUInt32 >>> (((8 : Int32)).toUInt32 &&& Int32.toUInt32 31)).toInt32)) + ((((((((x0 - (((x0.toUInt32 >>> (((1 : Int32)).toUInt32 &&& Int32.toUInt32 31)).toInt32) &&& ((1431655765 : Int32)))) &&& ((858993459 : Int32))) + ((((x0 - (((x0.toUInt32 >>> (((1 : Int32)).toUInt32 &&& Int32.toUInt32 31)).toInt32) &&& ((1431655765 : Int32)))).toUInt32 >>> (((2 : Int32)).toUInt32 &&& Int32.toUInt32 31)).toInt32) &&& ((858993459 : Int32)))) + (((((x0 - (((x0.toUInt32 >>> (((1 : Int32)).toUInt32 &&& Int32.toUInt32 31)).toInt32) &&& ((1431655765 : Int32)))) &&& ((858993459 : Int32))) + ((((x0 - (((x0.toUInt32 >>> (((1 : Int32)).toUInt32 &&& Int32.toUInt32 31)).toInt32) &&& ((1431655765 : Int32)))).toUInt32 >>> (((2 : Int32)).toUInt32 &&& Int32.toUInt32 31)).toInt32) &&& ((858993459 : Int32)))).toUInt32 >>> (((4 : Int32)).toUInt32 &&& Int32.toUInt32 31)).toInt32)) &&& ((252645135 : Int32))) + (((((((x0 - (((x0.toUInt32 >>> (((1 : Int32)).toUInt32 &&& Int32.toUInt32 31)).toInt32) &&& ((1431655765 : Int32)))) &&& ((858993459 : Int32))) + ((((x0 - (((x0.toUInt32 >>> (((1 : Int32)).toUInt32 &&& Int32.toUInt32 31)).toInt32) &&& ((1431655765 : Int32)))).toUInt32 >>> (((2 : Int32)).toUInt32 &&& Int32.toUInt32 31)).toInt32) &&& ((858993459 : Int32)))) + (((((x0 - (((x0.toUInt32 >>> (((1 : Int32)).toUInt32 &&& Int32.toUInt32 31)).toInt32) &&& ((1431655765 : Int32)))) &&& ((858993459 : Int32))) + ((((x0 - (((x0.toUInt32 >>> (((1 : Int32)).toUInt32 &&& Int32.toUInt32 31)).toInt32) &&& ((1431655765 : Int32)))).toUInt32 >>> (((2 : Int32)).toUInt32 &&& Int32.toUInt32 31)).toInt32) &&& ((858993459 : Int32)))).toUInt32 >>> (((4 : Int32)).toUInt32 &&& Int32.toUInt32 31)).toInt32)) &&& ((252645135 : Int32))).toUInt32 >>> (((8 : Int32)).toUInt32 &&& Int32.toUInt32 31)).toInt32)).toUInt32 >>> (((16 : Int32)).toUInt32 &&& Int32.toUInt32 31)).toInt32)))]) hx hb dJ6_bitCount_0f7a4_47 rfl hl (by decide) rfl (fun ls hl => ?_)
  refine lv_iload_n hx hb dJ6_bitCount_0f7a4_48 rfl (lv_at hl 0 rfl) ?_
  refine lv_bipush (v := (63 : Int32)) hx hb dJ6_bitCount_0f7a4_49 (by decide) ?_
  refine lv_iand hx hb dJ6_bitCount_0f7a4_51 ?_
  exact W.iret (v := (((((((x0 - (((x0.toUInt32 >>> (((1 : Int32)).toUInt32 &&& Int32.toUInt32 31)).toInt32) &&& ((1431655765 : Int32)))) &&& ((858993459 : Int32))) + ((((x0 - (((x0.toUInt32 >>> (((1 : Int32)).toUInt32 &&& Int32.toUInt32 31)).toInt32) &&& ((1431655765 : Int32)))).toUInt32 >>> (((2 : Int32)).toUInt32 &&& Int32.toUInt32 31)).toInt32) &&& ((858993459 : Int32)))) + (((((x0 - (((x0.toUInt32 >>> (((1 : Int32)).toUInt32 &&& Int32.toUInt32 31)).toInt32) &&& ((1431655765 : Int32)))) &&& ((858993459 : Int32))) + ((((x0 - (((x0.toUInt32 >>> (((1 : Int32)).toUInt32 &&& Int32.toUInt32 31)).toInt32) &&& ((1431655765 : Int32)))).toUInt32 >>> (((2 : Int32)).toUInt32 &&& Int32.toUInt32 31)).toInt32) &&& ((858993459 : Int32)))).toUInt32 >>> (((4 : Int32)).toUInt32 &&& Int32.toUInt32 31)).toInt32)) &&& ((252645135 : Int32))) + (((((((x0 - (((x0.toUInt32 >>> (((1 : Int32)).toUInt32 &&& Int32.toUInt32 31)).toInt32) &&& ((1431655765 : Int32)))) &&& ((858993459 : Int32))) + ((((x0 - (((x0.toUInt32 >>> (((1 : Int32)).toUInt32 &&& Int32.toUInt32 31)).toInt32) &&& ((1431655765 : Int32)))).toUInt32 >>> (((2 : Int32)).toUInt32 &&& Int32.toUInt32 31)).toInt32) &&& ((858993459 : Int32)))) + (((((x0 - (((x0.toUInt32 >>> (((1 : Int32)).toUInt32 &&& Int32.toUInt32 31)).toInt32) &&& ((1431655765 : Int32)))) &&& ((858993459 : Int32))) + ((((x0 - (((x0.toUInt32 >>> (((1 : Int32)).toUInt32 &&& Int32.toUInt32 31)).toInt32) &&& ((1431655765 : Int32)))).toUInt32 >>> (((2 : Int32)).toUInt32 &&& Int32.toUInt32 31)).toInt32) &&& ((858993459 : Int32)))).toUInt32 >>> (((4 : Int32)).toUInt32 &&& Int32.toUInt32 31)).toInt32)) &&& ((252645135 : Int32))).toUInt32 >>> (((8 : Int32)).toUInt32 &&& Int32.toUInt32 31)).toInt32)) + ((((((((x0 - (((x0.toUInt32 >>> (((1 : Int32)).toUInt32 &&& Int32.toUInt32 31)).toInt32) &&& ((1431655765 : Int32)))) &&& ((858993459 : Int32))) + ((((x0 - (((x0.toUInt32 >>> (((1 : Int32)).toUInt32 &&& Int32.toUInt32 31)).toInt32) &&& ((1431655765 : Int32)))).toUInt32 >>> (((2 : Int32)).toUInt32 &&& Int32.toUInt32 31)).toInt32) &&& ((858993459 : Int32)))) + (((((x0 - (((x0.toUInt32 >>> (((1 : Int32)).toUInt32 &&& Int32.toUInt32 31)).toInt32) &&& ((1431655765 : Int32)))) &&& ((858993459 : Int32))) + ((((x0 - (((x0.toUInt32 >>> (((1 : Int32)).toUInt32 &&& Int32.toUInt32 31)).toInt32) &&& ((1431655765 : Int32)))).toUInt32 >>> (((2 : Int32)).toUInt32 &&& Int32.toUInt32 31)).toInt32) &&& ((858993459 : Int32)))).toUInt32 >>> (((4 : Int32)).toUInt32 &&& Int32.toUInt32 31)).toInt32)) &&& ((252645135 : Int32))) + (((((((x0 - (((x0.toUInt32 >>> (((1 : Int32)).toUInt32 &&& Int32.toUInt32 31)).toInt32) &&& ((1431655765 : Int32)))) &&& ((858993459 : Int32))) + ((((x0 - (((x0.toUInt32 >>> (((1 : Int32)).toUInt32 &&& Int32.toUInt32 31)).toInt32) &&& ((1431655765 : Int32)))).toUInt32 >>> (((2 : Int32)).toUInt32 &&& Int32.toUInt32 31)).toInt32) &&& ((858993459 : Int32)))) + (((((x0 - (((x0.toUInt32 >>> (((1 : Int32)).toUInt32 &&& Int32.toUInt32 31)).toInt32) &&& ((1431655765 : Int32)))) &&& ((858993459 : Int32))) + ((((x0 - (((x0.toUInt32 >>> (((1 : Int32)).toUInt32 &&& Int32.toUInt32 31)).toInt32) &&& ((1431655765 : Int32)))).toUInt32 >>> (((2 : Int32)).toUInt32 &&& Int32.toUInt32 31)).toInt32) &&& ((858993459 : Int32)))).toUInt32 >>> (((4 : Int32)).toUInt32 &&& Int32.toUInt32 31)).toInt32)) &&& ((252645135 : Int32))).toUInt32 >>> (((8 : Int32)).toUInt32 &&& Int32.toUInt32 31)).toInt32)).toUInt32 >>> (((16 : Int32)).toUInt32 &&& Int32.toUInt32 31)).toInt32)) &&& ((63 : Int32))) hx hb hr (fun t ht9 _ => ⟨_, rfl, hm, ht9⟩) (fun q hq => absurd hq List.not_mem_nil) dJ6_bitCount_0f7a4_52
theorem dX6_get_0 : decode cX6_get 0 = .ok (.iload_n 1, 1) := by decide +kernel
theorem dX6_get_1 : decode cX6_get 1 = .ok (.ifCond .lt 21, 3) := by decide +kernel
theorem dX6_get_4 : decode cX6_get 4 = .ok (.iload_n 1, 1) := by decide +kernel
theorem dX6_get_5 : decode cX6_get 5 = .ok (.aload_n 0, 1) := by decide +kernel
theorem dX6_get_6 : decode cX6_get 6 = .ok (.getfield 13, 3) := by decide +kernel
theorem dX6_get_9 : decode cX6_get 9 = .ok (.arraylength, 1) := by decide +kernel
theorem dX6_get_10 : decode cX6_get 10 = .ok (.if_icmp .ge 12, 3) := by decide +kernel
theorem dX6_get_13 : decode cX6_get 13 = .ok (.aload_n 0, 1) := by decide +kernel
theorem dX6_get_14 : decode cX6_get 14 = .ok (.getfield 13, 3) := by decide +kernel
theorem dX6_get_17 : decode cX6_get 17 = .ok (.iload_n 1, 1) := by decide +kernel
theorem dX6_get_18 : decode cX6_get 18 = .ok (.iaload, 1) := by decide +kernel
theorem dX6_get_19 : decode cX6_get 19 = .ok (.goto 4, 3) := by decide +kernel
theorem dX6_get_22 : decode cX6_get 22 = .ok (.iconst 0, 1) := by decide +kernel
theorem dX6_get_23 : decode cX6_get 23 = .ok (.ireturn, 1) := by decide +kernel
theorem h_X6_get : yX6_get.cls ≠ "java/lang/invoke/MethodHandle" ∧ yX6_get.cls ≠ "java/lang/invoke/VarHandle" ∧ (parseMethodDescriptor yX6_get.desc).map (fun d => d.parameters.length) = some 1 := by decide +kernel
def mX6_get (n_this_cells : Nat) (v_cells : Nat → Int32) (x1 : Int32) : Int32 := (if x1 < 0 then (0 : Int32) else (if (nI n_this_cells) ≤ x1 then (0 : Int32) else v_cells x1.toNatClampNeg))
set_option maxHeartbeats 4000000 in
set_option maxRecDepth 100000 in
theorem kX6_get (l : Launch) (dC : Nat → ClassId) (dI : Nat → Nat → Nat) (cA cZ : ClassId) (a_this a_this_cells : Nat) (n_this_cells : Nat) (v_cells : Nat → Int32) (x1 : Int32) (hn_this_cells : n_this_cells < 2147483648) : Met l yX6_get (Cond.code yX6_get cX6_get 2 (some .int) :: wt) ({ frames := 0, cells := 0, slots := 0, locals := 0 } : Room) (va_Pc [.ref a_this, .int x1] (PreP (dC, dI) [(cA, .int), (cZ, .boolean)] [(a_this, .inr (6, [.ref a_this_cells])), (a_this_cells, .inl (cA, n_this_cells, .inl v_cells))])) (vp_Si (fun r => r = (mX6_get n_this_cells v_cells x1))) 0 0 (fun _ => False) := by
  refine Met.ofW (cc := cX6_get) (maxL := 2) (ret := (some .int)) (by decide) rfl ?_
  intro p e s m args below meth c s₁ B hml hv
  obtain ⟨ha, hP, hK⟩ := hv
  have hx := B.exec
  have hb := B.bytes
  have hr := B.returns
  have ht : ∀ w ∈ wt, w.before args s = true := fun w h => atoms_spec (ws := (Cond.code yX6_get cX6_get 2 (some .int) :: wt)) B.pre w (List.mem_cons_of_mem _ h)
  have hown : s.vm.findClass RX6 = some m.cls := findClass_of_methodNamed B.named
  have hlocks := B.notSynchronized
  have hl := lv_entry ([.ref a_this, .int x1]) (n := 2) (Nat.le_of_ble_eq_true rfl)
  rw [show entryFrame m args 2 = _ from (congrArg (fun a => entryFrame m a 2) ha).trans (lg_entry_eq m [.ref a_this, .int x1] 2)]
  generalize (lg_sl ([.ref a_this, .int x1]) ++ List.replicate (2 - (lg_sl ([.ref a_this, .int x1])).length) Slot.unset).toArray = ls at hl ⊢
  have hl : lv_has ls 2 [(0, .ref a_this), (1, .int x1)] := hl
  have hm : (mX6_get n_this_cells v_cells x1) = (mX6_get n_this_cells v_cells x1) := rfl
  refine lv_iload_n hx hb dX6_get_0 rfl (lv_at hl 1 rfl) ?_
  refine lv_if_lt (tgt := 22) hx hb dX6_get_1 (by decide) (fun c_1 => ?_) (fun c_1 => ?_)
  · have hm := (if_pos c_1).symm.trans hm
    refine lv_iconst (v := (0 : Int32)) hx hb dX6_get_22 (by decide) ?_
    exact W.iret (v := (0 : Int32)) hx hb hr (fun t ht9 _ => ⟨_, rfl, hm, ht9⟩) (fun q hq => absurd hq List.not_mem_nil) dX6_get_23
  · have hm := (if_neg c_1).symm.trans hm
    refine lv_iload_n hx hb dX6_get_4 rfl (lv_at hl 1 rfl) ?_
    refine lv_aload_n hx hb dX6_get_5 rfl (lv_at hl 0 rfl) ?_
    refine va_get (D := (dC, dI)) (ci := 6) (v := .ref a_this_cells) (C := RX6) (T := TX6) (N := 1) hx hb ht iX6 hown hK.1 hP 0 rfl rfl 0 (by decide) (ht _ w_1_38) (fun _ h9 => h9) rfl dX6_get_6 ?_
    refine va_alen hx hb hK.1 hP 1 0 rfl rfl (v := nI n_this_cells) rfl dX6_get_9 ?_
    refine lv_icmp_ge (tgt := 22) hx hb dX6_get_10 (by decide) (fun c_2 => ?_) (fun c_2 => ?_)
    · have hm := (if_pos c_2).symm.trans hm
      refine lv_iconst (v := (0 : Int32)) hx hb dX6_get_22 (by decide) ?_
      exact W.iret (v := (0 : Int32)) hx hb hr (fun t ht9 _ => ⟨_, rfl, hm, ht9⟩) (fun q hq => absurd hq List.not_mem_nil) dX6_get_23
    · have hm := (if_neg c_2).symm.trans hm
      refine lv_aload_n hx hb dX6_get_13 rfl (lv_at hl 0 rfl) ?_
      refine va_get (D := (dC, dI)) (ci := 6) (v := .ref a_this_cells) (C := RX6) (T := TX6) (N := 1) hx hb ht iX6 hown hK.1 hP 0 rfl rfl 0 (by decide) (ht _ w_1_38) (fun _ h9 => h9) rfl dX6_get_14 ?_
      refine lv_iload_n hx hb dX6_get_17 rfl (lv_at hl 1 rfl) ?_
      refine va_iald hx hb hK.1 hP 1 0 rfl rfl (in_of c_1 c_2 hn_this_cells) dX6_get_18 ?_
      refine lv_goto (tgt := 23) hx hb dX6_get_19 (by decide) ?_
      exact W.iret (v := v_cells x1.toNatClampNeg) hx hb hr (fun t ht9 _ => ⟨_, rfl, hm, ht9⟩) (fun q hq => absurd hq List.not_mem_nil) dX6_get_23
theorem dX6_set_0 : decode cX6_set 0 = .ok (.iload_n 1, 1) := by decide +kernel
theorem dX6_set_1 : decode cX6_set 1 = .ok (.ifCond .lt 19, 3) := by decide +kernel
theorem dX6_set_4 : decode cX6_set 4 = .ok (.iload_n 1, 1) := by decide +kernel
theorem dX6_set_5 : decode cX6_set 5 = .ok (.aload_n 0, 1) := by decide +kernel
theorem dX6_set_6 : decode cX6_set 6 = .ok (.getfield 13, 3) := by decide +kernel
theorem dX6_set_9 : decode cX6_set 9 = .ok (.arraylength, 1) := by decide +kernel
theorem dX6_set_10 : decode cX6_set 10 = .ok (.if_icmp .ge 10, 3) := by decide +kernel
theorem dX6_set_13 : decode cX6_set 13 = .ok (.aload_n 0, 1) := by decide +kernel
theorem dX6_set_14 : decode cX6_set 14 = .ok (.getfield 13, 3) := by decide +kernel
theorem dX6_set_17 : decode cX6_set 17 = .ok (.iload_n 1, 1) := by decide +kernel
theorem dX6_set_18 : decode cX6_set 18 = .ok (.iload_n 2, 1) := by decide +kernel
theorem dX6_set_19 : decode cX6_set 19 = .ok (.iastore, 1) := by decide +kernel
theorem dX6_set_20 : decode cX6_set 20 = .ok (.return_, 1) := by decide +kernel
theorem h_X6_set : yX6_set.cls ≠ "java/lang/invoke/MethodHandle" ∧ yX6_set.cls ≠ "java/lang/invoke/VarHandle" ∧ (parseMethodDescriptor yX6_set.desc).map (fun d => d.parameters.length) = some 2 := by decide +kernel
def mX6_set (n_this_cells : Nat) (v_cells : Nat → Int32) (x1 : Int32) (x2 : Int32) : (Nat → Int32) := (if x1 < 0 then v_cells else (if (nI n_this_cells) ≤ x1 then v_cells else upd v_cells x1.toNatClampNeg x2))
set_option maxHeartbeats 4000000 in
set_option maxRecDepth 100000 in
theorem kX6_set (l : Launch) (dC : Nat → ClassId) (dI : Nat → Nat → Nat) (cA cZ : ClassId) (a_this a_this_cells : Nat) (n_this_cells : Nat) (v_cells : Nat → Int32) (x1 : Int32) (x2 : Int32) (hn_this_cells : n_this_cells < 2147483648) (sz : Nat) : Met l yX6_set (Cond.code yX6_set cX6_set 3 none :: wt) ({ frames := 0, cells := 0, slots := 0, locals := 0 } : Room) (va_Pc [.ref a_this, .int x1, .int x2] (PreM (dC, dI) [(cA, .int), (cZ, .boolean)] sz [(a_this, .inr (6, [.ref a_this_cells])), (a_this_cells, .inl (cA, n_this_cells, .inl v_cells))])) (PoV (dC, dI) sz [(a_this, .inr (6, [.ref a_this_cells])), (a_this_cells, .inl (cA, n_this_cells, .inl v_cells))] [(a_this, .inr (6, [.ref a_this_cells])), (a_this_cells, .inl (cA, n_this_cells, .inl ((mX6_set n_this_cells v_cells x1 x2))))]) 0 0 (va_A [(a_this, .inr (6, [.ref a_this_cells])), (a_this_cells, .inl (cA, n_this_cells, .inl v_cells))] sz) := by
  refine Met.ofW (cc := cX6_set) (maxL := 3) (ret := none) (by decide) rfl ?_
  intro p e s m args below meth c s₁ B hml hv
  obtain ⟨ha, hsz, hP, hK, hD0⟩ := hv
  have hx := B.exec
  have hb := B.bytes
  have hr := B.returns
  have ht : ∀ w ∈ wt, w.before args s = true := fun w h => atoms_spec (ws := (Cond.code yX6_set cX6_set 3 none :: wt)) B.pre w (List.mem_cons_of_mem _ h)
  have hown : s.vm.findClass RX6 = some m.cls := findClass_of_methodNamed B.named
  have hlocks := B.notSynchronized
  subst hsz
  have hD := hD0.self (sz := s.heap.size)
  have hA : ∀ q : Nat, s.heap.size ≤ q → va_A [(a_this, .inr (6, [.ref a_this_cells])), (a_this_cells, .inl (cA, n_this_cells, .inl v_cells))] s.heap.size q := fun q h => Or.inr h
  have hS : va_S (va_A [(a_this, .inr (6, [.ref a_this_cells])), (a_this_cells, .inl (cA, n_this_cells, .inl v_cells))] s.heap.size) s.heap s.heap [] := va_S.rf
  have hl := lv_entry ([.ref a_this, .int x1, .int x2]) (n := 3) (Nat.le_of_ble_eq_true rfl)
  rw [show entryFrame m args 3 = _ from (congrArg (fun a => entryFrame m a 3) ha).trans (lg_entry_eq m [.ref a_this, .int x1, .int x2] 3)]
  generalize (lg_sl ([.ref a_this, .int x1, .int x2]) ++ List.replicate (3 - (lg_sl ([.ref a_this, .int x1, .int x2])).length) Slot.unset).toArray = ls at hl ⊢
  have hl : lv_has ls 3 [(0, .ref a_this), (1, .int x1), (2, .int x2)] := hl
  have hm : (mX6_set n_this_cells v_cells x1 x2) = (mX6_set n_this_cells v_cells x1 x2) := rfl
  refine lv_iload_n hx hb dX6_set_0 rfl (lv_at hl 1 rfl) ?_
  refine lv_if_lt (tgt := 20) hx hb dX6_set_1 (by decide) (fun c_1 => ?_) (fun c_1 => ?_)
  · have hm := (if_pos c_1).symm.trans hm
    have hP9 := pc_sub (wc := [(a_this, .inr (6, [.ref a_this_cells])), (a_this_cells, .inl (cA, n_this_cells, .inl v_cells))]) hP [0, 1] rfl
    have hD9 := hD.sub (ws' := [(a_this, .inr (6, [.ref a_this_cells])), (a_this_cells, .inl (cA, n_this_cells, .inl v_cells))]) [0, 1] (by decide) rfl
    exact W.vret hx hb hr (fun t ht9 _ => by rw [← hm]; exact ⟨⟨(), rfl, trivial, by rw [ht9]; exact hP9, hD9⟩, hS.F ht9⟩) hS.2.2 dX6_set_20
  · have hm := (if_neg c_1).symm.trans hm
    refine lv_iload_n hx hb dX6_set_4 rfl (lv_at hl 1 rfl) ?_
    refine lv_aload_n hx hb dX6_set_5 rfl (lv_at hl 0 rfl) ?_
    refine va_get (D := (dC, dI)) (ci := 6) (v := .ref a_this_cells) (C := RX6) (T := TX6) (N := 1) hx hb ht iX6 hown hK.1 hP 0 rfl rfl 0 (by decide) (ht _ w_1_38) (fun _ h9 => h9) rfl dX6_set_6 ?_
    refine va_alen hx hb hK.1 hP 1 0 rfl rfl (v := nI n_this_cells) rfl dX6_set_9 ?_
    refine lv_icmp_ge (tgt := 20) hx hb dX6_set_10 (by decide) (fun c_2 => ?_) (fun c_2 => ?_)
    · have hm := (if_pos c_2).symm.trans hm
      have hP9 := pc_sub (wc := [(a_this, .inr (6, [.ref a_this_cells])), (a_this_cells, .inl (cA, n_this_cells, .inl v_cells))]) hP [0, 1] rfl
      have hD9 := hD.sub (ws' := [(a_this, .inr (6, [.ref a_this_cells])), (a_this_cells, .inl (cA, n_this_cells, .inl v_cells))]) [0, 1] (by decide) rfl
      exact W.vret hx hb hr (fun t ht9 _ => by rw [← hm]; exact ⟨⟨(), rfl, trivial, by rw [ht9]; exact hP9, hD9⟩, hS.F ht9⟩) hS.2.2 dX6_set_20
    · have hm := (if_neg c_2).symm.trans hm
      refine lv_aload_n hx hb dX6_set_13 rfl (lv_at hl 0 rfl) ?_
      refine va_get (D := (dC, dI)) (ci := 6) (v := .ref a_this_cells) (C := RX6) (T := TX6) (N := 1) hx hb ht iX6 hown hK.1 hP 0 rfl rfl 0 (by decide) (ht _ w_1_38) (fun _ h9 => h9) rfl dX6_set_14 ?_
      refine lv_iload_n hx hb dX6_set_17 rfl (lv_at hl 1 rfl) ?_
      refine lv_iload_n hx hb dX6_set_18 rfl (lv_at hl 2 rfl) ?_
      refine va_iast hx hb hK.1 hP hD hS 1 0 rfl rfl (in_of c_1 c_2 hn_this_cells) dX6_set_19 (fun H locs hP hD hS => ?_)
      have hP : va_P (dC, dI) vwCl [(a_this, .inr (6, [.ref a_this_cells])), (a_this_cells, .inl (cA, n_this_cells, .inl (upd v_cells x1.toNatClampNeg x2)))] H := hP
      have hD : va_D (va_A [(a_this, .inr (6, [.ref a_this_cells])), (a_this_cells, .inl (cA, n_this_cells, .inl v_cells))] s.heap.size) [(a_this, .inr (6, [.ref a_this_cells])), (a_this_cells, .inl (cA, n_this_cells, .inl (upd v_cells x1.toNatClampNeg x2)))] := hD
      have hP9 := pc_sub (wc := [(a_this, .inr (6, [.ref a_this_cells])), (a_this_cells, .inl (cA, n_this_cells, .inl (upd v_cells x1.toNatClampNeg x2)))]) hP [0, 1] rfl
      have hD9 := hD.sub (ws' := [(a_this, .inr (6, [.ref a_this_cells])), (a_this_cells, .inl (cA, n_this_cells, .inl (upd v_cells x1.toNatClampNeg x2)))]) [0, 1] (by decide) rfl
      exact W.vret hx hb hr (fun t ht9 _ => by rw [← hm]; exact ⟨⟨(), rfl, trivial, by rw [ht9]; exact hP9, hD9⟩, hS.F ht9⟩) hS.2.2 dX6_set_20
theorem dJ7_fill_53178_0 : decode cJ7_fill_53178 0 = .ok (.iconst 0, 1) := by decide +kernel
theorem dJ7_fill_53178_1 : decode cJ7_fill_53178 1 = .ok (.istore_n 2, 1) := by decide +kernel
theorem dJ7_fill_53178_2 : decode cJ7_fill_53178 2 = .ok (.aload_n 0, 1) := by decide +kernel
theorem dJ7_fill_53178_3 : decode cJ7_fill_53178 3 = .ok (.arraylength, 1) := by decide +kernel
theorem dJ7_fill_53178_4 : decode cJ7_fill_53178 4 = .ok (.istore_n 3, 1) := by decide +kernel
theorem dJ7_fill_53178_5 : decode cJ7_fill_53178 5 = .ok (.iload_n 2, 1) := by decide +kernel
theorem dJ7_fill_53178_6 : decode cJ7_fill_53178 6 = .ok (.iload_n 3, 1) := by decide +kernel
theorem dJ7_fill_53178_7 : decode cJ7_fill_53178 7 = .ok (.if_icmp .ge 13, 3) := by decide +kernel
theorem dJ7_fill_53178_10 : decode cJ7_fill_53178 10 = .ok (.aload_n 0, 1) := by decide +kernel
theorem dJ7_fill_53178_11 : decode cJ7_fill_53178 11 = .ok (.iload_n 2, 1) := by decide +kernel
theorem dJ7_fill_53178_12 : decode cJ7_fill_53178 12 = .ok (.iload_n 1, 1) := by decide +kernel
theorem dJ7_fill_53178_13 : decode cJ7_fill_53178 13 = .ok (.iastore, 1) := by decide +kernel
theorem dJ7_fill_53178_14 : decode cJ7_fill_53178 14 = .ok (.iinc 2 1, 3) := by decide +kernel
theorem dJ7_fill_53178_17 : decode cJ7_fill_53178 17 = .ok (.goto (-12), 3) := by decide +kernel
theorem dJ7_fill_53178_20 : decode cJ7_fill_53178 20 = .ok (.return_, 1) := by decide +kernel
theorem h_J7_fill_53178 : yJ7_fill_53178.cls ≠ "java/lang/invoke/MethodHandle" ∧ yJ7_fill_53178.cls ≠ "java/lang/invoke/VarHandle" ∧ (parseMethodDescriptor yJ7_fill_53178.desc).map (fun d => d.parameters.length) = some 2 := by decide +kernel
def mJ7_fill_53178_l5 (x1 : Int32) (k_5 : Nat) (u_p0_5 : (Nat → Int32)) : (Nat → Int32) := upd u_p0_5 k_5 x1
def mJ7_fill_53178 (n_p0 : Nat) (v_p0 : Nat → Int32) (x1 : Int32) : (Nat → Int32) := (iter (mJ7_fill_53178_l5 x1) n_p0 v_p0)
set_option maxHeartbeats 4000000 in
set_option maxRecDepth 100000 in
theorem kJ7_fill_53178 (l : Launch) (dC : Nat → ClassId) (dI : Nat → Nat → Nat) (cA cZ : ClassId) (a_p0 : Nat) (n_p0 : Nat) (v_p0 : Nat → Int32) (x1 : Int32) (hn_p0 : n_p0 < 2147483648) (sz : Nat) : Met l yJ7_fill_53178 (Cond.code yJ7_fill_53178 cJ7_fill_53178 4 none :: wt) ({ frames := 0, cells := 0, slots := 0, locals := 0 } : Room) (va_Pc [.ref a_p0, .int x1] (PreM (dC, dI) [(cA, .int), (cZ, .boolean)] sz [(a_p0, .inl (cA, n_p0, .inl v_p0))])) (PoV (dC, dI) sz [(a_p0, .inl (cA, n_p0, .inl v_p0))] [(a_p0, .inl (cA, n_p0, .inl ((mJ7_fill_53178 n_p0 v_p0 x1))))]) 0 0 (va_A [(a_p0, .inl (cA, n_p0, .inl v_p0))] sz) := by
  refine Met.ofW (cc := cJ7_fill_53178) (maxL := 4) (ret := none) (by decide) rfl ?_
  intro p e s m args below meth c s₁ B hml hv
  obtain ⟨ha, hsz, hP, hK, hD0⟩ := hv
  have hx := B.exec
  have hb := B.bytes
  have hr := B.returns
  have ht : ∀ w ∈ wt, w.before args s = true := fun w h => atoms_spec (ws := (Cond.code yJ7_fill_53178 cJ7_fill_53178 4 none :: wt)) B.pre w (List.mem_cons_of_mem _ h)
  have hown : s.vm.findClass RJ7 = some m.cls := findClass_of_methodNamed B.named
  have hlocks := B.notSynchronized
  subst hsz
  have hD := hD0.self (sz := s.heap.size)
  have hA : ∀ q : Nat, s.heap.size ≤ q → va_A [(a_p0, .inl (cA, n_p0, .inl v_p0))] s.heap.size q := fun q h => Or.inr h
  have hS : va_S (va_A [(a_p0, .inl (cA, n_p0, .inl v_p0))] s.heap.size) s.heap s.heap [] := va_S.rf
  have hl := lv_entry ([.ref a_p0, .int x1]) (n := 4) (Nat.le_of_ble_eq_true rfl)
  rw [show entryFrame m args 4 = _ from (congrArg (fun a => entryFrame m a 4) ha).trans (lg_entry_eq m [.ref a_p0, .int x1] 4)]
  generalize (lg_sl ([.ref a_p0, .int x1]) ++ List.replicate (4 - (lg_sl ([.ref a_p0, .int x1])).length) Slot.unset).toArray = ls at hl ⊢
  have hl : lv_has ls 4 [(0, .ref a_p0), (1, .int x1)] := hl
  have hm : (mJ7_fill_53178 n_p0 v_p0 x1) = (mJ7_fill_53178 n_p0 v_p0 x1) := rfl
  refine lv_iconst (v := (0 : Int32)) hx hb dJ7_fill_53178_0 (by decide) ?_
  refine lv_istore_n (lv' := [(2, .int ((0 : Int32))), (0, .ref a_p0), (1, .int x1)]) hx hb dJ7_fill_53178_1 rfl hl (by decide) rfl (fun ls hl => ?_)
  refine lv_aload_n hx hb dJ7_fill_53178_2 rfl (lv_at hl 1 rfl) ?_
  refine va_alen hx hb hK.1 hP 0 0 rfl rfl (v := nI n_p0) rfl dJ7_fill_53178_3 ?_
  refine lv_istore_n (lv' := [(3, .int (nI n_p0)), (2, .int ((0 : Int32))), (0, .ref a_p0), (1, .int x1)]) hx hb dJ7_fill_53178_4 rfl hl (by decide) rfl (fun ls hl => ?_)
  have L_5 : ∀ (n_5 k_5 : Nat), k_5 + n_5 = n_p0 → ∀ (u_p0_5 : Nat → Int32), u_p0_5 = (iter (mJ7_fill_53178_l5 x1) k_5 v_p0) → ∀ (ls : Array Slot), lv_has ls 4 [(3, .int (nI n_p0)), (2, .int (nI k_5)), (0, .ref a_p0), (1, .int x1)] → ∀ (H : Heap) (locs : List Loc), va_P (dC, dI) vwCl [(a_p0, .inl (cA, n_p0, .inl u_p0_5))] H → va_D (va_A [(a_p0, .inl (cA, n_p0, .inl v_p0))] s.heap.size) [(a_p0, .inl (cA, n_p0, .inl u_p0_5))] → va_S (va_A [(a_p0, .inl (cA, n_p0, .inl v_p0))] s.heap.size) s.heap H locs → W p l e (headSpec (Cond.code yJ7_fill_53178 cJ7_fill_53178 4 none :: wt) ({ frames := 0, cells := 0, slots := 0, locals := 0 } : Room)).room s m args below meth c H locs 0 0 (MQ below (PoV (dC, dI) s.heap.size [(a_p0, .inl (cA, n_p0, .inl v_p0))] [(a_p0, .inl (cA, n_p0, .inl ((mJ7_fill_53178 n_p0 v_p0 x1))))]) args s 0 0 (va_A [(a_p0, .inl (cA, n_p0, .inl v_p0))] s.heap.size)) (F0 m 5 ls []) := by
    intro n_5
    induction n_5 with
    | zero =>
      intro k_5 hk u_p0_5 ex0_5 ls hl H locs hP hD hS
      obtain rfl : n_p0 = k_5 := by omega
      subst ex0_5
      refine lv_iload_n hx hb dJ7_fill_53178_5 rfl (lv_at hl 1 rfl) ?_
      refine lv_iload_n hx hb dJ7_fill_53178_6 rfl (lv_at hl 0 rfl) ?_
      refine lv_icmp_ge (tgt := 20) hx hb dJ7_fill_53178_7 (by decide) (fun c_2 => ?_) (fun c_2 => ?_)
      · skip
        have hP9 := pc_sub (wc := [(a_p0, .inl (cA, n_p0, .inl ((iter (mJ7_fill_53178_l5 x1) n_p0 v_p0))))]) hP [0] rfl
        have hD9 := hD.sub (ws' := [(a_p0, .inl (cA, n_p0, .inl ((iter (mJ7_fill_53178_l5 x1) n_p0 v_p0))))]) [0] (by decide) rfl
        exact W.vret hx hb hr (fun t ht9 _ => by rw [← hm]; exact ⟨⟨(), rfl, trivial, by rw [ht9]; exact hP9, hD9⟩, hS.F ht9⟩) hS.2.2 dJ7_fill_53178_20
      · exact absurd (nI_le (by omega) (by omega)) c_2
    | succ n_5 ih =>
      intro k_5 hk u_p0_5 ex0_5 ls hl H locs hP hD hS
      have hm : (mJ7_fill_53178_l5 x1) k_5 u_p0_5 = (iter (mJ7_fill_53178_l5 x1) (k_5 + 1) v_p0) := by rw [ex0_5]; rfl
      refine lv_iload_n hx hb dJ7_fill_53178_5 rfl (lv_at hl 1 rfl) ?_
      refine lv_iload_n hx hb dJ7_fill_53178_6 rfl (lv_at hl 0 rfl) ?_
      refine lv_icmp_ge (tgt := 20) hx hb dJ7_fill_53178_7 (by decide) (fun c_1 => ?_) (fun c_1 => ?_)
      · exact absurd c_1 (nI_ge (by omega) (by omega))
      · skip
        refine lv_aload_n hx hb dJ7_fill_53178_10 rfl (lv_at hl 2 rfl) ?_
        refine lv_iload_n hx hb dJ7_fill_53178_11 rfl (lv_at hl 1 rfl) ?_
        refine lv_iload_n hx hb dJ7_fill_53178_12 rfl (lv_at hl 3 rfl) ?_
        refine nv_iast (e := k_5) (by omega) (by omega) hx hb hK.1 hP hD hS 0 0 rfl rfl dJ7_fill_53178_13 (fun H locs hP hD hS => ?_)
        have hP : va_P (dC, dI) vwCl [(a_p0, .inl (cA, n_p0, .inl (upd u_p0_5 k_5 x1)))] H := hP
        have hD : va_D (va_A [(a_p0, .inl (cA, n_p0, .inl v_p0))] s.heap.size) [(a_p0, .inl (cA, n_p0, .inl (upd u_p0_5 k_5 x1)))] := hD
        refine lv_iinc (v := nI (k_5 + 1)) (lv' := [(2, .int (nI (k_5 + 1))), (3, .int (nI n_p0)), (0, .ref a_p0), (1, .int x1)]) hx hb dJ7_fill_53178_14 hl (k := 1) rfl (nI_1 _) (by decide) rfl (fun ls hl => ?_)
        refine lv_goto (tgt := 5) hx hb dJ7_fill_53178_17 (by decide) ?_
        exact ih (k_5 + 1) (by omega) (upd u_p0_5 k_5 x1) hm ls (lv_sub hl [1, 0, 2, 3] rfl) H locs hP hD hS
  exact L_5 n_p0 0 (Nat.zero_add _) v_p0 rfl ls (lv_sub hl [0, 1, 2, 3] rfl) s.heap [] hP hD hS
theorem dX6_clear_0 : decode cX6_clear 0 = .ok (.aload_n 0, 1) := by decide +kernel
theorem dX6_clear_1 : decode cX6_clear 1 = .ok (.getfield 13, 3) := by decide +kernel
theorem dX6_clear_4 : decode cX6_clear 4 = .ok (.iconst 0, 1) := by decide +kernel
theorem dX6_clear_5 : decode cX6_clear 5 = .ok (.invokestatic 19, 3) := by decide +kernel
theorem dX6_clear_8 : decode cX6_clear 8 = .ok (.return_, 1) := by decide +kernel
theorem h_X6_clear : yX6_clear.cls ≠ "java/lang/invoke/MethodHandle" ∧ yX6_clear.cls ≠ "java/lang/invoke/VarHandle" ∧ (parseMethodDescriptor yX6_clear.desc).map (fun d => d.parameters.length) = some 0 := by decide +kernel
def mX6_clear (n_this_cells : Nat) (v_cells : Nat → Int32) : (Nat → Int32) := (mJ7_fill_53178 n_this_cells v_cells ((0 : Int32)))
set_option maxHeartbeats 4000000 in
set_option maxRecDepth 100000 in
theorem kX6_clear (l : Launch) (dC : Nat → ClassId) (dI : Nat → Nat → Nat) (cA cZ : ClassId) (a_this a_this_cells : Nat) (n_this_cells : Nat) (v_cells : Nat → Int32) (hn_this_cells : n_this_cells < 2147483648) (sz : Nat) : Met l yX6_clear (Cond.code yX6_clear cX6_clear 1 none :: wt) ({ frames := 1, cells := 0, slots := 0, locals := 23 } : Room) (va_Pc [.ref a_this] (PreM (dC, dI) [(cA, .int), (cZ, .boolean)] sz [(a_this, .inr (6, [.ref a_this_cells])), (a_this_cells, .inl (cA, n_this_cells, .inl v_cells))])) (PoV (dC, dI) sz [(a_this, .inr (6, [.ref a_this_cells])), (a_this_cells, .inl (cA, n_this_cells, .inl v_cells))] [(a_this, .inr (6, [.ref a_this_cells])), (a_this_cells, .inl (cA, n_this_cells, .inl ((mX6_clear n_this_cells v_cells))))]) 0 0 (va_A [(a_this, .inr (6, [.ref a_this_cells])), (a_this_cells, .inl (cA, n_this_cells, .inl v_cells))] sz) := by
  refine Met.ofW (cc := cX6_clear) (maxL := 1) (ret := none) (by decide) rfl ?_
  intro p e s m args below meth c s₁ B hml hv
  obtain ⟨ha, hsz, hP, hK, hD0⟩ := hv
  have hx := B.exec
  have hb := B.bytes
  have hr := B.returns
  have ht : ∀ w ∈ wt, w.before args s = true := fun w h => atoms_spec (ws := (Cond.code yX6_clear cX6_clear 1 none :: wt)) B.pre w (List.mem_cons_of_mem _ h)
  have hown : s.vm.findClass RX6 = some m.cls := findClass_of_methodNamed B.named
  have hlocks := B.notSynchronized
  subst hsz
  have hD := hD0.self (sz := s.heap.size)
  have hA : ∀ q : Nat, s.heap.size ≤ q → va_A [(a_this, .inr (6, [.ref a_this_cells])), (a_this_cells, .inl (cA, n_this_cells, .inl v_cells))] s.heap.size q := fun q h => Or.inr h
  have hS : va_S (va_A [(a_this, .inr (6, [.ref a_this_cells])), (a_this_cells, .inl (cA, n_this_cells, .inl v_cells))] s.heap.size) s.heap s.heap [] := va_S.rf
  have hl := lv_entry ([.ref a_this]) (n := 1) (Nat.le_of_ble_eq_true rfl)
  rw [show entryFrame m args 1 = _ from (congrArg (fun a => entryFrame m a 1) ha).trans (lg_entry_eq m [.ref a_this] 1)]
  generalize (lg_sl ([.ref a_this]) ++ List.replicate (1 - (lg_sl ([.ref a_this])).length) Slot.unset).toArray = ls at hl ⊢
  have hl : lv_has ls 1 [(0, .ref a_this)] := hl
  have hm : (mX6_clear n_this_cells v_cells) = (mX6_clear n_this_cells v_cells) := rfl
  refine lv_aload_n hx hb dX6_clear_0 rfl (lv_at hl 0 rfl) ?_
  refine va_get (D := (dC, dI)) (ci := 6) (v := .ref a_this_cells) (C := RX6) (T := TX6) (N := 1) hx hb ht iX6 hown hK.1 hP 0 rfl rfl 0 (by decide) (ht _ w_1_38) (fun _ h9 => h9) rfl dX6_clear_1 ?_
  refine lv_iconst (v := (0 : Int32)) hx hb dX6_clear_4 (by decide) ?_
  have hPc := pc_sub (wc := [(a_this_cells, .inl (cA, n_this_cells, .inl v_cells))]) hP [1] rfl
  have hDc := hD.sub (ws' := [(a_this_cells, .inl (cA, n_this_cells, .inl v_cells))]) [1] (by decide) rfl
  refine mv_callv (wc := [(a_this_cells, .inl (cA, n_this_cells, .inl v_cells))]) (wr := [(a_this, .inr (6, [.ref a_this_cells]))]) (w1 := [(a_this_cells, .inl (cA, n_this_cells, .inl ((mJ7_fill_53178 n_this_cells v_cells ((0 : Int32))))))]) [1] [0] hP hD hS hA rfl rfl (by decide) (by decide) (va_runS (As := [.ref a_this_cells, .int ((0 : Int32))]) (rest := []) ⟨hx, hb, hml, hown, ht⟩ (kJ7_fill_53178 l dC dI cA cZ a_this_cells n_this_cells v_cells ((0 : Int32)) (by omega) s.heap.size) (va_cwS 2 ht (gi_S w_2_48 w_2_49 w_1_13 (gi_code w_2_50)) rfl rfl rfl h_J7_fill_53178 ⟨Nat.le_of_ble_eq_true rfl, Nat.le_of_ble_eq_true rfl⟩) ⟨pm_blind, pm_use hPc hK hDc⟩ rfl rfl hl.1 rfl (lv_room (Nat.le_of_ble_eq_true rfl)) dX6_clear_5 ⟨Nat.zero_le _, Nat.zero_le _⟩) (fun H locs hP hD hS => ?_)
  have hP : va_P (dC, dI) vwCl [(a_this, .inr (6, [.ref a_this_cells])), (a_this_cells, .inl (cA, n_this_cells, .inl ((mJ7_fill_53178 n_this_cells v_cells ((0 : Int32))))))] H := hP
  have hD : va_D (va_A [(a_this, .inr (6, [.ref a_this_cells])), (a_this_cells, .inl (cA, n_this_cells, .inl v_cells))] s.heap.size) [(a_this, .inr (6, [.ref a_this_cells])), (a_this_cells, .inl (cA, n_this_cells, .inl ((mJ7_fill_53178 n_this_cells v_cells ((0 : Int32))))))] := hD
  have hP9 := pc_sub (wc := [(a_this, .inr (6, [.ref a_this_cells])), (a_this_cells, .inl (cA, n_this_cells, .inl ((mJ7_fill_53178 n_this_cells v_cells ((0 : Int32))))))]) hP [0, 1] rfl
  have hD9 := hD.sub (ws' := [(a_this, .inr (6, [.ref a_this_cells])), (a_this_cells, .inl (cA, n_this_cells, .inl ((mJ7_fill_53178 n_this_cells v_cells ((0 : Int32))))))]) [0, 1] (by decide) rfl
  exact W.vret hx hb hr (fun t ht9 _ => by rw [← hm]; exact ⟨⟨(), rfl, trivial, by rw [ht9]; exact hP9, hD9⟩, hS.F ht9⟩) hS.2.2 dX6_clear_8
theorem dX6_copyCells_0 : decode cX6_copyCells 0 = .ok (.iconst 0, 1) := by decide +kernel
theorem dX6_copyCells_1 : decode cX6_copyCells 1 = .ok (.istore 5, 2) := by decide +kernel
theorem dX6_copyCells_3 : decode cX6_copyCells 3 = .ok (.iload 5, 2) := by decide +kernel
theorem dX6_copyCells_5 : decode cX6_copyCells 5 = .ok (.iload 4, 2) := by decide +kernel
theorem dX6_copyCells_7 : decode cX6_copyCells 7 = .ok (.if_icmp .ge 25, 3) := by decide +kernel
theorem dX6_copyCells_10 : decode cX6_copyCells 10 = .ok (.aload_n 0, 1) := by decide +kernel
theorem dX6_copyCells_11 : decode cX6_copyCells 11 = .ok (.iload_n 1, 1) := by decide +kernel
theorem dX6_copyCells_12 : decode cX6_copyCells 12 = .ok (.iload 5, 2) := by decide +kernel
theorem dX6_copyCells_14 : decode cX6_copyCells 14 = .ok (.iadd, 1) := by decide +kernel
theorem dX6_copyCells_15 : decode cX6_copyCells 15 = .ok (.aload_n 2, 1) := by decide +kernel
theorem dX6_copyCells_16 : decode cX6_copyCells 16 = .ok (.iload_n 3, 1) := by decide +kernel
theorem dX6_copyCells_17 : decode cX6_copyCells 17 = .ok (.iload 5, 2) := by decide +kernel
theorem dX6_copyCells_19 : decode cX6_copyCells 19 = .ok (.iadd, 1) := by decide +kernel
theorem dX6_copyCells_20 : decode cX6_copyCells 20 = .ok (.invokevirtual 25, 3) := by decide +kernel
theorem dX6_copyCells_23 : decode cX6_copyCells 23 = .ok (.invokevirtual 29, 3) := by decide +kernel
theorem dX6_copyCells_26 : decode cX6_copyCells 26 = .ok (.iinc 5 1, 3) := by decide +kernel
theorem dX6_copyCells_29 : decode cX6_copyCells 29 = .ok (.goto (-26), 3) := by decide +kernel
theorem dX6_copyCells_32 : decode cX6_copyCells 32 = .ok (.return_, 1) := by decide +kernel
theorem h_X6_copyCells : yX6_copyCells.cls ≠ "java/lang/invoke/MethodHandle" ∧ yX6_copyCells.cls ≠ "java/lang/invoke/VarHandle" ∧ (parseMethodDescriptor yX6_copyCells.desc).map (fun d => d.parameters.length) = some 4 := by decide +kernel
def mX6_copyCells_l3 (n_p2_cells : Nat) (n_this_cells : Nat) (v_p2 : Nat → Int32) (x1 : Int32) (x3 : Int32) (k_3 : Nat) (u_cells_3 : (Nat → Int32)) : (Nat → Int32) := (mX6_set n_this_cells u_cells_3 (x1 + (nI k_3)) ((mX6_get n_p2_cells v_p2 (x3 + (nI k_3)))))
def mX6_copyCells (n_p2_cells : Nat) (n_this_cells : Nat) (v_p2 : Nat → Int32) (v_cells : Nat → Int32) (x1 : Int32) (x3 : Int32) (x4 : Int32) : (Nat → Int32) := (iter (mX6_copyCells_l3 n_p2_cells n_this_cells v_p2 x1 x3) x4.toNatClampNeg v_cells)
set_option maxHeartbeats 4000000 in
set_option maxRecDepth 100000 in
theorem kX6_copyCells (l : Launch) (dC : Nat → ClassId) (dI : Nat → Nat → Nat) (cA cZ : ClassId) (a_this a_p2 a_p2_cells a_this_cells : Nat) (n_p2_cells n_this_cells : Nat) (v_p2 : Nat → Int32) (v_cells : Nat → Int32) (x1 : Int32) (x3 : Int32) (x4 : Int32) (hn_p2_cells : n_p2_cells < 2147483648) (hn_this_cells : n_this_cells < 2147483648) (sz : Nat) : Met l yX6_copyCells (Cond.code yX6_copyCells cX6_copyCells 6 none :: wt) ({ frames := 1, cells := 0, slots := 0, locals := 22 } : Room) (va_Pc [.ref a_this, .int x1, .ref a_p2, .int x3, .int x4] (PreM (dC, dI) [(cA, .int), (cZ, .boolean)] sz [(a_p2, .inr (6, [.ref a_p2_cells])), (a_this, .inr (6, [.ref a_this_cells])), (a_p2_cells, .inl (cA, n_p2_cells, .inl v_p2)), (a_this_cells, .inl (cA, n_this_cells, .inl v_cells))])) (PoV (dC, dI) sz [(a_p2, .inr (6, [.ref a_p2_cells])), (a_this, .inr (6, [.ref a_this_cells])), (a_p2_cells, .inl (cA, n_p2_cells, .inl v_p2)), (a_this_cells, .inl (cA, n_this_cells, .inl v_cells))] [(a_p2, .inr (6, [.ref a_p2_cells])), (a_this, .inr (6, [.ref a_this_cells])), (a_p2_cells, .inl (cA, n_p2_cells, .inl v_p2)), (a_this_cells, .inl (cA, n_this_cells, .inl ((mX6_copyCells n_p2_cells n_this_cells v_p2 v_cells x1 x3 x4))))]) 0 0 (va_A [(a_p2, .inr (6, [.ref a_p2_cells])), (a_this, .inr (6, [.ref a_this_cells])), (a_p2_cells, .inl (cA, n_p2_cells, .inl v_p2)), (a_this_cells, .inl (cA, n_this_cells, .inl v_cells))] sz) := by
  refine Met.ofW (cc := cX6_copyCells) (maxL := 6) (ret := none) (by decide) rfl ?_
  intro p e s m args below meth c s₁ B hml hv
  obtain ⟨ha, hsz, hP, hK, hD0⟩ := hv
  have hx := B.exec
  have hb := B.bytes
  have hr := B.returns
  have ht : ∀ w ∈ wt, w.before args s = true := fun w h => atoms_spec (ws := (Cond.code yX6_copyCells cX6_copyCells 6 none :: wt)) B.pre w (List.mem_cons_of_mem _ h)
  have hown : s.vm.findClass RX6 = some m.cls := findClass_of_methodNamed B.named
  have hlocks := B.notSynchronized
  subst hsz
  have hD := hD0.self (sz := s.heap.size)
  have hA : ∀ q : Nat, s.heap.size ≤ q → va_A [(a_p2, .inr (6, [.ref a_p2_cells])), (a_this, .inr (6, [.ref a_this_cells])), (a_p2_cells, .inl (cA, n_p2_cells, .inl v_p2)), (a_this_cells, .inl (cA, n_this_cells, .inl v_cells))] s.heap.size q := fun q h => Or.inr h
  have hS : va_S (va_A [(a_p2, .inr (6, [.ref a_p2_cells])), (a_this, .inr (6, [.ref a_this_cells])), (a_p2_cells, .inl (cA, n_p2_cells, .inl v_p2)), (a_this_cells, .inl (cA, n_this_cells, .inl v_cells))] s.heap.size) s.heap s.heap [] := va_S.rf
  have hl := lv_entry ([.ref a_this, .int x1, .ref a_p2, .int x3, .int x4]) (n := 6) (Nat.le_of_ble_eq_true rfl)
  rw [show entryFrame m args 6 = _ from (congrArg (fun a => entryFrame m a 6) ha).trans (lg_entry_eq m [.ref a_this, .int x1, .ref a_p2, .int x3, .int x4] 6)]
  generalize (lg_sl ([.ref a_this, .int x1, .ref a_p2, .int x3, .int x4]) ++ List.replicate (6 - (lg_sl ([.ref a_this, .int x1, .ref a_p2, .int x3, .int x4])).length) Slot.unset).toArray = ls at hl ⊢
  have hl : lv_has ls 6 [(0, .ref a_this), (1, .int x1), (2, .ref a_p2), (3, .int x3), (4, .int x4)] := hl
  have hm : (mX6_copyCells n_p2_cells n_this_cells v_p2 v_cells x1 x3 x4) = (mX6_copyCells n_p2_cells n_this_cells v_p2 v_cells x1 x3 x4) := rfl
  refine lv_iconst (v := (0 : Int32)) hx hb dX6_copyCells_0 (by decide) ?_
  refine lv_istore (lv' := [(5, .int ((0 : Int32))), (0, .ref a_this), (1, .int x1), (2, .ref a_p2), (3, .int x3), (4, .int x4)]) hx hb dX6_copyCells_1 hl (by decide) rfl (fun ls hl => ?_)
  have L_3 : ∀ (n_3 k_3 : Nat), k_3 + n_3 = x4.toNatClampNeg → ∀ (u_cells_3 : Nat → Int32), u_cells_3 = (iter (mX6_copyCells_l3 n_p2_cells n_this_cells v_p2 x1 x3) k_3 v_cells) → ∀ (ls : Array Slot), lv_has ls 6 [(5, .int (nI k_3)), (0, .ref a_this), (1, .int x1), (2, .ref a_p2), (3, .int x3), (4, .int x4)] → ∀ (H : Heap) (locs : List Loc), va_P (dC, dI) vwCl [(a_p2, .inr (6, [.ref a_p2_cells])), (a_this, .inr (6, [.ref a_this_cells])), (a_p2_cells, .inl (cA, n_p2_cells, .inl v_p2)), (a_this_cells, .inl (cA, n_this_cells, .inl u_cells_3))] H → va_D (va_A [(a_p2, .inr (6, [.ref a_p2_cells])), (a_this, .inr (6, [.ref a_this_cells])), (a_p2_cells, .inl (cA, n_p2_cells, .inl v_p2)), (a_this_cells, .inl (cA, n_this_cells, .inl v_cells))] s.heap.size) [(a_p2, .inr (6, [.ref a_p2_cells])), (a_this, .inr (6, [.ref a_this_cells])), (a_p2_cells, .inl (cA, n_p2_cells, .inl v_p2)), (a_this_cells, .inl (cA, n_this_cells, .inl u_cells_3))] → va_S (va_A [(a_p2, .inr (6, [.ref a_p2_cells])), (a_this, .inr (6, [.ref a_this_cells])), (a_p2_cells, .inl (cA, n_p2_cells, .inl v_p2)), (a_this_cells, .inl (cA, n_this_cells, .inl v_cells))] s.heap.size) s.heap H locs → W p l e (headSpec (Cond.code yX6_copyCells cX6_copyCells 6 none :: wt) ({ frames := 1, cells := 0, slots := 0, locals := 22 } : Room)).room s m args below meth c H locs 0 0 (MQ below (PoV (dC, dI) s.heap.size [(a_p2, .inr (6, [.ref a_p2_cells])), (a_this, .inr (6, [.ref a_this_cells])), (a_p2_cells, .inl (cA, n_p2_cells, .inl v_p2)), (a_this_cells, .inl (cA, n_this_cells, .inl v_cells))] [(a_p2, .inr (6, [.ref a_p2_cells])), (a_this, .inr (6, [.ref a_this_cells])), (a_p2_cells, .inl (cA, n_p2_cells, .inl v_p2)), (a_this_cells, .inl (cA, n_this_cells, .inl ((mX6_copyCells n_p2_cells n_this_cells v_p2 v_cells x1 x3 x4))))]) args s 0 0 (va_A [(a_p2, .inr (6, [.ref a_p2_cells])), (a_this, .inr (6, [.ref a_this_cells])), (a_p2_cells, .inl (cA, n_p2_cells, .inl v_p2)), (a_this_cells, .inl (cA, n_this_cells, .inl v_cells))] s.heap.size)) (F0 m 3 ls []) := by
    intro n_3
    induction n_3 with
    | zero =>
      intro k_3 hk u_cells_3 ex0_3 ls hl H locs hP hD hS
      obtain rfl : x4.toNatClampNeg = k_3 := by omega
      subst ex0_3
      refine lv_iload hx hb dX6_copyCells_3 (lv_at hl 0 rfl) ?_
      refine lv_iload hx hb dX6_copyCells_5 (lv_at hl 5 rfl) ?_
      refine lv_icmp_ge (tgt := 32) hx hb dX6_copyCells_7 (by decide) (fun c_2 => ?_) (fun c_2 => ?_)
      · skip
        have hP9 := pc_sub (wc := [(a_p2, .inr (6, [.ref a_p2_cells])), (a_this, .inr (6, [.ref a_this_cells])), (a_p2_cells, .inl (cA, n_p2_cells, .inl v_p2)), (a_this_cells, .inl (cA, n_this_cells, .inl ((iter (mX6_copyCells_l3 n_p2_cells n_this_cells v_p2 x1 x3) x4.toNatClampNeg v_cells))))]) hP [0, 1, 2, 3] rfl
        have hD9 := hD.sub (ws' := [(a_p2, .inr (6, [.ref a_p2_cells])), (a_this, .inr (6, [.ref a_this_cells])), (a_p2_cells, .inl (cA, n_p2_cells, .inl v_p2)), (a_this_cells, .inl (cA, n_this_cells, .inl ((iter (mX6_copyCells_l3 n_p2_cells n_this_cells v_p2 x1 x3) x4.toNatClampNeg v_cells))))]) [0, 1, 2, 3] (by decide) rfl
        exact W.vret hx hb hr (fun t ht9 _ => by rw [← hm]; exact ⟨⟨(), rfl, trivial, by rw [ht9]; exact hP9, hD9⟩, hS.F ht9⟩) hS.2.2 dX6_copyCells_32
      · exact absurd (lpE (by omega) (by have := clampLt x4; omega)) c_2
    | succ n_3 ih =>
      intro k_3 hk u_cells_3 ex0_3 ls hl H locs hP hD hS
      have hm : (mX6_copyCells_l3 n_p2_cells n_this_cells v_p2 x1 x3) k_3 u_cells_3 = (iter (mX6_copyCells_l3 n_p2_cells n_this_cells v_p2 x1 x3) (k_3 + 1) v_cells) := by rw [ex0_3]; rfl
      refine lv_iload hx hb dX6_copyCells_3 (lv_at hl 0 rfl) ?_
      refine lv_iload hx hb dX6_copyCells_5 (lv_at hl 5 rfl) ?_
      refine lv_icmp_ge (tgt := 32) hx hb dX6_copyCells_7 (by decide) (fun c_1 => ?_) (fun c_1 => ?_)
      · exact absurd c_1 (lpN (by omega))
      · skip
        refine lv_aload_n hx hb dX6_copyCells_10 rfl (lv_at hl 1 rfl) ?_
        refine lv_iload_n hx hb dX6_copyCells_11 rfl (lv_at hl 2 rfl) ?_
        refine lv_iload hx hb dX6_copyCells_12 (lv_at hl 0 rfl) ?_
        refine lv_iadd hx hb dX6_copyCells_14 ?_
        refine lv_aload_n hx hb dX6_copyCells_15 rfl (lv_at hl 3 rfl) ?_
        refine lv_iload_n hx hb dX6_copyCells_16 rfl (lv_at hl 4 rfl) ?_
        refine lv_iload hx hb dX6_copyCells_17 (lv_at hl 0 rfl) ?_
        refine lv_iadd hx hb dX6_copyCells_19 ?_
        refine pv_call (v := (mX6_get n_p2_cells v_p2 (x3 + (nI k_3)))) (va_runV (As := [.int (x3 + (nI k_3))]) (rest := [.int (x1 + (nI k_3)), .ref a_this]) ⟨hx, hb, hml, hown, ht⟩ (kX6_get l dC dI cA cZ a_p2 a_p2_cells n_p2_cells v_p2 (x3 + (nI k_3)) (by omega)) (cwV 1 ht (gi_V (C := RX6) w_2_145 w_2_56 w_2_57 w_1_3 (gi_code w_2_58)) rfl rfl rfl ⟨rfl, h_X6_get⟩ ⟨Nat.le_of_ble_eq_true rfl, Nat.le_of_ble_eq_true rfl⟩) ⟨pp_blind, va_recv hK.1 hP (ci := 6) (q0 := 0) rfl rfl, pp_use (pc_sub (wc := [(a_p2, .inr (6, [.ref a_p2_cells])), (a_p2_cells, .inl (cA, n_p2_cells, .inl v_p2))]) hP [0, 2] rfl) hK⟩ rfl rfl hl.1 rfl (lv_room (Nat.le_of_ble_eq_true rfl)) dX6_copyCells_20 ⟨Nat.zero_le _, Nat.zero_le _⟩) ?_
        have hPc := pc_sub (wc := [(a_this, .inr (6, [.ref a_this_cells])), (a_this_cells, .inl (cA, n_this_cells, .inl u_cells_3))]) hP [1, 3] rfl
        have hDc := hD.sub (ws' := [(a_this, .inr (6, [.ref a_this_cells])), (a_this_cells, .inl (cA, n_this_cells, .inl u_cells_3))]) [1, 3] (by decide) rfl
        refine mv_callv (wc := [(a_this, .inr (6, [.ref a_this_cells])), (a_this_cells, .inl (cA, n_this_cells, .inl u_cells_3))]) (wr := [(a_p2, .inr (6, [.ref a_p2_cells])), (a_p2_cells, .inl (cA, n_p2_cells, .inl v_p2))]) (w1 := [(a_this, .inr (6, [.ref a_this_cells])), (a_this_cells, .inl (cA, n_this_cells, .inl ((mX6_set n_this_cells u_cells_3 (x1 + (nI k_3)) ((mX6_get n_p2_cells v_p2 (x3 + (nI k_3))))))))]) [1, 3] [0, 2] hP hD hS hA rfl rfl (by decide) (by decide) (va_runV (As := [.int (x1 + (nI k_3)), .int ((mX6_get n_p2_cells v_p2 (x3 + (nI k_3))))]) (rest := []) ⟨hx, hb, hml, hown, ht⟩ (kX6_set l dC dI cA cZ a_this a_this_cells n_this_cells u_cells_3 (x1 + (nI k_3)) ((mX6_get n_p2_cells v_p2 (x3 + (nI k_3)))) (by omega) H.size) (cwV 2 ht (gi_V (C := RX6) w_2_146 w_2_25 w_2_26 w_1_3 (gi_code w_2_27)) rfl rfl rfl ⟨rfl, h_X6_set⟩ ⟨Nat.le_of_ble_eq_true rfl, Nat.le_of_ble_eq_true rfl⟩) ⟨pm_blind, va_recv hK.1 hP (ci := 6) (q0 := 1) rfl rfl, pm_use hPc hK hDc⟩ rfl rfl hl.1 rfl (lv_room (Nat.le_of_ble_eq_true rfl)) dX6_copyCells_23 ⟨Nat.zero_le _, Nat.zero_le _⟩) (fun H locs hP hD hS => ?_)
        have hP : va_P (dC, dI) vwCl [(a_p2, .inr (6, [.ref a_p2_cells])), (a_p2_cells, .inl (cA, n_p2_cells, .inl v_p2)), (a_this, .inr (6, [.ref a_this_cells])), (a_this_cells, .inl (cA, n_this_cells, .inl ((mX6_set n_this_cells u_cells_3 (x1 + (nI k_3)) ((mX6_get n_p2_cells v_p2 (x3 + (nI k_3))))))))] H := hP
        have hD : va_D (va_A [(a_p2, .inr (6, [.ref a_p2_cells])), (a_this, .inr (6, [.ref a_this_cells])), (a_p2_cells, .inl (cA, n_p2_cells, .inl v_p2)), (a_this_cells, .inl (cA, n_this_cells, .inl v_cells))] s.heap.size) [(a_p2, .inr (6, [.ref a_p2_cells])), (a_p2_cells, .inl (cA, n_p2_cells, .inl v_p2)), (a_this, .inr (6, [.ref a_this_cells])), (a_this_cells, .inl (cA, n_this_cells, .inl ((mX6_set n_this_cells u_cells_3 (x1 + (nI k_3)) ((mX6_get n_p2_cells v_p2 (x3 + (nI k_3))))))))] := hD
        refine lv_iinc (v := nI (k_3 + 1)) (lv' := [(5, .int (nI (k_3 + 1))), (0, .ref a_this), (1, .int x1), (2, .ref a_p2), (3, .int x3), (4, .int x4)]) hx hb dX6_copyCells_26 hl (k := 0) rfl (nI_1 _) (by decide) rfl (fun ls hl => ?_)
        refine lv_goto (tgt := 3) hx hb dX6_copyCells_29 (by decide) ?_
        exact ih (k_3 + 1) (by omega) ((mX6_set n_this_cells u_cells_3 (x1 + (nI k_3)) ((mX6_get n_p2_cells v_p2 (x3 + (nI k_3)))))) hm ls (lv_sub hl [0, 1, 2, 3, 4, 5] rfl) H locs (pc_sub (wc := [(a_p2, .inr (6, [.ref a_p2_cells])), (a_this, .inr (6, [.ref a_this_cells])), (a_p2_cells, .inl (cA, n_p2_cells, .inl v_p2)), (a_this_cells, .inl (cA, n_this_cells, .inl ((mX6_set n_this_cells u_cells_3 (x1 + (nI k_3)) ((mX6_get n_p2_cells v_p2 (x3 + (nI k_3))))))))]) hP [0, 2, 1, 3] rfl) (hD.sub (ws' := [(a_p2, .inr (6, [.ref a_p2_cells])), (a_this, .inr (6, [.ref a_this_cells])), (a_p2_cells, .inl (cA, n_p2_cells, .inl v_p2)), (a_this_cells, .inl (cA, n_this_cells, .inl ((mX6_set n_this_cells u_cells_3 (x1 + (nI k_3)) ((mX6_get n_p2_cells v_p2 (x3 + (nI k_3))))))))]) [0, 2, 1, 3] (by decide) rfl) hS
  exact L_3 x4.toNatClampNeg 0 (Nat.zero_add _) v_cells rfl ls (lv_sub hl [0, 1, 2, 3, 4, 5] rfl) s.heap [] hP hD hS
theorem dX6_copyFrom_0 : decode cX6_copyFrom 0 = .ok (.aload_n 0, 1) := by decide +kernel
theorem dX6_copyFrom_1 : decode cX6_copyFrom 1 = .ok (.iconst 0, 1) := by decide +kernel
theorem dX6_copyFrom_2 : decode cX6_copyFrom 2 = .ok (.aload_n 1, 1) := by decide +kernel
theorem dX6_copyFrom_3 : decode cX6_copyFrom 3 = .ok (.iconst 0, 1) := by decide +kernel
theorem dX6_copyFrom_4 : decode cX6_copyFrom 4 = .ok (.aload_n 0, 1) := by decide +kernel
theorem dX6_copyFrom_5 : decode cX6_copyFrom 5 = .ok (.getfield 13, 3) := by decide +kernel
theorem dX6_copyFrom_8 : decode cX6_copyFrom 8 = .ok (.arraylength, 1) := by decide +kernel
theorem dX6_copyFrom_9 : decode cX6_copyFrom 9 = .ok (.invokevirtual 33, 3) := by decide +kernel
theorem dX6_copyFrom_12 : decode cX6_copyFrom 12 = .ok (.return_, 1) := by decide +kernel
theorem h_X6_copyFrom : yX6_copyFrom.cls ≠ "java/lang/invoke/MethodHandle" ∧ yX6_copyFrom.cls ≠ "java/lang/invoke/VarHandle" ∧ (parseMethodDescriptor yX6_copyFrom.desc).map (fun d => d.parameters.length) = some 1 := by decide +kernel
def mX6_copyFrom (n_p1_cells : Nat) (n_this_cells : Nat) (v_p1 : Nat → Int32) (v_cells : Nat → Int32) : (Nat → Int32) := (mX6_copyCells n_p1_cells n_this_cells v_p1 v_cells ((0 : Int32)) ((0 : Int32)) (nI n_this_cells))
set_option maxHeartbeats 4000000 in
set_option maxRecDepth 100000 in
theorem kX6_copyFrom (l : Launch) (dC : Nat → ClassId) (dI : Nat → Nat → Nat) (cA cZ : ClassId) (a_this a_p1 a_p1_cells a_this_cells : Nat) (n_p1_cells n_this_cells : Nat) (v_p1 : Nat → Int32) (v_cells : Nat → Int32) (hn_p1_cells : n_p1_cells < 2147483648) (hn_this_cells : n_this_cells < 2147483648) (sz : Nat) : Met l yX6_copyFrom (Cond.code yX6_copyFrom cX6_copyFrom 2 none :: wt) ({ frames := 2, cells := 0, slots := 0, locals := 47 } : Room) (va_Pc [.ref a_this, .ref a_p1] (PreM (dC, dI) [(cA, .int), (cZ, .boolean)] sz [(a_p1, .inr (6, [.ref a_p1_cells])), (a_this, .inr (6, [.ref a_this_cells])), (a_p1_cells, .inl (cA, n_p1_cells, .inl v_p1)), (a_this_cells, .inl (cA, n_this_cells, .inl v_cells))])) (PoV (dC, dI) sz [(a_p1, .inr (6, [.ref a_p1_cells])), (a_this, .inr (6, [.ref a_this_cells])), (a_p1_cells, .inl (cA, n_p1_cells, .inl v_p1)), (a_this_cells, .inl (cA, n_this_cells, .inl v_cells))] [(a_p1, .inr (6, [.ref a_p1_cells])), (a_this, .inr (6, [.ref a_this_cells])), (a_p1_cells, .inl (cA, n_p1_cells, .inl v_p1)), (a_this_cells, .inl (cA, n_this_cells, .inl ((mX6_copyFrom n_p1_cells n_this_cells v_p1 v_cells))))]) 0 0 (va_A [(a_p1, .inr (6, [.ref a_p1_cells])), (a_this, .inr (6, [.ref a_this_cells])), (a_p1_cells, .inl (cA, n_p1_cells, .inl v_p1)), (a_this_cells, .inl (cA, n_this_cells, .inl v_cells))] sz) := by
  refine Met.ofW (cc := cX6_copyFrom) (maxL := 2) (ret := none) (by decide) rfl ?_
  intro p e s m args below meth c s₁ B hml hv
  obtain ⟨ha, hsz, hP, hK, hD0⟩ := hv
  have hx := B.exec
  have hb := B.bytes
  have hr := B.returns
  have ht : ∀ w ∈ wt, w.before args s = true := fun w h => atoms_spec (ws := (Cond.code yX6_copyFrom cX6_copyFrom 2 none :: wt)) B.pre w (List.mem_cons_of_mem _ h)
  have hown : s.vm.findClass RX6 = some m.cls := findClass_of_methodNamed B.named
  have hlocks := B.notSynchronized
  subst hsz
  have hD := hD0.self (sz := s.heap.size)
  have hA : ∀ q : Nat, s.heap.size ≤ q → va_A [(a_p1, .inr (6, [.ref a_p1_cells])), (a_this, .inr (6, [.ref a_this_cells])), (a_p1_cells, .inl (cA, n_p1_cells, .inl v_p1)), (a_this_cells, .inl (cA, n_this_cells, .inl v_cells))] s.heap.size q := fun q h => Or.inr h
  have hS : va_S (va_A [(a_p1, .inr (6, [.ref a_p1_cells])), (a_this, .inr (6, [.ref a_this_cells])), (a_p1_cells, .inl (cA, n_p1_cells, .inl v_p1)), (a_this_cells, .inl (cA, n_this_cells, .inl v_cells))] s.heap.size) s.heap s.heap [] := va_S.rf
  have hl := lv_entry ([.ref a_this, .ref a_p1]) (n := 2) (Nat.le_of_ble_eq_true rfl)
  rw [show entryFrame m args 2 = _ from (congrArg (fun a => entryFrame m a 2) ha).trans (lg_entry_eq m [.ref a_this, .ref a_p1] 2)]
  generalize (lg_sl ([.ref a_this, .ref a_p1]) ++ List.replicate (2 - (lg_sl ([.ref a_this, .ref a_p1])).length) Slot.unset).toArray = ls at hl ⊢
  have hl : lv_has ls 2 [(0, .ref a_this), (1, .ref a_p1)] := hl
  have hm : (mX6_copyFrom n_p1_cells n_this_cells v_p1 v_cells) = (mX6_copyFrom n_p1_cells n_this_cells v_p1 v_cells) := rfl
  refine lv_aload_n hx hb dX6_copyFrom_0 rfl (lv_at hl 0 rfl) ?_
  refine lv_iconst (v := (0 : Int32)) hx hb dX6_copyFrom_1 (by decide) ?_
  refine lv_aload_n hx hb dX6_copyFrom_2 rfl (lv_at hl 1 rfl) ?_
  refine lv_iconst (v := (0 : Int32)) hx hb dX6_copyFrom_3 (by decide) ?_
  refine lv_aload_n hx hb dX6_copyFrom_4 rfl (lv_at hl 0 rfl) ?_
  refine va_get (D := (dC, dI)) (ci := 6) (v := .ref a_this_cells) (C := RX6) (T := TX6) (N := 1) hx hb ht iX6 hown hK.1 hP 1 rfl rfl 0 (by decide) (ht _ w_1_38) (fun _ h9 => h9) rfl dX6_copyFrom_5 ?_
  refine va_alen hx hb hK.1 hP 3 0 rfl rfl (v := nI n_this_cells) rfl dX6_copyFrom_8 ?_
  have hPc := pc_sub (wc := [(a_p1, .inr (6, [.ref a_p1_cells])), (a_this, .inr (6, [.ref a_this_cells])), (a_p1_cells, .inl (cA, n_p1_cells, .inl v_p1)), (a_this_cells, .inl (cA, n_this_cells, .inl v_cells))]) hP [0, 1, 2, 3] rfl
  have hDc := hD.sub (ws' := [(a_p1, .inr (6, [.ref a_p1_cells])), (a_this, .inr (6, [.ref a_this_cells])), (a_p1_cells, .inl (cA, n_p1_cells, .inl v_p1)), (a_this_cells, .inl (cA, n_this_cells, .inl v_cells))]) [0, 1, 2, 3] (by decide) rfl
  refine mv_callv (wc := [(a_p1, .inr (6, [.ref a_p1_cells])), (a_this, .inr (6, [.ref a_this_cells])), (a_p1_cells, .inl (cA, n_p1_cells, .inl v_p1)), (a_this_cells, .inl (cA, n_this_cells, .inl v_cells))]) (wr := []) (w1 := [(a_p1, .inr (6, [.ref a_p1_cells])), (a_this, .inr (6, [.ref a_this_cells])), (a_p1_cells, .inl (cA, n_p1_cells, .inl v_p1)), (a_this_cells, .inl (cA, n_this_cells, .inl ((mX6_copyCells n_p1_cells n_this_cells v_p1 v_cells ((0 : Int32)) ((0 : Int32)) (nI n_this_cells)))))]) [0, 1, 2, 3] [] hP hD hS hA rfl rfl (by decide) (by decide) (va_runV (As := [.int ((0 : Int32)), .ref a_p1, .int ((0 : Int32)), .int (nI n_this_cells)]) (rest := []) ⟨hx, hb, hml, hown, ht⟩ (kX6_copyCells l dC dI cA cZ a_this a_p1 a_p1_cells a_this_cells n_p1_cells n_this_cells v_p1 v_cells ((0 : Int32)) ((0 : Int32)) (nI n_this_cells) (by omega) (by omega) s.heap.size) (cwV 4 ht (gi_V (C := RX6) w_2_141 w_2_142 w_2_143 w_1_3 (gi_code w_2_144)) rfl rfl rfl ⟨rfl, h_X6_copyCells⟩ ⟨Nat.le_of_ble_eq_true rfl, Nat.le_of_ble_eq_true rfl⟩) ⟨pm_blind, va_recv hK.1 hP (ci := 6) (q0 := 1) rfl rfl, pm_use hPc hK hDc⟩ rfl rfl hl.1 rfl (lv_room (Nat.le_of_ble_eq_true rfl)) dX6_copyFrom_9 ⟨Nat.zero_le _, Nat.zero_le _⟩) (fun H locs hP hD hS => ?_)
  have hP : va_P (dC, dI) vwCl [(a_p1, .inr (6, [.ref a_p1_cells])), (a_this, .inr (6, [.ref a_this_cells])), (a_p1_cells, .inl (cA, n_p1_cells, .inl v_p1)), (a_this_cells, .inl (cA, n_this_cells, .inl ((mX6_copyCells n_p1_cells n_this_cells v_p1 v_cells ((0 : Int32)) ((0 : Int32)) (nI n_this_cells)))))] H := hP
  have hD : va_D (va_A [(a_p1, .inr (6, [.ref a_p1_cells])), (a_this, .inr (6, [.ref a_this_cells])), (a_p1_cells, .inl (cA, n_p1_cells, .inl v_p1)), (a_this_cells, .inl (cA, n_this_cells, .inl v_cells))] s.heap.size) [(a_p1, .inr (6, [.ref a_p1_cells])), (a_this, .inr (6, [.ref a_this_cells])), (a_p1_cells, .inl (cA, n_p1_cells, .inl v_p1)), (a_this_cells, .inl (cA, n_this_cells, .inl ((mX6_copyCells n_p1_cells n_this_cells v_p1 v_cells ((0 : Int32)) ((0 : Int32)) (nI n_this_cells)))))] := hD
  have hP9 := pc_sub (wc := [(a_p1, .inr (6, [.ref a_p1_cells])), (a_this, .inr (6, [.ref a_this_cells])), (a_p1_cells, .inl (cA, n_p1_cells, .inl v_p1)), (a_this_cells, .inl (cA, n_this_cells, .inl ((mX6_copyCells n_p1_cells n_this_cells v_p1 v_cells ((0 : Int32)) ((0 : Int32)) (nI n_this_cells)))))]) hP [0, 1, 2, 3] rfl
  have hD9 := hD.sub (ws' := [(a_p1, .inr (6, [.ref a_p1_cells])), (a_this, .inr (6, [.ref a_this_cells])), (a_p1_cells, .inl (cA, n_p1_cells, .inl v_p1)), (a_this_cells, .inl (cA, n_this_cells, .inl ((mX6_copyCells n_p1_cells n_this_cells v_p1 v_cells ((0 : Int32)) ((0 : Int32)) (nI n_this_cells)))))]) [0, 1, 2, 3] (by decide) rfl
  exact W.vret hx hb hr (fun t ht9 _ => by rw [← hm]; exact ⟨⟨(), rfl, trivial, by rw [ht9]; exact hP9, hD9⟩, hS.F ht9⟩) hS.2.2 dX6_copyFrom_12
