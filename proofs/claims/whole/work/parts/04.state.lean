theorem dX7_spoons_0 : decode cX7_spoons 0 = .ok (.aload_n 0, 1) := by decide +kernel
theorem dX7_spoons_1 : decode cX7_spoons 1 = .ok (.getfield 16, 3) := by decide +kernel
theorem dX7_spoons_4 : decode cX7_spoons 4 = .ok (.iconst 0, 1) := by decide +kernel
theorem dX7_spoons_5 : decode cX7_spoons 5 = .ok (.iload_n 1, 1) := by decide +kernel
theorem dX7_spoons_6 : decode cX7_spoons 6 = .ok (.iadd, 1) := by decide +kernel
theorem dX7_spoons_7 : decode cX7_spoons 7 = .ok (.invokevirtual 20, 3) := by decide +kernel
theorem dX7_spoons_10 : decode cX7_spoons 10 = .ok (.ireturn, 1) := by decide +kernel
theorem h_X7_spoons : yX7_spoons.cls ≠ "java/lang/invoke/MethodHandle" ∧ yX7_spoons.cls ≠ "java/lang/invoke/VarHandle" ∧ (parseMethodDescriptor yX7_spoons.desc).map (fun d => d.parameters.length) = some 1 := by decide +kernel
def mX7_spoons (v_cells : Nat → Int32) (x1 : Int32) : Int32 := (mX6_get 35 v_cells (((0 : Int32)) + x1))
set_option maxHeartbeats 4000000 in
set_option maxRecDepth 100000 in
theorem kX7_spoons (l : Launch) (dC : Nat → ClassId) (dI : Nat → Nat → Nat) (cA cZ : ClassId) (a_this a_this_row a_this_row_cells : Nat) (v_cells : Nat → Int32) (x1 : Int32) : Met l yX7_spoons (Cond.code yX7_spoons cX7_spoons 2 (some .int) :: wt) ({ frames := 1, cells := 0, slots := 0, locals := 21 } : Room) (va_Pc [.ref a_this, .int x1] (PreP (dC, dI) [(cA, .int), (cZ, .boolean)] [(a_this, .inr (7, [.ref a_this_row])), (a_this_row, .inr (6, [.ref a_this_row_cells])), (a_this_row_cells, .inl (cA, 35, .inl v_cells))])) (vp_Si (fun r => r = (mX7_spoons v_cells x1))) 0 0 (fun _ => False) := by
  refine Met.ofW (cc := cX7_spoons) (maxL := 2) (ret := (some .int)) (by decide) rfl ?_
  intro p e s m args below meth c s₁ B hml hv
  obtain ⟨ha, hP, hK⟩ := hv
  have hx := B.exec
  have hb := B.bytes
  have hr := B.returns
  have ht : ∀ w ∈ wt, w.before args s = true := fun w h => atoms_spec (ws := (Cond.code yX7_spoons cX7_spoons 2 (some .int) :: wt)) B.pre w (List.mem_cons_of_mem _ h)
  have hown : s.vm.findClass RX7 = some m.cls := findClass_of_methodNamed B.named
  have hlocks := B.notSynchronized
  have hl := lv_entry ([.ref a_this, .int x1]) (n := 2) (Nat.le_of_ble_eq_true rfl)
  rw [show entryFrame m args 2 = _ from (congrArg (fun a => entryFrame m a 2) ha).trans (lg_entry_eq m [.ref a_this, .int x1] 2)]
  generalize (lg_sl ([.ref a_this, .int x1]) ++ List.replicate (2 - (lg_sl ([.ref a_this, .int x1])).length) Slot.unset).toArray = ls at hl ⊢
  have hl : lv_has ls 2 [(0, .ref a_this), (1, .int x1)] := hl
  have hm : (mX7_spoons v_cells x1) = (mX7_spoons v_cells x1) := rfl
  refine lv_aload_n hx hb dX7_spoons_0 rfl (lv_at hl 0 rfl) ?_
  refine va_get (D := (dC, dI)) (ci := 7) (v := .ref a_this_row) (C := RX7) (T := TX7) (N := 1) hx hb ht iX7 hown hK.1 hP 0 rfl rfl 0 (by decide) (ht _ w_1_51) (fun _ h9 => h9) rfl dX7_spoons_1 ?_
  refine lv_iconst (v := (0 : Int32)) hx hb dX7_spoons_4 (by decide) ?_
  refine lv_iload_n hx hb dX7_spoons_5 rfl (lv_at hl 1 rfl) ?_
  refine lv_iadd hx hb dX7_spoons_6 ?_
  refine pv_call (v := (mX6_get 35 v_cells (((0 : Int32)) + x1))) (va_runV (As := [.int (((0 : Int32)) + x1)]) (rest := []) ⟨hx, hb, hml, hown, ht⟩ (kX6_get l dC dI cA cZ a_this_row a_this_row_cells 35 v_cells (((0 : Int32)) + x1) (by decide)) (cwV 1 ht (gi_V (C := RX6) w_2_177 w_2_56 w_2_57 w_1_3 (gi_code w_2_58)) rfl rfl rfl ⟨rfl, h_X6_get⟩ ⟨Nat.le_of_ble_eq_true rfl, Nat.le_of_ble_eq_true rfl⟩) ⟨pp_blind, va_recv hK.1 hP (ci := 6) (q0 := 1) rfl rfl, pp_use (pc_sub (wc := [(a_this_row, .inr (6, [.ref a_this_row_cells])), (a_this_row_cells, .inl (cA, 35, .inl v_cells))]) hP [1, 2] rfl) hK⟩ rfl rfl hl.1 rfl (lv_room (Nat.le_of_ble_eq_true rfl)) dX7_spoons_7 ⟨Nat.zero_le _, Nat.zero_le _⟩) ?_
  exact W.iret (v := (mX6_get 35 v_cells (((0 : Int32)) + x1))) hx hb hr (fun t ht9 _ => ⟨_, rfl, hm, ht9⟩) (fun q hq => absurd hq List.not_mem_nil) dX7_spoons_10
theorem dX7_setSpoons_0 : decode cX7_setSpoons 0 = .ok (.aload_n 0, 1) := by decide +kernel
theorem dX7_setSpoons_1 : decode cX7_setSpoons 1 = .ok (.getfield 16, 3) := by decide +kernel
theorem dX7_setSpoons_4 : decode cX7_setSpoons 4 = .ok (.iconst 0, 1) := by decide +kernel
theorem dX7_setSpoons_5 : decode cX7_setSpoons 5 = .ok (.iload_n 1, 1) := by decide +kernel
theorem dX7_setSpoons_6 : decode cX7_setSpoons 6 = .ok (.iadd, 1) := by decide +kernel
theorem dX7_setSpoons_7 : decode cX7_setSpoons 7 = .ok (.iload_n 2, 1) := by decide +kernel
theorem dX7_setSpoons_8 : decode cX7_setSpoons 8 = .ok (.invokevirtual 24, 3) := by decide +kernel
theorem dX7_setSpoons_11 : decode cX7_setSpoons 11 = .ok (.return_, 1) := by decide +kernel
theorem h_X7_setSpoons : yX7_setSpoons.cls ≠ "java/lang/invoke/MethodHandle" ∧ yX7_setSpoons.cls ≠ "java/lang/invoke/VarHandle" ∧ (parseMethodDescriptor yX7_setSpoons.desc).map (fun d => d.parameters.length) = some 2 := by decide +kernel
def mX7_setSpoons (v_cells : Nat → Int32) (x1 : Int32) (x2 : Int32) : (Nat → Int32) := (mX6_set 35 v_cells (((0 : Int32)) + x1) x2)
set_option maxHeartbeats 4000000 in
set_option maxRecDepth 100000 in
theorem kX7_setSpoons (l : Launch) (dC : Nat → ClassId) (dI : Nat → Nat → Nat) (cA cZ : ClassId) (a_this a_this_row a_this_row_cells : Nat) (v_cells : Nat → Int32) (x1 : Int32) (x2 : Int32) (sz : Nat) : Met l yX7_setSpoons (Cond.code yX7_setSpoons cX7_setSpoons 3 none :: wt) ({ frames := 1, cells := 0, slots := 0, locals := 22 } : Room) (va_Pc [.ref a_this, .int x1, .int x2] (PreM (dC, dI) [(cA, .int), (cZ, .boolean)] sz [(a_this, .inr (7, [.ref a_this_row])), (a_this_row, .inr (6, [.ref a_this_row_cells])), (a_this_row_cells, .inl (cA, 35, .inl v_cells))])) (PoV (dC, dI) sz [(a_this, .inr (7, [.ref a_this_row])), (a_this_row, .inr (6, [.ref a_this_row_cells])), (a_this_row_cells, .inl (cA, 35, .inl v_cells))] [(a_this, .inr (7, [.ref a_this_row])), (a_this_row, .inr (6, [.ref a_this_row_cells])), (a_this_row_cells, .inl (cA, 35, .inl ((mX7_setSpoons v_cells x1 x2))))]) 0 0 (va_A [(a_this, .inr (7, [.ref a_this_row])), (a_this_row, .inr (6, [.ref a_this_row_cells])), (a_this_row_cells, .inl (cA, 35, .inl v_cells))] sz) := by
  refine Met.ofW (cc := cX7_setSpoons) (maxL := 3) (ret := none) (by decide) rfl ?_
  intro p e s m args below meth c s₁ B hml hv
  obtain ⟨ha, hsz, hP, hK, hD0⟩ := hv
  have hx := B.exec
  have hb := B.bytes
  have hr := B.returns
  have ht : ∀ w ∈ wt, w.before args s = true := fun w h => atoms_spec (ws := (Cond.code yX7_setSpoons cX7_setSpoons 3 none :: wt)) B.pre w (List.mem_cons_of_mem _ h)
  have hown : s.vm.findClass RX7 = some m.cls := findClass_of_methodNamed B.named
  have hlocks := B.notSynchronized
  subst hsz
  have hD := hD0.self (sz := s.heap.size)
  have hA : ∀ q : Nat, s.heap.size ≤ q → va_A [(a_this, .inr (7, [.ref a_this_row])), (a_this_row, .inr (6, [.ref a_this_row_cells])), (a_this_row_cells, .inl (cA, 35, .inl v_cells))] s.heap.size q := fun q h => Or.inr h
  have hS : va_S (va_A [(a_this, .inr (7, [.ref a_this_row])), (a_this_row, .inr (6, [.ref a_this_row_cells])), (a_this_row_cells, .inl (cA, 35, .inl v_cells))] s.heap.size) s.heap s.heap [] := va_S.rf
  have hl := lv_entry ([.ref a_this, .int x1, .int x2]) (n := 3) (Nat.le_of_ble_eq_true rfl)
  rw [show entryFrame m args 3 = _ from (congrArg (fun a => entryFrame m a 3) ha).trans (lg_entry_eq m [.ref a_this, .int x1, .int x2] 3)]
  generalize (lg_sl ([.ref a_this, .int x1, .int x2]) ++ List.replicate (3 - (lg_sl ([.ref a_this, .int x1, .int x2])).length) Slot.unset).toArray = ls at hl ⊢
  have hl : lv_has ls 3 [(0, .ref a_this), (1, .int x1), (2, .int x2)] := hl
  have hm : (mX7_setSpoons v_cells x1 x2) = (mX7_setSpoons v_cells x1 x2) := rfl
  refine lv_aload_n hx hb dX7_setSpoons_0 rfl (lv_at hl 0 rfl) ?_
  refine va_get (D := (dC, dI)) (ci := 7) (v := .ref a_this_row) (C := RX7) (T := TX7) (N := 1) hx hb ht iX7 hown hK.1 hP 0 rfl rfl 0 (by decide) (ht _ w_1_51) (fun _ h9 => h9) rfl dX7_setSpoons_1 ?_
  refine lv_iconst (v := (0 : Int32)) hx hb dX7_setSpoons_4 (by decide) ?_
  refine lv_iload_n hx hb dX7_setSpoons_5 rfl (lv_at hl 1 rfl) ?_
  refine lv_iadd hx hb dX7_setSpoons_6 ?_
  refine lv_iload_n hx hb dX7_setSpoons_7 rfl (lv_at hl 2 rfl) ?_
  have hPc := pc_sub (wc := [(a_this_row, .inr (6, [.ref a_this_row_cells])), (a_this_row_cells, .inl (cA, 35, .inl v_cells))]) hP [1, 2] rfl
  have hDc := hD.sub (ws' := [(a_this_row, .inr (6, [.ref a_this_row_cells])), (a_this_row_cells, .inl (cA, 35, .inl v_cells))]) [1, 2] (by decide) rfl
  refine mv_callv (wc := [(a_this_row, .inr (6, [.ref a_this_row_cells])), (a_this_row_cells, .inl (cA, 35, .inl v_cells))]) (wr := [(a_this, .inr (7, [.ref a_this_row]))]) (w1 := [(a_this_row, .inr (6, [.ref a_this_row_cells])), (a_this_row_cells, .inl (cA, 35, .inl ((mX6_set 35 v_cells (((0 : Int32)) + x1) x2))))]) [1, 2] [0] hP hD hS hA rfl rfl (by decide) (by decide) (va_runV (As := [.int (((0 : Int32)) + x1), .int x2]) (rest := []) ⟨hx, hb, hml, hown, ht⟩ (kX6_set l dC dI cA cZ a_this_row a_this_row_cells 35 v_cells (((0 : Int32)) + x1) x2 (by decide) s.heap.size) (cwV 2 ht (gi_V (C := RX6) w_2_87 w_2_25 w_2_26 w_1_3 (gi_code w_2_27)) rfl rfl rfl ⟨rfl, h_X6_set⟩ ⟨Nat.le_of_ble_eq_true rfl, Nat.le_of_ble_eq_true rfl⟩) ⟨pm_blind, va_recv hK.1 hP (ci := 6) (q0 := 1) rfl rfl, pm_use hPc hK hDc⟩ rfl rfl hl.1 rfl (lv_room (Nat.le_of_ble_eq_true rfl)) dX7_setSpoons_8 ⟨Nat.zero_le _, Nat.zero_le _⟩) (fun H locs hP hD hS => ?_)
  have hP : va_P (dC, dI) vwCl [(a_this, .inr (7, [.ref a_this_row])), (a_this_row, .inr (6, [.ref a_this_row_cells])), (a_this_row_cells, .inl (cA, 35, .inl ((mX6_set 35 v_cells (((0 : Int32)) + x1) x2))))] H := hP
  have hD : va_D (va_A [(a_this, .inr (7, [.ref a_this_row])), (a_this_row, .inr (6, [.ref a_this_row_cells])), (a_this_row_cells, .inl (cA, 35, .inl v_cells))] s.heap.size) [(a_this, .inr (7, [.ref a_this_row])), (a_this_row, .inr (6, [.ref a_this_row_cells])), (a_this_row_cells, .inl (cA, 35, .inl ((mX6_set 35 v_cells (((0 : Int32)) + x1) x2))))] := hD
  have hP9 := pc_sub (wc := [(a_this, .inr (7, [.ref a_this_row])), (a_this_row, .inr (6, [.ref a_this_row_cells])), (a_this_row_cells, .inl (cA, 35, .inl ((mX6_set 35 v_cells (((0 : Int32)) + x1) x2))))]) hP [0, 1, 2] rfl
  have hD9 := hD.sub (ws' := [(a_this, .inr (7, [.ref a_this_row])), (a_this_row, .inr (6, [.ref a_this_row_cells])), (a_this_row_cells, .inl (cA, 35, .inl ((mX6_set 35 v_cells (((0 : Int32)) + x1) x2))))]) [0, 1, 2] (by decide) rfl
  exact W.vret hx hb hr (fun t ht9 _ => by rw [← hm]; exact ⟨⟨(), rfl, trivial, by rw [ht9]; exact hP9, hD9⟩, hS.F ht9⟩) hS.2.2 dX7_setSpoons_11
theorem dX7_takeSpoons_0 : decode cX7_takeSpoons 0 = .ok (.aload_n 0, 1) := by decide +kernel
theorem dX7_takeSpoons_1 : decode cX7_takeSpoons 1 = .ok (.iload_n 1, 1) := by decide +kernel
theorem dX7_takeSpoons_2 : decode cX7_takeSpoons 2 = .ok (.iconst 0, 1) := by decide +kernel
theorem dX7_takeSpoons_3 : decode cX7_takeSpoons 3 = .ok (.aload_n 0, 1) := by decide +kernel
theorem dX7_takeSpoons_4 : decode cX7_takeSpoons 4 = .ok (.iload_n 1, 1) := by decide +kernel
theorem dX7_takeSpoons_5 : decode cX7_takeSpoons 5 = .ok (.invokevirtual 28, 3) := by decide +kernel
theorem dX7_takeSpoons_8 : decode cX7_takeSpoons 8 = .ok (.iload_n 2, 1) := by decide +kernel
theorem dX7_takeSpoons_9 : decode cX7_takeSpoons 9 = .ok (.isub, 1) := by decide +kernel
theorem dX7_takeSpoons_10 : decode cX7_takeSpoons 10 = .ok (.invokestatic 31, 3) := by decide +kernel
theorem dX7_takeSpoons_13 : decode cX7_takeSpoons 13 = .ok (.invokevirtual 37, 3) := by decide +kernel
theorem dX7_takeSpoons_16 : decode cX7_takeSpoons 16 = .ok (.return_, 1) := by decide +kernel
theorem h_X7_takeSpoons : yX7_takeSpoons.cls ≠ "java/lang/invoke/MethodHandle" ∧ yX7_takeSpoons.cls ≠ "java/lang/invoke/VarHandle" ∧ (parseMethodDescriptor yX7_takeSpoons.desc).map (fun d => d.parameters.length) = some 2 := by decide +kernel
def mX7_takeSpoons (v_cells : Nat → Int32) (x1 : Int32) (x2 : Int32) : (Nat → Int32) := (mX7_setSpoons v_cells x1 ((mJ9_max_7cf53 ((0 : Int32)) (((mX7_spoons v_cells x1)) - x2))))
set_option maxHeartbeats 4000000 in
set_option maxRecDepth 100000 in
theorem kX7_takeSpoons (l : Launch) (dC : Nat → ClassId) (dI : Nat → Nat → Nat) (cA cZ : ClassId) (a_this a_this_row a_this_row_cells : Nat) (v_cells : Nat → Int32) (x1 : Int32) (x2 : Int32) (sz : Nat) : Met l yX7_takeSpoons (Cond.code yX7_takeSpoons cX7_takeSpoons 3 none :: wt) ({ frames := 2, cells := 0, slots := 0, locals := 44 } : Room) (va_Pc [.ref a_this, .int x1, .int x2] (PreM (dC, dI) [(cA, .int), (cZ, .boolean)] sz [(a_this, .inr (7, [.ref a_this_row])), (a_this_row, .inr (6, [.ref a_this_row_cells])), (a_this_row_cells, .inl (cA, 35, .inl v_cells))])) (PoV (dC, dI) sz [(a_this, .inr (7, [.ref a_this_row])), (a_this_row, .inr (6, [.ref a_this_row_cells])), (a_this_row_cells, .inl (cA, 35, .inl v_cells))] [(a_this, .inr (7, [.ref a_this_row])), (a_this_row, .inr (6, [.ref a_this_row_cells])), (a_this_row_cells, .inl (cA, 35, .inl ((mX7_takeSpoons v_cells x1 x2))))]) 0 0 (va_A [(a_this, .inr (7, [.ref a_this_row])), (a_this_row, .inr (6, [.ref a_this_row_cells])), (a_this_row_cells, .inl (cA, 35, .inl v_cells))] sz) := by
  refine Met.ofW (cc := cX7_takeSpoons) (maxL := 3) (ret := none) (by decide) rfl ?_
  intro p e s m args below meth c s₁ B hml hv
  obtain ⟨ha, hsz, hP, hK, hD0⟩ := hv
  have hx := B.exec
  have hb := B.bytes
  have hr := B.returns
  have ht : ∀ w ∈ wt, w.before args s = true := fun w h => atoms_spec (ws := (Cond.code yX7_takeSpoons cX7_takeSpoons 3 none :: wt)) B.pre w (List.mem_cons_of_mem _ h)
  have hown : s.vm.findClass RX7 = some m.cls := findClass_of_methodNamed B.named
  have hlocks := B.notSynchronized
  subst hsz
  have hD := hD0.self (sz := s.heap.size)
  have hA : ∀ q : Nat, s.heap.size ≤ q → va_A [(a_this, .inr (7, [.ref a_this_row])), (a_this_row, .inr (6, [.ref a_this_row_cells])), (a_this_row_cells, .inl (cA, 35, .inl v_cells))] s.heap.size q := fun q h => Or.inr h
  have hS : va_S (va_A [(a_this, .inr (7, [.ref a_this_row])), (a_this_row, .inr (6, [.ref a_this_row_cells])), (a_this_row_cells, .inl (cA, 35, .inl v_cells))] s.heap.size) s.heap s.heap [] := va_S.rf
  have hl := lv_entry ([.ref a_this, .int x1, .int x2]) (n := 3) (Nat.le_of_ble_eq_true rfl)
  rw [show entryFrame m args 3 = _ from (congrArg (fun a => entryFrame m a 3) ha).trans (lg_entry_eq m [.ref a_this, .int x1, .int x2] 3)]
  generalize (lg_sl ([.ref a_this, .int x1, .int x2]) ++ List.replicate (3 - (lg_sl ([.ref a_this, .int x1, .int x2])).length) Slot.unset).toArray = ls at hl ⊢
  have hl : lv_has ls 3 [(0, .ref a_this), (1, .int x1), (2, .int x2)] := hl
  have hm : (mX7_takeSpoons v_cells x1 x2) = (mX7_takeSpoons v_cells x1 x2) := rfl
  refine lv_aload_n hx hb dX7_takeSpoons_0 rfl (lv_at hl 0 rfl) ?_
  refine lv_iload_n hx hb dX7_takeSpoons_1 rfl (lv_at hl 1 rfl) ?_
  refine lv_iconst (v := (0 : Int32)) hx hb dX7_takeSpoons_2 (by decide) ?_
  refine lv_aload_n hx hb dX7_takeSpoons_3 rfl (lv_at hl 0 rfl) ?_
  refine lv_iload_n hx hb dX7_takeSpoons_4 rfl (lv_at hl 1 rfl) ?_
  refine pv_call (v := (mX7_spoons v_cells x1)) (va_runV (As := [.int x1]) (rest := [.int ((0 : Int32)), .int x1, .ref a_this]) ⟨hx, hb, hml, hown, ht⟩ (kX7_spoons l dC dI cA cZ a_this a_this_row a_this_row_cells v_cells x1) (cwV 1 ht (gi_V (C := RX7) w_3_103 w_2_231 w_2_232 w_1_5 (gi_code w_2_233)) rfl rfl rfl ⟨rfl, h_X7_spoons⟩ ⟨Nat.le_of_ble_eq_true rfl, Nat.le_of_ble_eq_true rfl⟩) ⟨pp_blind, va_recv hK.1 hP (ci := 7) (q0 := 0) rfl rfl, pp_use hP hK⟩ rfl rfl hl.1 rfl (lv_room (Nat.le_of_ble_eq_true rfl)) dX7_takeSpoons_5 ⟨Nat.zero_le _, Nat.zero_le _⟩) ?_
  refine lv_iload_n hx hb dX7_takeSpoons_8 rfl (lv_at hl 2 rfl) ?_
  refine lv_isub hx hb dX7_takeSpoons_9 ?_
  refine pv_call (v := (mJ9_max_7cf53 ((0 : Int32)) (((mX7_spoons v_cells x1)) - x2))) (va_runS (As := [.int ((0 : Int32)), .int (((mX7_spoons v_cells x1)) - x2)]) (rest := [.int x1, .ref a_this]) ⟨hx, hb, hml, hown, ht⟩ (kJ9_max_7cf53 l dC dI cA cZ ((0 : Int32)) (((mX7_spoons v_cells x1)) - x2)) (va_cwS 2 ht (gi_S w_3_104 w_1_36 w_1_4 (gi_code w_1_37)) rfl rfl rfl h_J9_max_7cf53 ⟨Nat.le_of_ble_eq_true rfl, Nat.le_of_ble_eq_true rfl⟩) ⟨pp_blind, pp_use (ws := []) (fun _ _ h => by cases h) hK⟩ rfl rfl hl.1 rfl (lv_room (Nat.le_of_ble_eq_true rfl)) dX7_takeSpoons_10 ⟨Nat.zero_le _, Nat.zero_le _⟩) ?_
  have hPc := pc_sub (wc := [(a_this, .inr (7, [.ref a_this_row])), (a_this_row, .inr (6, [.ref a_this_row_cells])), (a_this_row_cells, .inl (cA, 35, .inl v_cells))]) hP [0, 1, 2] rfl
  have hDc := hD.sub (ws' := [(a_this, .inr (7, [.ref a_this_row])), (a_this_row, .inr (6, [.ref a_this_row_cells])), (a_this_row_cells, .inl (cA, 35, .inl v_cells))]) [0, 1, 2] (by decide) rfl
  refine mv_callv (wc := [(a_this, .inr (7, [.ref a_this_row])), (a_this_row, .inr (6, [.ref a_this_row_cells])), (a_this_row_cells, .inl (cA, 35, .inl v_cells))]) (wr := []) (w1 := [(a_this, .inr (7, [.ref a_this_row])), (a_this_row, .inr (6, [.ref a_this_row_cells])), (a_this_row_cells, .inl (cA, 35, .inl ((mX7_setSpoons v_cells x1 ((mJ9_max_7cf53 ((0 : Int32)) (((mX7_spoons v_cells x1)) - x2)))))))]) [0, 1, 2] [] hP hD hS hA rfl rfl (by decide) (by decide) (va_runV (As := [.int x1, .int ((mJ9_max_7cf53 ((0 : Int32)) (((mX7_spoons v_cells x1)) - x2)))]) (rest := []) ⟨hx, hb, hml, hown, ht⟩ (kX7_setSpoons l dC dI cA cZ a_this a_this_row a_this_row_cells v_cells x1 ((mJ9_max_7cf53 ((0 : Int32)) (((mX7_spoons v_cells x1)) - x2))) s.heap.size) (cwV 2 ht (gi_V (C := RX7) w_3_105 w_2_114 w_2_115 w_1_5 (gi_code w_2_116)) rfl rfl rfl ⟨rfl, h_X7_setSpoons⟩ ⟨Nat.le_of_ble_eq_true rfl, Nat.le_of_ble_eq_true rfl⟩) ⟨pm_blind, va_recv hK.1 hP (ci := 7) (q0 := 0) rfl rfl, pm_use hPc hK hDc⟩ rfl rfl hl.1 rfl (lv_room (Nat.le_of_ble_eq_true rfl)) dX7_takeSpoons_13 ⟨Nat.zero_le _, Nat.zero_le _⟩) (fun H locs hP hD hS => ?_)
  have hP : va_P (dC, dI) vwCl [(a_this, .inr (7, [.ref a_this_row])), (a_this_row, .inr (6, [.ref a_this_row_cells])), (a_this_row_cells, .inl (cA, 35, .inl ((mX7_setSpoons v_cells x1 ((mJ9_max_7cf53 ((0 : Int32)) (((mX7_spoons v_cells x1)) - x2)))))))] H := hP
  have hD : va_D (va_A [(a_this, .inr (7, [.ref a_this_row])), (a_this_row, .inr (6, [.ref a_this_row_cells])), (a_this_row_cells, .inl (cA, 35, .inl v_cells))] s.heap.size) [(a_this, .inr (7, [.ref a_this_row])), (a_this_row, .inr (6, [.ref a_this_row_cells])), (a_this_row_cells, .inl (cA, 35, .inl ((mX7_setSpoons v_cells x1 ((mJ9_max_7cf53 ((0 : Int32)) (((mX7_spoons v_cells x1)) - x2)))))))] := hD
  have hP9 := pc_sub (wc := [(a_this, .inr (7, [.ref a_this_row])), (a_this_row, .inr (6, [.ref a_this_row_cells])), (a_this_row_cells, .inl (cA, 35, .inl ((mX7_setSpoons v_cells x1 ((mJ9_max_7cf53 ((0 : Int32)) (((mX7_spoons v_cells x1)) - x2)))))))]) hP [0, 1, 2] rfl
  have hD9 := hD.sub (ws' := [(a_this, .inr (7, [.ref a_this_row])), (a_this_row, .inr (6, [.ref a_this_row_cells])), (a_this_row_cells, .inl (cA, 35, .inl ((mX7_setSpoons v_cells x1 ((mJ9_max_7cf53 ((0 : Int32)) (((mX7_spoons v_cells x1)) - x2)))))))]) [0, 1, 2] (by decide) rfl
  exact W.vret hx hb hr (fun t ht9 _ => by rw [← hm]; exact ⟨⟨(), rfl, trivial, by rw [ht9]; exact hP9, hD9⟩, hS.F ht9⟩) hS.2.2 dX7_takeSpoons_16
theorem dX7_crossings_0 : decode cX7_crossings 0 = .ok (.aload_n 0, 1) := by decide +kernel
theorem dX7_crossings_1 : decode cX7_crossings 1 = .ok (.getfield 16, 3) := by decide +kernel
theorem dX7_crossings_4 : decode cX7_crossings 4 = .ok (.bipush 10, 2) := by decide +kernel
theorem dX7_crossings_6 : decode cX7_crossings 6 = .ok (.iload_n 1, 1) := by decide +kernel
theorem dX7_crossings_7 : decode cX7_crossings 7 = .ok (.iadd, 1) := by decide +kernel
theorem dX7_crossings_8 : decode cX7_crossings 8 = .ok (.invokevirtual 20, 3) := by decide +kernel
theorem dX7_crossings_11 : decode cX7_crossings 11 = .ok (.ireturn, 1) := by decide +kernel
theorem h_X7_crossings : yX7_crossings.cls ≠ "java/lang/invoke/MethodHandle" ∧ yX7_crossings.cls ≠ "java/lang/invoke/VarHandle" ∧ (parseMethodDescriptor yX7_crossings.desc).map (fun d => d.parameters.length) = some 1 := by decide +kernel
def mX7_crossings (v_cells : Nat → Int32) (x1 : Int32) : Int32 := (mX6_get 35 v_cells (((10 : Int32)) + x1))
set_option maxHeartbeats 4000000 in
set_option maxRecDepth 100000 in
theorem kX7_crossings (l : Launch) (dC : Nat → ClassId) (dI : Nat → Nat → Nat) (cA cZ : ClassId) (a_this a_this_row a_this_row_cells : Nat) (v_cells : Nat → Int32) (x1 : Int32) : Met l yX7_crossings (Cond.code yX7_crossings cX7_crossings 2 (some .int) :: wt) ({ frames := 1, cells := 0, slots := 0, locals := 21 } : Room) (va_Pc [.ref a_this, .int x1] (PreP (dC, dI) [(cA, .int), (cZ, .boolean)] [(a_this, .inr (7, [.ref a_this_row])), (a_this_row, .inr (6, [.ref a_this_row_cells])), (a_this_row_cells, .inl (cA, 35, .inl v_cells))])) (vp_Si (fun r => r = (mX7_crossings v_cells x1))) 0 0 (fun _ => False) := by
  refine Met.ofW (cc := cX7_crossings) (maxL := 2) (ret := (some .int)) (by decide) rfl ?_
  intro p e s m args below meth c s₁ B hml hv
  obtain ⟨ha, hP, hK⟩ := hv
  have hx := B.exec
  have hb := B.bytes
  have hr := B.returns
  have ht : ∀ w ∈ wt, w.before args s = true := fun w h => atoms_spec (ws := (Cond.code yX7_crossings cX7_crossings 2 (some .int) :: wt)) B.pre w (List.mem_cons_of_mem _ h)
  have hown : s.vm.findClass RX7 = some m.cls := findClass_of_methodNamed B.named
  have hlocks := B.notSynchronized
  have hl := lv_entry ([.ref a_this, .int x1]) (n := 2) (Nat.le_of_ble_eq_true rfl)
  rw [show entryFrame m args 2 = _ from (congrArg (fun a => entryFrame m a 2) ha).trans (lg_entry_eq m [.ref a_this, .int x1] 2)]
  generalize (lg_sl ([.ref a_this, .int x1]) ++ List.replicate (2 - (lg_sl ([.ref a_this, .int x1])).length) Slot.unset).toArray = ls at hl ⊢
  have hl : lv_has ls 2 [(0, .ref a_this), (1, .int x1)] := hl
  have hm : (mX7_crossings v_cells x1) = (mX7_crossings v_cells x1) := rfl
  refine lv_aload_n hx hb dX7_crossings_0 rfl (lv_at hl 0 rfl) ?_
  refine va_get (D := (dC, dI)) (ci := 7) (v := .ref a_this_row) (C := RX7) (T := TX7) (N := 1) hx hb ht iX7 hown hK.1 hP 0 rfl rfl 0 (by decide) (ht _ w_1_51) (fun _ h9 => h9) rfl dX7_crossings_1 ?_
  refine lv_bipush (v := (10 : Int32)) hx hb dX7_crossings_4 (by decide) ?_
  refine lv_iload_n hx hb dX7_crossings_6 rfl (lv_at hl 1 rfl) ?_
  refine lv_iadd hx hb dX7_crossings_7 ?_
  refine pv_call (v := (mX6_get 35 v_cells (((10 : Int32)) + x1))) (va_runV (As := [.int (((10 : Int32)) + x1)]) (rest := []) ⟨hx, hb, hml, hown, ht⟩ (kX6_get l dC dI cA cZ a_this_row a_this_row_cells 35 v_cells (((10 : Int32)) + x1) (by decide)) (cwV 1 ht (gi_V (C := RX6) w_2_177 w_2_56 w_2_57 w_1_3 (gi_code w_2_58)) rfl rfl rfl ⟨rfl, h_X6_get⟩ ⟨Nat.le_of_ble_eq_true rfl, Nat.le_of_ble_eq_true rfl⟩) ⟨pp_blind, va_recv hK.1 hP (ci := 6) (q0 := 1) rfl rfl, pp_use (pc_sub (wc := [(a_this_row, .inr (6, [.ref a_this_row_cells])), (a_this_row_cells, .inl (cA, 35, .inl v_cells))]) hP [1, 2] rfl) hK⟩ rfl rfl hl.1 rfl (lv_room (Nat.le_of_ble_eq_true rfl)) dX7_crossings_8 ⟨Nat.zero_le _, Nat.zero_le _⟩) ?_
  exact W.iret (v := (mX6_get 35 v_cells (((10 : Int32)) + x1))) hx hb hr (fun t ht9 _ => ⟨_, rfl, hm, ht9⟩) (fun q hq => absurd hq List.not_mem_nil) dX7_crossings_11
theorem dX7_countCrossing_0 : decode cX7_countCrossing 0 = .ok (.aload_n 0, 1) := by decide +kernel
theorem dX7_countCrossing_1 : decode cX7_countCrossing 1 = .ok (.getfield 16, 3) := by decide +kernel
theorem dX7_countCrossing_4 : decode cX7_countCrossing 4 = .ok (.bipush 10, 2) := by decide +kernel
theorem dX7_countCrossing_6 : decode cX7_countCrossing 6 = .ok (.iload_n 1, 1) := by decide +kernel
theorem dX7_countCrossing_7 : decode cX7_countCrossing 7 = .ok (.iadd, 1) := by decide +kernel
theorem dX7_countCrossing_8 : decode cX7_countCrossing 8 = .ok (.aload_n 0, 1) := by decide +kernel
theorem dX7_countCrossing_9 : decode cX7_countCrossing 9 = .ok (.iload_n 1, 1) := by decide +kernel
theorem dX7_countCrossing_10 : decode cX7_countCrossing 10 = .ok (.invokevirtual 40, 3) := by decide +kernel
theorem dX7_countCrossing_13 : decode cX7_countCrossing 13 = .ok (.iconst 1, 1) := by decide +kernel
theorem dX7_countCrossing_14 : decode cX7_countCrossing 14 = .ok (.iadd, 1) := by decide +kernel
theorem dX7_countCrossing_15 : decode cX7_countCrossing 15 = .ok (.invokevirtual 24, 3) := by decide +kernel
theorem dX7_countCrossing_18 : decode cX7_countCrossing 18 = .ok (.return_, 1) := by decide +kernel
theorem h_X7_countCrossing : yX7_countCrossing.cls ≠ "java/lang/invoke/MethodHandle" ∧ yX7_countCrossing.cls ≠ "java/lang/invoke/VarHandle" ∧ (parseMethodDescriptor yX7_countCrossing.desc).map (fun d => d.parameters.length) = some 1 := by decide +kernel
def mX7_countCrossing (v_cells : Nat → Int32) (x1 : Int32) : (Nat → Int32) := (mX6_set 35 v_cells (((10 : Int32)) + x1) (((mX7_crossings v_cells x1)) + ((1 : Int32))))
set_option maxHeartbeats 4000000 in
set_option maxRecDepth 100000 in
theorem kX7_countCrossing (l : Launch) (dC : Nat → ClassId) (dI : Nat → Nat → Nat) (cA cZ : ClassId) (a_this a_this_row a_this_row_cells : Nat) (v_cells : Nat → Int32) (x1 : Int32) (sz : Nat) : Met l yX7_countCrossing (Cond.code yX7_countCrossing cX7_countCrossing 2 none :: wt) ({ frames := 2, cells := 0, slots := 0, locals := 42 } : Room) (va_Pc [.ref a_this, .int x1] (PreM (dC, dI) [(cA, .int), (cZ, .boolean)] sz [(a_this, .inr (7, [.ref a_this_row])), (a_this_row, .inr (6, [.ref a_this_row_cells])), (a_this_row_cells, .inl (cA, 35, .inl v_cells))])) (PoV (dC, dI) sz [(a_this, .inr (7, [.ref a_this_row])), (a_this_row, .inr (6, [.ref a_this_row_cells])), (a_this_row_cells, .inl (cA, 35, .inl v_cells))] [(a_this, .inr (7, [.ref a_this_row])), (a_this_row, .inr (6, [.ref a_this_row_cells])), (a_this_row_cells, .inl (cA, 35, .inl ((mX7_countCrossing v_cells x1))))]) 0 0 (va_A [(a_this, .inr (7, [.ref a_this_row])), (a_this_row, .inr (6, [.ref a_this_row_cells])), (a_this_row_cells, .inl (cA, 35, .inl v_cells))] sz) := by
  refine Met.ofW (cc := cX7_countCrossing) (maxL := 2) (ret := none) (by decide) rfl ?_
  intro p e s m args below meth c s₁ B hml hv
  obtain ⟨ha, hsz, hP, hK, hD0⟩ := hv
  have hx := B.exec
  have hb := B.bytes
  have hr := B.returns
  have ht : ∀ w ∈ wt, w.before args s = true := fun w h => atoms_spec (ws := (Cond.code yX7_countCrossing cX7_countCrossing 2 none :: wt)) B.pre w (List.mem_cons_of_mem _ h)
  have hown : s.vm.findClass RX7 = some m.cls := findClass_of_methodNamed B.named
  have hlocks := B.notSynchronized
  subst hsz
  have hD := hD0.self (sz := s.heap.size)
  have hA : ∀ q : Nat, s.heap.size ≤ q → va_A [(a_this, .inr (7, [.ref a_this_row])), (a_this_row, .inr (6, [.ref a_this_row_cells])), (a_this_row_cells, .inl (cA, 35, .inl v_cells))] s.heap.size q := fun q h => Or.inr h
  have hS : va_S (va_A [(a_this, .inr (7, [.ref a_this_row])), (a_this_row, .inr (6, [.ref a_this_row_cells])), (a_this_row_cells, .inl (cA, 35, .inl v_cells))] s.heap.size) s.heap s.heap [] := va_S.rf
  have hl := lv_entry ([.ref a_this, .int x1]) (n := 2) (Nat.le_of_ble_eq_true rfl)
  rw [show entryFrame m args 2 = _ from (congrArg (fun a => entryFrame m a 2) ha).trans (lg_entry_eq m [.ref a_this, .int x1] 2)]
  generalize (lg_sl ([.ref a_this, .int x1]) ++ List.replicate (2 - (lg_sl ([.ref a_this, .int x1])).length) Slot.unset).toArray = ls at hl ⊢
  have hl : lv_has ls 2 [(0, .ref a_this), (1, .int x1)] := hl
  have hm : (mX7_countCrossing v_cells x1) = (mX7_countCrossing v_cells x1) := rfl
  refine lv_aload_n hx hb dX7_countCrossing_0 rfl (lv_at hl 0 rfl) ?_
  refine va_get (D := (dC, dI)) (ci := 7) (v := .ref a_this_row) (C := RX7) (T := TX7) (N := 1) hx hb ht iX7 hown hK.1 hP 0 rfl rfl 0 (by decide) (ht _ w_1_51) (fun _ h9 => h9) rfl dX7_countCrossing_1 ?_
  refine lv_bipush (v := (10 : Int32)) hx hb dX7_countCrossing_4 (by decide) ?_
  refine lv_iload_n hx hb dX7_countCrossing_6 rfl (lv_at hl 1 rfl) ?_
  refine lv_iadd hx hb dX7_countCrossing_7 ?_
  refine lv_aload_n hx hb dX7_countCrossing_8 rfl (lv_at hl 0 rfl) ?_
  refine lv_iload_n hx hb dX7_countCrossing_9 rfl (lv_at hl 1 rfl) ?_
  refine pv_call (v := (mX7_crossings v_cells x1)) (va_runV (As := [.int x1]) (rest := [.int (((10 : Int32)) + x1), .ref a_this_row]) ⟨hx, hb, hml, hown, ht⟩ (kX7_crossings l dC dI cA cZ a_this a_this_row a_this_row_cells v_cells x1) (cwV 1 ht (gi_V (C := RX7) w_3_141 w_2_191 w_2_192 w_1_5 (gi_code w_2_193)) rfl rfl rfl ⟨rfl, h_X7_crossings⟩ ⟨Nat.le_of_ble_eq_true rfl, Nat.le_of_ble_eq_true rfl⟩) ⟨pp_blind, va_recv hK.1 hP (ci := 7) (q0 := 0) rfl rfl, pp_use hP hK⟩ rfl rfl hl.1 rfl (lv_room (Nat.le_of_ble_eq_true rfl)) dX7_countCrossing_10 ⟨Nat.zero_le _, Nat.zero_le _⟩) ?_
  refine lv_iconst (v := (1 : Int32)) hx hb dX7_countCrossing_13 (by decide) ?_
  refine lv_iadd hx hb dX7_countCrossing_14 ?_
  have hPc := pc_sub (wc := [(a_this_row, .inr (6, [.ref a_this_row_cells])), (a_this_row_cells, .inl (cA, 35, .inl v_cells))]) hP [1, 2] rfl
  have hDc := hD.sub (ws' := [(a_this_row, .inr (6, [.ref a_this_row_cells])), (a_this_row_cells, .inl (cA, 35, .inl v_cells))]) [1, 2] (by decide) rfl
  refine mv_callv (wc := [(a_this_row, .inr (6, [.ref a_this_row_cells])), (a_this_row_cells, .inl (cA, 35, .inl v_cells))]) (wr := [(a_this, .inr (7, [.ref a_this_row]))]) (w1 := [(a_this_row, .inr (6, [.ref a_this_row_cells])), (a_this_row_cells, .inl (cA, 35, .inl ((mX6_set 35 v_cells (((10 : Int32)) + x1) (((mX7_crossings v_cells x1)) + ((1 : Int32)))))))]) [1, 2] [0] hP hD hS hA rfl rfl (by decide) (by decide) (va_runV (As := [.int (((10 : Int32)) + x1), .int (((mX7_crossings v_cells x1)) + ((1 : Int32)))]) (rest := []) ⟨hx, hb, hml, hown, ht⟩ (kX6_set l dC dI cA cZ a_this_row a_this_row_cells 35 v_cells (((10 : Int32)) + x1) (((mX7_crossings v_cells x1)) + ((1 : Int32))) (by decide) s.heap.size) (cwV 2 ht (gi_V (C := RX6) w_2_87 w_2_25 w_2_26 w_1_3 (gi_code w_2_27)) rfl rfl rfl ⟨rfl, h_X6_set⟩ ⟨Nat.le_of_ble_eq_true rfl, Nat.le_of_ble_eq_true rfl⟩) ⟨pm_blind, va_recv hK.1 hP (ci := 6) (q0 := 1) rfl rfl, pm_use hPc hK hDc⟩ rfl rfl hl.1 rfl (lv_room (Nat.le_of_ble_eq_true rfl)) dX7_countCrossing_15 ⟨Nat.zero_le _, Nat.zero_le _⟩) (fun H locs hP hD hS => ?_)
  have hP : va_P (dC, dI) vwCl [(a_this, .inr (7, [.ref a_this_row])), (a_this_row, .inr (6, [.ref a_this_row_cells])), (a_this_row_cells, .inl (cA, 35, .inl ((mX6_set 35 v_cells (((10 : Int32)) + x1) (((mX7_crossings v_cells x1)) + ((1 : Int32)))))))] H := hP
  have hD : va_D (va_A [(a_this, .inr (7, [.ref a_this_row])), (a_this_row, .inr (6, [.ref a_this_row_cells])), (a_this_row_cells, .inl (cA, 35, .inl v_cells))] s.heap.size) [(a_this, .inr (7, [.ref a_this_row])), (a_this_row, .inr (6, [.ref a_this_row_cells])), (a_this_row_cells, .inl (cA, 35, .inl ((mX6_set 35 v_cells (((10 : Int32)) + x1) (((mX7_crossings v_cells x1)) + ((1 : Int32)))))))] := hD
  have hP9 := pc_sub (wc := [(a_this, .inr (7, [.ref a_this_row])), (a_this_row, .inr (6, [.ref a_this_row_cells])), (a_this_row_cells, .inl (cA, 35, .inl ((mX6_set 35 v_cells (((10 : Int32)) + x1) (((mX7_crossings v_cells x1)) + ((1 : Int32)))))))]) hP [0, 1, 2] rfl
  have hD9 := hD.sub (ws' := [(a_this, .inr (7, [.ref a_this_row])), (a_this_row, .inr (6, [.ref a_this_row_cells])), (a_this_row_cells, .inl (cA, 35, .inl ((mX6_set 35 v_cells (((10 : Int32)) + x1) (((mX7_crossings v_cells x1)) + ((1 : Int32)))))))]) [0, 1, 2] (by decide) rfl
  exact W.vret hx hb hr (fun t ht9 _ => by rw [← hm]; exact ⟨⟨(), rfl, trivial, by rw [ht9]; exact hP9, hD9⟩, hS.F ht9⟩) hS.2.2 dX7_countCrossing_18
theorem dX7_place_0 : decode cX7_place 0 = .ok (.aload_n 0, 1) := by decide +kernel
theorem dX7_place_1 : decode cX7_place 1 = .ok (.getfield 16, 3) := by decide +kernel
theorem dX7_place_4 : decode cX7_place 4 = .ok (.bipush 20, 2) := by decide +kernel
theorem dX7_place_6 : decode cX7_place 6 = .ok (.iload_n 1, 1) := by decide +kernel
theorem dX7_place_7 : decode cX7_place 7 = .ok (.iadd, 1) := by decide +kernel
theorem dX7_place_8 : decode cX7_place 8 = .ok (.invokevirtual 20, 3) := by decide +kernel
theorem dX7_place_11 : decode cX7_place 11 = .ok (.ireturn, 1) := by decide +kernel
theorem h_X7_place : yX7_place.cls ≠ "java/lang/invoke/MethodHandle" ∧ yX7_place.cls ≠ "java/lang/invoke/VarHandle" ∧ (parseMethodDescriptor yX7_place.desc).map (fun d => d.parameters.length) = some 1 := by decide +kernel
def mX7_place (v_cells : Nat → Int32) (x1 : Int32) : Int32 := (mX6_get 35 v_cells (((20 : Int32)) + x1))
set_option maxHeartbeats 4000000 in
set_option maxRecDepth 100000 in
theorem kX7_place (l : Launch) (dC : Nat → ClassId) (dI : Nat → Nat → Nat) (cA cZ : ClassId) (a_this a_this_row a_this_row_cells : Nat) (v_cells : Nat → Int32) (x1 : Int32) : Met l yX7_place (Cond.code yX7_place cX7_place 2 (some .int) :: wt) ({ frames := 1, cells := 0, slots := 0, locals := 21 } : Room) (va_Pc [.ref a_this, .int x1] (PreP (dC, dI) [(cA, .int), (cZ, .boolean)] [(a_this, .inr (7, [.ref a_this_row])), (a_this_row, .inr (6, [.ref a_this_row_cells])), (a_this_row_cells, .inl (cA, 35, .inl v_cells))])) (vp_Si (fun r => r = (mX7_place v_cells x1))) 0 0 (fun _ => False) := by
  refine Met.ofW (cc := cX7_place) (maxL := 2) (ret := (some .int)) (by decide) rfl ?_
  intro p e s m args below meth c s₁ B hml hv
  obtain ⟨ha, hP, hK⟩ := hv
  have hx := B.exec
  have hb := B.bytes
  have hr := B.returns
  have ht : ∀ w ∈ wt, w.before args s = true := fun w h => atoms_spec (ws := (Cond.code yX7_place cX7_place 2 (some .int) :: wt)) B.pre w (List.mem_cons_of_mem _ h)
  have hown : s.vm.findClass RX7 = some m.cls := findClass_of_methodNamed B.named
  have hlocks := B.notSynchronized
  have hl := lv_entry ([.ref a_this, .int x1]) (n := 2) (Nat.le_of_ble_eq_true rfl)
  rw [show entryFrame m args 2 = _ from (congrArg (fun a => entryFrame m a 2) ha).trans (lg_entry_eq m [.ref a_this, .int x1] 2)]
  generalize (lg_sl ([.ref a_this, .int x1]) ++ List.replicate (2 - (lg_sl ([.ref a_this, .int x1])).length) Slot.unset).toArray = ls at hl ⊢
  have hl : lv_has ls 2 [(0, .ref a_this), (1, .int x1)] := hl
  have hm : (mX7_place v_cells x1) = (mX7_place v_cells x1) := rfl
  refine lv_aload_n hx hb dX7_place_0 rfl (lv_at hl 0 rfl) ?_
  refine va_get (D := (dC, dI)) (ci := 7) (v := .ref a_this_row) (C := RX7) (T := TX7) (N := 1) hx hb ht iX7 hown hK.1 hP 0 rfl rfl 0 (by decide) (ht _ w_1_51) (fun _ h9 => h9) rfl dX7_place_1 ?_
  refine lv_bipush (v := (20 : Int32)) hx hb dX7_place_4 (by decide) ?_
  refine lv_iload_n hx hb dX7_place_6 rfl (lv_at hl 1 rfl) ?_
  refine lv_iadd hx hb dX7_place_7 ?_
  refine pv_call (v := (mX6_get 35 v_cells (((20 : Int32)) + x1))) (va_runV (As := [.int (((20 : Int32)) + x1)]) (rest := []) ⟨hx, hb, hml, hown, ht⟩ (kX6_get l dC dI cA cZ a_this_row a_this_row_cells 35 v_cells (((20 : Int32)) + x1) (by decide)) (cwV 1 ht (gi_V (C := RX6) w_2_177 w_2_56 w_2_57 w_1_3 (gi_code w_2_58)) rfl rfl rfl ⟨rfl, h_X6_get⟩ ⟨Nat.le_of_ble_eq_true rfl, Nat.le_of_ble_eq_true rfl⟩) ⟨pp_blind, va_recv hK.1 hP (ci := 6) (q0 := 1) rfl rfl, pp_use (pc_sub (wc := [(a_this_row, .inr (6, [.ref a_this_row_cells])), (a_this_row_cells, .inl (cA, 35, .inl v_cells))]) hP [1, 2] rfl) hK⟩ rfl rfl hl.1 rfl (lv_room (Nat.le_of_ble_eq_true rfl)) dX7_place_8 ⟨Nat.zero_le _, Nat.zero_le _⟩) ?_
  exact W.iret (v := (mX6_get 35 v_cells (((20 : Int32)) + x1))) hx hb hr (fun t ht9 _ => ⟨_, rfl, hm, ht9⟩) (fun q hq => absurd hq List.not_mem_nil) dX7_place_11
theorem dX7_setPlace_0 : decode cX7_setPlace 0 = .ok (.aload_n 0, 1) := by decide +kernel
theorem dX7_setPlace_1 : decode cX7_setPlace 1 = .ok (.getfield 16, 3) := by decide +kernel
theorem dX7_setPlace_4 : decode cX7_setPlace 4 = .ok (.bipush 20, 2) := by decide +kernel
theorem dX7_setPlace_6 : decode cX7_setPlace 6 = .ok (.iload_n 1, 1) := by decide +kernel
theorem dX7_setPlace_7 : decode cX7_setPlace 7 = .ok (.iadd, 1) := by decide +kernel
theorem dX7_setPlace_8 : decode cX7_setPlace 8 = .ok (.iload_n 2, 1) := by decide +kernel
theorem dX7_setPlace_9 : decode cX7_setPlace 9 = .ok (.invokevirtual 24, 3) := by decide +kernel
theorem dX7_setPlace_12 : decode cX7_setPlace 12 = .ok (.return_, 1) := by decide +kernel
theorem h_X7_setPlace : yX7_setPlace.cls ≠ "java/lang/invoke/MethodHandle" ∧ yX7_setPlace.cls ≠ "java/lang/invoke/VarHandle" ∧ (parseMethodDescriptor yX7_setPlace.desc).map (fun d => d.parameters.length) = some 2 := by decide +kernel
def mX7_setPlace (v_cells : Nat → Int32) (x1 : Int32) (x2 : Int32) : (Nat → Int32) := (mX6_set 35 v_cells (((20 : Int32)) + x1) x2)
set_option maxHeartbeats 4000000 in
set_option maxRecDepth 100000 in
theorem kX7_setPlace (l : Launch) (dC : Nat → ClassId) (dI : Nat → Nat → Nat) (cA cZ : ClassId) (a_this a_this_row a_this_row_cells : Nat) (v_cells : Nat → Int32) (x1 : Int32) (x2 : Int32) (sz : Nat) : Met l yX7_setPlace (Cond.code yX7_setPlace cX7_setPlace 3 none :: wt) ({ frames := 1, cells := 0, slots := 0, locals := 22 } : Room) (va_Pc [.ref a_this, .int x1, .int x2] (PreM (dC, dI) [(cA, .int), (cZ, .boolean)] sz [(a_this, .inr (7, [.ref a_this_row])), (a_this_row, .inr (6, [.ref a_this_row_cells])), (a_this_row_cells, .inl (cA, 35, .inl v_cells))])) (PoV (dC, dI) sz [(a_this, .inr (7, [.ref a_this_row])), (a_this_row, .inr (6, [.ref a_this_row_cells])), (a_this_row_cells, .inl (cA, 35, .inl v_cells))] [(a_this, .inr (7, [.ref a_this_row])), (a_this_row, .inr (6, [.ref a_this_row_cells])), (a_this_row_cells, .inl (cA, 35, .inl ((mX7_setPlace v_cells x1 x2))))]) 0 0 (va_A [(a_this, .inr (7, [.ref a_this_row])), (a_this_row, .inr (6, [.ref a_this_row_cells])), (a_this_row_cells, .inl (cA, 35, .inl v_cells))] sz) := by
  refine Met.ofW (cc := cX7_setPlace) (maxL := 3) (ret := none) (by decide) rfl ?_
  intro p e s m args below meth c s₁ B hml hv
  obtain ⟨ha, hsz, hP, hK, hD0⟩ := hv
  have hx := B.exec
  have hb := B.bytes
  have hr := B.returns
  have ht : ∀ w ∈ wt, w.before args s = true := fun w h => atoms_spec (ws := (Cond.code yX7_setPlace cX7_setPlace 3 none :: wt)) B.pre w (List.mem_cons_of_mem _ h)
  have hown : s.vm.findClass RX7 = some m.cls := findClass_of_methodNamed B.named
  have hlocks := B.notSynchronized
  subst hsz
  have hD := hD0.self (sz := s.heap.size)
  have hA : ∀ q : Nat, s.heap.size ≤ q → va_A [(a_this, .inr (7, [.ref a_this_row])), (a_this_row, .inr (6, [.ref a_this_row_cells])), (a_this_row_cells, .inl (cA, 35, .inl v_cells))] s.heap.size q := fun q h => Or.inr h
  have hS : va_S (va_A [(a_this, .inr (7, [.ref a_this_row])), (a_this_row, .inr (6, [.ref a_this_row_cells])), (a_this_row_cells, .inl (cA, 35, .inl v_cells))] s.heap.size) s.heap s.heap [] := va_S.rf
  have hl := lv_entry ([.ref a_this, .int x1, .int x2]) (n := 3) (Nat.le_of_ble_eq_true rfl)
  rw [show entryFrame m args 3 = _ from (congrArg (fun a => entryFrame m a 3) ha).trans (lg_entry_eq m [.ref a_this, .int x1, .int x2] 3)]
  generalize (lg_sl ([.ref a_this, .int x1, .int x2]) ++ List.replicate (3 - (lg_sl ([.ref a_this, .int x1, .int x2])).length) Slot.unset).toArray = ls at hl ⊢
  have hl : lv_has ls 3 [(0, .ref a_this), (1, .int x1), (2, .int x2)] := hl
  have hm : (mX7_setPlace v_cells x1 x2) = (mX7_setPlace v_cells x1 x2) := rfl
  refine lv_aload_n hx hb dX7_setPlace_0 rfl (lv_at hl 0 rfl) ?_
  refine va_get (D := (dC, dI)) (ci := 7) (v := .ref a_this_row) (C := RX7) (T := TX7) (N := 1) hx hb ht iX7 hown hK.1 hP 0 rfl rfl 0 (by decide) (ht _ w_1_51) (fun _ h9 => h9) rfl dX7_setPlace_1 ?_
  refine lv_bipush (v := (20 : Int32)) hx hb dX7_setPlace_4 (by decide) ?_
  refine lv_iload_n hx hb dX7_setPlace_6 rfl (lv_at hl 1 rfl) ?_
  refine lv_iadd hx hb dX7_setPlace_7 ?_
  refine lv_iload_n hx hb dX7_setPlace_8 rfl (lv_at hl 2 rfl) ?_
  have hPc := pc_sub (wc := [(a_this_row, .inr (6, [.ref a_this_row_cells])), (a_this_row_cells, .inl (cA, 35, .inl v_cells))]) hP [1, 2] rfl
  have hDc := hD.sub (ws' := [(a_this_row, .inr (6, [.ref a_this_row_cells])), (a_this_row_cells, .inl (cA, 35, .inl v_cells))]) [1, 2] (by decide) rfl
  refine mv_callv (wc := [(a_this_row, .inr (6, [.ref a_this_row_cells])), (a_this_row_cells, .inl (cA, 35, .inl v_cells))]) (wr := [(a_this, .inr (7, [.ref a_this_row]))]) (w1 := [(a_this_row, .inr (6, [.ref a_this_row_cells])), (a_this_row_cells, .inl (cA, 35, .inl ((mX6_set 35 v_cells (((20 : Int32)) + x1) x2))))]) [1, 2] [0] hP hD hS hA rfl rfl (by decide) (by decide) (va_runV (As := [.int (((20 : Int32)) + x1), .int x2]) (rest := []) ⟨hx, hb, hml, hown, ht⟩ (kX6_set l dC dI cA cZ a_this_row a_this_row_cells 35 v_cells (((20 : Int32)) + x1) x2 (by decide) s.heap.size) (cwV 2 ht (gi_V (C := RX6) w_2_87 w_2_25 w_2_26 w_1_3 (gi_code w_2_27)) rfl rfl rfl ⟨rfl, h_X6_set⟩ ⟨Nat.le_of_ble_eq_true rfl, Nat.le_of_ble_eq_true rfl⟩) ⟨pm_blind, va_recv hK.1 hP (ci := 6) (q0 := 1) rfl rfl, pm_use hPc hK hDc⟩ rfl rfl hl.1 rfl (lv_room (Nat.le_of_ble_eq_true rfl)) dX7_setPlace_9 ⟨Nat.zero_le _, Nat.zero_le _⟩) (fun H locs hP hD hS => ?_)
  have hP : va_P (dC, dI) vwCl [(a_this, .inr (7, [.ref a_this_row])), (a_this_row, .inr (6, [.ref a_this_row_cells])), (a_this_row_cells, .inl (cA, 35, .inl ((mX6_set 35 v_cells (((20 : Int32)) + x1) x2))))] H := hP
  have hD : va_D (va_A [(a_this, .inr (7, [.ref a_this_row])), (a_this_row, .inr (6, [.ref a_this_row_cells])), (a_this_row_cells, .inl (cA, 35, .inl v_cells))] s.heap.size) [(a_this, .inr (7, [.ref a_this_row])), (a_this_row, .inr (6, [.ref a_this_row_cells])), (a_this_row_cells, .inl (cA, 35, .inl ((mX6_set 35 v_cells (((20 : Int32)) + x1) x2))))] := hD
  have hP9 := pc_sub (wc := [(a_this, .inr (7, [.ref a_this_row])), (a_this_row, .inr (6, [.ref a_this_row_cells])), (a_this_row_cells, .inl (cA, 35, .inl ((mX6_set 35 v_cells (((20 : Int32)) + x1) x2))))]) hP [0, 1, 2] rfl
  have hD9 := hD.sub (ws' := [(a_this, .inr (7, [.ref a_this_row])), (a_this_row, .inr (6, [.ref a_this_row_cells])), (a_this_row_cells, .inl (cA, 35, .inl ((mX6_set 35 v_cells (((20 : Int32)) + x1) x2))))]) [0, 1, 2] (by decide) rfl
  exact W.vret hx hb hr (fun t ht9 _ => by rw [← hm]; exact ⟨⟨(), rfl, trivial, by rw [ht9]; exact hP9, hD9⟩, hS.F ht9⟩) hS.2.2 dX7_setPlace_12
theorem dX7_wishOf_0 : decode cX7_wishOf 0 = .ok (.aload_n 0, 1) := by decide +kernel
theorem dX7_wishOf_1 : decode cX7_wishOf 1 = .ok (.getfield 16, 3) := by decide +kernel
theorem dX7_wishOf_4 : decode cX7_wishOf 4 = .ok (.bipush 26, 2) := by decide +kernel
theorem dX7_wishOf_6 : decode cX7_wishOf 6 = .ok (.iload_n 1, 1) := by decide +kernel
theorem dX7_wishOf_7 : decode cX7_wishOf 7 = .ok (.iadd, 1) := by decide +kernel
theorem dX7_wishOf_8 : decode cX7_wishOf 8 = .ok (.invokevirtual 20, 3) := by decide +kernel
theorem dX7_wishOf_11 : decode cX7_wishOf 11 = .ok (.ireturn, 1) := by decide +kernel
theorem h_X7_wishOf : yX7_wishOf.cls ≠ "java/lang/invoke/MethodHandle" ∧ yX7_wishOf.cls ≠ "java/lang/invoke/VarHandle" ∧ (parseMethodDescriptor yX7_wishOf.desc).map (fun d => d.parameters.length) = some 1 := by decide +kernel
def mX7_wishOf (v_cells : Nat → Int32) (x1 : Int32) : Int32 := (mX6_get 35 v_cells (((26 : Int32)) + x1))
set_option maxHeartbeats 4000000 in
set_option maxRecDepth 100000 in
theorem kX7_wishOf (l : Launch) (dC : Nat → ClassId) (dI : Nat → Nat → Nat) (cA cZ : ClassId) (a_this a_this_row a_this_row_cells : Nat) (v_cells : Nat → Int32) (x1 : Int32) : Met l yX7_wishOf (Cond.code yX7_wishOf cX7_wishOf 2 (some .int) :: wt) ({ frames := 1, cells := 0, slots := 0, locals := 21 } : Room) (va_Pc [.ref a_this, .int x1] (PreP (dC, dI) [(cA, .int), (cZ, .boolean)] [(a_this, .inr (7, [.ref a_this_row])), (a_this_row, .inr (6, [.ref a_this_row_cells])), (a_this_row_cells, .inl (cA, 35, .inl v_cells))])) (vp_Si (fun r => r = (mX7_wishOf v_cells x1))) 0 0 (fun _ => False) := by
  refine Met.ofW (cc := cX7_wishOf) (maxL := 2) (ret := (some .int)) (by decide) rfl ?_
  intro p e s m args below meth c s₁ B hml hv
  obtain ⟨ha, hP, hK⟩ := hv
  have hx := B.exec
  have hb := B.bytes
  have hr := B.returns
  have ht : ∀ w ∈ wt, w.before args s = true := fun w h => atoms_spec (ws := (Cond.code yX7_wishOf cX7_wishOf 2 (some .int) :: wt)) B.pre w (List.mem_cons_of_mem _ h)
  have hown : s.vm.findClass RX7 = some m.cls := findClass_of_methodNamed B.named
  have hlocks := B.notSynchronized
  have hl := lv_entry ([.ref a_this, .int x1]) (n := 2) (Nat.le_of_ble_eq_true rfl)
  rw [show entryFrame m args 2 = _ from (congrArg (fun a => entryFrame m a 2) ha).trans (lg_entry_eq m [.ref a_this, .int x1] 2)]
  generalize (lg_sl ([.ref a_this, .int x1]) ++ List.replicate (2 - (lg_sl ([.ref a_this, .int x1])).length) Slot.unset).toArray = ls at hl ⊢
  have hl : lv_has ls 2 [(0, .ref a_this), (1, .int x1)] := hl
  have hm : (mX7_wishOf v_cells x1) = (mX7_wishOf v_cells x1) := rfl
  refine lv_aload_n hx hb dX7_wishOf_0 rfl (lv_at hl 0 rfl) ?_
  refine va_get (D := (dC, dI)) (ci := 7) (v := .ref a_this_row) (C := RX7) (T := TX7) (N := 1) hx hb ht iX7 hown hK.1 hP 0 rfl rfl 0 (by decide) (ht _ w_1_51) (fun _ h9 => h9) rfl dX7_wishOf_1 ?_
  refine lv_bipush (v := (26 : Int32)) hx hb dX7_wishOf_4 (by decide) ?_
  refine lv_iload_n hx hb dX7_wishOf_6 rfl (lv_at hl 1 rfl) ?_
  refine lv_iadd hx hb dX7_wishOf_7 ?_
  refine pv_call (v := (mX6_get 35 v_cells (((26 : Int32)) + x1))) (va_runV (As := [.int (((26 : Int32)) + x1)]) (rest := []) ⟨hx, hb, hml, hown, ht⟩ (kX6_get l dC dI cA cZ a_this_row a_this_row_cells 35 v_cells (((26 : Int32)) + x1) (by decide)) (cwV 1 ht (gi_V (C := RX6) w_2_177 w_2_56 w_2_57 w_1_3 (gi_code w_2_58)) rfl rfl rfl ⟨rfl, h_X6_get⟩ ⟨Nat.le_of_ble_eq_true rfl, Nat.le_of_ble_eq_true rfl⟩) ⟨pp_blind, va_recv hK.1 hP (ci := 6) (q0 := 1) rfl rfl, pp_use (pc_sub (wc := [(a_this_row, .inr (6, [.ref a_this_row_cells])), (a_this_row_cells, .inl (cA, 35, .inl v_cells))]) hP [1, 2] rfl) hK⟩ rfl rfl hl.1 rfl (lv_room (Nat.le_of_ble_eq_true rfl)) dX7_wishOf_8 ⟨Nat.zero_le _, Nat.zero_le _⟩) ?_
  exact W.iret (v := (mX6_get 35 v_cells (((26 : Int32)) + x1))) hx hb hr (fun t ht9 _ => ⟨_, rfl, hm, ht9⟩) (fun q hq => absurd hq List.not_mem_nil) dX7_wishOf_11
theorem dX7_setWish_0 : decode cX7_setWish 0 = .ok (.aload_n 0, 1) := by decide +kernel
theorem dX7_setWish_1 : decode cX7_setWish 1 = .ok (.getfield 16, 3) := by decide +kernel
theorem dX7_setWish_4 : decode cX7_setWish 4 = .ok (.bipush 26, 2) := by decide +kernel
theorem dX7_setWish_6 : decode cX7_setWish 6 = .ok (.iload_n 1, 1) := by decide +kernel
theorem dX7_setWish_7 : decode cX7_setWish 7 = .ok (.iadd, 1) := by decide +kernel
theorem dX7_setWish_8 : decode cX7_setWish 8 = .ok (.iload_n 2, 1) := by decide +kernel
theorem dX7_setWish_9 : decode cX7_setWish 9 = .ok (.invokevirtual 24, 3) := by decide +kernel
theorem dX7_setWish_12 : decode cX7_setWish 12 = .ok (.return_, 1) := by decide +kernel
theorem h_X7_setWish : yX7_setWish.cls ≠ "java/lang/invoke/MethodHandle" ∧ yX7_setWish.cls ≠ "java/lang/invoke/VarHandle" ∧ (parseMethodDescriptor yX7_setWish.desc).map (fun d => d.parameters.length) = some 2 := by decide +kernel
def mX7_setWish (v_cells : Nat → Int32) (x1 : Int32) (x2 : Int32) : (Nat → Int32) := (mX6_set 35 v_cells (((26 : Int32)) + x1) x2)
set_option maxHeartbeats 4000000 in
set_option maxRecDepth 100000 in
theorem kX7_setWish (l : Launch) (dC : Nat → ClassId) (dI : Nat → Nat → Nat) (cA cZ : ClassId) (a_this a_this_row a_this_row_cells : Nat) (v_cells : Nat → Int32) (x1 : Int32) (x2 : Int32) (sz : Nat) : Met l yX7_setWish (Cond.code yX7_setWish cX7_setWish 3 none :: wt) ({ frames := 1, cells := 0, slots := 0, locals := 22 } : Room) (va_Pc [.ref a_this, .int x1, .int x2] (PreM (dC, dI) [(cA, .int), (cZ, .boolean)] sz [(a_this, .inr (7, [.ref a_this_row])), (a_this_row, .inr (6, [.ref a_this_row_cells])), (a_this_row_cells, .inl (cA, 35, .inl v_cells))])) (PoV (dC, dI) sz [(a_this, .inr (7, [.ref a_this_row])), (a_this_row, .inr (6, [.ref a_this_row_cells])), (a_this_row_cells, .inl (cA, 35, .inl v_cells))] [(a_this, .inr (7, [.ref a_this_row])), (a_this_row, .inr (6, [.ref a_this_row_cells])), (a_this_row_cells, .inl (cA, 35, .inl ((mX7_setWish v_cells x1 x2))))]) 0 0 (va_A [(a_this, .inr (7, [.ref a_this_row])), (a_this_row, .inr (6, [.ref a_this_row_cells])), (a_this_row_cells, .inl (cA, 35, .inl v_cells))] sz) := by
  refine Met.ofW (cc := cX7_setWish) (maxL := 3) (ret := none) (by decide) rfl ?_
  intro p e s m args below meth c s₁ B hml hv
  obtain ⟨ha, hsz, hP, hK, hD0⟩ := hv
  have hx := B.exec
  have hb := B.bytes
  have hr := B.returns
  have ht : ∀ w ∈ wt, w.before args s = true := fun w h => atoms_spec (ws := (Cond.code yX7_setWish cX7_setWish 3 none :: wt)) B.pre w (List.mem_cons_of_mem _ h)
  have hown : s.vm.findClass RX7 = some m.cls := findClass_of_methodNamed B.named
  have hlocks := B.notSynchronized
  subst hsz
  have hD := hD0.self (sz := s.heap.size)
  have hA : ∀ q : Nat, s.heap.size ≤ q → va_A [(a_this, .inr (7, [.ref a_this_row])), (a_this_row, .inr (6, [.ref a_this_row_cells])), (a_this_row_cells, .inl (cA, 35, .inl v_cells))] s.heap.size q := fun q h => Or.inr h
  have hS : va_S (va_A [(a_this, .inr (7, [.ref a_this_row])), (a_this_row, .inr (6, [.ref a_this_row_cells])), (a_this_row_cells, .inl (cA, 35, .inl v_cells))] s.heap.size) s.heap s.heap [] := va_S.rf
  have hl := lv_entry ([.ref a_this, .int x1, .int x2]) (n := 3) (Nat.le_of_ble_eq_true rfl)
  rw [show entryFrame m args 3 = _ from (congrArg (fun a => entryFrame m a 3) ha).trans (lg_entry_eq m [.ref a_this, .int x1, .int x2] 3)]
  generalize (lg_sl ([.ref a_this, .int x1, .int x2]) ++ List.replicate (3 - (lg_sl ([.ref a_this, .int x1, .int x2])).length) Slot.unset).toArray = ls at hl ⊢
  have hl : lv_has ls 3 [(0, .ref a_this), (1, .int x1), (2, .int x2)] := hl
  have hm : (mX7_setWish v_cells x1 x2) = (mX7_setWish v_cells x1 x2) := rfl
  refine lv_aload_n hx hb dX7_setWish_0 rfl (lv_at hl 0 rfl) ?_
  refine va_get (D := (dC, dI)) (ci := 7) (v := .ref a_this_row) (C := RX7) (T := TX7) (N := 1) hx hb ht iX7 hown hK.1 hP 0 rfl rfl 0 (by decide) (ht _ w_1_51) (fun _ h9 => h9) rfl dX7_setWish_1 ?_
  refine lv_bipush (v := (26 : Int32)) hx hb dX7_setWish_4 (by decide) ?_
  refine lv_iload_n hx hb dX7_setWish_6 rfl (lv_at hl 1 rfl) ?_
  refine lv_iadd hx hb dX7_setWish_7 ?_
  refine lv_iload_n hx hb dX7_setWish_8 rfl (lv_at hl 2 rfl) ?_
  have hPc := pc_sub (wc := [(a_this_row, .inr (6, [.ref a_this_row_cells])), (a_this_row_cells, .inl (cA, 35, .inl v_cells))]) hP [1, 2] rfl
  have hDc := hD.sub (ws' := [(a_this_row, .inr (6, [.ref a_this_row_cells])), (a_this_row_cells, .inl (cA, 35, .inl v_cells))]) [1, 2] (by decide) rfl
  refine mv_callv (wc := [(a_this_row, .inr (6, [.ref a_this_row_cells])), (a_this_row_cells, .inl (cA, 35, .inl v_cells))]) (wr := [(a_this, .inr (7, [.ref a_this_row]))]) (w1 := [(a_this_row, .inr (6, [.ref a_this_row_cells])), (a_this_row_cells, .inl (cA, 35, .inl ((mX6_set 35 v_cells (((26 : Int32)) + x1) x2))))]) [1, 2] [0] hP hD hS hA rfl rfl (by decide) (by decide) (va_runV (As := [.int (((26 : Int32)) + x1), .int x2]) (rest := []) ⟨hx, hb, hml, hown, ht⟩ (kX6_set l dC dI cA cZ a_this_row a_this_row_cells 35 v_cells (((26 : Int32)) + x1) x2 (by decide) s.heap.size) (cwV 2 ht (gi_V (C := RX6) w_2_87 w_2_25 w_2_26 w_1_3 (gi_code w_2_27)) rfl rfl rfl ⟨rfl, h_X6_set⟩ ⟨Nat.le_of_ble_eq_true rfl, Nat.le_of_ble_eq_true rfl⟩) ⟨pm_blind, va_recv hK.1 hP (ci := 6) (q0 := 1) rfl rfl, pm_use hPc hK hDc⟩ rfl rfl hl.1 rfl (lv_room (Nat.le_of_ble_eq_true rfl)) dX7_setWish_9 ⟨Nat.zero_le _, Nat.zero_le _⟩) (fun H locs hP hD hS => ?_)
  have hP : va_P (dC, dI) vwCl [(a_this, .inr (7, [.ref a_this_row])), (a_this_row, .inr (6, [.ref a_this_row_cells])), (a_this_row_cells, .inl (cA, 35, .inl ((mX6_set 35 v_cells (((26 : Int32)) + x1) x2))))] H := hP
  have hD : va_D (va_A [(a_this, .inr (7, [.ref a_this_row])), (a_this_row, .inr (6, [.ref a_this_row_cells])), (a_this_row_cells, .inl (cA, 35, .inl v_cells))] s.heap.size) [(a_this, .inr (7, [.ref a_this_row])), (a_this_row, .inr (6, [.ref a_this_row_cells])), (a_this_row_cells, .inl (cA, 35, .inl ((mX6_set 35 v_cells (((26 : Int32)) + x1) x2))))] := hD
  have hP9 := pc_sub (wc := [(a_this, .inr (7, [.ref a_this_row])), (a_this_row, .inr (6, [.ref a_this_row_cells])), (a_this_row_cells, .inl (cA, 35, .inl ((mX6_set 35 v_cells (((26 : Int32)) + x1) x2))))]) hP [0, 1, 2] rfl
  have hD9 := hD.sub (ws' := [(a_this, .inr (7, [.ref a_this_row])), (a_this_row, .inr (6, [.ref a_this_row_cells])), (a_this_row_cells, .inl (cA, 35, .inl ((mX6_set 35 v_cells (((26 : Int32)) + x1) x2))))]) [0, 1, 2] (by decide) rfl
  exact W.vret hx hb hr (fun t ht9 _ => by rw [← hm]; exact ⟨⟨(), rfl, trivial, by rw [ht9]; exact hP9, hD9⟩, hS.F ht9⟩) hS.2.2 dX7_setWish_12
theorem dX7_ill_0 : decode cX7_ill 0 = .ok (.aload_n 0, 1) := by decide +kernel
theorem dX7_ill_1 : decode cX7_ill 1 = .ok (.iload_n 1, 1) := by decide +kernel
theorem dX7_ill_2 : decode cX7_ill 2 = .ok (.invokevirtual 43, 3) := by decide +kernel
theorem dX7_ill_5 : decode cX7_ill 5 = .ok (.invokestatic 46, 3) := by decide +kernel
theorem dX7_ill_8 : decode cX7_ill 8 = .ok (.ireturn, 1) := by decide +kernel
theorem h_X7_ill : yX7_ill.cls ≠ "java/lang/invoke/MethodHandle" ∧ yX7_ill.cls ≠ "java/lang/invoke/VarHandle" ∧ (parseMethodDescriptor yX7_ill.desc).map (fun d => d.parameters.length) = some 1 := by decide +kernel
def mX7_ill (v_cells : Nat → Int32) (x1 : Int32) : Int32 := (mX9_illOfWish ((mX7_wishOf v_cells x1)))
set_option maxHeartbeats 4000000 in
set_option maxRecDepth 100000 in
theorem kX7_ill (l : Launch) (dC : Nat → ClassId) (dI : Nat → Nat → Nat) (cA cZ : ClassId) (a_this a_this_row a_this_row_cells : Nat) (v_cells : Nat → Int32) (x1 : Int32) : Met l yX7_ill (Cond.code yX7_ill cX7_ill 2 (some .int) :: wt) ({ frames := 2, cells := 0, slots := 0, locals := 42 } : Room) (va_Pc [.ref a_this, .int x1] (PreP (dC, dI) [(cA, .int), (cZ, .boolean)] [(a_this, .inr (7, [.ref a_this_row])), (a_this_row, .inr (6, [.ref a_this_row_cells])), (a_this_row_cells, .inl (cA, 35, .inl v_cells))])) (vp_Si (fun r => r = (mX7_ill v_cells x1))) 0 0 (fun _ => False) := by
  refine Met.ofW (cc := cX7_ill) (maxL := 2) (ret := (some .int)) (by decide) rfl ?_
  intro p e s m args below meth c s₁ B hml hv
  obtain ⟨ha, hP, hK⟩ := hv
  have hx := B.exec
  have hb := B.bytes
  have hr := B.returns
  have ht : ∀ w ∈ wt, w.before args s = true := fun w h => atoms_spec (ws := (Cond.code yX7_ill cX7_ill 2 (some .int) :: wt)) B.pre w (List.mem_cons_of_mem _ h)
  have hown : s.vm.findClass RX7 = some m.cls := findClass_of_methodNamed B.named
  have hlocks := B.notSynchronized
  have hl := lv_entry ([.ref a_this, .int x1]) (n := 2) (Nat.le_of_ble_eq_true rfl)
  rw [show entryFrame m args 2 = _ from (congrArg (fun a => entryFrame m a 2) ha).trans (lg_entry_eq m [.ref a_this, .int x1] 2)]
  generalize (lg_sl ([.ref a_this, .int x1]) ++ List.replicate (2 - (lg_sl ([.ref a_this, .int x1])).length) Slot.unset).toArray = ls at hl ⊢
  have hl : lv_has ls 2 [(0, .ref a_this), (1, .int x1)] := hl
  have hm : (mX7_ill v_cells x1) = (mX7_ill v_cells x1) := rfl
  refine lv_aload_n hx hb dX7_ill_0 rfl (lv_at hl 0 rfl) ?_
  refine lv_iload_n hx hb dX7_ill_1 rfl (lv_at hl 1 rfl) ?_
  refine pv_call (v := (mX7_wishOf v_cells x1)) (va_runV (As := [.int x1]) (rest := []) ⟨hx, hb, hml, hown, ht⟩ (kX7_wishOf l dC dI cA cZ a_this a_this_row a_this_row_cells v_cells x1) (cwV 1 ht (gi_V (C := RX7) w_2_215 w_2_216 w_2_217 w_1_5 (gi_code w_2_218)) rfl rfl rfl ⟨rfl, h_X7_wishOf⟩ ⟨Nat.le_of_ble_eq_true rfl, Nat.le_of_ble_eq_true rfl⟩) ⟨pp_blind, va_recv hK.1 hP (ci := 7) (q0 := 0) rfl rfl, pp_use hP hK⟩ rfl rfl hl.1 rfl (lv_room (Nat.le_of_ble_eq_true rfl)) dX7_ill_2 ⟨Nat.zero_le _, Nat.zero_le _⟩) ?_
  refine pv_call (v := (mX9_illOfWish ((mX7_wishOf v_cells x1)))) (va_runSN (As := [.int ((mX7_wishOf v_cells x1))]) (rest := []) ⟨hx, hb, hml, hown, ht⟩ (kX9_illOfWish l dC dI cA cZ ((mX7_wishOf v_cells x1))) ⟨va_cnB 1 ht (gi_code w_2_221) rfl rfl rfl (hK.2 _ nwi_11) (ht _ w_1_1) h_X9_illOfWish ⟨Nat.le_of_ble_eq_true rfl, Nat.le_of_ble_eq_true rfl⟩, ht _ w_2_220, trivial⟩ ⟨pp_blind, pp_use (ws := []) (fun _ _ h => by cases h) hK⟩ rfl rfl hl.1 rfl (lv_room (Nat.le_of_ble_eq_true rfl)) dX7_ill_5 ⟨Nat.zero_le _, Nat.zero_le _⟩) ?_
  exact W.iret (v := (mX9_illOfWish ((mX7_wishOf v_cells x1)))) hx hb hr (fun t ht9 _ => ⟨_, rfl, hm, ht9⟩) (fun q hq => absurd hq List.not_mem_nil) dX7_ill_8
theorem dX7_hours_0 : decode cX7_hours 0 = .ok (.aload_n 0, 1) := by decide +kernel
theorem dX7_hours_1 : decode cX7_hours 1 = .ok (.getfield 16, 3) := by decide +kernel
theorem dX7_hours_4 : decode cX7_hours 4 = .ok (.bipush 32, 2) := by decide +kernel
theorem dX7_hours_6 : decode cX7_hours 6 = .ok (.invokevirtual 20, 3) := by decide +kernel
theorem dX7_hours_9 : decode cX7_hours 9 = .ok (.ireturn, 1) := by decide +kernel
theorem h_X7_hours : yX7_hours.cls ≠ "java/lang/invoke/MethodHandle" ∧ yX7_hours.cls ≠ "java/lang/invoke/VarHandle" ∧ (parseMethodDescriptor yX7_hours.desc).map (fun d => d.parameters.length) = some 0 := by decide +kernel
def mX7_hours (v_cells : Nat → Int32) : Int32 := (mX6_get 35 v_cells ((32 : Int32)))
set_option maxHeartbeats 4000000 in
set_option maxRecDepth 100000 in
theorem kX7_hours (l : Launch) (dC : Nat → ClassId) (dI : Nat → Nat → Nat) (cA cZ : ClassId) (a_this a_this_row a_this_row_cells : Nat) (v_cells : Nat → Int32) : Met l yX7_hours (Cond.code yX7_hours cX7_hours 1 (some .int) :: wt) ({ frames := 1, cells := 0, slots := 0, locals := 21 } : Room) (va_Pc [.ref a_this] (PreP (dC, dI) [(cA, .int), (cZ, .boolean)] [(a_this, .inr (7, [.ref a_this_row])), (a_this_row, .inr (6, [.ref a_this_row_cells])), (a_this_row_cells, .inl (cA, 35, .inl v_cells))])) (vp_Si (fun r => r = (mX7_hours v_cells))) 0 0 (fun _ => False) := by
  refine Met.ofW (cc := cX7_hours) (maxL := 1) (ret := (some .int)) (by decide) rfl ?_
  intro p e s m args below meth c s₁ B hml hv
  obtain ⟨ha, hP, hK⟩ := hv
  have hx := B.exec
  have hb := B.bytes
  have hr := B.returns
  have ht : ∀ w ∈ wt, w.before args s = true := fun w h => atoms_spec (ws := (Cond.code yX7_hours cX7_hours 1 (some .int) :: wt)) B.pre w (List.mem_cons_of_mem _ h)
  have hown : s.vm.findClass RX7 = some m.cls := findClass_of_methodNamed B.named
  have hlocks := B.notSynchronized
  have hl := lv_entry ([.ref a_this]) (n := 1) (Nat.le_of_ble_eq_true rfl)
  rw [show entryFrame m args 1 = _ from (congrArg (fun a => entryFrame m a 1) ha).trans (lg_entry_eq m [.ref a_this] 1)]
  generalize (lg_sl ([.ref a_this]) ++ List.replicate (1 - (lg_sl ([.ref a_this])).length) Slot.unset).toArray = ls at hl ⊢
  have hl : lv_has ls 1 [(0, .ref a_this)] := hl
  have hm : (mX7_hours v_cells) = (mX7_hours v_cells) := rfl
  refine lv_aload_n hx hb dX7_hours_0 rfl (lv_at hl 0 rfl) ?_
  refine va_get (D := (dC, dI)) (ci := 7) (v := .ref a_this_row) (C := RX7) (T := TX7) (N := 1) hx hb ht iX7 hown hK.1 hP 0 rfl rfl 0 (by decide) (ht _ w_1_51) (fun _ h9 => h9) rfl dX7_hours_1 ?_
  refine lv_bipush (v := (32 : Int32)) hx hb dX7_hours_4 (by decide) ?_
  refine pv_call (v := (mX6_get 35 v_cells ((32 : Int32)))) (va_runV (As := [.int ((32 : Int32))]) (rest := []) ⟨hx, hb, hml, hown, ht⟩ (kX6_get l dC dI cA cZ a_this_row a_this_row_cells 35 v_cells ((32 : Int32)) (by decide)) (cwV 1 ht (gi_V (C := RX6) w_2_177 w_2_56 w_2_57 w_1_3 (gi_code w_2_58)) rfl rfl rfl ⟨rfl, h_X6_get⟩ ⟨Nat.le_of_ble_eq_true rfl, Nat.le_of_ble_eq_true rfl⟩) ⟨pp_blind, va_recv hK.1 hP (ci := 6) (q0 := 1) rfl rfl, pp_use (pc_sub (wc := [(a_this_row, .inr (6, [.ref a_this_row_cells])), (a_this_row_cells, .inl (cA, 35, .inl v_cells))]) hP [1, 2] rfl) hK⟩ rfl rfl hl.1 rfl (lv_room (Nat.le_of_ble_eq_true rfl)) dX7_hours_6 ⟨Nat.zero_le _, Nat.zero_le _⟩) ?_
  exact W.iret (v := (mX6_get 35 v_cells ((32 : Int32)))) hx hb hr (fun t ht9 _ => ⟨_, rfl, hm, ht9⟩) (fun q hq => absurd hq List.not_mem_nil) dX7_hours_9
theorem dX7_countHour_0 : decode cX7_countHour 0 = .ok (.aload_n 0, 1) := by decide +kernel
theorem dX7_countHour_1 : decode cX7_countHour 1 = .ok (.getfield 16, 3) := by decide +kernel
theorem dX7_countHour_4 : decode cX7_countHour 4 = .ok (.bipush 32, 2) := by decide +kernel
theorem dX7_countHour_6 : decode cX7_countHour 6 = .ok (.aload_n 0, 1) := by decide +kernel
theorem dX7_countHour_7 : decode cX7_countHour 7 = .ok (.invokevirtual 49, 3) := by decide +kernel
theorem dX7_countHour_10 : decode cX7_countHour 10 = .ok (.iconst 1, 1) := by decide +kernel
theorem dX7_countHour_11 : decode cX7_countHour 11 = .ok (.iadd, 1) := by decide +kernel
theorem dX7_countHour_12 : decode cX7_countHour 12 = .ok (.invokevirtual 24, 3) := by decide +kernel
theorem dX7_countHour_15 : decode cX7_countHour 15 = .ok (.return_, 1) := by decide +kernel
theorem h_X7_countHour : yX7_countHour.cls ≠ "java/lang/invoke/MethodHandle" ∧ yX7_countHour.cls ≠ "java/lang/invoke/VarHandle" ∧ (parseMethodDescriptor yX7_countHour.desc).map (fun d => d.parameters.length) = some 0 := by decide +kernel
def mX7_countHour (v_cells : Nat → Int32) : (Nat → Int32) := (mX6_set 35 v_cells ((32 : Int32)) (((mX7_hours v_cells)) + ((1 : Int32))))
set_option maxHeartbeats 4000000 in
set_option maxRecDepth 100000 in
theorem kX7_countHour (l : Launch) (dC : Nat → ClassId) (dI : Nat → Nat → Nat) (cA cZ : ClassId) (a_this a_this_row a_this_row_cells : Nat) (v_cells : Nat → Int32) (sz : Nat) : Met l yX7_countHour (Cond.code yX7_countHour cX7_countHour 1 none :: wt) ({ frames := 2, cells := 0, slots := 0, locals := 41 } : Room) (va_Pc [.ref a_this] (PreM (dC, dI) [(cA, .int), (cZ, .boolean)] sz [(a_this, .inr (7, [.ref a_this_row])), (a_this_row, .inr (6, [.ref a_this_row_cells])), (a_this_row_cells, .inl (cA, 35, .inl v_cells))])) (PoV (dC, dI) sz [(a_this, .inr (7, [.ref a_this_row])), (a_this_row, .inr (6, [.ref a_this_row_cells])), (a_this_row_cells, .inl (cA, 35, .inl v_cells))] [(a_this, .inr (7, [.ref a_this_row])), (a_this_row, .inr (6, [.ref a_this_row_cells])), (a_this_row_cells, .inl (cA, 35, .inl ((mX7_countHour v_cells))))]) 0 0 (va_A [(a_this, .inr (7, [.ref a_this_row])), (a_this_row, .inr (6, [.ref a_this_row_cells])), (a_this_row_cells, .inl (cA, 35, .inl v_cells))] sz) := by
  refine Met.ofW (cc := cX7_countHour) (maxL := 1) (ret := none) (by decide) rfl ?_
  intro p e s m args below meth c s₁ B hml hv
  obtain ⟨ha, hsz, hP, hK, hD0⟩ := hv
  have hx := B.exec
  have hb := B.bytes
  have hr := B.returns
  have ht : ∀ w ∈ wt, w.before args s = true := fun w h => atoms_spec (ws := (Cond.code yX7_countHour cX7_countHour 1 none :: wt)) B.pre w (List.mem_cons_of_mem _ h)
  have hown : s.vm.findClass RX7 = some m.cls := findClass_of_methodNamed B.named
  have hlocks := B.notSynchronized
  subst hsz
  have hD := hD0.self (sz := s.heap.size)
  have hA : ∀ q : Nat, s.heap.size ≤ q → va_A [(a_this, .inr (7, [.ref a_this_row])), (a_this_row, .inr (6, [.ref a_this_row_cells])), (a_this_row_cells, .inl (cA, 35, .inl v_cells))] s.heap.size q := fun q h => Or.inr h
  have hS : va_S (va_A [(a_this, .inr (7, [.ref a_this_row])), (a_this_row, .inr (6, [.ref a_this_row_cells])), (a_this_row_cells, .inl (cA, 35, .inl v_cells))] s.heap.size) s.heap s.heap [] := va_S.rf
  have hl := lv_entry ([.ref a_this]) (n := 1) (Nat.le_of_ble_eq_true rfl)
  rw [show entryFrame m args 1 = _ from (congrArg (fun a => entryFrame m a 1) ha).trans (lg_entry_eq m [.ref a_this] 1)]
  generalize (lg_sl ([.ref a_this]) ++ List.replicate (1 - (lg_sl ([.ref a_this])).length) Slot.unset).toArray = ls at hl ⊢
  have hl : lv_has ls 1 [(0, .ref a_this)] := hl
  have hm : (mX7_countHour v_cells) = (mX7_countHour v_cells) := rfl
  refine lv_aload_n hx hb dX7_countHour_0 rfl (lv_at hl 0 rfl) ?_
  refine va_get (D := (dC, dI)) (ci := 7) (v := .ref a_this_row) (C := RX7) (T := TX7) (N := 1) hx hb ht iX7 hown hK.1 hP 0 rfl rfl 0 (by decide) (ht _ w_1_51) (fun _ h9 => h9) rfl dX7_countHour_1 ?_
  refine lv_bipush (v := (32 : Int32)) hx hb dX7_countHour_4 (by decide) ?_
  refine lv_aload_n hx hb dX7_countHour_6 rfl (lv_at hl 0 rfl) ?_
  refine pv_call (v := (mX7_hours v_cells)) (va_runV (As := []) (rest := [.int ((32 : Int32)), .ref a_this_row]) ⟨hx, hb, hml, hown, ht⟩ (kX7_hours l dC dI cA cZ a_this a_this_row a_this_row_cells v_cells) (cwV 0 ht (gi_V (C := RX7) w_3_110 w_2_174 w_2_175 w_1_5 (gi_code w_2_176)) rfl rfl rfl ⟨rfl, h_X7_hours⟩ ⟨Nat.le_of_ble_eq_true rfl, Nat.le_of_ble_eq_true rfl⟩) ⟨pp_blind, va_recv hK.1 hP (ci := 7) (q0 := 0) rfl rfl, pp_use hP hK⟩ rfl rfl hl.1 rfl (lv_room (Nat.le_of_ble_eq_true rfl)) dX7_countHour_7 ⟨Nat.zero_le _, Nat.zero_le _⟩) ?_
  refine lv_iconst (v := (1 : Int32)) hx hb dX7_countHour_10 (by decide) ?_
  refine lv_iadd hx hb dX7_countHour_11 ?_
  have hPc := pc_sub (wc := [(a_this_row, .inr (6, [.ref a_this_row_cells])), (a_this_row_cells, .inl (cA, 35, .inl v_cells))]) hP [1, 2] rfl
  have hDc := hD.sub (ws' := [(a_this_row, .inr (6, [.ref a_this_row_cells])), (a_this_row_cells, .inl (cA, 35, .inl v_cells))]) [1, 2] (by decide) rfl
  refine mv_callv (wc := [(a_this_row, .inr (6, [.ref a_this_row_cells])), (a_this_row_cells, .inl (cA, 35, .inl v_cells))]) (wr := [(a_this, .inr (7, [.ref a_this_row]))]) (w1 := [(a_this_row, .inr (6, [.ref a_this_row_cells])), (a_this_row_cells, .inl (cA, 35, .inl ((mX6_set 35 v_cells ((32 : Int32)) (((mX7_hours v_cells)) + ((1 : Int32)))))))]) [1, 2] [0] hP hD hS hA rfl rfl (by decide) (by decide) (va_runV (As := [.int ((32 : Int32)), .int (((mX7_hours v_cells)) + ((1 : Int32)))]) (rest := []) ⟨hx, hb, hml, hown, ht⟩ (kX6_set l dC dI cA cZ a_this_row a_this_row_cells 35 v_cells ((32 : Int32)) (((mX7_hours v_cells)) + ((1 : Int32))) (by decide) s.heap.size) (cwV 2 ht (gi_V (C := RX6) w_2_87 w_2_25 w_2_26 w_1_3 (gi_code w_2_27)) rfl rfl rfl ⟨rfl, h_X6_set⟩ ⟨Nat.le_of_ble_eq_true rfl, Nat.le_of_ble_eq_true rfl⟩) ⟨pm_blind, va_recv hK.1 hP (ci := 6) (q0 := 1) rfl rfl, pm_use hPc hK hDc⟩ rfl rfl hl.1 rfl (lv_room (Nat.le_of_ble_eq_true rfl)) dX7_countHour_12 ⟨Nat.zero_le _, Nat.zero_le _⟩) (fun H locs hP hD hS => ?_)
  have hP : va_P (dC, dI) vwCl [(a_this, .inr (7, [.ref a_this_row])), (a_this_row, .inr (6, [.ref a_this_row_cells])), (a_this_row_cells, .inl (cA, 35, .inl ((mX6_set 35 v_cells ((32 : Int32)) (((mX7_hours v_cells)) + ((1 : Int32)))))))] H := hP
  have hD : va_D (va_A [(a_this, .inr (7, [.ref a_this_row])), (a_this_row, .inr (6, [.ref a_this_row_cells])), (a_this_row_cells, .inl (cA, 35, .inl v_cells))] s.heap.size) [(a_this, .inr (7, [.ref a_this_row])), (a_this_row, .inr (6, [.ref a_this_row_cells])), (a_this_row_cells, .inl (cA, 35, .inl ((mX6_set 35 v_cells ((32 : Int32)) (((mX7_hours v_cells)) + ((1 : Int32)))))))] := hD
  have hP9 := pc_sub (wc := [(a_this, .inr (7, [.ref a_this_row])), (a_this_row, .inr (6, [.ref a_this_row_cells])), (a_this_row_cells, .inl (cA, 35, .inl ((mX6_set 35 v_cells ((32 : Int32)) (((mX7_hours v_cells)) + ((1 : Int32)))))))]) hP [0, 1, 2] rfl
  have hD9 := hD.sub (ws' := [(a_this, .inr (7, [.ref a_this_row])), (a_this_row, .inr (6, [.ref a_this_row_cells])), (a_this_row_cells, .inl (cA, 35, .inl ((mX6_set 35 v_cells ((32 : Int32)) (((mX7_hours v_cells)) + ((1 : Int32)))))))]) [0, 1, 2] (by decide) rfl
  exact W.vret hx hb hr (fun t ht9 _ => by rw [← hm]; exact ⟨⟨(), rfl, trivial, by rw [ht9]; exact hP9, hD9⟩, hS.F ht9⟩) hS.2.2 dX7_countHour_15
theorem dX7_store_0 : decode cX7_store 0 = .ok (.aload_n 0, 1) := by decide +kernel
theorem dX7_store_1 : decode cX7_store 1 = .ok (.getfield 16, 3) := by decide +kernel
theorem dX7_store_4 : decode cX7_store 4 = .ok (.bipush 33, 2) := by decide +kernel
theorem dX7_store_6 : decode cX7_store 6 = .ok (.invokevirtual 20, 3) := by decide +kernel
theorem dX7_store_9 : decode cX7_store 9 = .ok (.ireturn, 1) := by decide +kernel
theorem h_X7_store : yX7_store.cls ≠ "java/lang/invoke/MethodHandle" ∧ yX7_store.cls ≠ "java/lang/invoke/VarHandle" ∧ (parseMethodDescriptor yX7_store.desc).map (fun d => d.parameters.length) = some 0 := by decide +kernel
def mX7_store (v_cells : Nat → Int32) : Int32 := (mX6_get 35 v_cells ((33 : Int32)))
set_option maxHeartbeats 4000000 in
set_option maxRecDepth 100000 in
theorem kX7_store (l : Launch) (dC : Nat → ClassId) (dI : Nat → Nat → Nat) (cA cZ : ClassId) (a_this a_this_row a_this_row_cells : Nat) (v_cells : Nat → Int32) : Met l yX7_store (Cond.code yX7_store cX7_store 1 (some .int) :: wt) ({ frames := 1, cells := 0, slots := 0, locals := 21 } : Room) (va_Pc [.ref a_this] (PreP (dC, dI) [(cA, .int), (cZ, .boolean)] [(a_this, .inr (7, [.ref a_this_row])), (a_this_row, .inr (6, [.ref a_this_row_cells])), (a_this_row_cells, .inl (cA, 35, .inl v_cells))])) (vp_Si (fun r => r = (mX7_store v_cells))) 0 0 (fun _ => False) := by
  refine Met.ofW (cc := cX7_store) (maxL := 1) (ret := (some .int)) (by decide) rfl ?_
  intro p e s m args below meth c s₁ B hml hv
  obtain ⟨ha, hP, hK⟩ := hv
  have hx := B.exec
  have hb := B.bytes
  have hr := B.returns
  have ht : ∀ w ∈ wt, w.before args s = true := fun w h => atoms_spec (ws := (Cond.code yX7_store cX7_store 1 (some .int) :: wt)) B.pre w (List.mem_cons_of_mem _ h)
  have hown : s.vm.findClass RX7 = some m.cls := findClass_of_methodNamed B.named
  have hlocks := B.notSynchronized
  have hl := lv_entry ([.ref a_this]) (n := 1) (Nat.le_of_ble_eq_true rfl)
  rw [show entryFrame m args 1 = _ from (congrArg (fun a => entryFrame m a 1) ha).trans (lg_entry_eq m [.ref a_this] 1)]
  generalize (lg_sl ([.ref a_this]) ++ List.replicate (1 - (lg_sl ([.ref a_this])).length) Slot.unset).toArray = ls at hl ⊢
  have hl : lv_has ls 1 [(0, .ref a_this)] := hl
  have hm : (mX7_store v_cells) = (mX7_store v_cells) := rfl
  refine lv_aload_n hx hb dX7_store_0 rfl (lv_at hl 0 rfl) ?_
  refine va_get (D := (dC, dI)) (ci := 7) (v := .ref a_this_row) (C := RX7) (T := TX7) (N := 1) hx hb ht iX7 hown hK.1 hP 0 rfl rfl 0 (by decide) (ht _ w_1_51) (fun _ h9 => h9) rfl dX7_store_1 ?_
  refine lv_bipush (v := (33 : Int32)) hx hb dX7_store_4 (by decide) ?_
  refine pv_call (v := (mX6_get 35 v_cells ((33 : Int32)))) (va_runV (As := [.int ((33 : Int32))]) (rest := []) ⟨hx, hb, hml, hown, ht⟩ (kX6_get l dC dI cA cZ a_this_row a_this_row_cells 35 v_cells ((33 : Int32)) (by decide)) (cwV 1 ht (gi_V (C := RX6) w_2_177 w_2_56 w_2_57 w_1_3 (gi_code w_2_58)) rfl rfl rfl ⟨rfl, h_X6_get⟩ ⟨Nat.le_of_ble_eq_true rfl, Nat.le_of_ble_eq_true rfl⟩) ⟨pp_blind, va_recv hK.1 hP (ci := 6) (q0 := 1) rfl rfl, pp_use (pc_sub (wc := [(a_this_row, .inr (6, [.ref a_this_row_cells])), (a_this_row_cells, .inl (cA, 35, .inl v_cells))]) hP [1, 2] rfl) hK⟩ rfl rfl hl.1 rfl (lv_room (Nat.le_of_ble_eq_true rfl)) dX7_store_6 ⟨Nat.zero_le _, Nat.zero_le _⟩) ?_
  exact W.iret (v := (mX6_get 35 v_cells ((33 : Int32)))) hx hb hr (fun t ht9 _ => ⟨_, rfl, hm, ht9⟩) (fun q hq => absurd hq List.not_mem_nil) dX7_store_9
theorem dX7_setStore_0 : decode cX7_setStore 0 = .ok (.aload_n 0, 1) := by decide +kernel
theorem dX7_setStore_1 : decode cX7_setStore 1 = .ok (.getfield 16, 3) := by decide +kernel
theorem dX7_setStore_4 : decode cX7_setStore 4 = .ok (.bipush 33, 2) := by decide +kernel
theorem dX7_setStore_6 : decode cX7_setStore 6 = .ok (.iload_n 1, 1) := by decide +kernel
theorem dX7_setStore_7 : decode cX7_setStore 7 = .ok (.invokevirtual 24, 3) := by decide +kernel
theorem dX7_setStore_10 : decode cX7_setStore 10 = .ok (.return_, 1) := by decide +kernel
theorem h_X7_setStore : yX7_setStore.cls ≠ "java/lang/invoke/MethodHandle" ∧ yX7_setStore.cls ≠ "java/lang/invoke/VarHandle" ∧ (parseMethodDescriptor yX7_setStore.desc).map (fun d => d.parameters.length) = some 1 := by decide +kernel
def mX7_setStore (v_cells : Nat → Int32) (x1 : Int32) : (Nat → Int32) := (mX6_set 35 v_cells ((33 : Int32)) x1)
set_option maxHeartbeats 4000000 in
set_option maxRecDepth 100000 in
theorem kX7_setStore (l : Launch) (dC : Nat → ClassId) (dI : Nat → Nat → Nat) (cA cZ : ClassId) (a_this a_this_row a_this_row_cells : Nat) (v_cells : Nat → Int32) (x1 : Int32) (sz : Nat) : Met l yX7_setStore (Cond.code yX7_setStore cX7_setStore 2 none :: wt) ({ frames := 1, cells := 0, slots := 0, locals := 22 } : Room) (va_Pc [.ref a_this, .int x1] (PreM (dC, dI) [(cA, .int), (cZ, .boolean)] sz [(a_this, .inr (7, [.ref a_this_row])), (a_this_row, .inr (6, [.ref a_this_row_cells])), (a_this_row_cells, .inl (cA, 35, .inl v_cells))])) (PoV (dC, dI) sz [(a_this, .inr (7, [.ref a_this_row])), (a_this_row, .inr (6, [.ref a_this_row_cells])), (a_this_row_cells, .inl (cA, 35, .inl v_cells))] [(a_this, .inr (7, [.ref a_this_row])), (a_this_row, .inr (6, [.ref a_this_row_cells])), (a_this_row_cells, .inl (cA, 35, .inl ((mX7_setStore v_cells x1))))]) 0 0 (va_A [(a_this, .inr (7, [.ref a_this_row])), (a_this_row, .inr (6, [.ref a_this_row_cells])), (a_this_row_cells, .inl (cA, 35, .inl v_cells))] sz) := by
  refine Met.ofW (cc := cX7_setStore) (maxL := 2) (ret := none) (by decide) rfl ?_
  intro p e s m args below meth c s₁ B hml hv
  obtain ⟨ha, hsz, hP, hK, hD0⟩ := hv
  have hx := B.exec
  have hb := B.bytes
  have hr := B.returns
  have ht : ∀ w ∈ wt, w.before args s = true := fun w h => atoms_spec (ws := (Cond.code yX7_setStore cX7_setStore 2 none :: wt)) B.pre w (List.mem_cons_of_mem _ h)
  have hown : s.vm.findClass RX7 = some m.cls := findClass_of_methodNamed B.named
  have hlocks := B.notSynchronized
  subst hsz
  have hD := hD0.self (sz := s.heap.size)
  have hA : ∀ q : Nat, s.heap.size ≤ q → va_A [(a_this, .inr (7, [.ref a_this_row])), (a_this_row, .inr (6, [.ref a_this_row_cells])), (a_this_row_cells, .inl (cA, 35, .inl v_cells))] s.heap.size q := fun q h => Or.inr h
  have hS : va_S (va_A [(a_this, .inr (7, [.ref a_this_row])), (a_this_row, .inr (6, [.ref a_this_row_cells])), (a_this_row_cells, .inl (cA, 35, .inl v_cells))] s.heap.size) s.heap s.heap [] := va_S.rf
  have hl := lv_entry ([.ref a_this, .int x1]) (n := 2) (Nat.le_of_ble_eq_true rfl)
  rw [show entryFrame m args 2 = _ from (congrArg (fun a => entryFrame m a 2) ha).trans (lg_entry_eq m [.ref a_this, .int x1] 2)]
  generalize (lg_sl ([.ref a_this, .int x1]) ++ List.replicate (2 - (lg_sl ([.ref a_this, .int x1])).length) Slot.unset).toArray = ls at hl ⊢
  have hl : lv_has ls 2 [(0, .ref a_this), (1, .int x1)] := hl
  have hm : (mX7_setStore v_cells x1) = (mX7_setStore v_cells x1) := rfl
  refine lv_aload_n hx hb dX7_setStore_0 rfl (lv_at hl 0 rfl) ?_
  refine va_get (D := (dC, dI)) (ci := 7) (v := .ref a_this_row) (C := RX7) (T := TX7) (N := 1) hx hb ht iX7 hown hK.1 hP 0 rfl rfl 0 (by decide) (ht _ w_1_51) (fun _ h9 => h9) rfl dX7_setStore_1 ?_
  refine lv_bipush (v := (33 : Int32)) hx hb dX7_setStore_4 (by decide) ?_
  refine lv_iload_n hx hb dX7_setStore_6 rfl (lv_at hl 1 rfl) ?_
  have hPc := pc_sub (wc := [(a_this_row, .inr (6, [.ref a_this_row_cells])), (a_this_row_cells, .inl (cA, 35, .inl v_cells))]) hP [1, 2] rfl
  have hDc := hD.sub (ws' := [(a_this_row, .inr (6, [.ref a_this_row_cells])), (a_this_row_cells, .inl (cA, 35, .inl v_cells))]) [1, 2] (by decide) rfl
  refine mv_callv (wc := [(a_this_row, .inr (6, [.ref a_this_row_cells])), (a_this_row_cells, .inl (cA, 35, .inl v_cells))]) (wr := [(a_this, .inr (7, [.ref a_this_row]))]) (w1 := [(a_this_row, .inr (6, [.ref a_this_row_cells])), (a_this_row_cells, .inl (cA, 35, .inl ((mX6_set 35 v_cells ((33 : Int32)) x1))))]) [1, 2] [0] hP hD hS hA rfl rfl (by decide) (by decide) (va_runV (As := [.int ((33 : Int32)), .int x1]) (rest := []) ⟨hx, hb, hml, hown, ht⟩ (kX6_set l dC dI cA cZ a_this_row a_this_row_cells 35 v_cells ((33 : Int32)) x1 (by decide) s.heap.size) (cwV 2 ht (gi_V (C := RX6) w_2_87 w_2_25 w_2_26 w_1_3 (gi_code w_2_27)) rfl rfl rfl ⟨rfl, h_X6_set⟩ ⟨Nat.le_of_ble_eq_true rfl, Nat.le_of_ble_eq_true rfl⟩) ⟨pm_blind, va_recv hK.1 hP (ci := 6) (q0 := 1) rfl rfl, pm_use hPc hK hDc⟩ rfl rfl hl.1 rfl (lv_room (Nat.le_of_ble_eq_true rfl)) dX7_setStore_7 ⟨Nat.zero_le _, Nat.zero_le _⟩) (fun H locs hP hD hS => ?_)
  have hP : va_P (dC, dI) vwCl [(a_this, .inr (7, [.ref a_this_row])), (a_this_row, .inr (6, [.ref a_this_row_cells])), (a_this_row_cells, .inl (cA, 35, .inl ((mX6_set 35 v_cells ((33 : Int32)) x1))))] H := hP
  have hD : va_D (va_A [(a_this, .inr (7, [.ref a_this_row])), (a_this_row, .inr (6, [.ref a_this_row_cells])), (a_this_row_cells, .inl (cA, 35, .inl v_cells))] s.heap.size) [(a_this, .inr (7, [.ref a_this_row])), (a_this_row, .inr (6, [.ref a_this_row_cells])), (a_this_row_cells, .inl (cA, 35, .inl ((mX6_set 35 v_cells ((33 : Int32)) x1))))] := hD
  have hP9 := pc_sub (wc := [(a_this, .inr (7, [.ref a_this_row])), (a_this_row, .inr (6, [.ref a_this_row_cells])), (a_this_row_cells, .inl (cA, 35, .inl ((mX6_set 35 v_cells ((33 : Int32)) x1))))]) hP [0, 1, 2] rfl
  have hD9 := hD.sub (ws' := [(a_this, .inr (7, [.ref a_this_row])), (a_this_row, .inr (6, [.ref a_this_row_cells])), (a_this_row_cells, .inl (cA, 35, .inl ((mX6_set 35 v_cells ((33 : Int32)) x1))))]) [0, 1, 2] (by decide) rfl
  exact W.vret hx hb hr (fun t ht9 _ => by rw [← hm]; exact ⟨⟨(), rfl, trivial, by rw [ht9]; exact hP9, hD9⟩, hS.F ht9⟩) hS.2.2 dX7_setStore_10
theorem dX7_stopped_0 : decode cX7_stopped 0 = .ok (.aload_n 0, 1) := by decide +kernel
theorem dX7_stopped_1 : decode cX7_stopped 1 = .ok (.getfield 16, 3) := by decide +kernel
theorem dX7_stopped_4 : decode cX7_stopped 4 = .ok (.bipush 34, 2) := by decide +kernel
theorem dX7_stopped_6 : decode cX7_stopped 6 = .ok (.invokevirtual 20, 3) := by decide +kernel
theorem dX7_stopped_9 : decode cX7_stopped 9 = .ok (.ireturn, 1) := by decide +kernel
theorem h_X7_stopped : yX7_stopped.cls ≠ "java/lang/invoke/MethodHandle" ∧ yX7_stopped.cls ≠ "java/lang/invoke/VarHandle" ∧ (parseMethodDescriptor yX7_stopped.desc).map (fun d => d.parameters.length) = some 0 := by decide +kernel
def mX7_stopped (v_cells : Nat → Int32) : Int32 := (mX6_get 35 v_cells ((34 : Int32)))
set_option maxHeartbeats 4000000 in
set_option maxRecDepth 100000 in
theorem kX7_stopped (l : Launch) (dC : Nat → ClassId) (dI : Nat → Nat → Nat) (cA cZ : ClassId) (a_this a_this_row a_this_row_cells : Nat) (v_cells : Nat → Int32) : Met l yX7_stopped (Cond.code yX7_stopped cX7_stopped 1 (some .int) :: wt) ({ frames := 1, cells := 0, slots := 0, locals := 21 } : Room) (va_Pc [.ref a_this] (PreP (dC, dI) [(cA, .int), (cZ, .boolean)] [(a_this, .inr (7, [.ref a_this_row])), (a_this_row, .inr (6, [.ref a_this_row_cells])), (a_this_row_cells, .inl (cA, 35, .inl v_cells))])) (vp_Si (fun r => r = (mX7_stopped v_cells))) 0 0 (fun _ => False) := by
  refine Met.ofW (cc := cX7_stopped) (maxL := 1) (ret := (some .int)) (by decide) rfl ?_
  intro p e s m args below meth c s₁ B hml hv
  obtain ⟨ha, hP, hK⟩ := hv
  have hx := B.exec
  have hb := B.bytes
  have hr := B.returns
  have ht : ∀ w ∈ wt, w.before args s = true := fun w h => atoms_spec (ws := (Cond.code yX7_stopped cX7_stopped 1 (some .int) :: wt)) B.pre w (List.mem_cons_of_mem _ h)
  have hown : s.vm.findClass RX7 = some m.cls := findClass_of_methodNamed B.named
  have hlocks := B.notSynchronized
  have hl := lv_entry ([.ref a_this]) (n := 1) (Nat.le_of_ble_eq_true rfl)
  rw [show entryFrame m args 1 = _ from (congrArg (fun a => entryFrame m a 1) ha).trans (lg_entry_eq m [.ref a_this] 1)]
  generalize (lg_sl ([.ref a_this]) ++ List.replicate (1 - (lg_sl ([.ref a_this])).length) Slot.unset).toArray = ls at hl ⊢
  have hl : lv_has ls 1 [(0, .ref a_this)] := hl
  have hm : (mX7_stopped v_cells) = (mX7_stopped v_cells) := rfl
  refine lv_aload_n hx hb dX7_stopped_0 rfl (lv_at hl 0 rfl) ?_
  refine va_get (D := (dC, dI)) (ci := 7) (v := .ref a_this_row) (C := RX7) (T := TX7) (N := 1) hx hb ht iX7 hown hK.1 hP 0 rfl rfl 0 (by decide) (ht _ w_1_51) (fun _ h9 => h9) rfl dX7_stopped_1 ?_
  refine lv_bipush (v := (34 : Int32)) hx hb dX7_stopped_4 (by decide) ?_
  refine pv_call (v := (mX6_get 35 v_cells ((34 : Int32)))) (va_runV (As := [.int ((34 : Int32))]) (rest := []) ⟨hx, hb, hml, hown, ht⟩ (kX6_get l dC dI cA cZ a_this_row a_this_row_cells 35 v_cells ((34 : Int32)) (by decide)) (cwV 1 ht (gi_V (C := RX6) w_2_177 w_2_56 w_2_57 w_1_3 (gi_code w_2_58)) rfl rfl rfl ⟨rfl, h_X6_get⟩ ⟨Nat.le_of_ble_eq_true rfl, Nat.le_of_ble_eq_true rfl⟩) ⟨pp_blind, va_recv hK.1 hP (ci := 6) (q0 := 1) rfl rfl, pp_use (pc_sub (wc := [(a_this_row, .inr (6, [.ref a_this_row_cells])), (a_this_row_cells, .inl (cA, 35, .inl v_cells))]) hP [1, 2] rfl) hK⟩ rfl rfl hl.1 rfl (lv_room (Nat.le_of_ble_eq_true rfl)) dX7_stopped_6 ⟨Nat.zero_le _, Nat.zero_le _⟩) ?_
  exact W.iret (v := (mX6_get 35 v_cells ((34 : Int32)))) hx hb hr (fun t ht9 _ => ⟨_, rfl, hm, ht9⟩) (fun q hq => absurd hq List.not_mem_nil) dX7_stopped_9
theorem dX7_countStopped_0 : decode cX7_countStopped 0 = .ok (.aload_n 0, 1) := by decide +kernel
theorem dX7_countStopped_1 : decode cX7_countStopped 1 = .ok (.getfield 16, 3) := by decide +kernel
theorem dX7_countStopped_4 : decode cX7_countStopped 4 = .ok (.bipush 34, 2) := by decide +kernel
theorem dX7_countStopped_6 : decode cX7_countStopped 6 = .ok (.aload_n 0, 1) := by decide +kernel
theorem dX7_countStopped_7 : decode cX7_countStopped 7 = .ok (.invokevirtual 53, 3) := by decide +kernel
theorem dX7_countStopped_10 : decode cX7_countStopped 10 = .ok (.iconst 1, 1) := by decide +kernel
theorem dX7_countStopped_11 : decode cX7_countStopped 11 = .ok (.iadd, 1) := by decide +kernel
theorem dX7_countStopped_12 : decode cX7_countStopped 12 = .ok (.invokevirtual 24, 3) := by decide +kernel
theorem dX7_countStopped_15 : decode cX7_countStopped 15 = .ok (.return_, 1) := by decide +kernel
theorem h_X7_countStopped : yX7_countStopped.cls ≠ "java/lang/invoke/MethodHandle" ∧ yX7_countStopped.cls ≠ "java/lang/invoke/VarHandle" ∧ (parseMethodDescriptor yX7_countStopped.desc).map (fun d => d.parameters.length) = some 0 := by decide +kernel
def mX7_countStopped (v_cells : Nat → Int32) : (Nat → Int32) := (mX6_set 35 v_cells ((34 : Int32)) (((mX7_stopped v_cells)) + ((1 : Int32))))
set_option maxHeartbeats 4000000 in
set_option maxRecDepth 100000 in
theorem kX7_countStopped (l : Launch) (dC : Nat → ClassId) (dI : Nat → Nat → Nat) (cA cZ : ClassId) (a_this a_this_row a_this_row_cells : Nat) (v_cells : Nat → Int32) (sz : Nat) : Met l yX7_countStopped (Cond.code yX7_countStopped cX7_countStopped 1 none :: wt) ({ frames := 2, cells := 0, slots := 0, locals := 41 } : Room) (va_Pc [.ref a_this] (PreM (dC, dI) [(cA, .int), (cZ, .boolean)] sz [(a_this, .inr (7, [.ref a_this_row])), (a_this_row, .inr (6, [.ref a_this_row_cells])), (a_this_row_cells, .inl (cA, 35, .inl v_cells))])) (PoV (dC, dI) sz [(a_this, .inr (7, [.ref a_this_row])), (a_this_row, .inr (6, [.ref a_this_row_cells])), (a_this_row_cells, .inl (cA, 35, .inl v_cells))] [(a_this, .inr (7, [.ref a_this_row])), (a_this_row, .inr (6, [.ref a_this_row_cells])), (a_this_row_cells, .inl (cA, 35, .inl ((mX7_countStopped v_cells))))]) 0 0 (va_A [(a_this, .inr (7, [.ref a_this_row])), (a_this_row, .inr (6, [.ref a_this_row_cells])), (a_this_row_cells, .inl (cA, 35, .inl v_cells))] sz) := by
  refine Met.ofW (cc := cX7_countStopped) (maxL := 1) (ret := none) (by decide) rfl ?_
  intro p e s m args below meth c s₁ B hml hv
  obtain ⟨ha, hsz, hP, hK, hD0⟩ := hv
  have hx := B.exec
  have hb := B.bytes
  have hr := B.returns
  have ht : ∀ w ∈ wt, w.before args s = true := fun w h => atoms_spec (ws := (Cond.code yX7_countStopped cX7_countStopped 1 none :: wt)) B.pre w (List.mem_cons_of_mem _ h)
  have hown : s.vm.findClass RX7 = some m.cls := findClass_of_methodNamed B.named
  have hlocks := B.notSynchronized
  subst hsz
  have hD := hD0.self (sz := s.heap.size)
  have hA : ∀ q : Nat, s.heap.size ≤ q → va_A [(a_this, .inr (7, [.ref a_this_row])), (a_this_row, .inr (6, [.ref a_this_row_cells])), (a_this_row_cells, .inl (cA, 35, .inl v_cells))] s.heap.size q := fun q h => Or.inr h
  have hS : va_S (va_A [(a_this, .inr (7, [.ref a_this_row])), (a_this_row, .inr (6, [.ref a_this_row_cells])), (a_this_row_cells, .inl (cA, 35, .inl v_cells))] s.heap.size) s.heap s.heap [] := va_S.rf
  have hl := lv_entry ([.ref a_this]) (n := 1) (Nat.le_of_ble_eq_true rfl)
  rw [show entryFrame m args 1 = _ from (congrArg (fun a => entryFrame m a 1) ha).trans (lg_entry_eq m [.ref a_this] 1)]
  generalize (lg_sl ([.ref a_this]) ++ List.replicate (1 - (lg_sl ([.ref a_this])).length) Slot.unset).toArray = ls at hl ⊢
  have hl : lv_has ls 1 [(0, .ref a_this)] := hl
  have hm : (mX7_countStopped v_cells) = (mX7_countStopped v_cells) := rfl
  refine lv_aload_n hx hb dX7_countStopped_0 rfl (lv_at hl 0 rfl) ?_
  refine va_get (D := (dC, dI)) (ci := 7) (v := .ref a_this_row) (C := RX7) (T := TX7) (N := 1) hx hb ht iX7 hown hK.1 hP 0 rfl rfl 0 (by decide) (ht _ w_1_51) (fun _ h9 => h9) rfl dX7_countStopped_1 ?_
  refine lv_bipush (v := (34 : Int32)) hx hb dX7_countStopped_4 (by decide) ?_
  refine lv_aload_n hx hb dX7_countStopped_6 rfl (lv_at hl 0 rfl) ?_
  refine pv_call (v := (mX7_stopped v_cells)) (va_runV (As := []) (rest := [.int ((34 : Int32)), .ref a_this_row]) ⟨hx, hb, hml, hown, ht⟩ (kX7_stopped l dC dI cA cZ a_this a_this_row a_this_row_cells v_cells) (cwV 0 ht (gi_V (C := RX7) w_3_136 w_2_183 w_2_184 w_1_5 (gi_code w_2_185)) rfl rfl rfl ⟨rfl, h_X7_stopped⟩ ⟨Nat.le_of_ble_eq_true rfl, Nat.le_of_ble_eq_true rfl⟩) ⟨pp_blind, va_recv hK.1 hP (ci := 7) (q0 := 0) rfl rfl, pp_use hP hK⟩ rfl rfl hl.1 rfl (lv_room (Nat.le_of_ble_eq_true rfl)) dX7_countStopped_7 ⟨Nat.zero_le _, Nat.zero_le _⟩) ?_
  refine lv_iconst (v := (1 : Int32)) hx hb dX7_countStopped_10 (by decide) ?_
  refine lv_iadd hx hb dX7_countStopped_11 ?_
  have hPc := pc_sub (wc := [(a_this_row, .inr (6, [.ref a_this_row_cells])), (a_this_row_cells, .inl (cA, 35, .inl v_cells))]) hP [1, 2] rfl
  have hDc := hD.sub (ws' := [(a_this_row, .inr (6, [.ref a_this_row_cells])), (a_this_row_cells, .inl (cA, 35, .inl v_cells))]) [1, 2] (by decide) rfl
  refine mv_callv (wc := [(a_this_row, .inr (6, [.ref a_this_row_cells])), (a_this_row_cells, .inl (cA, 35, .inl v_cells))]) (wr := [(a_this, .inr (7, [.ref a_this_row]))]) (w1 := [(a_this_row, .inr (6, [.ref a_this_row_cells])), (a_this_row_cells, .inl (cA, 35, .inl ((mX6_set 35 v_cells ((34 : Int32)) (((mX7_stopped v_cells)) + ((1 : Int32)))))))]) [1, 2] [0] hP hD hS hA rfl rfl (by decide) (by decide) (va_runV (As := [.int ((34 : Int32)), .int (((mX7_stopped v_cells)) + ((1 : Int32)))]) (rest := []) ⟨hx, hb, hml, hown, ht⟩ (kX6_set l dC dI cA cZ a_this_row a_this_row_cells 35 v_cells ((34 : Int32)) (((mX7_stopped v_cells)) + ((1 : Int32))) (by decide) s.heap.size) (cwV 2 ht (gi_V (C := RX6) w_2_87 w_2_25 w_2_26 w_1_3 (gi_code w_2_27)) rfl rfl rfl ⟨rfl, h_X6_set⟩ ⟨Nat.le_of_ble_eq_true rfl, Nat.le_of_ble_eq_true rfl⟩) ⟨pm_blind, va_recv hK.1 hP (ci := 6) (q0 := 1) rfl rfl, pm_use hPc hK hDc⟩ rfl rfl hl.1 rfl (lv_room (Nat.le_of_ble_eq_true rfl)) dX7_countStopped_12 ⟨Nat.zero_le _, Nat.zero_le _⟩) (fun H locs hP hD hS => ?_)
  have hP : va_P (dC, dI) vwCl [(a_this, .inr (7, [.ref a_this_row])), (a_this_row, .inr (6, [.ref a_this_row_cells])), (a_this_row_cells, .inl (cA, 35, .inl ((mX6_set 35 v_cells ((34 : Int32)) (((mX7_stopped v_cells)) + ((1 : Int32)))))))] H := hP
  have hD : va_D (va_A [(a_this, .inr (7, [.ref a_this_row])), (a_this_row, .inr (6, [.ref a_this_row_cells])), (a_this_row_cells, .inl (cA, 35, .inl v_cells))] s.heap.size) [(a_this, .inr (7, [.ref a_this_row])), (a_this_row, .inr (6, [.ref a_this_row_cells])), (a_this_row_cells, .inl (cA, 35, .inl ((mX6_set 35 v_cells ((34 : Int32)) (((mX7_stopped v_cells)) + ((1 : Int32)))))))] := hD
  have hP9 := pc_sub (wc := [(a_this, .inr (7, [.ref a_this_row])), (a_this_row, .inr (6, [.ref a_this_row_cells])), (a_this_row_cells, .inl (cA, 35, .inl ((mX6_set 35 v_cells ((34 : Int32)) (((mX7_stopped v_cells)) + ((1 : Int32)))))))]) hP [0, 1, 2] rfl
  have hD9 := hD.sub (ws' := [(a_this, .inr (7, [.ref a_this_row])), (a_this_row, .inr (6, [.ref a_this_row_cells])), (a_this_row_cells, .inl (cA, 35, .inl ((mX6_set 35 v_cells ((34 : Int32)) (((mX7_stopped v_cells)) + ((1 : Int32)))))))]) [0, 1, 2] (by decide) rfl
  exact W.vret hx hb hr (fun t ht9 _ => by rw [← hm]; exact ⟨⟨(), rfl, trivial, by rw [ht9]; exact hP9, hD9⟩, hS.F ht9⟩) hS.2.2 dX7_countStopped_15
theorem dX7_clear_0 : decode cX7_clear 0 = .ok (.aload_n 0, 1) := by decide +kernel
theorem dX7_clear_1 : decode cX7_clear 1 = .ok (.getfield 16, 3) := by decide +kernel
theorem dX7_clear_4 : decode cX7_clear 4 = .ok (.invokevirtual 56, 3) := by decide +kernel
theorem dX7_clear_7 : decode cX7_clear 7 = .ok (.return_, 1) := by decide +kernel
theorem h_X7_clear : yX7_clear.cls ≠ "java/lang/invoke/MethodHandle" ∧ yX7_clear.cls ≠ "java/lang/invoke/VarHandle" ∧ (parseMethodDescriptor yX7_clear.desc).map (fun d => d.parameters.length) = some 0 := by decide +kernel
def mX7_clear (v_cells : Nat → Int32) : (Nat → Int32) := (mX6_clear 35 v_cells)
set_option maxHeartbeats 4000000 in
set_option maxRecDepth 100000 in
theorem kX7_clear (l : Launch) (dC : Nat → ClassId) (dI : Nat → Nat → Nat) (cA cZ : ClassId) (a_this a_this_row a_this_row_cells : Nat) (v_cells : Nat → Int32) (sz : Nat) : Met l yX7_clear (Cond.code yX7_clear cX7_clear 1 none :: wt) ({ frames := 2, cells := 0, slots := 0, locals := 43 } : Room) (va_Pc [.ref a_this] (PreM (dC, dI) [(cA, .int), (cZ, .boolean)] sz [(a_this, .inr (7, [.ref a_this_row])), (a_this_row, .inr (6, [.ref a_this_row_cells])), (a_this_row_cells, .inl (cA, 35, .inl v_cells))])) (PoV (dC, dI) sz [(a_this, .inr (7, [.ref a_this_row])), (a_this_row, .inr (6, [.ref a_this_row_cells])), (a_this_row_cells, .inl (cA, 35, .inl v_cells))] [(a_this, .inr (7, [.ref a_this_row])), (a_this_row, .inr (6, [.ref a_this_row_cells])), (a_this_row_cells, .inl (cA, 35, .inl ((mX7_clear v_cells))))]) 0 0 (va_A [(a_this, .inr (7, [.ref a_this_row])), (a_this_row, .inr (6, [.ref a_this_row_cells])), (a_this_row_cells, .inl (cA, 35, .inl v_cells))] sz) := by
  refine Met.ofW (cc := cX7_clear) (maxL := 1) (ret := none) (by decide) rfl ?_
  intro p e s m args below meth c s₁ B hml hv
  obtain ⟨ha, hsz, hP, hK, hD0⟩ := hv
  have hx := B.exec
  have hb := B.bytes
  have hr := B.returns
  have ht : ∀ w ∈ wt, w.before args s = true := fun w h => atoms_spec (ws := (Cond.code yX7_clear cX7_clear 1 none :: wt)) B.pre w (List.mem_cons_of_mem _ h)
  have hown : s.vm.findClass RX7 = some m.cls := findClass_of_methodNamed B.named
  have hlocks := B.notSynchronized
  subst hsz
  have hD := hD0.self (sz := s.heap.size)
  have hA : ∀ q : Nat, s.heap.size ≤ q → va_A [(a_this, .inr (7, [.ref a_this_row])), (a_this_row, .inr (6, [.ref a_this_row_cells])), (a_this_row_cells, .inl (cA, 35, .inl v_cells))] s.heap.size q := fun q h => Or.inr h
  have hS : va_S (va_A [(a_this, .inr (7, [.ref a_this_row])), (a_this_row, .inr (6, [.ref a_this_row_cells])), (a_this_row_cells, .inl (cA, 35, .inl v_cells))] s.heap.size) s.heap s.heap [] := va_S.rf
  have hl := lv_entry ([.ref a_this]) (n := 1) (Nat.le_of_ble_eq_true rfl)
  rw [show entryFrame m args 1 = _ from (congrArg (fun a => entryFrame m a 1) ha).trans (lg_entry_eq m [.ref a_this] 1)]
  generalize (lg_sl ([.ref a_this]) ++ List.replicate (1 - (lg_sl ([.ref a_this])).length) Slot.unset).toArray = ls at hl ⊢
  have hl : lv_has ls 1 [(0, .ref a_this)] := hl
  have hm : (mX7_clear v_cells) = (mX7_clear v_cells) := rfl
  refine lv_aload_n hx hb dX7_clear_0 rfl (lv_at hl 0 rfl) ?_
  refine va_get (D := (dC, dI)) (ci := 7) (v := .ref a_this_row) (C := RX7) (T := TX7) (N := 1) hx hb ht iX7 hown hK.1 hP 0 rfl rfl 0 (by decide) (ht _ w_1_51) (fun _ h9 => h9) rfl dX7_clear_1 ?_
  have hPc := pc_sub (wc := [(a_this_row, .inr (6, [.ref a_this_row_cells])), (a_this_row_cells, .inl (cA, 35, .inl v_cells))]) hP [1, 2] rfl
  have hDc := hD.sub (ws' := [(a_this_row, .inr (6, [.ref a_this_row_cells])), (a_this_row_cells, .inl (cA, 35, .inl v_cells))]) [1, 2] (by decide) rfl
  refine mv_callv (wc := [(a_this_row, .inr (6, [.ref a_this_row_cells])), (a_this_row_cells, .inl (cA, 35, .inl v_cells))]) (wr := [(a_this, .inr (7, [.ref a_this_row]))]) (w1 := [(a_this_row, .inr (6, [.ref a_this_row_cells])), (a_this_row_cells, .inl (cA, 35, .inl ((mX6_clear 35 v_cells))))]) [1, 2] [0] hP hD hS hA rfl rfl (by decide) (by decide) (va_runV (As := []) (rest := []) ⟨hx, hb, hml, hown, ht⟩ (kX6_clear l dC dI cA cZ a_this_row a_this_row_cells 35 v_cells (by decide) s.heap.size) (cwV 0 ht (gi_V (C := RX6) w_2_44 w_2_45 w_2_46 w_1_3 (gi_code w_2_47)) rfl rfl rfl ⟨rfl, h_X6_clear⟩ ⟨Nat.le_of_ble_eq_true rfl, Nat.le_of_ble_eq_true rfl⟩) ⟨pm_blind, va_recv hK.1 hP (ci := 6) (q0 := 1) rfl rfl, pm_use hPc hK hDc⟩ rfl rfl hl.1 rfl (lv_room (Nat.le_of_ble_eq_true rfl)) dX7_clear_4 ⟨Nat.zero_le _, Nat.zero_le _⟩) (fun H locs hP hD hS => ?_)
  have hP : va_P (dC, dI) vwCl [(a_this, .inr (7, [.ref a_this_row])), (a_this_row, .inr (6, [.ref a_this_row_cells])), (a_this_row_cells, .inl (cA, 35, .inl ((mX6_clear 35 v_cells))))] H := hP
  have hD : va_D (va_A [(a_this, .inr (7, [.ref a_this_row])), (a_this_row, .inr (6, [.ref a_this_row_cells])), (a_this_row_cells, .inl (cA, 35, .inl v_cells))] s.heap.size) [(a_this, .inr (7, [.ref a_this_row])), (a_this_row, .inr (6, [.ref a_this_row_cells])), (a_this_row_cells, .inl (cA, 35, .inl ((mX6_clear 35 v_cells))))] := hD
  have hP9 := pc_sub (wc := [(a_this, .inr (7, [.ref a_this_row])), (a_this_row, .inr (6, [.ref a_this_row_cells])), (a_this_row_cells, .inl (cA, 35, .inl ((mX6_clear 35 v_cells))))]) hP [0, 1, 2] rfl
  have hD9 := hD.sub (ws' := [(a_this, .inr (7, [.ref a_this_row])), (a_this_row, .inr (6, [.ref a_this_row_cells])), (a_this_row_cells, .inl (cA, 35, .inl ((mX6_clear 35 v_cells))))]) [0, 1, 2] (by decide) rfl
  exact W.vret hx hb hr (fun t ht9 _ => by rw [← hm]; exact ⟨⟨(), rfl, trivial, by rw [ht9]; exact hP9, hD9⟩, hS.F ht9⟩) hS.2.2 dX7_clear_7
theorem dX7_copyFrom_0 : decode cX7_copyFrom 0 = .ok (.aload_n 0, 1) := by decide +kernel
theorem dX7_copyFrom_1 : decode cX7_copyFrom 1 = .ok (.getfield 16, 3) := by decide +kernel
theorem dX7_copyFrom_4 : decode cX7_copyFrom 4 = .ok (.aload_n 1, 1) := by decide +kernel
theorem dX7_copyFrom_5 : decode cX7_copyFrom 5 = .ok (.getfield 16, 3) := by decide +kernel
theorem dX7_copyFrom_8 : decode cX7_copyFrom 8 = .ok (.invokevirtual 59, 3) := by decide +kernel
theorem dX7_copyFrom_11 : decode cX7_copyFrom 11 = .ok (.return_, 1) := by decide +kernel
theorem h_X7_copyFrom : yX7_copyFrom.cls ≠ "java/lang/invoke/MethodHandle" ∧ yX7_copyFrom.cls ≠ "java/lang/invoke/VarHandle" ∧ (parseMethodDescriptor yX7_copyFrom.desc).map (fun d => d.parameters.length) = some 1 := by decide +kernel
def mX7_copyFrom (v_p1 : Nat → Int32) (v_cells : Nat → Int32) : (Nat → Int32) := (mX6_copyFrom 35 35 v_p1 v_cells)
set_option maxHeartbeats 4000000 in
set_option maxRecDepth 100000 in
theorem kX7_copyFrom (l : Launch) (dC : Nat → ClassId) (dI : Nat → Nat → Nat) (cA cZ : ClassId) (a_this a_p1 a_p1_row a_this_row a_p1_row_cells a_this_row_cells : Nat) (v_p1 : Nat → Int32) (v_cells : Nat → Int32) (sz : Nat) : Met l yX7_copyFrom (Cond.code yX7_copyFrom cX7_copyFrom 2 none :: wt) ({ frames := 3, cells := 0, slots := 0, locals := 68 } : Room) (va_Pc [.ref a_this, .ref a_p1] (PreM (dC, dI) [(cA, .int), (cZ, .boolean)] sz [(a_p1, .inr (7, [.ref a_p1_row])), (a_this, .inr (7, [.ref a_this_row])), (a_p1_row, .inr (6, [.ref a_p1_row_cells])), (a_this_row, .inr (6, [.ref a_this_row_cells])), (a_p1_row_cells, .inl (cA, 35, .inl v_p1)), (a_this_row_cells, .inl (cA, 35, .inl v_cells))])) (PoV (dC, dI) sz [(a_p1, .inr (7, [.ref a_p1_row])), (a_this, .inr (7, [.ref a_this_row])), (a_p1_row, .inr (6, [.ref a_p1_row_cells])), (a_this_row, .inr (6, [.ref a_this_row_cells])), (a_p1_row_cells, .inl (cA, 35, .inl v_p1)), (a_this_row_cells, .inl (cA, 35, .inl v_cells))] [(a_p1, .inr (7, [.ref a_p1_row])), (a_this, .inr (7, [.ref a_this_row])), (a_p1_row, .inr (6, [.ref a_p1_row_cells])), (a_this_row, .inr (6, [.ref a_this_row_cells])), (a_p1_row_cells, .inl (cA, 35, .inl v_p1)), (a_this_row_cells, .inl (cA, 35, .inl ((mX7_copyFrom v_p1 v_cells))))]) 0 0 (va_A [(a_p1, .inr (7, [.ref a_p1_row])), (a_this, .inr (7, [.ref a_this_row])), (a_p1_row, .inr (6, [.ref a_p1_row_cells])), (a_this_row, .inr (6, [.ref a_this_row_cells])), (a_p1_row_cells, .inl (cA, 35, .inl v_p1)), (a_this_row_cells, .inl (cA, 35, .inl v_cells))] sz) := by
  refine Met.ofW (cc := cX7_copyFrom) (maxL := 2) (ret := none) (by decide) rfl ?_
  intro p e s m args below meth c s₁ B hml hv
  obtain ⟨ha, hsz, hP, hK, hD0⟩ := hv
  have hx := B.exec
  have hb := B.bytes
  have hr := B.returns
  have ht : ∀ w ∈ wt, w.before args s = true := fun w h => atoms_spec (ws := (Cond.code yX7_copyFrom cX7_copyFrom 2 none :: wt)) B.pre w (List.mem_cons_of_mem _ h)
  have hown : s.vm.findClass RX7 = some m.cls := findClass_of_methodNamed B.named
  have hlocks := B.notSynchronized
  subst hsz
  have hD := hD0.self (sz := s.heap.size)
  have hA : ∀ q : Nat, s.heap.size ≤ q → va_A [(a_p1, .inr (7, [.ref a_p1_row])), (a_this, .inr (7, [.ref a_this_row])), (a_p1_row, .inr (6, [.ref a_p1_row_cells])), (a_this_row, .inr (6, [.ref a_this_row_cells])), (a_p1_row_cells, .inl (cA, 35, .inl v_p1)), (a_this_row_cells, .inl (cA, 35, .inl v_cells))] s.heap.size q := fun q h => Or.inr h
  have hS : va_S (va_A [(a_p1, .inr (7, [.ref a_p1_row])), (a_this, .inr (7, [.ref a_this_row])), (a_p1_row, .inr (6, [.ref a_p1_row_cells])), (a_this_row, .inr (6, [.ref a_this_row_cells])), (a_p1_row_cells, .inl (cA, 35, .inl v_p1)), (a_this_row_cells, .inl (cA, 35, .inl v_cells))] s.heap.size) s.heap s.heap [] := va_S.rf
  have hl := lv_entry ([.ref a_this, .ref a_p1]) (n := 2) (Nat.le_of_ble_eq_true rfl)
  rw [show entryFrame m args 2 = _ from (congrArg (fun a => entryFrame m a 2) ha).trans (lg_entry_eq m [.ref a_this, .ref a_p1] 2)]
  generalize (lg_sl ([.ref a_this, .ref a_p1]) ++ List.replicate (2 - (lg_sl ([.ref a_this, .ref a_p1])).length) Slot.unset).toArray = ls at hl ⊢
  have hl : lv_has ls 2 [(0, .ref a_this), (1, .ref a_p1)] := hl
  have hm : (mX7_copyFrom v_p1 v_cells) = (mX7_copyFrom v_p1 v_cells) := rfl
  refine lv_aload_n hx hb dX7_copyFrom_0 rfl (lv_at hl 0 rfl) ?_
  refine va_get (D := (dC, dI)) (ci := 7) (v := .ref a_this_row) (C := RX7) (T := TX7) (N := 1) hx hb ht iX7 hown hK.1 hP 1 rfl rfl 0 (by decide) (ht _ w_1_51) (fun _ h9 => h9) rfl dX7_copyFrom_1 ?_
  refine lv_aload_n hx hb dX7_copyFrom_4 rfl (lv_at hl 1 rfl) ?_
  refine va_get (D := (dC, dI)) (ci := 7) (v := .ref a_p1_row) (C := RX7) (T := TX7) (N := 1) hx hb ht iX7 hown hK.1 hP 0 rfl rfl 0 (by decide) (ht _ w_1_51) (fun _ h9 => h9) rfl dX7_copyFrom_5 ?_
  have hPc := pc_sub (wc := [(a_p1_row, .inr (6, [.ref a_p1_row_cells])), (a_this_row, .inr (6, [.ref a_this_row_cells])), (a_p1_row_cells, .inl (cA, 35, .inl v_p1)), (a_this_row_cells, .inl (cA, 35, .inl v_cells))]) hP [2, 3, 4, 5] rfl
  have hDc := hD.sub (ws' := [(a_p1_row, .inr (6, [.ref a_p1_row_cells])), (a_this_row, .inr (6, [.ref a_this_row_cells])), (a_p1_row_cells, .inl (cA, 35, .inl v_p1)), (a_this_row_cells, .inl (cA, 35, .inl v_cells))]) [2, 3, 4, 5] (by decide) rfl
  refine mv_callv (wc := [(a_p1_row, .inr (6, [.ref a_p1_row_cells])), (a_this_row, .inr (6, [.ref a_this_row_cells])), (a_p1_row_cells, .inl (cA, 35, .inl v_p1)), (a_this_row_cells, .inl (cA, 35, .inl v_cells))]) (wr := [(a_p1, .inr (7, [.ref a_p1_row])), (a_this, .inr (7, [.ref a_this_row]))]) (w1 := [(a_p1_row, .inr (6, [.ref a_p1_row_cells])), (a_this_row, .inr (6, [.ref a_this_row_cells])), (a_p1_row_cells, .inl (cA, 35, .inl v_p1)), (a_this_row_cells, .inl (cA, 35, .inl ((mX6_copyFrom 35 35 v_p1 v_cells))))]) [2, 3, 4, 5] [0, 1] hP hD hS hA rfl rfl (by decide) (by decide) (va_runV (As := [.ref a_p1_row]) (rest := []) ⟨hx, hb, hml, hown, ht⟩ (kX6_copyFrom l dC dI cA cZ a_this_row a_p1_row a_p1_row_cells a_this_row_cells 35 35 v_p1 v_cells (by decide) (by decide) s.heap.size) (cwV 1 ht (gi_V (C := RX6) w_2_151 w_2_138 w_2_139 w_1_3 (gi_code w_2_140)) rfl rfl rfl ⟨rfl, h_X6_copyFrom⟩ ⟨Nat.le_of_ble_eq_true rfl, Nat.le_of_ble_eq_true rfl⟩) ⟨pm_blind, va_recv hK.1 hP (ci := 6) (q0 := 3) rfl rfl, pm_use hPc hK hDc⟩ rfl rfl hl.1 rfl (lv_room (Nat.le_of_ble_eq_true rfl)) dX7_copyFrom_8 ⟨Nat.zero_le _, Nat.zero_le _⟩) (fun H locs hP hD hS => ?_)
  have hP : va_P (dC, dI) vwCl [(a_p1, .inr (7, [.ref a_p1_row])), (a_this, .inr (7, [.ref a_this_row])), (a_p1_row, .inr (6, [.ref a_p1_row_cells])), (a_this_row, .inr (6, [.ref a_this_row_cells])), (a_p1_row_cells, .inl (cA, 35, .inl v_p1)), (a_this_row_cells, .inl (cA, 35, .inl ((mX6_copyFrom 35 35 v_p1 v_cells))))] H := hP
  have hD : va_D (va_A [(a_p1, .inr (7, [.ref a_p1_row])), (a_this, .inr (7, [.ref a_this_row])), (a_p1_row, .inr (6, [.ref a_p1_row_cells])), (a_this_row, .inr (6, [.ref a_this_row_cells])), (a_p1_row_cells, .inl (cA, 35, .inl v_p1)), (a_this_row_cells, .inl (cA, 35, .inl v_cells))] s.heap.size) [(a_p1, .inr (7, [.ref a_p1_row])), (a_this, .inr (7, [.ref a_this_row])), (a_p1_row, .inr (6, [.ref a_p1_row_cells])), (a_this_row, .inr (6, [.ref a_this_row_cells])), (a_p1_row_cells, .inl (cA, 35, .inl v_p1)), (a_this_row_cells, .inl (cA, 35, .inl ((mX6_copyFrom 35 35 v_p1 v_cells))))] := hD
  have hP9 := pc_sub (wc := [(a_p1, .inr (7, [.ref a_p1_row])), (a_this, .inr (7, [.ref a_this_row])), (a_p1_row, .inr (6, [.ref a_p1_row_cells])), (a_this_row, .inr (6, [.ref a_this_row_cells])), (a_p1_row_cells, .inl (cA, 35, .inl v_p1)), (a_this_row_cells, .inl (cA, 35, .inl ((mX6_copyFrom 35 35 v_p1 v_cells))))]) hP [0, 1, 2, 3, 4, 5] rfl
  have hD9 := hD.sub (ws' := [(a_p1, .inr (7, [.ref a_p1_row])), (a_this, .inr (7, [.ref a_this_row])), (a_p1_row, .inr (6, [.ref a_p1_row_cells])), (a_this_row, .inr (6, [.ref a_this_row_cells])), (a_p1_row_cells, .inl (cA, 35, .inl v_p1)), (a_this_row_cells, .inl (cA, 35, .inl ((mX6_copyFrom 35 35 v_p1 v_cells))))]) [0, 1, 2, 3, 4, 5] (by decide) rfl
  exact W.vret hx hb hr (fun t ht9 _ => by rw [← hm]; exact ⟨⟨(), rfl, trivial, by rw [ht9]; exact hP9, hD9⟩, hS.F ht9⟩) hS.2.2 dX7_copyFrom_11
theorem dX7_writeTo_0 : decode cX7_writeTo 0 = .ok (.aload_n 1, 1) := by decide +kernel
theorem dX7_writeTo_1 : decode cX7_writeTo 1 = .ok (.iload_n 2, 1) := by decide +kernel
theorem dX7_writeTo_2 : decode cX7_writeTo 2 = .ok (.bipush 35, 2) := by decide +kernel
theorem dX7_writeTo_4 : decode cX7_writeTo 4 = .ok (.imul, 1) := by decide +kernel
theorem dX7_writeTo_5 : decode cX7_writeTo 5 = .ok (.aload_n 0, 1) := by decide +kernel
theorem dX7_writeTo_6 : decode cX7_writeTo 6 = .ok (.getfield 16, 3) := by decide +kernel
theorem dX7_writeTo_9 : decode cX7_writeTo 9 = .ok (.iconst 0, 1) := by decide +kernel
theorem dX7_writeTo_10 : decode cX7_writeTo 10 = .ok (.bipush 35, 2) := by decide +kernel
theorem dX7_writeTo_12 : decode cX7_writeTo 12 = .ok (.invokevirtual 63, 3) := by decide +kernel
theorem dX7_writeTo_15 : decode cX7_writeTo 15 = .ok (.return_, 1) := by decide +kernel
theorem h_X7_writeTo : yX7_writeTo.cls ≠ "java/lang/invoke/MethodHandle" ∧ yX7_writeTo.cls ≠ "java/lang/invoke/VarHandle" ∧ (parseMethodDescriptor yX7_writeTo.desc).map (fun d => d.parameters.length) = some 2 := by decide +kernel
def mX7_writeTo (n_p1_cells : Nat) (v_p1 : Nat → Int32) (v_cells : Nat → Int32) (x2 : Int32) : (Nat → Int32) := (mX6_copyCells 35 n_p1_cells v_cells v_p1 (x2 * ((35 : Int32))) ((0 : Int32)) ((35 : Int32)))
set_option maxHeartbeats 4000000 in
set_option maxRecDepth 100000 in
theorem kX7_writeTo (l : Launch) (dC : Nat → ClassId) (dI : Nat → Nat → Nat) (cA cZ : ClassId) (a_this a_p1 a_p1_cells a_this_row a_this_row_cells : Nat) (n_p1_cells : Nat) (v_p1 : Nat → Int32) (v_cells : Nat → Int32) (x2 : Int32) (hn_p1_cells : n_p1_cells < 2147483648) (sz : Nat) : Met l yX7_writeTo (Cond.code yX7_writeTo cX7_writeTo 3 none :: wt) ({ frames := 2, cells := 0, slots := 0, locals := 47 } : Room) (va_Pc [.ref a_this, .ref a_p1, .int x2] (PreM (dC, dI) [(cA, .int), (cZ, .boolean)] sz [(a_p1, .inr (6, [.ref a_p1_cells])), (a_this, .inr (7, [.ref a_this_row])), (a_p1_cells, .inl (cA, n_p1_cells, .inl v_p1)), (a_this_row, .inr (6, [.ref a_this_row_cells])), (a_this_row_cells, .inl (cA, 35, .inl v_cells))])) (PoV (dC, dI) sz [(a_p1, .inr (6, [.ref a_p1_cells])), (a_this, .inr (7, [.ref a_this_row])), (a_p1_cells, .inl (cA, n_p1_cells, .inl v_p1)), (a_this_row, .inr (6, [.ref a_this_row_cells])), (a_this_row_cells, .inl (cA, 35, .inl v_cells))] [(a_p1, .inr (6, [.ref a_p1_cells])), (a_this, .inr (7, [.ref a_this_row])), (a_p1_cells, .inl (cA, n_p1_cells, .inl ((mX7_writeTo n_p1_cells v_p1 v_cells x2)))), (a_this_row, .inr (6, [.ref a_this_row_cells])), (a_this_row_cells, .inl (cA, 35, .inl v_cells))]) 0 0 (va_A [(a_p1, .inr (6, [.ref a_p1_cells])), (a_this, .inr (7, [.ref a_this_row])), (a_p1_cells, .inl (cA, n_p1_cells, .inl v_p1)), (a_this_row, .inr (6, [.ref a_this_row_cells])), (a_this_row_cells, .inl (cA, 35, .inl v_cells))] sz) := by
  refine Met.ofW (cc := cX7_writeTo) (maxL := 3) (ret := none) (by decide) rfl ?_
  intro p e s m args below meth c s₁ B hml hv
  obtain ⟨ha, hsz, hP, hK, hD0⟩ := hv
  have hx := B.exec
  have hb := B.bytes
  have hr := B.returns
  have ht : ∀ w ∈ wt, w.before args s = true := fun w h => atoms_spec (ws := (Cond.code yX7_writeTo cX7_writeTo 3 none :: wt)) B.pre w (List.mem_cons_of_mem _ h)
  have hown : s.vm.findClass RX7 = some m.cls := findClass_of_methodNamed B.named
  have hlocks := B.notSynchronized
  subst hsz
  have hD := hD0.self (sz := s.heap.size)
  have hA : ∀ q : Nat, s.heap.size ≤ q → va_A [(a_p1, .inr (6, [.ref a_p1_cells])), (a_this, .inr (7, [.ref a_this_row])), (a_p1_cells, .inl (cA, n_p1_cells, .inl v_p1)), (a_this_row, .inr (6, [.ref a_this_row_cells])), (a_this_row_cells, .inl (cA, 35, .inl v_cells))] s.heap.size q := fun q h => Or.inr h
  have hS : va_S (va_A [(a_p1, .inr (6, [.ref a_p1_cells])), (a_this, .inr (7, [.ref a_this_row])), (a_p1_cells, .inl (cA, n_p1_cells, .inl v_p1)), (a_this_row, .inr (6, [.ref a_this_row_cells])), (a_this_row_cells, .inl (cA, 35, .inl v_cells))] s.heap.size) s.heap s.heap [] := va_S.rf
  have hl := lv_entry ([.ref a_this, .ref a_p1, .int x2]) (n := 3) (Nat.le_of_ble_eq_true rfl)
  rw [show entryFrame m args 3 = _ from (congrArg (fun a => entryFrame m a 3) ha).trans (lg_entry_eq m [.ref a_this, .ref a_p1, .int x2] 3)]
  generalize (lg_sl ([.ref a_this, .ref a_p1, .int x2]) ++ List.replicate (3 - (lg_sl ([.ref a_this, .ref a_p1, .int x2])).length) Slot.unset).toArray = ls at hl ⊢
  have hl : lv_has ls 3 [(0, .ref a_this), (1, .ref a_p1), (2, .int x2)] := hl
  have hm : (mX7_writeTo n_p1_cells v_p1 v_cells x2) = (mX7_writeTo n_p1_cells v_p1 v_cells x2) := rfl
  refine lv_aload_n hx hb dX7_writeTo_0 rfl (lv_at hl 1 rfl) ?_
  refine lv_iload_n hx hb dX7_writeTo_1 rfl (lv_at hl 2 rfl) ?_
  refine lv_bipush (v := (35 : Int32)) hx hb dX7_writeTo_2 (by decide) ?_
  refine lv_imul hx hb dX7_writeTo_4 ?_
  refine lv_aload_n hx hb dX7_writeTo_5 rfl (lv_at hl 0 rfl) ?_
  refine va_get (D := (dC, dI)) (ci := 7) (v := .ref a_this_row) (C := RX7) (T := TX7) (N := 1) hx hb ht iX7 hown hK.1 hP 1 rfl rfl 0 (by decide) (ht _ w_1_51) (fun _ h9 => h9) rfl dX7_writeTo_6 ?_
  refine lv_iconst (v := (0 : Int32)) hx hb dX7_writeTo_9 (by decide) ?_
  refine lv_bipush (v := (35 : Int32)) hx hb dX7_writeTo_10 (by decide) ?_
  have hPc := pc_sub (wc := [(a_this_row, .inr (6, [.ref a_this_row_cells])), (a_p1, .inr (6, [.ref a_p1_cells])), (a_this_row_cells, .inl (cA, 35, .inl v_cells)), (a_p1_cells, .inl (cA, n_p1_cells, .inl v_p1))]) hP [3, 0, 4, 2] rfl
  have hDc := hD.sub (ws' := [(a_this_row, .inr (6, [.ref a_this_row_cells])), (a_p1, .inr (6, [.ref a_p1_cells])), (a_this_row_cells, .inl (cA, 35, .inl v_cells)), (a_p1_cells, .inl (cA, n_p1_cells, .inl v_p1))]) [3, 0, 4, 2] (by decide) rfl
  refine mv_callv (wc := [(a_this_row, .inr (6, [.ref a_this_row_cells])), (a_p1, .inr (6, [.ref a_p1_cells])), (a_this_row_cells, .inl (cA, 35, .inl v_cells)), (a_p1_cells, .inl (cA, n_p1_cells, .inl v_p1))]) (wr := [(a_this, .inr (7, [.ref a_this_row]))]) (w1 := [(a_this_row, .inr (6, [.ref a_this_row_cells])), (a_p1, .inr (6, [.ref a_p1_cells])), (a_this_row_cells, .inl (cA, 35, .inl v_cells)), (a_p1_cells, .inl (cA, n_p1_cells, .inl ((mX6_copyCells 35 n_p1_cells v_cells v_p1 (x2 * ((35 : Int32))) ((0 : Int32)) ((35 : Int32))))))]) [3, 0, 4, 2] [1] hP hD hS hA rfl rfl (by decide) (by decide) (va_runV (As := [.int (x2 * ((35 : Int32))), .ref a_this_row, .int ((0 : Int32)), .int ((35 : Int32))]) (rest := []) ⟨hx, hb, hml, hown, ht⟩ (kX6_copyCells l dC dI cA cZ a_p1 a_this_row a_this_row_cells a_p1_cells 35 n_p1_cells v_cells v_p1 (x2 * ((35 : Int32))) ((0 : Int32)) ((35 : Int32)) (by decide) (by omega) s.heap.size) (cwV 4 ht (gi_V (C := RX6) w_3_86 w_2_142 w_2_143 w_1_3 (gi_code w_2_144)) rfl rfl rfl ⟨rfl, h_X6_copyCells⟩ ⟨Nat.le_of_ble_eq_true rfl, Nat.le_of_ble_eq_true rfl⟩) ⟨pm_blind, va_recv hK.1 hP (ci := 6) (q0 := 0) rfl rfl, pm_use hPc hK hDc⟩ rfl rfl hl.1 rfl (lv_room (Nat.le_of_ble_eq_true rfl)) dX7_writeTo_12 ⟨Nat.zero_le _, Nat.zero_le _⟩) (fun H locs hP hD hS => ?_)
  have hP : va_P (dC, dI) vwCl [(a_this, .inr (7, [.ref a_this_row])), (a_this_row, .inr (6, [.ref a_this_row_cells])), (a_p1, .inr (6, [.ref a_p1_cells])), (a_this_row_cells, .inl (cA, 35, .inl v_cells)), (a_p1_cells, .inl (cA, n_p1_cells, .inl ((mX6_copyCells 35 n_p1_cells v_cells v_p1 (x2 * ((35 : Int32))) ((0 : Int32)) ((35 : Int32))))))] H := hP
  have hD : va_D (va_A [(a_p1, .inr (6, [.ref a_p1_cells])), (a_this, .inr (7, [.ref a_this_row])), (a_p1_cells, .inl (cA, n_p1_cells, .inl v_p1)), (a_this_row, .inr (6, [.ref a_this_row_cells])), (a_this_row_cells, .inl (cA, 35, .inl v_cells))] s.heap.size) [(a_this, .inr (7, [.ref a_this_row])), (a_this_row, .inr (6, [.ref a_this_row_cells])), (a_p1, .inr (6, [.ref a_p1_cells])), (a_this_row_cells, .inl (cA, 35, .inl v_cells)), (a_p1_cells, .inl (cA, n_p1_cells, .inl ((mX6_copyCells 35 n_p1_cells v_cells v_p1 (x2 * ((35 : Int32))) ((0 : Int32)) ((35 : Int32))))))] := hD
  have hP9 := pc_sub (wc := [(a_p1, .inr (6, [.ref a_p1_cells])), (a_this, .inr (7, [.ref a_this_row])), (a_p1_cells, .inl (cA, n_p1_cells, .inl ((mX6_copyCells 35 n_p1_cells v_cells v_p1 (x2 * ((35 : Int32))) ((0 : Int32)) ((35 : Int32)))))), (a_this_row, .inr (6, [.ref a_this_row_cells])), (a_this_row_cells, .inl (cA, 35, .inl v_cells))]) hP [2, 0, 4, 1, 3] rfl
  have hD9 := hD.sub (ws' := [(a_p1, .inr (6, [.ref a_p1_cells])), (a_this, .inr (7, [.ref a_this_row])), (a_p1_cells, .inl (cA, n_p1_cells, .inl ((mX6_copyCells 35 n_p1_cells v_cells v_p1 (x2 * ((35 : Int32))) ((0 : Int32)) ((35 : Int32)))))), (a_this_row, .inr (6, [.ref a_this_row_cells])), (a_this_row_cells, .inl (cA, 35, .inl v_cells))]) [2, 0, 4, 1, 3] (by decide) rfl
  exact W.vret hx hb hr (fun t ht9 _ => by rw [← hm]; exact ⟨⟨(), rfl, trivial, by rw [ht9]; exact hP9, hD9⟩, hS.F ht9⟩) hS.2.2 dX7_writeTo_15
theorem dX7_readFrom_0 : decode cX7_readFrom 0 = .ok (.aload_n 0, 1) := by decide +kernel
theorem dX7_readFrom_1 : decode cX7_readFrom 1 = .ok (.getfield 16, 3) := by decide +kernel
theorem dX7_readFrom_4 : decode cX7_readFrom 4 = .ok (.iconst 0, 1) := by decide +kernel
theorem dX7_readFrom_5 : decode cX7_readFrom 5 = .ok (.aload_n 1, 1) := by decide +kernel
theorem dX7_readFrom_6 : decode cX7_readFrom 6 = .ok (.iload_n 2, 1) := by decide +kernel
theorem dX7_readFrom_7 : decode cX7_readFrom 7 = .ok (.bipush 35, 2) := by decide +kernel
theorem dX7_readFrom_9 : decode cX7_readFrom 9 = .ok (.imul, 1) := by decide +kernel
theorem dX7_readFrom_10 : decode cX7_readFrom 10 = .ok (.bipush 35, 2) := by decide +kernel
theorem dX7_readFrom_12 : decode cX7_readFrom 12 = .ok (.invokevirtual 63, 3) := by decide +kernel
theorem dX7_readFrom_15 : decode cX7_readFrom 15 = .ok (.return_, 1) := by decide +kernel
theorem h_X7_readFrom : yX7_readFrom.cls ≠ "java/lang/invoke/MethodHandle" ∧ yX7_readFrom.cls ≠ "java/lang/invoke/VarHandle" ∧ (parseMethodDescriptor yX7_readFrom.desc).map (fun d => d.parameters.length) = some 2 := by decide +kernel
def mX7_readFrom (n_p1_cells : Nat) (v_p1 : Nat → Int32) (v_cells : Nat → Int32) (x2 : Int32) : (Nat → Int32) := (mX6_copyCells n_p1_cells 35 v_p1 v_cells ((0 : Int32)) (x2 * ((35 : Int32))) ((35 : Int32)))
set_option maxHeartbeats 4000000 in
set_option maxRecDepth 100000 in
theorem kX7_readFrom (l : Launch) (dC : Nat → ClassId) (dI : Nat → Nat → Nat) (cA cZ : ClassId) (a_this a_p1 a_p1_cells a_this_row a_this_row_cells : Nat) (n_p1_cells : Nat) (v_p1 : Nat → Int32) (v_cells : Nat → Int32) (x2 : Int32) (hn_p1_cells : n_p1_cells < 2147483648) (sz : Nat) : Met l yX7_readFrom (Cond.code yX7_readFrom cX7_readFrom 3 none :: wt) ({ frames := 2, cells := 0, slots := 0, locals := 47 } : Room) (va_Pc [.ref a_this, .ref a_p1, .int x2] (PreM (dC, dI) [(cA, .int), (cZ, .boolean)] sz [(a_p1, .inr (6, [.ref a_p1_cells])), (a_this, .inr (7, [.ref a_this_row])), (a_p1_cells, .inl (cA, n_p1_cells, .inl v_p1)), (a_this_row, .inr (6, [.ref a_this_row_cells])), (a_this_row_cells, .inl (cA, 35, .inl v_cells))])) (PoV (dC, dI) sz [(a_p1, .inr (6, [.ref a_p1_cells])), (a_this, .inr (7, [.ref a_this_row])), (a_p1_cells, .inl (cA, n_p1_cells, .inl v_p1)), (a_this_row, .inr (6, [.ref a_this_row_cells])), (a_this_row_cells, .inl (cA, 35, .inl v_cells))] [(a_p1, .inr (6, [.ref a_p1_cells])), (a_this, .inr (7, [.ref a_this_row])), (a_p1_cells, .inl (cA, n_p1_cells, .inl v_p1)), (a_this_row, .inr (6, [.ref a_this_row_cells])), (a_this_row_cells, .inl (cA, 35, .inl ((mX7_readFrom n_p1_cells v_p1 v_cells x2))))]) 0 0 (va_A [(a_p1, .inr (6, [.ref a_p1_cells])), (a_this, .inr (7, [.ref a_this_row])), (a_p1_cells, .inl (cA, n_p1_cells, .inl v_p1)), (a_this_row, .inr (6, [.ref a_this_row_cells])), (a_this_row_cells, .inl (cA, 35, .inl v_cells))] sz) := by
  refine Met.ofW (cc := cX7_readFrom) (maxL := 3) (ret := none) (by decide) rfl ?_
  intro p e s m args below meth c s₁ B hml hv
  obtain ⟨ha, hsz, hP, hK, hD0⟩ := hv
  have hx := B.exec
  have hb := B.bytes
  have hr := B.returns
  have ht : ∀ w ∈ wt, w.before args s = true := fun w h => atoms_spec (ws := (Cond.code yX7_readFrom cX7_readFrom 3 none :: wt)) B.pre w (List.mem_cons_of_mem _ h)
  have hown : s.vm.findClass RX7 = some m.cls := findClass_of_methodNamed B.named
  have hlocks := B.notSynchronized
  subst hsz
  have hD := hD0.self (sz := s.heap.size)
  have hA : ∀ q : Nat, s.heap.size ≤ q → va_A [(a_p1, .inr (6, [.ref a_p1_cells])), (a_this, .inr (7, [.ref a_this_row])), (a_p1_cells, .inl (cA, n_p1_cells, .inl v_p1)), (a_this_row, .inr (6, [.ref a_this_row_cells])), (a_this_row_cells, .inl (cA, 35, .inl v_cells))] s.heap.size q := fun q h => Or.inr h
  have hS : va_S (va_A [(a_p1, .inr (6, [.ref a_p1_cells])), (a_this, .inr (7, [.ref a_this_row])), (a_p1_cells, .inl (cA, n_p1_cells, .inl v_p1)), (a_this_row, .inr (6, [.ref a_this_row_cells])), (a_this_row_cells, .inl (cA, 35, .inl v_cells))] s.heap.size) s.heap s.heap [] := va_S.rf
  have hl := lv_entry ([.ref a_this, .ref a_p1, .int x2]) (n := 3) (Nat.le_of_ble_eq_true rfl)
  rw [show entryFrame m args 3 = _ from (congrArg (fun a => entryFrame m a 3) ha).trans (lg_entry_eq m [.ref a_this, .ref a_p1, .int x2] 3)]
  generalize (lg_sl ([.ref a_this, .ref a_p1, .int x2]) ++ List.replicate (3 - (lg_sl ([.ref a_this, .ref a_p1, .int x2])).length) Slot.unset).toArray = ls at hl ⊢
  have hl : lv_has ls 3 [(0, .ref a_this), (1, .ref a_p1), (2, .int x2)] := hl
  have hm : (mX7_readFrom n_p1_cells v_p1 v_cells x2) = (mX7_readFrom n_p1_cells v_p1 v_cells x2) := rfl
  refine lv_aload_n hx hb dX7_readFrom_0 rfl (lv_at hl 0 rfl) ?_
  refine va_get (D := (dC, dI)) (ci := 7) (v := .ref a_this_row) (C := RX7) (T := TX7) (N := 1) hx hb ht iX7 hown hK.1 hP 1 rfl rfl 0 (by decide) (ht _ w_1_51) (fun _ h9 => h9) rfl dX7_readFrom_1 ?_
  refine lv_iconst (v := (0 : Int32)) hx hb dX7_readFrom_4 (by decide) ?_
  refine lv_aload_n hx hb dX7_readFrom_5 rfl (lv_at hl 1 rfl) ?_
  refine lv_iload_n hx hb dX7_readFrom_6 rfl (lv_at hl 2 rfl) ?_
  refine lv_bipush (v := (35 : Int32)) hx hb dX7_readFrom_7 (by decide) ?_
  refine lv_imul hx hb dX7_readFrom_9 ?_
  refine lv_bipush (v := (35 : Int32)) hx hb dX7_readFrom_10 (by decide) ?_
  have hPc := pc_sub (wc := [(a_p1, .inr (6, [.ref a_p1_cells])), (a_this_row, .inr (6, [.ref a_this_row_cells])), (a_p1_cells, .inl (cA, n_p1_cells, .inl v_p1)), (a_this_row_cells, .inl (cA, 35, .inl v_cells))]) hP [0, 3, 2, 4] rfl
  have hDc := hD.sub (ws' := [(a_p1, .inr (6, [.ref a_p1_cells])), (a_this_row, .inr (6, [.ref a_this_row_cells])), (a_p1_cells, .inl (cA, n_p1_cells, .inl v_p1)), (a_this_row_cells, .inl (cA, 35, .inl v_cells))]) [0, 3, 2, 4] (by decide) rfl
  refine mv_callv (wc := [(a_p1, .inr (6, [.ref a_p1_cells])), (a_this_row, .inr (6, [.ref a_this_row_cells])), (a_p1_cells, .inl (cA, n_p1_cells, .inl v_p1)), (a_this_row_cells, .inl (cA, 35, .inl v_cells))]) (wr := [(a_this, .inr (7, [.ref a_this_row]))]) (w1 := [(a_p1, .inr (6, [.ref a_p1_cells])), (a_this_row, .inr (6, [.ref a_this_row_cells])), (a_p1_cells, .inl (cA, n_p1_cells, .inl v_p1)), (a_this_row_cells, .inl (cA, 35, .inl ((mX6_copyCells n_p1_cells 35 v_p1 v_cells ((0 : Int32)) (x2 * ((35 : Int32))) ((35 : Int32))))))]) [0, 3, 2, 4] [1] hP hD hS hA rfl rfl (by decide) (by decide) (va_runV (As := [.int ((0 : Int32)), .ref a_p1, .int (x2 * ((35 : Int32))), .int ((35 : Int32))]) (rest := []) ⟨hx, hb, hml, hown, ht⟩ (kX6_copyCells l dC dI cA cZ a_this_row a_p1 a_p1_cells a_this_row_cells n_p1_cells 35 v_p1 v_cells ((0 : Int32)) (x2 * ((35 : Int32))) ((35 : Int32)) (by omega) (by decide) s.heap.size) (cwV 4 ht (gi_V (C := RX6) w_3_86 w_2_142 w_2_143 w_1_3 (gi_code w_2_144)) rfl rfl rfl ⟨rfl, h_X6_copyCells⟩ ⟨Nat.le_of_ble_eq_true rfl, Nat.le_of_ble_eq_true rfl⟩) ⟨pm_blind, va_recv hK.1 hP (ci := 6) (q0 := 3) rfl rfl, pm_use hPc hK hDc⟩ rfl rfl hl.1 rfl (lv_room (Nat.le_of_ble_eq_true rfl)) dX7_readFrom_12 ⟨Nat.zero_le _, Nat.zero_le _⟩) (fun H locs hP hD hS => ?_)
  have hP : va_P (dC, dI) vwCl [(a_this, .inr (7, [.ref a_this_row])), (a_p1, .inr (6, [.ref a_p1_cells])), (a_this_row, .inr (6, [.ref a_this_row_cells])), (a_p1_cells, .inl (cA, n_p1_cells, .inl v_p1)), (a_this_row_cells, .inl (cA, 35, .inl ((mX6_copyCells n_p1_cells 35 v_p1 v_cells ((0 : Int32)) (x2 * ((35 : Int32))) ((35 : Int32))))))] H := hP
  have hD : va_D (va_A [(a_p1, .inr (6, [.ref a_p1_cells])), (a_this, .inr (7, [.ref a_this_row])), (a_p1_cells, .inl (cA, n_p1_cells, .inl v_p1)), (a_this_row, .inr (6, [.ref a_this_row_cells])), (a_this_row_cells, .inl (cA, 35, .inl v_cells))] s.heap.size) [(a_this, .inr (7, [.ref a_this_row])), (a_p1, .inr (6, [.ref a_p1_cells])), (a_this_row, .inr (6, [.ref a_this_row_cells])), (a_p1_cells, .inl (cA, n_p1_cells, .inl v_p1)), (a_this_row_cells, .inl (cA, 35, .inl ((mX6_copyCells n_p1_cells 35 v_p1 v_cells ((0 : Int32)) (x2 * ((35 : Int32))) ((35 : Int32))))))] := hD
  have hP9 := pc_sub (wc := [(a_p1, .inr (6, [.ref a_p1_cells])), (a_this, .inr (7, [.ref a_this_row])), (a_p1_cells, .inl (cA, n_p1_cells, .inl v_p1)), (a_this_row, .inr (6, [.ref a_this_row_cells])), (a_this_row_cells, .inl (cA, 35, .inl ((mX6_copyCells n_p1_cells 35 v_p1 v_cells ((0 : Int32)) (x2 * ((35 : Int32))) ((35 : Int32))))))]) hP [1, 0, 3, 2, 4] rfl
  have hD9 := hD.sub (ws' := [(a_p1, .inr (6, [.ref a_p1_cells])), (a_this, .inr (7, [.ref a_this_row])), (a_p1_cells, .inl (cA, n_p1_cells, .inl v_p1)), (a_this_row, .inr (6, [.ref a_this_row_cells])), (a_this_row_cells, .inl (cA, 35, .inl ((mX6_copyCells n_p1_cells 35 v_p1 v_cells ((0 : Int32)) (x2 * ((35 : Int32))) ((35 : Int32))))))]) [1, 0, 3, 2, 4] (by decide) rfl
  exact W.vret hx hb hr (fun t ht9 _ => by rw [← hm]; exact ⟨⟨(), rfl, trivial, by rw [ht9]; exact hP9, hD9⟩, hS.F ht9⟩) hS.2.2 dX7_readFrom_15
