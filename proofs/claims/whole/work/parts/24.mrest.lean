theorem dX10_share_0 : decode cX10_share 0 = .ok (.iload_n 1, 1) := by decide +kernel
theorem dX10_share_1 : decode cX10_share 1 = .ok (.iconst 0, 1) := by decide +kernel
theorem dX10_share_2 : decode cX10_share 2 = .ok (.sipush 999, 3) := by decide +kernel
theorem dX10_share_5 : decode cX10_share 5 = .ok (.invokestatic 60, 3) := by decide +kernel
theorem dX10_share_8 : decode cX10_share 8 = .ok (.ifCond .eq 12, 3) := by decide +kernel
theorem dX10_share_11 : decode cX10_share 11 = .ok (.iload_n 2, 1) := by decide +kernel
theorem dX10_share_12 : decode cX10_share 12 = .ok (.iconst 0, 1) := by decide +kernel
theorem dX10_share_13 : decode cX10_share 13 = .ok (.iconst 1, 1) := by decide +kernel
theorem dX10_share_14 : decode cX10_share 14 = .ok (.invokestatic 60, 3) := by decide +kernel
theorem dX10_share_17 : decode cX10_share 17 = .ok (.ifCond .ne 6, 3) := by decide +kernel
theorem dX10_share_20 : decode cX10_share 20 = .ok (.ldc 70, 2) := by decide +kernel
theorem dX10_share_22 : decode cX10_share 22 = .ok (.ireturn, 1) := by decide +kernel
theorem dX10_share_23 : decode cX10_share 23 = .ok (.aload_n 0, 1) := by decide +kernel
theorem dX10_share_24 : decode cX10_share 24 = .ok (.getfield 32, 3) := by decide +kernel
theorem dX10_share_27 : decode cX10_share 27 = .ok (.iconst 0, 1) := by decide +kernel
theorem dX10_share_28 : decode cX10_share 28 = .ok (.aload_n 0, 1) := by decide +kernel
theorem dX10_share_29 : decode cX10_share 29 = .ok (.getfield 35, 3) := by decide +kernel
theorem dX10_share_32 : decode cX10_share 32 = .ok (.iconst 0, 1) := by decide +kernel
theorem dX10_share_33 : decode cX10_share 33 = .ok (.bipush 35, 2) := by decide +kernel
theorem dX10_share_35 : decode cX10_share 35 = .ok (.invokestatic 141, 3) := by decide +kernel
theorem dX10_share_38 : decode cX10_share 38 = .ok (.iload_n 1, 1) := by decide +kernel
theorem dX10_share_39 : decode cX10_share 39 = .ok (.istore_n 3, 1) := by decide +kernel
theorem dX10_share_40 : decode cX10_share 40 = .ok (.iconst 1, 1) := by decide +kernel
theorem dX10_share_41 : decode cX10_share 41 = .ok (.istore 4, 2) := by decide +kernel
theorem dX10_share_43 : decode cX10_share 43 = .ok (.iload 4, 2) := by decide +kernel
theorem dX10_share_45 : decode cX10_share 45 = .ok (.ifCond .eq 64, 3) := by decide +kernel
theorem dX10_share_48 : decode cX10_share 48 = .ok (.iconst 0, 1) := by decide +kernel
theorem dX10_share_49 : decode cX10_share 49 = .ok (.istore 4, 2) := by decide +kernel
theorem dX10_share_51 : decode cX10_share 51 = .ok (.iconst 0, 1) := by decide +kernel
theorem dX10_share_52 : decode cX10_share 52 = .ok (.istore 5, 2) := by decide +kernel
theorem dX10_share_54 : decode cX10_share 54 = .ok (.iload 5, 2) := by decide +kernel
theorem dX10_share_56 : decode cX10_share 56 = .ok (.aload_n 0, 1) := by decide +kernel
theorem dX10_share_57 : decode cX10_share 57 = .ok (.getfield 64, 3) := by decide +kernel
theorem dX10_share_60 : decode cX10_share 60 = .ok (.if_icmp .ge 46, 3) := by decide +kernel
theorem dX10_share_63 : decode cX10_share 63 = .ok (.iload_n 3, 1) := by decide +kernel
theorem dX10_share_64 : decode cX10_share 64 = .ok (.ifCond .le 36, 3) := by decide +kernel
theorem dX10_share_67 : decode cX10_share 67 = .ok (.aload_n 0, 1) := by decide +kernel
theorem dX10_share_68 : decode cX10_share 68 = .ok (.getfield 35, 3) := by decide +kernel
theorem dX10_share_71 : decode cX10_share 71 = .ok (.iconst 3, 1) := by decide +kernel
theorem dX10_share_72 : decode cX10_share 72 = .ok (.iload 5, 2) := by decide +kernel
theorem dX10_share_74 : decode cX10_share 74 = .ok (.iadd, 1) := by decide +kernel
theorem dX10_share_75 : decode cX10_share 75 = .ok (.iaload, 1) := by decide +kernel
theorem dX10_share_76 : decode cX10_share 76 = .ok (.bipush 9, 2) := by decide +kernel
theorem dX10_share_78 : decode cX10_share 78 = .ok (.if_icmp .ge 22, 3) := by decide +kernel
theorem dX10_share_81 : decode cX10_share 81 = .ok (.aload_n 0, 1) := by decide +kernel
theorem dX10_share_82 : decode cX10_share 82 = .ok (.getfield 35, 3) := by decide +kernel
theorem dX10_share_85 : decode cX10_share 85 = .ok (.iconst 3, 1) := by decide +kernel
theorem dX10_share_86 : decode cX10_share 86 = .ok (.iload 5, 2) := by decide +kernel
theorem dX10_share_88 : decode cX10_share 88 = .ok (.iadd, 1) := by decide +kernel
theorem dX10_share_89 : decode cX10_share 89 = .ok (.dup2, 1) := by decide +kernel
theorem dX10_share_90 : decode cX10_share 90 = .ok (.iaload, 1) := by decide +kernel
theorem dX10_share_91 : decode cX10_share 91 = .ok (.iconst 1, 1) := by decide +kernel
theorem dX10_share_92 : decode cX10_share 92 = .ok (.iadd, 1) := by decide +kernel
theorem dX10_share_93 : decode cX10_share 93 = .ok (.iastore, 1) := by decide +kernel
theorem dX10_share_94 : decode cX10_share 94 = .ok (.iinc 3 (-1), 3) := by decide +kernel
theorem dX10_share_97 : decode cX10_share 97 = .ok (.iconst 1, 1) := by decide +kernel
theorem dX10_share_98 : decode cX10_share 98 = .ok (.istore 4, 2) := by decide +kernel
theorem dX10_share_100 : decode cX10_share 100 = .ok (.iinc 5 1, 3) := by decide +kernel
theorem dX10_share_103 : decode cX10_share 103 = .ok (.goto (-49), 3) := by decide +kernel
theorem dX10_share_106 : decode cX10_share 106 = .ok (.goto (-63), 3) := by decide +kernel
theorem dX10_share_109 : decode cX10_share 109 = .ok (.iconst 0, 1) := by decide +kernel
theorem dX10_share_110 : decode cX10_share 110 = .ok (.istore 5, 2) := by decide +kernel
theorem dX10_share_112 : decode cX10_share 112 = .ok (.iconst 0, 1) := by decide +kernel
theorem dX10_share_113 : decode cX10_share 113 = .ok (.istore 6, 2) := by decide +kernel
theorem dX10_share_115 : decode cX10_share 115 = .ok (.iload 6, 2) := by decide +kernel
theorem dX10_share_117 : decode cX10_share 117 = .ok (.aload_n 0, 1) := by decide +kernel
theorem dX10_share_118 : decode cX10_share 118 = .ok (.getfield 64, 3) := by decide +kernel
theorem dX10_share_121 : decode cX10_share 121 = .ok (.if_icmp .ge 33, 3) := by decide +kernel
theorem dX10_share_124 : decode cX10_share 124 = .ok (.iload 5, 2) := by decide +kernel
theorem dX10_share_126 : decode cX10_share 126 = .ok (.aload_n 0, 1) := by decide +kernel
theorem dX10_share_127 : decode cX10_share 127 = .ok (.getfield 35, 3) := by decide +kernel
theorem dX10_share_130 : decode cX10_share 130 = .ok (.iconst 3, 1) := by decide +kernel
theorem dX10_share_131 : decode cX10_share 131 = .ok (.iload 6, 2) := by decide +kernel
theorem dX10_share_133 : decode cX10_share 133 = .ok (.iadd, 1) := by decide +kernel
theorem dX10_share_134 : decode cX10_share 134 = .ok (.iaload, 1) := by decide +kernel
theorem dX10_share_135 : decode cX10_share 135 = .ok (.bipush 9, 2) := by decide +kernel
theorem dX10_share_137 : decode cX10_share 137 = .ok (.if_icmp .ne 7, 3) := by decide +kernel
theorem dX10_share_140 : decode cX10_share 140 = .ok (.iconst 1, 1) := by decide +kernel
theorem dX10_share_141 : decode cX10_share 141 = .ok (.goto 4, 3) := by decide +kernel
theorem dX10_share_144 : decode cX10_share 144 = .ok (.iconst 0, 1) := by decide +kernel
theorem dX10_share_145 : decode cX10_share 145 = .ok (.iadd, 1) := by decide +kernel
theorem dX10_share_146 : decode cX10_share 146 = .ok (.istore 5, 2) := by decide +kernel
theorem dX10_share_148 : decode cX10_share 148 = .ok (.iinc 6 1, 3) := by decide +kernel
theorem dX10_share_151 : decode cX10_share 151 = .ok (.goto (-36), 3) := by decide +kernel
theorem dX10_share_154 : decode cX10_share 154 = .ok (.iload_n 2, 1) := by decide +kernel
theorem dX10_share_155 : decode cX10_share 155 = .ok (.ifCond .ne 8, 3) := by decide +kernel
theorem dX10_share_158 : decode cX10_share 158 = .ok (.iload 5, 2) := by decide +kernel
theorem dX10_share_160 : decode cX10_share 160 = .ok (.goto 4, 3) := by decide +kernel
theorem dX10_share_163 : decode cX10_share 163 = .ok (.iload_n 3, 1) := by decide +kernel
theorem dX10_share_164 : decode cX10_share 164 = .ok (.ireturn, 1) := by decide +kernel
theorem h_X10_share : yX10_share.cls ≠ "java/lang/invoke/MethodHandle" ∧ yX10_share.cls ≠ "java/lang/invoke/VarHandle" ∧ (parseMethodDescriptor yX10_share.desc).map (fun d => d.parameters.length) = some 2 := by decide +kernel
def mX10_share_l115 (u_tried_43 : Nat → Int32) (k_115 : Nat) (y5_115 : Int32) : Int32 := (if (u_tried_43 (3 + k_115)) = (nI 9) then y5_115 + (nI 1) else y5_115 + (nI 0))
def mX10_share_l54 (k_54 : Nat) (s : Int32 × Int32 × (Nat → Int32)) : Int32 × Int32 × (Nat → Int32) := (if s.1 ≤ 0 then (s.1, s.2.1, s.2.2) else (if (nI 9) ≤ (s.2.2 (3 + k_54)) then (s.1, s.2.1, s.2.2) else (s.1 + (-1), nI 1, upd s.2.2 (3 + k_54) ((s.2.2 (3 + k_54)) + (nI 1)))))
def mX10_share_l43 (v_doors : Nat) : Nat → Int32 → Int32 → (Nat → Int32) → Int32 × Int32 × (Nat → Int32)
  | 0, y3_43, y4_43, u_tried_43 => (y3_43, y4_43, u_tried_43)
  | n_43 + 1, y3_43, y4_43, u_tried_43 => (if y4_43 = 0 then (y3_43, y4_43, u_tried_43) else ((fun (w_54 : Int32 × Int32 × (Nat → Int32)) => (mX10_share_l43 v_doors n_43 w_54.1 w_54.2.1 w_54.2.2)) (iter (mX10_share_l54) v_doors ((y3_43, nI 0, u_tried_43)))))
def mX10_share (v_doors : Nat) (v_now : Nat → Int32) (v_tried : Nat → Int32) (x1 : Int32) (x2 : Int32) : Int32 × (Nat → Int32) := (if ((mX10_in x1 (nI 0) (nI 999))) = 0 then ((-1000000002 : Int32), v_tried) else (if ((mX10_in x2 (nI 0) (nI 1))) = 0 then ((-1000000002 : Int32), v_tried) else ((fun (w_43 : Int32 × Int32 × (Nat → Int32)) => (if x2 = 0 then ((iter (mX10_share_l115 w_43.2.2) v_doors (nI 0)), w_43.2.2) else (w_43.1, w_43.2.2))) (mX10_share_l43 v_doors (x1.toNatClampNeg + 1) x1 (nI 1) ((mX10_bring v_now v_tried 0 0 35))))))
theorem clamp_dec {x : Int32} (h : ¬ x ≤ 0) : (x + (-1)).toNatClampNeg < x.toNatClampNeg := by
  obtain ⟨j, hj, rfl⟩ := nI_of (x := x) (by rw [Int32.lt_iff_toInt_lt]; rw [Int32.le_iff_toInt_le] at h; rw [Int32.toInt_zero] at *; omega)
  have h0 : j ≠ 0 := fun q => h (by rw [q]; decide)
  obtain ⟨i, rfl⟩ : ∃ i, j = i + 1 := ⟨j - 1, by omega⟩
  rw [pk_m1, nI_clamp (by omega), nI_clamp (by omega)]
  omega
theorem share_it (left : Int32) (tr : Nat → Int32) : ∀ n, (iter mX10_share_l54 n (left, nI 0, tr)).1.toNatClampNeg ≤ left.toNatClampNeg ∧ (¬ (iter mX10_share_l54 n (left, nI 0, tr)).2.1 = 0 → (iter mX10_share_l54 n (left, nI 0, tr)).1.toNatClampNeg < left.toNatClampNeg) := by
  intro n
  induction n with
  | zero => exact ⟨Nat.le_refl _, fun h => absurd rfl h⟩
  | succ n ih =>
    show (mX10_share_l54 n (iter mX10_share_l54 n (left, nI 0, tr))).1.toNatClampNeg ≤ left.toNatClampNeg ∧ (¬ (mX10_share_l54 n (iter mX10_share_l54 n (left, nI 0, tr))).2.1 = 0 → (mX10_share_l54 n (iter mX10_share_l54 n (left, nI 0, tr))).1.toNatClampNeg < left.toNatClampNeg)
    generalize iter mX10_share_l54 n (left, nI 0, tr) = u at ih ⊢
    unfold mX10_share_l54
    split
    · exact ih
    · rename_i h1
      split
      · exact ih
      · have := clamp_dec h1
        exact ⟨by show (u.1 + (-1)).toNatClampNeg ≤ _; omega, fun _ => by show (u.1 + (-1)).toNatClampNeg < _; omega⟩
theorem share_dec {D : Nat} {left a b : Int32} {tr c : Nat → Int32} (e : (a, b, c) = iter mX10_share_l54 D (left, nI 0, tr)) : ¬ b = 0 → a.toNatClampNeg < left.toNatClampNeg := by
  have := (share_it left tr D).2
  rw [← e] at this
  exact this
set_option maxHeartbeats 4000000 in
set_option maxRecDepth 100000 in
theorem kX10_share (l : Launch) (dC : Nat → ClassId) (dI : Nat → Nat → Nat) (cA cZ : ClassId) (a_this a_this_text a_this_readRain a_this_readDoor a_this_readPerson a_this_rain a_this_door a_this_now a_this_tried a_this_backOf a_this_image a_this_imageSeed a_this_isKept a_this_sight a_this_entry : Nat) (v_letters : Nat) (v_position : Nat) (v_tokenAt : Nat) (v_token : Int32) (v_number : Int32) (v_figures : Nat) (v_faultAt : Int32) (v_faultIs : Int32) (v_readRooms : Int32) (v_readStore : Int32) (v_readRains : Nat) (v_readDoors : Nat) (v_readPersons : Nat) (v_rooms : Int32) (v_rains : Nat) (v_doors : Nat) (v_persons : Nat) (v_backs : Nat) (v_seed : Int32) (v_seen : Nat) (v_entries : Nat) (v_now : Nat → Int32) (v_tried : Nat → Int32) (x1 : Int32) (x2 : Int32) (hD : v_doors ≤ 10) (sz : Nat) : Met l yX10_share (Cond.code yX10_share cX10_share 7 (some .int) :: wt) ({ frames := 1, cells := 0, slots := 0, locals := 25 } : Room) (va_Pc [.ref a_this, .int x1, .int x2] (PreM (dC, dI) [(cA, .int), (cZ, .boolean)] sz [(a_this, .inr (10, [.int (nI v_letters), .ref a_this_text, .int (nI v_position), .int (nI v_tokenAt), .int v_token, .int v_number, .int (nI v_figures), .int v_faultAt, .int v_faultIs, .int v_readRooms, .int v_readStore, .int (nI v_readRains), .int (nI v_readDoors), .int (nI v_readPersons), .ref a_this_readRain, .ref a_this_readDoor, .ref a_this_readPerson, .int v_rooms, .int (nI v_rains), .int (nI v_doors), .int (nI v_persons), .ref a_this_rain, .ref a_this_door, .ref a_this_now, .ref a_this_tried, .ref a_this_backOf, .int (nI v_backs), .ref a_this_image, .ref a_this_imageSeed, .ref a_this_isKept, .int v_seed, .int (nI v_seen), .ref a_this_sight, .int (nI v_entries), .ref a_this_entry])), (a_this_now, .inl (cA, 35, .inl v_now)), (a_this_tried, .inl (cA, 35, .inl v_tried))])) (PoI (dC, dI) sz [(a_this, .inr (10, [.int (nI v_letters), .ref a_this_text, .int (nI v_position), .int (nI v_tokenAt), .int v_token, .int v_number, .int (nI v_figures), .int v_faultAt, .int v_faultIs, .int v_readRooms, .int v_readStore, .int (nI v_readRains), .int (nI v_readDoors), .int (nI v_readPersons), .ref a_this_readRain, .ref a_this_readDoor, .ref a_this_readPerson, .int v_rooms, .int (nI v_rains), .int (nI v_doors), .int (nI v_persons), .ref a_this_rain, .ref a_this_door, .ref a_this_now, .ref a_this_tried, .ref a_this_backOf, .int (nI v_backs), .ref a_this_image, .ref a_this_imageSeed, .ref a_this_isKept, .int v_seed, .int (nI v_seen), .ref a_this_sight, .int (nI v_entries), .ref a_this_entry])), (a_this_now, .inl (cA, 35, .inl v_now)), (a_this_tried, .inl (cA, 35, .inl v_tried))] ((mX10_share v_doors v_now v_tried x1 x2)).1 [(a_this, .inr (10, [.int (nI v_letters), .ref a_this_text, .int (nI v_position), .int (nI v_tokenAt), .int v_token, .int v_number, .int (nI v_figures), .int v_faultAt, .int v_faultIs, .int v_readRooms, .int v_readStore, .int (nI v_readRains), .int (nI v_readDoors), .int (nI v_readPersons), .ref a_this_readRain, .ref a_this_readDoor, .ref a_this_readPerson, .int v_rooms, .int (nI v_rains), .int (nI v_doors), .int (nI v_persons), .ref a_this_rain, .ref a_this_door, .ref a_this_now, .ref a_this_tried, .ref a_this_backOf, .int (nI v_backs), .ref a_this_image, .ref a_this_imageSeed, .ref a_this_isKept, .int v_seed, .int (nI v_seen), .ref a_this_sight, .int (nI v_entries), .ref a_this_entry])), (a_this_now, .inl (cA, 35, .inl v_now)), (a_this_tried, .inl (cA, 35, .inl (((mX10_share v_doors v_now v_tried x1 x2)).2)))]) 0 0 (va_A [(a_this, .inr (10, [.int (nI v_letters), .ref a_this_text, .int (nI v_position), .int (nI v_tokenAt), .int v_token, .int v_number, .int (nI v_figures), .int v_faultAt, .int v_faultIs, .int v_readRooms, .int v_readStore, .int (nI v_readRains), .int (nI v_readDoors), .int (nI v_readPersons), .ref a_this_readRain, .ref a_this_readDoor, .ref a_this_readPerson, .int v_rooms, .int (nI v_rains), .int (nI v_doors), .int (nI v_persons), .ref a_this_rain, .ref a_this_door, .ref a_this_now, .ref a_this_tried, .ref a_this_backOf, .int (nI v_backs), .ref a_this_image, .ref a_this_imageSeed, .ref a_this_isKept, .int v_seed, .int (nI v_seen), .ref a_this_sight, .int (nI v_entries), .ref a_this_entry])), (a_this_now, .inl (cA, 35, .inl v_now)), (a_this_tried, .inl (cA, 35, .inl v_tried))] sz) := by
  refine Met.ofW (cc := cX10_share) (maxL := 7) (ret := (some .int)) (by decide) rfl ?_
  intro p e s m args below meth c s₁ B hml hv
  obtain ⟨ha, hsz, hP, hK, hD0⟩ := hv
  have hx := B.exec
  have hb := B.bytes
  have hr := B.returns
  have ht : ∀ w ∈ wt, w.before args s = true := fun w h => atoms_spec (ws := (Cond.code yX10_share cX10_share 7 (some .int) :: wt)) B.pre w (List.mem_cons_of_mem _ h)
  have hown : s.vm.findClass RX10 = some m.cls := findClass_of_methodNamed B.named
  have hlocks := B.notSynchronized
  subst hsz
  have hD := hD0.self (sz := s.heap.size)
  have hA : ∀ q : Nat, s.heap.size ≤ q → va_A [(a_this, .inr (10, [.int (nI v_letters), .ref a_this_text, .int (nI v_position), .int (nI v_tokenAt), .int v_token, .int v_number, .int (nI v_figures), .int v_faultAt, .int v_faultIs, .int v_readRooms, .int v_readStore, .int (nI v_readRains), .int (nI v_readDoors), .int (nI v_readPersons), .ref a_this_readRain, .ref a_this_readDoor, .ref a_this_readPerson, .int v_rooms, .int (nI v_rains), .int (nI v_doors), .int (nI v_persons), .ref a_this_rain, .ref a_this_door, .ref a_this_now, .ref a_this_tried, .ref a_this_backOf, .int (nI v_backs), .ref a_this_image, .ref a_this_imageSeed, .ref a_this_isKept, .int v_seed, .int (nI v_seen), .ref a_this_sight, .int (nI v_entries), .ref a_this_entry])), (a_this_now, .inl (cA, 35, .inl v_now)), (a_this_tried, .inl (cA, 35, .inl v_tried))] s.heap.size q := fun q h => Or.inr h
  have hS : va_S (va_A [(a_this, .inr (10, [.int (nI v_letters), .ref a_this_text, .int (nI v_position), .int (nI v_tokenAt), .int v_token, .int v_number, .int (nI v_figures), .int v_faultAt, .int v_faultIs, .int v_readRooms, .int v_readStore, .int (nI v_readRains), .int (nI v_readDoors), .int (nI v_readPersons), .ref a_this_readRain, .ref a_this_readDoor, .ref a_this_readPerson, .int v_rooms, .int (nI v_rains), .int (nI v_doors), .int (nI v_persons), .ref a_this_rain, .ref a_this_door, .ref a_this_now, .ref a_this_tried, .ref a_this_backOf, .int (nI v_backs), .ref a_this_image, .ref a_this_imageSeed, .ref a_this_isKept, .int v_seed, .int (nI v_seen), .ref a_this_sight, .int (nI v_entries), .ref a_this_entry])), (a_this_now, .inl (cA, 35, .inl v_now)), (a_this_tried, .inl (cA, 35, .inl v_tried))] s.heap.size) s.heap s.heap [] := va_S.rf
  have hl := lv_entry ([.ref a_this, .int x1, .int x2]) (n := 7) (Nat.le_of_ble_eq_true rfl)
  rw [show entryFrame m args 7 = _ from (congrArg (fun a => entryFrame m a 7) ha).trans (lg_entry_eq m [.ref a_this, .int x1, .int x2] 7)]
  generalize (lg_sl ([.ref a_this, .int x1, .int x2]) ++ List.replicate (7 - (lg_sl ([.ref a_this, .int x1, .int x2])).length) Slot.unset).toArray = ls at hl ⊢
  have hl : lv_has ls 7 [(0, .ref a_this), (1, .int x1), (2, .int x2)] := hl
  have hm : (if ((mX10_in x1 (nI 0) (nI 999))) = 0 then ((-1000000002 : Int32), v_tried) else (if ((mX10_in x2 (nI 0) (nI 1))) = 0 then ((-1000000002 : Int32), v_tried) else ((fun (w_43 : Int32 × Int32 × (Nat → Int32)) => (if x2 = 0 then ((iter (mX10_share_l115 w_43.2.2) v_doors (nI 0)), w_43.2.2) else (w_43.1, w_43.2.2))) (mX10_share_l43 v_doors (x1.toNatClampNeg + 1) x1 (nI 1) ((mX10_bring v_now v_tried 0 0 35)))))) = (mX10_share v_doors v_now v_tried x1 x2) := rfl
  refine lv_iload_n hx hb dX10_share_0 rfl (lv_at hl 1 rfl) ?_
  refine lv_iconst (v := nI 0) hx hb dX10_share_1 (by decide) ?_
  refine lv_sipush (v := nI 999) hx hb dX10_share_2 (by decide) ?_
  refine pv_call (v := (mX10_in x1 (nI 0) (nI 999))) (va_runS (As := [.int x1, .int (nI 0), .int (nI 999)]) (rest := []) ⟨hx, hb, hml, hown, ht⟩ (kX10_in l dC dI cA cZ x1 (nI 0) (nI 999)) (va_cwS 3 ht (gi_S w_5_74 w_5_75 w_1_12 (gi_code w_5_76)) rfl rfl rfl h_X10_in ⟨Nat.le_of_ble_eq_true rfl, Nat.le_of_ble_eq_true rfl⟩) ⟨pp_blind, pp_use (ws := []) (fun _ _ h => by cases h) hK⟩ rfl rfl hl.1 rfl (lv_room (Nat.le_of_ble_eq_true rfl)) dX10_share_5 ⟨Nat.zero_le _, Nat.zero_le _⟩) ?_
  refine lv_if_eq (tgt := 20) hx hb dX10_share_8 (by decide) (fun c_1 => ?_) (fun c_1 => ?_)
  · have hm := (if_pos c_1).symm.trans hm
    refine lv_ldc (v := (-1000000002 : Int32)) hx hb hown (ht _ w_5_77) dX10_share_20 ?_
    have hP9 := pc_sub (wc := [(a_this, .inr (10, [.int (nI v_letters), .ref a_this_text, .int (nI v_position), .int (nI v_tokenAt), .int v_token, .int v_number, .int (nI v_figures), .int v_faultAt, .int v_faultIs, .int v_readRooms, .int v_readStore, .int (nI v_readRains), .int (nI v_readDoors), .int (nI v_readPersons), .ref a_this_readRain, .ref a_this_readDoor, .ref a_this_readPerson, .int v_rooms, .int (nI v_rains), .int (nI v_doors), .int (nI v_persons), .ref a_this_rain, .ref a_this_door, .ref a_this_now, .ref a_this_tried, .ref a_this_backOf, .int (nI v_backs), .ref a_this_image, .ref a_this_imageSeed, .ref a_this_isKept, .int v_seed, .int (nI v_seen), .ref a_this_sight, .int (nI v_entries), .ref a_this_entry])), (a_this_now, .inl (cA, 35, .inl v_now)), (a_this_tried, .inl (cA, 35, .inl v_tried))]) hP [0, 1, 2] rfl
    have hD9 := hD.sub (ws' := [(a_this, .inr (10, [.int (nI v_letters), .ref a_this_text, .int (nI v_position), .int (nI v_tokenAt), .int v_token, .int v_number, .int (nI v_figures), .int v_faultAt, .int v_faultIs, .int v_readRooms, .int v_readStore, .int (nI v_readRains), .int (nI v_readDoors), .int (nI v_readPersons), .ref a_this_readRain, .ref a_this_readDoor, .ref a_this_readPerson, .int v_rooms, .int (nI v_rains), .int (nI v_doors), .int (nI v_persons), .ref a_this_rain, .ref a_this_door, .ref a_this_now, .ref a_this_tried, .ref a_this_backOf, .int (nI v_backs), .ref a_this_image, .ref a_this_imageSeed, .ref a_this_isKept, .int v_seed, .int (nI v_seen), .ref a_this_sight, .int (nI v_entries), .ref a_this_entry])), (a_this_now, .inl (cA, 35, .inl v_now)), (a_this_tried, .inl (cA, 35, .inl v_tried))]) [0, 1, 2] (by decide) rfl
    exact W.iret (v := (-1000000002 : Int32)) hx hb hr (fun t ht9 _ => by rw [← hm]; exact ⟨⟨_, (), rfl, rfl, by rw [ht9]; exact hP9, hD9⟩, hS.F ht9⟩) hS.2.2 dX10_share_22
  · have hm := (if_neg c_1).symm.trans hm
    refine lv_iload_n hx hb dX10_share_11 rfl (lv_at hl 2 rfl) ?_
    refine lv_iconst (v := nI 0) hx hb dX10_share_12 (by decide) ?_
    refine lv_iconst (v := nI 1) hx hb dX10_share_13 (by decide) ?_
    refine pv_call (v := (mX10_in x2 (nI 0) (nI 1))) (va_runS (As := [.int x2, .int (nI 0), .int (nI 1)]) (rest := []) ⟨hx, hb, hml, hown, ht⟩ (kX10_in l dC dI cA cZ x2 (nI 0) (nI 1)) (va_cwS 3 ht (gi_S w_5_74 w_5_75 w_1_12 (gi_code w_5_76)) rfl rfl rfl h_X10_in ⟨Nat.le_of_ble_eq_true rfl, Nat.le_of_ble_eq_true rfl⟩) ⟨pp_blind, pp_use (ws := []) (fun _ _ h => by cases h) hK⟩ rfl rfl hl.1 rfl (lv_room (Nat.le_of_ble_eq_true rfl)) dX10_share_14 ⟨Nat.zero_le _, Nat.zero_le _⟩) ?_
    refine lv_if_ne (tgt := 23) hx hb dX10_share_17 (by decide) (fun c_2 => ?_) (fun c_2 => ?_)
    · have hm := (if_neg c_2).symm.trans hm
      refine lv_aload_n hx hb dX10_share_23 rfl (lv_at hl 0 rfl) ?_
      refine va_get (D := (dC, dI)) (ci := 10) (v := .ref a_this_now) (C := RX10) (T := TX10) (N := 35) hx hb ht iX10 hown hK.1 hP 0 rfl rfl 23 (by decide) (ht _ w_4_226) (fun _ h9 => h9) rfl dX10_share_24 ?_
      refine lv_iconst (v := nI 0) hx hb dX10_share_27 (by decide) ?_
      refine lv_aload_n hx hb dX10_share_28 rfl (lv_at hl 0 rfl) ?_
      refine va_get (D := (dC, dI)) (ci := 10) (v := .ref a_this_tried) (C := RX10) (T := TX10) (N := 35) hx hb ht iX10 hown hK.1 hP 0 rfl rfl 24 (by decide) (ht _ w_4_227) (fun _ h9 => h9) rfl dX10_share_29 ?_
      refine lv_iconst (v := nI 0) hx hb dX10_share_32 (by decide) ?_
      refine lv_bipush (v := nI 35) hx hb dX10_share_33 (by decide) ?_
      have hPc := pc_sub (wc := [(a_this_now, .inl (cA, 35, .inl v_now)), (a_this_tried, .inl (cA, 35, .inl v_tried))]) hP [1, 2] rfl
      have hDc := hD.sub (ws' := [(a_this_now, .inl (cA, 35, .inl v_now)), (a_this_tried, .inl (cA, 35, .inl v_tried))]) [1, 2] (by decide) rfl
      refine mv_callv (wc := [(a_this_now, .inl (cA, 35, .inl v_now)), (a_this_tried, .inl (cA, 35, .inl v_tried))]) (wr := [(a_this, .inr (10, [.int (nI v_letters), .ref a_this_text, .int (nI v_position), .int (nI v_tokenAt), .int v_token, .int v_number, .int (nI v_figures), .int v_faultAt, .int v_faultIs, .int v_readRooms, .int v_readStore, .int (nI v_readRains), .int (nI v_readDoors), .int (nI v_readPersons), .ref a_this_readRain, .ref a_this_readDoor, .ref a_this_readPerson, .int v_rooms, .int (nI v_rains), .int (nI v_doors), .int (nI v_persons), .ref a_this_rain, .ref a_this_door, .ref a_this_now, .ref a_this_tried, .ref a_this_backOf, .int (nI v_backs), .ref a_this_image, .ref a_this_imageSeed, .ref a_this_isKept, .int v_seed, .int (nI v_seen), .ref a_this_sight, .int (nI v_entries), .ref a_this_entry]))]) (w1 := [(a_this_now, .inl (cA, 35, .inl v_now)), (a_this_tried, .inl (cA, 35, .inl ((mX10_bring v_now v_tried 0 0 35))))]) [1, 2] [0] hP hD hS hA rfl rfl (by decide) (by decide) (va_runS (As := [.ref a_this_now, .int (nI 0), .ref a_this_tried, .int (nI 0), .int (nI 35)]) (rest := []) ⟨hx, hb, hml, hown, ht⟩ (kX10_bring l dC dI cA cZ a_this_now a_this_tried 35 35 v_now v_tried 0 0 35 (by decide) (by decide) (by omega) (by omega) s.heap.size) (va_cwS 5 ht (gi_S w_5_119 w_5_120 w_1_12 (gi_code w_5_121)) rfl rfl rfl h_X10_bring ⟨Nat.le_of_ble_eq_true rfl, Nat.le_of_ble_eq_true rfl⟩) ⟨pm_blind, pm_use hPc hK hDc⟩ rfl rfl hl.1 rfl (lv_room (Nat.le_of_ble_eq_true rfl)) dX10_share_35 ⟨Nat.zero_le _, Nat.zero_le _⟩) (fun H locs hP hD hS => ?_)
      have hP : va_P (dC, dI) vwCl [(a_this, .inr (10, [.int (nI v_letters), .ref a_this_text, .int (nI v_position), .int (nI v_tokenAt), .int v_token, .int v_number, .int (nI v_figures), .int v_faultAt, .int v_faultIs, .int v_readRooms, .int v_readStore, .int (nI v_readRains), .int (nI v_readDoors), .int (nI v_readPersons), .ref a_this_readRain, .ref a_this_readDoor, .ref a_this_readPerson, .int v_rooms, .int (nI v_rains), .int (nI v_doors), .int (nI v_persons), .ref a_this_rain, .ref a_this_door, .ref a_this_now, .ref a_this_tried, .ref a_this_backOf, .int (nI v_backs), .ref a_this_image, .ref a_this_imageSeed, .ref a_this_isKept, .int v_seed, .int (nI v_seen), .ref a_this_sight, .int (nI v_entries), .ref a_this_entry])), (a_this_now, .inl (cA, 35, .inl v_now)), (a_this_tried, .inl (cA, 35, .inl ((mX10_bring v_now v_tried 0 0 35))))] H := hP
      have hD : va_D (va_A [(a_this, .inr (10, [.int (nI v_letters), .ref a_this_text, .int (nI v_position), .int (nI v_tokenAt), .int v_token, .int v_number, .int (nI v_figures), .int v_faultAt, .int v_faultIs, .int v_readRooms, .int v_readStore, .int (nI v_readRains), .int (nI v_readDoors), .int (nI v_readPersons), .ref a_this_readRain, .ref a_this_readDoor, .ref a_this_readPerson, .int v_rooms, .int (nI v_rains), .int (nI v_doors), .int (nI v_persons), .ref a_this_rain, .ref a_this_door, .ref a_this_now, .ref a_this_tried, .ref a_this_backOf, .int (nI v_backs), .ref a_this_image, .ref a_this_imageSeed, .ref a_this_isKept, .int v_seed, .int (nI v_seen), .ref a_this_sight, .int (nI v_entries), .ref a_this_entry])), (a_this_now, .inl (cA, 35, .inl v_now)), (a_this_tried, .inl (cA, 35, .inl v_tried))] s.heap.size) [(a_this, .inr (10, [.int (nI v_letters), .ref a_this_text, .int (nI v_position), .int (nI v_tokenAt), .int v_token, .int v_number, .int (nI v_figures), .int v_faultAt, .int v_faultIs, .int v_readRooms, .int v_readStore, .int (nI v_readRains), .int (nI v_readDoors), .int (nI v_readPersons), .ref a_this_readRain, .ref a_this_readDoor, .ref a_this_readPerson, .int v_rooms, .int (nI v_rains), .int (nI v_doors), .int (nI v_persons), .ref a_this_rain, .ref a_this_door, .ref a_this_now, .ref a_this_tried, .ref a_this_backOf, .int (nI v_backs), .ref a_this_image, .ref a_this_imageSeed, .ref a_this_isKept, .int v_seed, .int (nI v_seen), .ref a_this_sight, .int (nI v_entries), .ref a_this_entry])), (a_this_now, .inl (cA, 35, .inl v_now)), (a_this_tried, .inl (cA, 35, .inl ((mX10_bring v_now v_tried 0 0 35))))] := hD
      refine lv_iload_n hx hb dX10_share_38 rfl (lv_at hl 1 rfl) ?_
      refine lv_istore_n (lv' := [(3, .int x1), (0, .ref a_this), (1, .int x1), (2, .int x2)]) hx hb dX10_share_39 rfl hl (by decide) rfl (fun ls hl => ?_)
      refine lv_iconst (v := nI 1) hx hb dX10_share_40 (by decide) ?_
      refine lv_istore (lv' := [(4, .int (nI 1)), (3, .int x1), (0, .ref a_this), (1, .int x1), (2, .int x2)]) hx hb dX10_share_41 hl (by decide) rfl (fun ls hl => ?_)
      have E_43 : ∀ (y3_43 : Int32) (y4_43 : Int32) (u_tried_43 : Nat → Int32), (y3_43, y4_43, u_tried_43) = (mX10_share_l43 v_doors (x1.toNatClampNeg + 1) x1 (nI 1) ((mX10_bring v_now v_tried 0 0 35))) → ∀ (ls : Array Slot), lv_has ls 7 [(4, .int y4_43), (3, .int y3_43), (0, .ref a_this), (1, .int x1), (2, .int x2)] → ∀ (H : Heap) (locs : List Loc), va_P (dC, dI) vwCl [(a_this, .inr (10, [.int (nI v_letters), .ref a_this_text, .int (nI v_position), .int (nI v_tokenAt), .int v_token, .int v_number, .int (nI v_figures), .int v_faultAt, .int v_faultIs, .int v_readRooms, .int v_readStore, .int (nI v_readRains), .int (nI v_readDoors), .int (nI v_readPersons), .ref a_this_readRain, .ref a_this_readDoor, .ref a_this_readPerson, .int v_rooms, .int (nI v_rains), .int (nI v_doors), .int (nI v_persons), .ref a_this_rain, .ref a_this_door, .ref a_this_now, .ref a_this_tried, .ref a_this_backOf, .int (nI v_backs), .ref a_this_image, .ref a_this_imageSeed, .ref a_this_isKept, .int v_seed, .int (nI v_seen), .ref a_this_sight, .int (nI v_entries), .ref a_this_entry])), (a_this_now, .inl (cA, 35, .inl v_now)), (a_this_tried, .inl (cA, 35, .inl u_tried_43))] H → va_D (va_A [(a_this, .inr (10, [.int (nI v_letters), .ref a_this_text, .int (nI v_position), .int (nI v_tokenAt), .int v_token, .int v_number, .int (nI v_figures), .int v_faultAt, .int v_faultIs, .int v_readRooms, .int v_readStore, .int (nI v_readRains), .int (nI v_readDoors), .int (nI v_readPersons), .ref a_this_readRain, .ref a_this_readDoor, .ref a_this_readPerson, .int v_rooms, .int (nI v_rains), .int (nI v_doors), .int (nI v_persons), .ref a_this_rain, .ref a_this_door, .ref a_this_now, .ref a_this_tried, .ref a_this_backOf, .int (nI v_backs), .ref a_this_image, .ref a_this_imageSeed, .ref a_this_isKept, .int v_seed, .int (nI v_seen), .ref a_this_sight, .int (nI v_entries), .ref a_this_entry])), (a_this_now, .inl (cA, 35, .inl v_now)), (a_this_tried, .inl (cA, 35, .inl v_tried))] s.heap.size) [(a_this, .inr (10, [.int (nI v_letters), .ref a_this_text, .int (nI v_position), .int (nI v_tokenAt), .int v_token, .int v_number, .int (nI v_figures), .int v_faultAt, .int v_faultIs, .int v_readRooms, .int v_readStore, .int (nI v_readRains), .int (nI v_readDoors), .int (nI v_readPersons), .ref a_this_readRain, .ref a_this_readDoor, .ref a_this_readPerson, .int v_rooms, .int (nI v_rains), .int (nI v_doors), .int (nI v_persons), .ref a_this_rain, .ref a_this_door, .ref a_this_now, .ref a_this_tried, .ref a_this_backOf, .int (nI v_backs), .ref a_this_image, .ref a_this_imageSeed, .ref a_this_isKept, .int v_seed, .int (nI v_seen), .ref a_this_sight, .int (nI v_entries), .ref a_this_entry])), (a_this_now, .inl (cA, 35, .inl v_now)), (a_this_tried, .inl (cA, 35, .inl u_tried_43))] → va_S (va_A [(a_this, .inr (10, [.int (nI v_letters), .ref a_this_text, .int (nI v_position), .int (nI v_tokenAt), .int v_token, .int v_number, .int (nI v_figures), .int v_faultAt, .int v_faultIs, .int v_readRooms, .int v_readStore, .int (nI v_readRains), .int (nI v_readDoors), .int (nI v_readPersons), .ref a_this_readRain, .ref a_this_readDoor, .ref a_this_readPerson, .int v_rooms, .int (nI v_rains), .int (nI v_doors), .int (nI v_persons), .ref a_this_rain, .ref a_this_door, .ref a_this_now, .ref a_this_tried, .ref a_this_backOf, .int (nI v_backs), .ref a_this_image, .ref a_this_imageSeed, .ref a_this_isKept, .int v_seed, .int (nI v_seen), .ref a_this_sight, .int (nI v_entries), .ref a_this_entry])), (a_this_now, .inl (cA, 35, .inl v_now)), (a_this_tried, .inl (cA, 35, .inl v_tried))] s.heap.size) s.heap H locs → W p l e (headSpec (Cond.code yX10_share cX10_share 7 (some .int) :: wt) ({ frames := 1, cells := 0, slots := 0, locals := 25 } : Room)).room s m args below meth c H locs 0 0 (MQ below (PoI (dC, dI) s.heap.size [(a_this, .inr (10, [.int (nI v_letters), .ref a_this_text, .int (nI v_position), .int (nI v_tokenAt), .int v_token, .int v_number, .int (nI v_figures), .int v_faultAt, .int v_faultIs, .int v_readRooms, .int v_readStore, .int (nI v_readRains), .int (nI v_readDoors), .int (nI v_readPersons), .ref a_this_readRain, .ref a_this_readDoor, .ref a_this_readPerson, .int v_rooms, .int (nI v_rains), .int (nI v_doors), .int (nI v_persons), .ref a_this_rain, .ref a_this_door, .ref a_this_now, .ref a_this_tried, .ref a_this_backOf, .int (nI v_backs), .ref a_this_image, .ref a_this_imageSeed, .ref a_this_isKept, .int v_seed, .int (nI v_seen), .ref a_this_sight, .int (nI v_entries), .ref a_this_entry])), (a_this_now, .inl (cA, 35, .inl v_now)), (a_this_tried, .inl (cA, 35, .inl v_tried))] ((mX10_share v_doors v_now v_tried x1 x2)).1 [(a_this, .inr (10, [.int (nI v_letters), .ref a_this_text, .int (nI v_position), .int (nI v_tokenAt), .int v_token, .int v_number, .int (nI v_figures), .int v_faultAt, .int v_faultIs, .int v_readRooms, .int v_readStore, .int (nI v_readRains), .int (nI v_readDoors), .int (nI v_readPersons), .ref a_this_readRain, .ref a_this_readDoor, .ref a_this_readPerson, .int v_rooms, .int (nI v_rains), .int (nI v_doors), .int (nI v_persons), .ref a_this_rain, .ref a_this_door, .ref a_this_now, .ref a_this_tried, .ref a_this_backOf, .int (nI v_backs), .ref a_this_image, .ref a_this_imageSeed, .ref a_this_isKept, .int v_seed, .int (nI v_seen), .ref a_this_sight, .int (nI v_entries), .ref a_this_entry])), (a_this_now, .inl (cA, 35, .inl v_now)), (a_this_tried, .inl (cA, 35, .inl (((mX10_share v_doors v_now v_tried x1 x2)).2)))]) args s 0 0 (va_A [(a_this, .inr (10, [.int (nI v_letters), .ref a_this_text, .int (nI v_position), .int (nI v_tokenAt), .int v_token, .int v_number, .int (nI v_figures), .int v_faultAt, .int v_faultIs, .int v_readRooms, .int v_readStore, .int (nI v_readRains), .int (nI v_readDoors), .int (nI v_readPersons), .ref a_this_readRain, .ref a_this_readDoor, .ref a_this_readPerson, .int v_rooms, .int (nI v_rains), .int (nI v_doors), .int (nI v_persons), .ref a_this_rain, .ref a_this_door, .ref a_this_now, .ref a_this_tried, .ref a_this_backOf, .int (nI v_backs), .ref a_this_image, .ref a_this_imageSeed, .ref a_this_isKept, .int v_seed, .int (nI v_seen), .ref a_this_sight, .int (nI v_entries), .ref a_this_entry])), (a_this_now, .inl (cA, 35, .inl v_now)), (a_this_tried, .inl (cA, 35, .inl v_tried))] s.heap.size)) (F0 m 109 ls []) := by
        intro y3_43 y4_43 u_tried_43 he ls hl H locs hP hD hS
        rw [← he] at hm
        have hm : (if x2 = 0 then ((iter (mX10_share_l115 u_tried_43) v_doors (nI 0)), u_tried_43) else (y3_43, u_tried_43)) = _ := hm
        refine lv_iconst (v := nI 0) hx hb dX10_share_109 (by decide) ?_
        refine lv_istore (lv' := [(5, .int (nI 0)), (4, .int y4_43), (3, .int y3_43), (0, .ref a_this), (1, .int x1), (2, .int x2)]) hx hb dX10_share_110 hl (by decide) rfl (fun ls hl => ?_)
        refine lv_iconst (v := nI 0) hx hb dX10_share_112 (by decide) ?_
        refine lv_istore (lv' := [(6, .int (nI 0)), (5, .int (nI 0)), (4, .int y4_43), (3, .int y3_43), (0, .ref a_this), (1, .int x1), (2, .int x2)]) hx hb dX10_share_113 hl (by decide) rfl (fun ls hl => ?_)
        have L_115 : ∀ (n_115 k_115 : Nat), k_115 + n_115 = v_doors → ∀ (y5_115 : Int32), y5_115 = (iter (mX10_share_l115 u_tried_43) k_115 (nI 0)) → ∀ (ls : Array Slot), lv_has ls 7 [(6, .int (nI k_115)), (5, .int y5_115), (4, .int y4_43), (3, .int y3_43), (0, .ref a_this), (1, .int x1), (2, .int x2)] → W p l e (headSpec (Cond.code yX10_share cX10_share 7 (some .int) :: wt) ({ frames := 1, cells := 0, slots := 0, locals := 25 } : Room)).room s m args below meth c H locs 0 0 (MQ below (PoI (dC, dI) s.heap.size [(a_this, .inr (10, [.int (nI v_letters), .ref a_this_text, .int (nI v_position), .int (nI v_tokenAt), .int v_token, .int v_number, .int (nI v_figures), .int v_faultAt, .int v_faultIs, .int v_readRooms, .int v_readStore, .int (nI v_readRains), .int (nI v_readDoors), .int (nI v_readPersons), .ref a_this_readRain, .ref a_this_readDoor, .ref a_this_readPerson, .int v_rooms, .int (nI v_rains), .int (nI v_doors), .int (nI v_persons), .ref a_this_rain, .ref a_this_door, .ref a_this_now, .ref a_this_tried, .ref a_this_backOf, .int (nI v_backs), .ref a_this_image, .ref a_this_imageSeed, .ref a_this_isKept, .int v_seed, .int (nI v_seen), .ref a_this_sight, .int (nI v_entries), .ref a_this_entry])), (a_this_now, .inl (cA, 35, .inl v_now)), (a_this_tried, .inl (cA, 35, .inl v_tried))] ((mX10_share v_doors v_now v_tried x1 x2)).1 [(a_this, .inr (10, [.int (nI v_letters), .ref a_this_text, .int (nI v_position), .int (nI v_tokenAt), .int v_token, .int v_number, .int (nI v_figures), .int v_faultAt, .int v_faultIs, .int v_readRooms, .int v_readStore, .int (nI v_readRains), .int (nI v_readDoors), .int (nI v_readPersons), .ref a_this_readRain, .ref a_this_readDoor, .ref a_this_readPerson, .int v_rooms, .int (nI v_rains), .int (nI v_doors), .int (nI v_persons), .ref a_this_rain, .ref a_this_door, .ref a_this_now, .ref a_this_tried, .ref a_this_backOf, .int (nI v_backs), .ref a_this_image, .ref a_this_imageSeed, .ref a_this_isKept, .int v_seed, .int (nI v_seen), .ref a_this_sight, .int (nI v_entries), .ref a_this_entry])), (a_this_now, .inl (cA, 35, .inl v_now)), (a_this_tried, .inl (cA, 35, .inl (((mX10_share v_doors v_now v_tried x1 x2)).2)))]) args s 0 0 (va_A [(a_this, .inr (10, [.int (nI v_letters), .ref a_this_text, .int (nI v_position), .int (nI v_tokenAt), .int v_token, .int v_number, .int (nI v_figures), .int v_faultAt, .int v_faultIs, .int v_readRooms, .int v_readStore, .int (nI v_readRains), .int (nI v_readDoors), .int (nI v_readPersons), .ref a_this_readRain, .ref a_this_readDoor, .ref a_this_readPerson, .int v_rooms, .int (nI v_rains), .int (nI v_doors), .int (nI v_persons), .ref a_this_rain, .ref a_this_door, .ref a_this_now, .ref a_this_tried, .ref a_this_backOf, .int (nI v_backs), .ref a_this_image, .ref a_this_imageSeed, .ref a_this_isKept, .int v_seed, .int (nI v_seen), .ref a_this_sight, .int (nI v_entries), .ref a_this_entry])), (a_this_now, .inl (cA, 35, .inl v_now)), (a_this_tried, .inl (cA, 35, .inl v_tried))] s.heap.size)) (F0 m 115 ls []) := by
          intro n_115
          induction n_115 with
          | zero =>
            intro k_115 hk y5_115 ex0_115 ls hl
            obtain rfl : v_doors = k_115 := by omega
            subst ex0_115
            refine lv_iload hx hb dX10_share_115 (lv_at hl 0 rfl) ?_
            refine lv_aload_n hx hb dX10_share_117 rfl (lv_at hl 4 rfl) ?_
            refine va_get (D := (dC, dI)) (ci := 10) (v := .int (nI v_doors)) (C := RX10) (T := TX10) (N := 35) hx hb ht iX10 hown hK.1 hP 0 rfl rfl 19 (by decide) (ht _ w_4_222) (fun _ h9 => h9) rfl dX10_share_118 ?_
            refine lv_icmp_ge (tgt := 154) hx hb dX10_share_121 (by decide) (fun c_5 => ?_) (fun c_5 => ?_)
            · skip
              refine lv_iload_n hx hb dX10_share_154 rfl (lv_at hl 6 rfl) ?_
              refine lv_if_ne (tgt := 163) hx hb dX10_share_155 (by decide) (fun c_6 => ?_) (fun c_6 => ?_)
              · have hm := (if_neg c_6).symm.trans hm
                refine lv_iload_n hx hb dX10_share_163 rfl (lv_at hl 3 rfl) ?_
                have hP9 := pc_sub (wc := [(a_this, .inr (10, [.int (nI v_letters), .ref a_this_text, .int (nI v_position), .int (nI v_tokenAt), .int v_token, .int v_number, .int (nI v_figures), .int v_faultAt, .int v_faultIs, .int v_readRooms, .int v_readStore, .int (nI v_readRains), .int (nI v_readDoors), .int (nI v_readPersons), .ref a_this_readRain, .ref a_this_readDoor, .ref a_this_readPerson, .int v_rooms, .int (nI v_rains), .int (nI v_doors), .int (nI v_persons), .ref a_this_rain, .ref a_this_door, .ref a_this_now, .ref a_this_tried, .ref a_this_backOf, .int (nI v_backs), .ref a_this_image, .ref a_this_imageSeed, .ref a_this_isKept, .int v_seed, .int (nI v_seen), .ref a_this_sight, .int (nI v_entries), .ref a_this_entry])), (a_this_now, .inl (cA, 35, .inl v_now)), (a_this_tried, .inl (cA, 35, .inl u_tried_43))]) hP [0, 1, 2] rfl
                have hD9 := hD.sub (ws' := [(a_this, .inr (10, [.int (nI v_letters), .ref a_this_text, .int (nI v_position), .int (nI v_tokenAt), .int v_token, .int v_number, .int (nI v_figures), .int v_faultAt, .int v_faultIs, .int v_readRooms, .int v_readStore, .int (nI v_readRains), .int (nI v_readDoors), .int (nI v_readPersons), .ref a_this_readRain, .ref a_this_readDoor, .ref a_this_readPerson, .int v_rooms, .int (nI v_rains), .int (nI v_doors), .int (nI v_persons), .ref a_this_rain, .ref a_this_door, .ref a_this_now, .ref a_this_tried, .ref a_this_backOf, .int (nI v_backs), .ref a_this_image, .ref a_this_imageSeed, .ref a_this_isKept, .int v_seed, .int (nI v_seen), .ref a_this_sight, .int (nI v_entries), .ref a_this_entry])), (a_this_now, .inl (cA, 35, .inl v_now)), (a_this_tried, .inl (cA, 35, .inl u_tried_43))]) [0, 1, 2] (by decide) rfl
                exact W.iret (v := y3_43) hx hb hr (fun t ht9 _ => by rw [← hm]; exact ⟨⟨_, (), rfl, rfl, by rw [ht9]; exact hP9, hD9⟩, hS.F ht9⟩) hS.2.2 dX10_share_164
              · have hm := (if_pos c_6).symm.trans hm
                refine lv_iload hx hb dX10_share_158 (lv_at hl 1 rfl) ?_
                refine lv_goto (tgt := 164) hx hb dX10_share_160 (by decide) ?_
                have hP9 := pc_sub (wc := [(a_this, .inr (10, [.int (nI v_letters), .ref a_this_text, .int (nI v_position), .int (nI v_tokenAt), .int v_token, .int v_number, .int (nI v_figures), .int v_faultAt, .int v_faultIs, .int v_readRooms, .int v_readStore, .int (nI v_readRains), .int (nI v_readDoors), .int (nI v_readPersons), .ref a_this_readRain, .ref a_this_readDoor, .ref a_this_readPerson, .int v_rooms, .int (nI v_rains), .int (nI v_doors), .int (nI v_persons), .ref a_this_rain, .ref a_this_door, .ref a_this_now, .ref a_this_tried, .ref a_this_backOf, .int (nI v_backs), .ref a_this_image, .ref a_this_imageSeed, .ref a_this_isKept, .int v_seed, .int (nI v_seen), .ref a_this_sight, .int (nI v_entries), .ref a_this_entry])), (a_this_now, .inl (cA, 35, .inl v_now)), (a_this_tried, .inl (cA, 35, .inl u_tried_43))]) hP [0, 1, 2] rfl
                have hD9 := hD.sub (ws' := [(a_this, .inr (10, [.int (nI v_letters), .ref a_this_text, .int (nI v_position), .int (nI v_tokenAt), .int v_token, .int v_number, .int (nI v_figures), .int v_faultAt, .int v_faultIs, .int v_readRooms, .int v_readStore, .int (nI v_readRains), .int (nI v_readDoors), .int (nI v_readPersons), .ref a_this_readRain, .ref a_this_readDoor, .ref a_this_readPerson, .int v_rooms, .int (nI v_rains), .int (nI v_doors), .int (nI v_persons), .ref a_this_rain, .ref a_this_door, .ref a_this_now, .ref a_this_tried, .ref a_this_backOf, .int (nI v_backs), .ref a_this_image, .ref a_this_imageSeed, .ref a_this_isKept, .int v_seed, .int (nI v_seen), .ref a_this_sight, .int (nI v_entries), .ref a_this_entry])), (a_this_now, .inl (cA, 35, .inl v_now)), (a_this_tried, .inl (cA, 35, .inl u_tried_43))]) [0, 1, 2] (by decide) rfl
                exact W.iret (v := (iter (mX10_share_l115 u_tried_43) v_doors (nI 0))) hx hb hr (fun t ht9 _ => by rw [← hm]; exact ⟨⟨_, (), rfl, rfl, by rw [ht9]; exact hP9, hD9⟩, hS.F ht9⟩) hS.2.2 dX10_share_164
            · exact absurd (nI_le (by omega) (by omega)) c_5
          | succ n_115 ih =>
            intro k_115 hk y5_115 ex0_115 ls hl
            have hm : (mX10_share_l115 u_tried_43) k_115 y5_115 = (iter (mX10_share_l115 u_tried_43) (k_115 + 1) (nI 0)) := by rw [ex0_115]; rfl
            have hm : (if (u_tried_43 (3 + k_115)) = (nI 9) then y5_115 + (nI 1) else y5_115 + (nI 0)) = (iter (mX10_share_l115 u_tried_43) (k_115 + 1) (nI 0)) := hm
            refine lv_iload hx hb dX10_share_115 (lv_at hl 0 rfl) ?_
            refine lv_aload_n hx hb dX10_share_117 rfl (lv_at hl 4 rfl) ?_
            refine va_get (D := (dC, dI)) (ci := 10) (v := .int (nI v_doors)) (C := RX10) (T := TX10) (N := 35) hx hb ht iX10 hown hK.1 hP 0 rfl rfl 19 (by decide) (ht _ w_4_222) (fun _ h9 => h9) rfl dX10_share_118 ?_
            refine lv_icmp_ge (tgt := 154) hx hb dX10_share_121 (by decide) (fun c_3 => ?_) (fun c_3 => ?_)
            · exact absurd c_3 (nI_ge (by omega) (by omega))
            · skip
              refine lv_iload hx hb dX10_share_124 (lv_at hl 1 rfl) ?_
              refine lv_aload_n hx hb dX10_share_126 rfl (lv_at hl 4 rfl) ?_
              refine va_get (D := (dC, dI)) (ci := 10) (v := .ref a_this_tried) (C := RX10) (T := TX10) (N := 35) hx hb ht iX10 hown hK.1 hP 0 rfl rfl 24 (by decide) (ht _ w_4_227) (fun _ h9 => h9) rfl dX10_share_127 ?_
              refine lv_iconst (v := nI 3) hx hb dX10_share_130 (by decide) ?_
              refine lv_iload hx hb dX10_share_131 (lv_at hl 0 rfl) ?_
              refine nv_iadd hx hb dX10_share_133 ?_
              refine nv_iald (e := 3 + k_115) (by omega) (by omega) hx hb hK.1 hP 2 0 rfl rfl dX10_share_134 ?_
              refine lv_bipush (v := nI 9) hx hb dX10_share_135 (by decide) ?_
              refine lv_icmp_ne (tgt := 144) hx hb dX10_share_137 (by decide) (fun c_4 => ?_) (fun c_4 => ?_)
              · have hm := (if_neg c_4).symm.trans hm
                refine lv_iconst (v := nI 0) hx hb dX10_share_144 (by decide) ?_
                refine lv_iadd hx hb dX10_share_145 ?_
                refine lv_istore (lv' := [(5, .int (y5_115 + (nI 0))), (6, .int (nI k_115)), (4, .int y4_43), (3, .int y3_43), (0, .ref a_this), (1, .int x1), (2, .int x2)]) hx hb dX10_share_146 hl (by decide) rfl (fun ls hl => ?_)
                refine lv_iinc (v := nI (k_115 + 1)) (lv' := [(6, .int (nI (k_115 + 1))), (5, .int (y5_115 + (nI 0))), (4, .int y4_43), (3, .int y3_43), (0, .ref a_this), (1, .int x1), (2, .int x2)]) hx hb dX10_share_148 hl (k := 1) rfl (nI_1 _) (by decide) rfl (fun ls hl => ?_)
                refine lv_goto (tgt := 115) hx hb dX10_share_151 (by decide) ?_
                exact ih (k_115 + 1) (by omega) (y5_115 + (nI 0)) hm ls (lv_sub hl [0, 1, 2, 3, 4, 5, 6] rfl)
              · have hm := (if_pos c_4).symm.trans hm
                refine lv_iconst (v := nI 1) hx hb dX10_share_140 (by decide) ?_
                refine lv_goto (tgt := 145) hx hb dX10_share_141 (by decide) ?_
                refine lv_iadd hx hb dX10_share_145 ?_
                refine lv_istore (lv' := [(5, .int (y5_115 + (nI 1))), (6, .int (nI k_115)), (4, .int y4_43), (3, .int y3_43), (0, .ref a_this), (1, .int x1), (2, .int x2)]) hx hb dX10_share_146 hl (by decide) rfl (fun ls hl => ?_)
                refine lv_iinc (v := nI (k_115 + 1)) (lv' := [(6, .int (nI (k_115 + 1))), (5, .int (y5_115 + (nI 1))), (4, .int y4_43), (3, .int y3_43), (0, .ref a_this), (1, .int x1), (2, .int x2)]) hx hb dX10_share_148 hl (k := 1) rfl (nI_1 _) (by decide) rfl (fun ls hl => ?_)
                refine lv_goto (tgt := 115) hx hb dX10_share_151 (by decide) ?_
                exact ih (k_115 + 1) (by omega) (y5_115 + (nI 1)) hm ls (lv_sub hl [0, 1, 2, 3, 4, 5, 6] rfl)
        exact L_115 v_doors 0 (Nat.zero_add _) (nI 0) rfl ls (lv_sub hl [0, 1, 2, 3, 4, 5, 6] rfl)
      have L_43 : ∀ (n_43 : Nat), ∀ (y3_43 : Int32) (y4_43 : Int32) (u_tried_43 : Nat → Int32), (¬ y4_43 = 0 → y3_43.toNatClampNeg < n_43) →  mX10_share_l43 v_doors n_43 y3_43 y4_43 u_tried_43 = (mX10_share_l43 v_doors (x1.toNatClampNeg + 1) x1 (nI 1) ((mX10_bring v_now v_tried 0 0 35))) → ∀ (ls : Array Slot), lv_has ls 7 [(4, .int y4_43), (3, .int y3_43), (0, .ref a_this), (1, .int x1), (2, .int x2)] → ∀ (H : Heap) (locs : List Loc), va_P (dC, dI) vwCl [(a_this, .inr (10, [.int (nI v_letters), .ref a_this_text, .int (nI v_position), .int (nI v_tokenAt), .int v_token, .int v_number, .int (nI v_figures), .int v_faultAt, .int v_faultIs, .int v_readRooms, .int v_readStore, .int (nI v_readRains), .int (nI v_readDoors), .int (nI v_readPersons), .ref a_this_readRain, .ref a_this_readDoor, .ref a_this_readPerson, .int v_rooms, .int (nI v_rains), .int (nI v_doors), .int (nI v_persons), .ref a_this_rain, .ref a_this_door, .ref a_this_now, .ref a_this_tried, .ref a_this_backOf, .int (nI v_backs), .ref a_this_image, .ref a_this_imageSeed, .ref a_this_isKept, .int v_seed, .int (nI v_seen), .ref a_this_sight, .int (nI v_entries), .ref a_this_entry])), (a_this_now, .inl (cA, 35, .inl v_now)), (a_this_tried, .inl (cA, 35, .inl u_tried_43))] H → va_D (va_A [(a_this, .inr (10, [.int (nI v_letters), .ref a_this_text, .int (nI v_position), .int (nI v_tokenAt), .int v_token, .int v_number, .int (nI v_figures), .int v_faultAt, .int v_faultIs, .int v_readRooms, .int v_readStore, .int (nI v_readRains), .int (nI v_readDoors), .int (nI v_readPersons), .ref a_this_readRain, .ref a_this_readDoor, .ref a_this_readPerson, .int v_rooms, .int (nI v_rains), .int (nI v_doors), .int (nI v_persons), .ref a_this_rain, .ref a_this_door, .ref a_this_now, .ref a_this_tried, .ref a_this_backOf, .int (nI v_backs), .ref a_this_image, .ref a_this_imageSeed, .ref a_this_isKept, .int v_seed, .int (nI v_seen), .ref a_this_sight, .int (nI v_entries), .ref a_this_entry])), (a_this_now, .inl (cA, 35, .inl v_now)), (a_this_tried, .inl (cA, 35, .inl v_tried))] s.heap.size) [(a_this, .inr (10, [.int (nI v_letters), .ref a_this_text, .int (nI v_position), .int (nI v_tokenAt), .int v_token, .int v_number, .int (nI v_figures), .int v_faultAt, .int v_faultIs, .int v_readRooms, .int v_readStore, .int (nI v_readRains), .int (nI v_readDoors), .int (nI v_readPersons), .ref a_this_readRain, .ref a_this_readDoor, .ref a_this_readPerson, .int v_rooms, .int (nI v_rains), .int (nI v_doors), .int (nI v_persons), .ref a_this_rain, .ref a_this_door, .ref a_this_now, .ref a_this_tried, .ref a_this_backOf, .int (nI v_backs), .ref a_this_image, .ref a_this_imageSeed, .ref a_this_isKept, .int v_seed, .int (nI v_seen), .ref a_this_sight, .int (nI v_entries), .ref a_this_entry])), (a_this_now, .inl (cA, 35, .inl v_now)), (a_this_tried, .inl (cA, 35, .inl u_tried_43))] → va_S (va_A [(a_this, .inr (10, [.int (nI v_letters), .ref a_this_text, .int (nI v_position), .int (nI v_tokenAt), .int v_token, .int v_number, .int (nI v_figures), .int v_faultAt, .int v_faultIs, .int v_readRooms, .int v_readStore, .int (nI v_readRains), .int (nI v_readDoors), .int (nI v_readPersons), .ref a_this_readRain, .ref a_this_readDoor, .ref a_this_readPerson, .int v_rooms, .int (nI v_rains), .int (nI v_doors), .int (nI v_persons), .ref a_this_rain, .ref a_this_door, .ref a_this_now, .ref a_this_tried, .ref a_this_backOf, .int (nI v_backs), .ref a_this_image, .ref a_this_imageSeed, .ref a_this_isKept, .int v_seed, .int (nI v_seen), .ref a_this_sight, .int (nI v_entries), .ref a_this_entry])), (a_this_now, .inl (cA, 35, .inl v_now)), (a_this_tried, .inl (cA, 35, .inl v_tried))] s.heap.size) s.heap H locs → W p l e (headSpec (Cond.code yX10_share cX10_share 7 (some .int) :: wt) ({ frames := 1, cells := 0, slots := 0, locals := 25 } : Room)).room s m args below meth c H locs 0 0 (MQ below (PoI (dC, dI) s.heap.size [(a_this, .inr (10, [.int (nI v_letters), .ref a_this_text, .int (nI v_position), .int (nI v_tokenAt), .int v_token, .int v_number, .int (nI v_figures), .int v_faultAt, .int v_faultIs, .int v_readRooms, .int v_readStore, .int (nI v_readRains), .int (nI v_readDoors), .int (nI v_readPersons), .ref a_this_readRain, .ref a_this_readDoor, .ref a_this_readPerson, .int v_rooms, .int (nI v_rains), .int (nI v_doors), .int (nI v_persons), .ref a_this_rain, .ref a_this_door, .ref a_this_now, .ref a_this_tried, .ref a_this_backOf, .int (nI v_backs), .ref a_this_image, .ref a_this_imageSeed, .ref a_this_isKept, .int v_seed, .int (nI v_seen), .ref a_this_sight, .int (nI v_entries), .ref a_this_entry])), (a_this_now, .inl (cA, 35, .inl v_now)), (a_this_tried, .inl (cA, 35, .inl v_tried))] ((mX10_share v_doors v_now v_tried x1 x2)).1 [(a_this, .inr (10, [.int (nI v_letters), .ref a_this_text, .int (nI v_position), .int (nI v_tokenAt), .int v_token, .int v_number, .int (nI v_figures), .int v_faultAt, .int v_faultIs, .int v_readRooms, .int v_readStore, .int (nI v_readRains), .int (nI v_readDoors), .int (nI v_readPersons), .ref a_this_readRain, .ref a_this_readDoor, .ref a_this_readPerson, .int v_rooms, .int (nI v_rains), .int (nI v_doors), .int (nI v_persons), .ref a_this_rain, .ref a_this_door, .ref a_this_now, .ref a_this_tried, .ref a_this_backOf, .int (nI v_backs), .ref a_this_image, .ref a_this_imageSeed, .ref a_this_isKept, .int v_seed, .int (nI v_seen), .ref a_this_sight, .int (nI v_entries), .ref a_this_entry])), (a_this_now, .inl (cA, 35, .inl v_now)), (a_this_tried, .inl (cA, 35, .inl (((mX10_share v_doors v_now v_tried x1 x2)).2)))]) args s 0 0 (va_A [(a_this, .inr (10, [.int (nI v_letters), .ref a_this_text, .int (nI v_position), .int (nI v_tokenAt), .int v_token, .int v_number, .int (nI v_figures), .int v_faultAt, .int v_faultIs, .int v_readRooms, .int v_readStore, .int (nI v_readRains), .int (nI v_readDoors), .int (nI v_readPersons), .ref a_this_readRain, .ref a_this_readDoor, .ref a_this_readPerson, .int v_rooms, .int (nI v_rains), .int (nI v_doors), .int (nI v_persons), .ref a_this_rain, .ref a_this_door, .ref a_this_now, .ref a_this_tried, .ref a_this_backOf, .int (nI v_backs), .ref a_this_image, .ref a_this_imageSeed, .ref a_this_isKept, .int v_seed, .int (nI v_seen), .ref a_this_sight, .int (nI v_entries), .ref a_this_entry])), (a_this_now, .inl (cA, 35, .inl v_now)), (a_this_tried, .inl (cA, 35, .inl v_tried))] s.heap.size)) (F0 m 43 ls []) := by
        intro n_43
        induction n_43 with
        | zero =>
          intro y3_43 y4_43 u_tried_43 hk hm ls hl H locs hP hD hS
          have hm : (y3_43, y4_43, u_tried_43) = (mX10_share_l43 v_doors (x1.toNatClampNeg + 1) x1 (nI 1) ((mX10_bring v_now v_tried 0 0 35))) := hm
          refine lv_iload hx hb dX10_share_43 (lv_at hl 0 rfl) ?_
          refine lv_if_eq (tgt := 109) hx hb dX10_share_45 (by decide) (fun c_7 => ?_) (fun c_7 => ?_)
          · skip
            exact E_43 y3_43 y4_43 u_tried_43 hm ls (lv_sub hl [0, 1, 2, 3, 4] rfl) H locs hP hD hS
          · exact absurd (Decidable.byContradiction (fun h9 => absurd (hk h9) (Nat.not_lt_zero _))) c_7
        | succ n_43 ih =>
          intro y3_43 y4_43 u_tried_43 hk hm ls hl H locs hP hD hS
          have hm : (if y4_43 = 0 then (y3_43, y4_43, u_tried_43) else ((fun (w_54 : Int32 × Int32 × (Nat → Int32)) => (mX10_share_l43 v_doors n_43 w_54.1 w_54.2.1 w_54.2.2)) (iter (mX10_share_l54) v_doors ((y3_43, nI 0, u_tried_43))))) = (mX10_share_l43 v_doors (x1.toNatClampNeg + 1) x1 (nI 1) ((mX10_bring v_now v_tried 0 0 35))) := hm
          refine lv_iload hx hb dX10_share_43 (lv_at hl 0 rfl) ?_
          refine lv_if_eq (tgt := 109) hx hb dX10_share_45 (by decide) (fun c_8 => ?_) (fun c_8 => ?_)
          · have hm := (if_pos c_8).symm.trans hm
            exact E_43 y3_43 y4_43 u_tried_43 hm ls (lv_sub hl [0, 1, 2, 3, 4] rfl) H locs hP hD hS
          · have hm := (if_neg c_8).symm.trans hm
            have hk := hk c_8
            refine lv_iconst (v := nI 0) hx hb dX10_share_48 (by decide) ?_
            refine lv_istore (lv' := [(4, .int (nI 0)), (3, .int y3_43), (0, .ref a_this), (1, .int x1), (2, .int x2)]) hx hb dX10_share_49 hl (by decide) rfl (fun ls hl => ?_)
            refine lv_iconst (v := nI 0) hx hb dX10_share_51 (by decide) ?_
            refine lv_istore (lv' := [(5, .int (nI 0)), (4, .int (nI 0)), (3, .int y3_43), (0, .ref a_this), (1, .int x1), (2, .int x2)]) hx hb dX10_share_52 hl (by decide) rfl (fun ls hl => ?_)
            have L_54 : ∀ (n_54 k_54 : Nat), k_54 + n_54 = v_doors → ∀ (y3_54 : Int32) (y4_54 : Int32) (u_tried_54 : Nat → Int32), y3_54 = ((iter (mX10_share_l54) k_54 ((y3_43, nI 0, u_tried_43)))).1 → y4_54 = ((iter (mX10_share_l54) k_54 ((y3_43, nI 0, u_tried_43)))).2.1 → u_tried_54 = ((iter (mX10_share_l54) k_54 ((y3_43, nI 0, u_tried_43)))).2.2 → ∀ (ls : Array Slot), lv_has ls 7 [(5, .int (nI k_54)), (4, .int y4_54), (3, .int y3_54), (0, .ref a_this), (1, .int x1), (2, .int x2)] → ∀ (H : Heap) (locs : List Loc), va_P (dC, dI) vwCl [(a_this, .inr (10, [.int (nI v_letters), .ref a_this_text, .int (nI v_position), .int (nI v_tokenAt), .int v_token, .int v_number, .int (nI v_figures), .int v_faultAt, .int v_faultIs, .int v_readRooms, .int v_readStore, .int (nI v_readRains), .int (nI v_readDoors), .int (nI v_readPersons), .ref a_this_readRain, .ref a_this_readDoor, .ref a_this_readPerson, .int v_rooms, .int (nI v_rains), .int (nI v_doors), .int (nI v_persons), .ref a_this_rain, .ref a_this_door, .ref a_this_now, .ref a_this_tried, .ref a_this_backOf, .int (nI v_backs), .ref a_this_image, .ref a_this_imageSeed, .ref a_this_isKept, .int v_seed, .int (nI v_seen), .ref a_this_sight, .int (nI v_entries), .ref a_this_entry])), (a_this_now, .inl (cA, 35, .inl v_now)), (a_this_tried, .inl (cA, 35, .inl u_tried_54))] H → va_D (va_A [(a_this, .inr (10, [.int (nI v_letters), .ref a_this_text, .int (nI v_position), .int (nI v_tokenAt), .int v_token, .int v_number, .int (nI v_figures), .int v_faultAt, .int v_faultIs, .int v_readRooms, .int v_readStore, .int (nI v_readRains), .int (nI v_readDoors), .int (nI v_readPersons), .ref a_this_readRain, .ref a_this_readDoor, .ref a_this_readPerson, .int v_rooms, .int (nI v_rains), .int (nI v_doors), .int (nI v_persons), .ref a_this_rain, .ref a_this_door, .ref a_this_now, .ref a_this_tried, .ref a_this_backOf, .int (nI v_backs), .ref a_this_image, .ref a_this_imageSeed, .ref a_this_isKept, .int v_seed, .int (nI v_seen), .ref a_this_sight, .int (nI v_entries), .ref a_this_entry])), (a_this_now, .inl (cA, 35, .inl v_now)), (a_this_tried, .inl (cA, 35, .inl v_tried))] s.heap.size) [(a_this, .inr (10, [.int (nI v_letters), .ref a_this_text, .int (nI v_position), .int (nI v_tokenAt), .int v_token, .int v_number, .int (nI v_figures), .int v_faultAt, .int v_faultIs, .int v_readRooms, .int v_readStore, .int (nI v_readRains), .int (nI v_readDoors), .int (nI v_readPersons), .ref a_this_readRain, .ref a_this_readDoor, .ref a_this_readPerson, .int v_rooms, .int (nI v_rains), .int (nI v_doors), .int (nI v_persons), .ref a_this_rain, .ref a_this_door, .ref a_this_now, .ref a_this_tried, .ref a_this_backOf, .int (nI v_backs), .ref a_this_image, .ref a_this_imageSeed, .ref a_this_isKept, .int v_seed, .int (nI v_seen), .ref a_this_sight, .int (nI v_entries), .ref a_this_entry])), (a_this_now, .inl (cA, 35, .inl v_now)), (a_this_tried, .inl (cA, 35, .inl u_tried_54))] → va_S (va_A [(a_this, .inr (10, [.int (nI v_letters), .ref a_this_text, .int (nI v_position), .int (nI v_tokenAt), .int v_token, .int v_number, .int (nI v_figures), .int v_faultAt, .int v_faultIs, .int v_readRooms, .int v_readStore, .int (nI v_readRains), .int (nI v_readDoors), .int (nI v_readPersons), .ref a_this_readRain, .ref a_this_readDoor, .ref a_this_readPerson, .int v_rooms, .int (nI v_rains), .int (nI v_doors), .int (nI v_persons), .ref a_this_rain, .ref a_this_door, .ref a_this_now, .ref a_this_tried, .ref a_this_backOf, .int (nI v_backs), .ref a_this_image, .ref a_this_imageSeed, .ref a_this_isKept, .int v_seed, .int (nI v_seen), .ref a_this_sight, .int (nI v_entries), .ref a_this_entry])), (a_this_now, .inl (cA, 35, .inl v_now)), (a_this_tried, .inl (cA, 35, .inl v_tried))] s.heap.size) s.heap H locs → W p l e (headSpec (Cond.code yX10_share cX10_share 7 (some .int) :: wt) ({ frames := 1, cells := 0, slots := 0, locals := 25 } : Room)).room s m args below meth c H locs 0 0 (MQ below (PoI (dC, dI) s.heap.size [(a_this, .inr (10, [.int (nI v_letters), .ref a_this_text, .int (nI v_position), .int (nI v_tokenAt), .int v_token, .int v_number, .int (nI v_figures), .int v_faultAt, .int v_faultIs, .int v_readRooms, .int v_readStore, .int (nI v_readRains), .int (nI v_readDoors), .int (nI v_readPersons), .ref a_this_readRain, .ref a_this_readDoor, .ref a_this_readPerson, .int v_rooms, .int (nI v_rains), .int (nI v_doors), .int (nI v_persons), .ref a_this_rain, .ref a_this_door, .ref a_this_now, .ref a_this_tried, .ref a_this_backOf, .int (nI v_backs), .ref a_this_image, .ref a_this_imageSeed, .ref a_this_isKept, .int v_seed, .int (nI v_seen), .ref a_this_sight, .int (nI v_entries), .ref a_this_entry])), (a_this_now, .inl (cA, 35, .inl v_now)), (a_this_tried, .inl (cA, 35, .inl v_tried))] ((mX10_share v_doors v_now v_tried x1 x2)).1 [(a_this, .inr (10, [.int (nI v_letters), .ref a_this_text, .int (nI v_position), .int (nI v_tokenAt), .int v_token, .int v_number, .int (nI v_figures), .int v_faultAt, .int v_faultIs, .int v_readRooms, .int v_readStore, .int (nI v_readRains), .int (nI v_readDoors), .int (nI v_readPersons), .ref a_this_readRain, .ref a_this_readDoor, .ref a_this_readPerson, .int v_rooms, .int (nI v_rains), .int (nI v_doors), .int (nI v_persons), .ref a_this_rain, .ref a_this_door, .ref a_this_now, .ref a_this_tried, .ref a_this_backOf, .int (nI v_backs), .ref a_this_image, .ref a_this_imageSeed, .ref a_this_isKept, .int v_seed, .int (nI v_seen), .ref a_this_sight, .int (nI v_entries), .ref a_this_entry])), (a_this_now, .inl (cA, 35, .inl v_now)), (a_this_tried, .inl (cA, 35, .inl (((mX10_share v_doors v_now v_tried x1 x2)).2)))]) args s 0 0 (va_A [(a_this, .inr (10, [.int (nI v_letters), .ref a_this_text, .int (nI v_position), .int (nI v_tokenAt), .int v_token, .int v_number, .int (nI v_figures), .int v_faultAt, .int v_faultIs, .int v_readRooms, .int v_readStore, .int (nI v_readRains), .int (nI v_readDoors), .int (nI v_readPersons), .ref a_this_readRain, .ref a_this_readDoor, .ref a_this_readPerson, .int v_rooms, .int (nI v_rains), .int (nI v_doors), .int (nI v_persons), .ref a_this_rain, .ref a_this_door, .ref a_this_now, .ref a_this_tried, .ref a_this_backOf, .int (nI v_backs), .ref a_this_image, .ref a_this_imageSeed, .ref a_this_isKept, .int v_seed, .int (nI v_seen), .ref a_this_sight, .int (nI v_entries), .ref a_this_entry])), (a_this_now, .inl (cA, 35, .inl v_now)), (a_this_tried, .inl (cA, 35, .inl v_tried))] s.heap.size)) (F0 m 54 ls []) := by
              intro n_54
              induction n_54 with
              | zero =>
                intro k_54 hk y3_54 y4_54 u_tried_54 ex0_54 ex1_54 ex2_54 ls hl H locs hP hD hS
                obtain rfl : v_doors = k_54 := by omega
                have he : (y3_54, y4_54, u_tried_54) = (iter (mX10_share_l54) v_doors ((y3_43, nI 0, u_tried_43))) := by rw [ex0_54, ex1_54, ex2_54]
                rw [← he] at hm
                have hm : (mX10_share_l43 v_doors n_43 y3_54 y4_54 u_tried_54) = _ := hm
                refine lv_iload hx hb dX10_share_54 (lv_at hl 0 rfl) ?_
                refine lv_aload_n hx hb dX10_share_56 rfl (lv_at hl 3 rfl) ?_
                refine va_get (D := (dC, dI)) (ci := 10) (v := .int (nI v_doors)) (C := RX10) (T := TX10) (N := 35) hx hb ht iX10 hown hK.1 hP 0 rfl rfl 19 (by decide) (ht _ w_4_222) (fun _ h9 => h9) rfl dX10_share_57 ?_
                refine lv_icmp_ge (tgt := 106) hx hb dX10_share_60 (by decide) (fun c_12 => ?_) (fun c_12 => ?_)
                · skip
                  refine lv_goto (tgt := 43) hx hb dX10_share_106 (by decide) ?_
                  exact ih y3_54 y4_54 u_tried_54 (fun h9 => by have := share_dec he h9; omega) hm ls (lv_sub hl [1, 2, 3, 4, 5] rfl) H locs hP hD hS
                · exact absurd (nI_le (by omega) (by omega)) c_12
              | succ n_54 ih =>
                intro k_54 hk y3_54 y4_54 u_tried_54 ex0_54 ex1_54 ex2_54 ls hl H locs hP hD hS
                have hm : (mX10_share_l54) k_54 (y3_54, y4_54, u_tried_54) = (iter (mX10_share_l54) (k_54 + 1) ((y3_43, nI 0, u_tried_43))) := by rw [ex0_54, ex1_54, ex2_54]; rfl
                have hm : (if y3_54 ≤ 0 then (y3_54, y4_54, u_tried_54) else (if (nI 9) ≤ (u_tried_54 (3 + k_54)) then (y3_54, y4_54, u_tried_54) else (y3_54 + (-1), nI 1, upd u_tried_54 (3 + k_54) ((u_tried_54 (3 + k_54)) + (nI 1))))) = (iter (mX10_share_l54) (k_54 + 1) ((y3_43, nI 0, u_tried_43))) := hm
                refine lv_iload hx hb dX10_share_54 (lv_at hl 0 rfl) ?_
                refine lv_aload_n hx hb dX10_share_56 rfl (lv_at hl 3 rfl) ?_
                refine va_get (D := (dC, dI)) (ci := 10) (v := .int (nI v_doors)) (C := RX10) (T := TX10) (N := 35) hx hb ht iX10 hown hK.1 hP 0 rfl rfl 19 (by decide) (ht _ w_4_222) (fun _ h9 => h9) rfl dX10_share_57 ?_
                refine lv_icmp_ge (tgt := 106) hx hb dX10_share_60 (by decide) (fun c_9 => ?_) (fun c_9 => ?_)
                · exact absurd c_9 (nI_ge (by omega) (by omega))
                · skip
                  refine lv_iload_n hx hb dX10_share_63 rfl (lv_at hl 2 rfl) ?_
                  refine lv_if_le (tgt := 100) hx hb dX10_share_64 (by decide) (fun c_10 => ?_) (fun c_10 => ?_)
                  · have hm := (if_pos c_10).symm.trans hm
                    refine lv_iinc (v := nI (k_54 + 1)) (lv' := [(5, .int (nI (k_54 + 1))), (4, .int y4_54), (3, .int y3_54), (0, .ref a_this), (1, .int x1), (2, .int x2)]) hx hb dX10_share_100 hl (k := 0) rfl (nI_1 _) (by decide) rfl (fun ls hl => ?_)
                    refine lv_goto (tgt := 54) hx hb dX10_share_103 (by decide) ?_
                    exact ih (k_54 + 1) (by omega) y3_54 y4_54 u_tried_54 (congrArg (fun z => z.1) hm) (congrArg (fun z => z.2.1) hm) (congrArg (fun z => z.2.2) hm) ls (lv_sub hl [0, 1, 2, 3, 4, 5] rfl) H locs hP hD hS
                  · have hm := (if_neg c_10).symm.trans hm
                    refine lv_aload_n hx hb dX10_share_67 rfl (lv_at hl 3 rfl) ?_
                    refine va_get (D := (dC, dI)) (ci := 10) (v := .ref a_this_tried) (C := RX10) (T := TX10) (N := 35) hx hb ht iX10 hown hK.1 hP 0 rfl rfl 24 (by decide) (ht _ w_4_227) (fun _ h9 => h9) rfl dX10_share_68 ?_
                    refine lv_iconst (v := nI 3) hx hb dX10_share_71 (by decide) ?_
                    refine lv_iload hx hb dX10_share_72 (lv_at hl 0 rfl) ?_
                    refine nv_iadd hx hb dX10_share_74 ?_
                    refine nv_iald (e := 3 + k_54) (by omega) (by omega) hx hb hK.1 hP 2 0 rfl rfl dX10_share_75 ?_
                    refine lv_bipush (v := nI 9) hx hb dX10_share_76 (by decide) ?_
                    refine lv_icmp_ge (tgt := 100) hx hb dX10_share_78 (by decide) (fun c_11 => ?_) (fun c_11 => ?_)
                    · have hm := (if_pos c_11).symm.trans hm
                      refine lv_iinc (v := nI (k_54 + 1)) (lv' := [(5, .int (nI (k_54 + 1))), (4, .int y4_54), (3, .int y3_54), (0, .ref a_this), (1, .int x1), (2, .int x2)]) hx hb dX10_share_100 hl (k := 0) rfl (nI_1 _) (by decide) rfl (fun ls hl => ?_)
                      refine lv_goto (tgt := 54) hx hb dX10_share_103 (by decide) ?_
                      exact ih (k_54 + 1) (by omega) y3_54 y4_54 u_tried_54 (congrArg (fun z => z.1) hm) (congrArg (fun z => z.2.1) hm) (congrArg (fun z => z.2.2) hm) ls (lv_sub hl [0, 1, 2, 3, 4, 5] rfl) H locs hP hD hS
                    · have hm := (if_neg c_11).symm.trans hm
                      refine lv_aload_n hx hb dX10_share_81 rfl (lv_at hl 3 rfl) ?_
                      refine va_get (D := (dC, dI)) (ci := 10) (v := .ref a_this_tried) (C := RX10) (T := TX10) (N := 35) hx hb ht iX10 hown hK.1 hP 0 rfl rfl 24 (by decide) (ht _ w_4_227) (fun _ h9 => h9) rfl dX10_share_82 ?_
                      refine lv_iconst (v := nI 3) hx hb dX10_share_85 (by decide) ?_
                      refine lv_iload hx hb dX10_share_86 (lv_at hl 0 rfl) ?_
                      refine nv_iadd hx hb dX10_share_88 ?_
                      refine lv_dup2_11 hx hb dX10_share_89 rfl rfl ?_
                      refine nv_iald (e := 3 + k_54) (by omega) (by omega) hx hb hK.1 hP 2 0 rfl rfl dX10_share_90 ?_
                      refine lv_iconst (v := nI 1) hx hb dX10_share_91 (by decide) ?_
                      refine lv_iadd hx hb dX10_share_92 ?_
                      refine nv_iast (e := 3 + k_54) (by omega) (by omega) hx hb hK.1 hP hD hS 2 0 rfl rfl dX10_share_93 (fun H locs hP hD hS => ?_)
                      have hP : va_P (dC, dI) vwCl [(a_this, .inr (10, [.int (nI v_letters), .ref a_this_text, .int (nI v_position), .int (nI v_tokenAt), .int v_token, .int v_number, .int (nI v_figures), .int v_faultAt, .int v_faultIs, .int v_readRooms, .int v_readStore, .int (nI v_readRains), .int (nI v_readDoors), .int (nI v_readPersons), .ref a_this_readRain, .ref a_this_readDoor, .ref a_this_readPerson, .int v_rooms, .int (nI v_rains), .int (nI v_doors), .int (nI v_persons), .ref a_this_rain, .ref a_this_door, .ref a_this_now, .ref a_this_tried, .ref a_this_backOf, .int (nI v_backs), .ref a_this_image, .ref a_this_imageSeed, .ref a_this_isKept, .int v_seed, .int (nI v_seen), .ref a_this_sight, .int (nI v_entries), .ref a_this_entry])), (a_this_now, .inl (cA, 35, .inl v_now)), (a_this_tried, .inl (cA, 35, .inl (upd u_tried_54 (3 + k_54) ((u_tried_54 (3 + k_54)) + (nI 1)))))] H := hP
                      have hD : va_D (va_A [(a_this, .inr (10, [.int (nI v_letters), .ref a_this_text, .int (nI v_position), .int (nI v_tokenAt), .int v_token, .int v_number, .int (nI v_figures), .int v_faultAt, .int v_faultIs, .int v_readRooms, .int v_readStore, .int (nI v_readRains), .int (nI v_readDoors), .int (nI v_readPersons), .ref a_this_readRain, .ref a_this_readDoor, .ref a_this_readPerson, .int v_rooms, .int (nI v_rains), .int (nI v_doors), .int (nI v_persons), .ref a_this_rain, .ref a_this_door, .ref a_this_now, .ref a_this_tried, .ref a_this_backOf, .int (nI v_backs), .ref a_this_image, .ref a_this_imageSeed, .ref a_this_isKept, .int v_seed, .int (nI v_seen), .ref a_this_sight, .int (nI v_entries), .ref a_this_entry])), (a_this_now, .inl (cA, 35, .inl v_now)), (a_this_tried, .inl (cA, 35, .inl v_tried))] s.heap.size) [(a_this, .inr (10, [.int (nI v_letters), .ref a_this_text, .int (nI v_position), .int (nI v_tokenAt), .int v_token, .int v_number, .int (nI v_figures), .int v_faultAt, .int v_faultIs, .int v_readRooms, .int v_readStore, .int (nI v_readRains), .int (nI v_readDoors), .int (nI v_readPersons), .ref a_this_readRain, .ref a_this_readDoor, .ref a_this_readPerson, .int v_rooms, .int (nI v_rains), .int (nI v_doors), .int (nI v_persons), .ref a_this_rain, .ref a_this_door, .ref a_this_now, .ref a_this_tried, .ref a_this_backOf, .int (nI v_backs), .ref a_this_image, .ref a_this_imageSeed, .ref a_this_isKept, .int v_seed, .int (nI v_seen), .ref a_this_sight, .int (nI v_entries), .ref a_this_entry])), (a_this_now, .inl (cA, 35, .inl v_now)), (a_this_tried, .inl (cA, 35, .inl (upd u_tried_54 (3 + k_54) ((u_tried_54 (3 + k_54)) + (nI 1)))))] := hD
                      refine lv_iinc (v := y3_54 + (-1)) (lv' := [(3, .int (y3_54 + (-1))), (5, .int (nI k_54)), (4, .int y4_54), (0, .ref a_this), (1, .int x1), (2, .int x2)]) hx hb dX10_share_94 hl (k := 2) rfl rfl (by decide) rfl (fun ls hl => ?_)
                      refine lv_iconst (v := nI 1) hx hb dX10_share_97 (by decide) ?_
                      refine lv_istore (lv' := [(4, .int (nI 1)), (3, .int (y3_54 + (-1))), (5, .int (nI k_54)), (0, .ref a_this), (1, .int x1), (2, .int x2)]) hx hb dX10_share_98 hl (by decide) rfl (fun ls hl => ?_)
                      refine lv_iinc (v := nI (k_54 + 1)) (lv' := [(5, .int (nI (k_54 + 1))), (4, .int (nI 1)), (3, .int (y3_54 + (-1))), (0, .ref a_this), (1, .int x1), (2, .int x2)]) hx hb dX10_share_100 hl (k := 2) rfl (nI_1 _) (by decide) rfl (fun ls hl => ?_)
                      refine lv_goto (tgt := 54) hx hb dX10_share_103 (by decide) ?_
                      exact ih (k_54 + 1) (by omega) (y3_54 + (-1)) (nI 1) (upd u_tried_54 (3 + k_54) ((u_tried_54 (3 + k_54)) + (nI 1))) (congrArg (fun z => z.1) hm) (congrArg (fun z => z.2.1) hm) (congrArg (fun z => z.2.2) hm) ls (lv_sub hl [0, 1, 2, 3, 4, 5] rfl) H locs hP hD hS
            exact L_54 v_doors 0 (Nat.zero_add _) y3_43 (nI 0) u_tried_43 rfl rfl rfl ls (lv_sub hl [0, 1, 2, 3, 4, 5] rfl) H locs hP hD hS
      exact L_43 (x1.toNatClampNeg + 1) x1 (nI 1) ((mX10_bring v_now v_tried 0 0 35)) (fun _ => by omega) rfl ls (lv_sub hl [0, 1, 2, 3, 4] rfl) H locs hP hD hS
    · have hm := (if_pos c_2).symm.trans hm
      refine lv_ldc (v := (-1000000002 : Int32)) hx hb hown (ht _ w_5_77) dX10_share_20 ?_
      have hP9 := pc_sub (wc := [(a_this, .inr (10, [.int (nI v_letters), .ref a_this_text, .int (nI v_position), .int (nI v_tokenAt), .int v_token, .int v_number, .int (nI v_figures), .int v_faultAt, .int v_faultIs, .int v_readRooms, .int v_readStore, .int (nI v_readRains), .int (nI v_readDoors), .int (nI v_readPersons), .ref a_this_readRain, .ref a_this_readDoor, .ref a_this_readPerson, .int v_rooms, .int (nI v_rains), .int (nI v_doors), .int (nI v_persons), .ref a_this_rain, .ref a_this_door, .ref a_this_now, .ref a_this_tried, .ref a_this_backOf, .int (nI v_backs), .ref a_this_image, .ref a_this_imageSeed, .ref a_this_isKept, .int v_seed, .int (nI v_seen), .ref a_this_sight, .int (nI v_entries), .ref a_this_entry])), (a_this_now, .inl (cA, 35, .inl v_now)), (a_this_tried, .inl (cA, 35, .inl v_tried))]) hP [0, 1, 2] rfl
      have hD9 := hD.sub (ws' := [(a_this, .inr (10, [.int (nI v_letters), .ref a_this_text, .int (nI v_position), .int (nI v_tokenAt), .int v_token, .int v_number, .int (nI v_figures), .int v_faultAt, .int v_faultIs, .int v_readRooms, .int v_readStore, .int (nI v_readRains), .int (nI v_readDoors), .int (nI v_readPersons), .ref a_this_readRain, .ref a_this_readDoor, .ref a_this_readPerson, .int v_rooms, .int (nI v_rains), .int (nI v_doors), .int (nI v_persons), .ref a_this_rain, .ref a_this_door, .ref a_this_now, .ref a_this_tried, .ref a_this_backOf, .int (nI v_backs), .ref a_this_image, .ref a_this_imageSeed, .ref a_this_isKept, .int v_seed, .int (nI v_seen), .ref a_this_sight, .int (nI v_entries), .ref a_this_entry])), (a_this_now, .inl (cA, 35, .inl v_now)), (a_this_tried, .inl (cA, 35, .inl v_tried))]) [0, 1, 2] (by decide) rfl
      exact W.iret (v := (-1000000002 : Int32)) hx hb hr (fun t ht9 _ => by rw [← hm]; exact ⟨⟨_, (), rfl, rfl, by rw [ht9]; exact hP9, hD9⟩, hS.F ht9⟩) hS.2.2 dX10_share_22
theorem dX10_dry_0 : decode cX10_dry 0 = .ok (.iload_n 1, 1) := by decide +kernel
theorem dX10_dry_1 : decode cX10_dry 1 = .ok (.iconst 0, 1) := by decide +kernel
theorem dX10_dry_2 : decode cX10_dry 2 = .ok (.bipush 60, 2) := by decide +kernel
theorem dX10_dry_4 : decode cX10_dry 4 = .ok (.invokestatic 60, 3) := by decide +kernel
theorem dX10_dry_7 : decode cX10_dry 7 = .ok (.ifCond .eq 13, 3) := by decide +kernel
theorem dX10_dry_10 : decode cX10_dry 10 = .ok (.iload_n 2, 1) := by decide +kernel
theorem dX10_dry_11 : decode cX10_dry 11 = .ok (.iconst 0, 1) := by decide +kernel
theorem dX10_dry_12 : decode cX10_dry 12 = .ok (.bipush 100, 2) := by decide +kernel
theorem dX10_dry_14 : decode cX10_dry 14 = .ok (.invokestatic 60, 3) := by decide +kernel
theorem dX10_dry_17 : decode cX10_dry 17 = .ok (.ifCond .ne 6, 3) := by decide +kernel
theorem dX10_dry_20 : decode cX10_dry 20 = .ok (.ldc 70, 2) := by decide +kernel
theorem dX10_dry_22 : decode cX10_dry 22 = .ok (.ireturn, 1) := by decide +kernel
theorem dX10_dry_23 : decode cX10_dry 23 = .ok (.ldc2_w 247, 3) := by decide +kernel
theorem dX10_dry_26 : decode cX10_dry 26 = .ok (.lstore_n 3, 1) := by decide +kernel
theorem dX10_dry_27 : decode cX10_dry 27 = .ok (.iconst 0, 1) := by decide +kernel
theorem dX10_dry_28 : decode cX10_dry 28 = .ok (.istore 5, 2) := by decide +kernel
theorem dX10_dry_30 : decode cX10_dry 30 = .ok (.iload 5, 2) := by decide +kernel
theorem dX10_dry_32 : decode cX10_dry 32 = .ok (.iload_n 1, 1) := by decide +kernel
theorem dX10_dry_33 : decode cX10_dry 33 = .ok (.if_icmp .ge 18, 3) := by decide +kernel
theorem dX10_dry_36 : decode cX10_dry 36 = .ok (.lload_n 3, 1) := by decide +kernel
theorem dX10_dry_37 : decode cX10_dry 37 = .ok (.iload_n 2, 1) := by decide +kernel
theorem dX10_dry_38 : decode cX10_dry 38 = .ok (.i2l, 1) := by decide +kernel
theorem dX10_dry_39 : decode cX10_dry 39 = .ok (.lmul, 1) := by decide +kernel
theorem dX10_dry_40 : decode cX10_dry 40 = .ok (.ldc2_w 249, 3) := by decide +kernel
theorem dX10_dry_43 : decode cX10_dry 43 = .ok (.ldiv, 1) := by decide +kernel
theorem dX10_dry_44 : decode cX10_dry 44 = .ok (.lstore_n 3, 1) := by decide +kernel
theorem dX10_dry_45 : decode cX10_dry 45 = .ok (.iinc 5 1, 3) := by decide +kernel
theorem dX10_dry_48 : decode cX10_dry 48 = .ok (.goto (-18), 3) := by decide +kernel
theorem dX10_dry_51 : decode cX10_dry 51 = .ok (.lload_n 3, 1) := by decide +kernel
theorem dX10_dry_52 : decode cX10_dry 52 = .ok (.l2i, 1) := by decide +kernel
theorem dX10_dry_53 : decode cX10_dry 53 = .ok (.ireturn, 1) := by decide +kernel
theorem h_X10_dry : yX10_dry.cls ≠ "java/lang/invoke/MethodHandle" ∧ yX10_dry.cls ≠ "java/lang/invoke/VarHandle" ∧ (parseMethodDescriptor yX10_dry.desc).map (fun d => d.parameters.length) = some 2 := by decide +kernel
def mX10_dry_l30 (x2 : Int32) (k_30 : Nat) (y3_30 : Int64) : Int64 := (y3_30 * x2.toInt64) / ((100 : Int64))
def mX10_dry (x1 : Int32) (x2 : Int32) : Int32 := (if ((mX10_in x1 (nI 0) (nI 60))) = 0 then (-1000000002 : Int32) else (if ((mX10_in x2 (nI 0) (nI 100))) = 0 then (-1000000002 : Int32) else ((iter (mX10_dry_l30 x2) x1.toNatClampNeg ((1000000000 : Int64)))).toInt32))
set_option maxHeartbeats 4000000 in
set_option maxRecDepth 100000 in
theorem kX10_dry (l : Launch) (dC : Nat → ClassId) (dI : Nat → Nat → Nat) (cA cZ : ClassId) (a_this : Nat) (x1 : Int32) (x2 : Int32) : Met l yX10_dry (Cond.code yX10_dry cX10_dry 6 (some .int) :: wt) ({ frames := 1, cells := 0, slots := 0, locals := 22 } : Room) (va_Pc [.ref a_this, .int x1, .int x2] (PreP (dC, dI) [(cA, .int), (cZ, .boolean)] [])) (vp_Si (fun r => r = (mX10_dry x1 x2))) 0 0 (fun _ => False) := by
  refine Met.ofW (cc := cX10_dry) (maxL := 6) (ret := (some .int)) (by decide) rfl ?_
  intro p e s m args below meth c s₁ B hml hv
  obtain ⟨ha, hP, hK⟩ := hv
  have hx := B.exec
  have hb := B.bytes
  have hr := B.returns
  have ht : ∀ w ∈ wt, w.before args s = true := fun w h => atoms_spec (ws := (Cond.code yX10_dry cX10_dry 6 (some .int) :: wt)) B.pre w (List.mem_cons_of_mem _ h)
  have hown : s.vm.findClass RX10 = some m.cls := findClass_of_methodNamed B.named
  have hlocks := B.notSynchronized
  have hl := lv_entry ([.ref a_this, .int x1, .int x2]) (n := 6) (Nat.le_of_ble_eq_true rfl)
  rw [show entryFrame m args 6 = _ from (congrArg (fun a => entryFrame m a 6) ha).trans (lg_entry_eq m [.ref a_this, .int x1, .int x2] 6)]
  generalize (lg_sl ([.ref a_this, .int x1, .int x2]) ++ List.replicate (6 - (lg_sl ([.ref a_this, .int x1, .int x2])).length) Slot.unset).toArray = ls at hl ⊢
  have hl : lv_has ls 6 [(0, .ref a_this), (1, .int x1), (2, .int x2)] := hl
  have hm : (if ((mX10_in x1 (nI 0) (nI 60))) = 0 then (-1000000002 : Int32) else (if ((mX10_in x2 (nI 0) (nI 100))) = 0 then (-1000000002 : Int32) else ((iter (mX10_dry_l30 x2) x1.toNatClampNeg ((1000000000 : Int64)))).toInt32)) = (mX10_dry x1 x2) := rfl
  refine lv_iload_n hx hb dX10_dry_0 rfl (lv_at hl 1 rfl) ?_
  refine lv_iconst (v := nI 0) hx hb dX10_dry_1 (by decide) ?_
  refine lv_bipush (v := nI 60) hx hb dX10_dry_2 (by decide) ?_
  refine pv_call (v := (mX10_in x1 (nI 0) (nI 60))) (va_runS (As := [.int x1, .int (nI 0), .int (nI 60)]) (rest := []) ⟨hx, hb, hml, hown, ht⟩ (kX10_in l dC dI cA cZ x1 (nI 0) (nI 60)) (va_cwS 3 ht (gi_S w_5_74 w_5_75 w_1_12 (gi_code w_5_76)) rfl rfl rfl h_X10_in ⟨Nat.le_of_ble_eq_true rfl, Nat.le_of_ble_eq_true rfl⟩) ⟨pp_blind, pp_use hP hK⟩ rfl rfl hl.1 rfl (lv_room (Nat.le_of_ble_eq_true rfl)) dX10_dry_4 ⟨Nat.zero_le _, Nat.zero_le _⟩) ?_
  refine lv_if_eq (tgt := 20) hx hb dX10_dry_7 (by decide) (fun c_1 => ?_) (fun c_1 => ?_)
  · have hm := (if_pos c_1).symm.trans hm
    refine lv_ldc (v := (-1000000002 : Int32)) hx hb hown (ht _ w_5_77) dX10_dry_20 ?_
    exact W.iret (v := (-1000000002 : Int32)) hx hb hr (fun t ht9 _ => ⟨_, rfl, hm, ht9⟩) (fun q hq => absurd hq List.not_mem_nil) dX10_dry_22
  · have hm := (if_neg c_1).symm.trans hm
    refine lv_iload_n hx hb dX10_dry_10 rfl (lv_at hl 2 rfl) ?_
    refine lv_iconst (v := nI 0) hx hb dX10_dry_11 (by decide) ?_
    refine lv_bipush (v := nI 100) hx hb dX10_dry_12 (by decide) ?_
    refine pv_call (v := (mX10_in x2 (nI 0) (nI 100))) (va_runS (As := [.int x2, .int (nI 0), .int (nI 100)]) (rest := []) ⟨hx, hb, hml, hown, ht⟩ (kX10_in l dC dI cA cZ x2 (nI 0) (nI 100)) (va_cwS 3 ht (gi_S w_5_74 w_5_75 w_1_12 (gi_code w_5_76)) rfl rfl rfl h_X10_in ⟨Nat.le_of_ble_eq_true rfl, Nat.le_of_ble_eq_true rfl⟩) ⟨pp_blind, pp_use hP hK⟩ rfl rfl hl.1 rfl (lv_room (Nat.le_of_ble_eq_true rfl)) dX10_dry_14 ⟨Nat.zero_le _, Nat.zero_le _⟩) ?_
    refine lv_if_ne (tgt := 23) hx hb dX10_dry_17 (by decide) (fun c_2 => ?_) (fun c_2 => ?_)
    · have hm := (if_neg c_2).symm.trans hm
      refine lv_ldc2 (v := (1000000000 : Int64)) hx hb hown (ht _ w_6_95) dX10_dry_23 ?_
      refine lv_lstore_n (lv' := [(3, .long ((1000000000 : Int64))), (0, .ref a_this), (1, .int x1), (2, .int x2)]) hx hb dX10_dry_26 rfl hl (by decide) rfl (fun ls hl => ?_)
      refine lv_iconst (v := nI 0) hx hb dX10_dry_27 (by decide) ?_
      refine lv_istore (lv' := [(5, .int (nI 0)), (3, .long ((1000000000 : Int64))), (0, .ref a_this), (1, .int x1), (2, .int x2)]) hx hb dX10_dry_28 hl (by decide) rfl (fun ls hl => ?_)
      have L_30 : ∀ (n_30 k_30 : Nat), k_30 + n_30 = x1.toNatClampNeg → ∀ (y3_30 : Int64), y3_30 = (iter (mX10_dry_l30 x2) k_30 ((1000000000 : Int64))) → ∀ (ls : Array Slot), lv_has ls 6 [(5, .int (nI k_30)), (3, .long y3_30), (0, .ref a_this), (1, .int x1), (2, .int x2)] → W p l e (headSpec (Cond.code yX10_dry cX10_dry 6 (some .int) :: wt) ({ frames := 1, cells := 0, slots := 0, locals := 22 } : Room)).room s m args below meth c s.heap [] 0 0 (MQ below (vp_Si (fun r => r = (mX10_dry x1 x2))) args s 0 0 (fun _ => False)) (F0 m 30 ls []) := by
        intro n_30
        induction n_30 with
        | zero =>
          intro k_30 hk y3_30 ex0_30 ls hl
          obtain rfl : x1.toNatClampNeg = k_30 := by omega
          subst ex0_30
          refine lv_iload hx hb dX10_dry_30 (lv_at hl 0 rfl) ?_
          refine lv_iload_n hx hb dX10_dry_32 rfl (lv_at hl 3 rfl) ?_
          refine lv_icmp_ge (tgt := 51) hx hb dX10_dry_33 (by decide) (fun c_4 => ?_) (fun c_4 => ?_)
          · skip
            refine lv_lload_n hx hb dX10_dry_51 rfl (lv_at hl 1 rfl) ?_
            refine lv_l2i (v := ((iter (mX10_dry_l30 x2) x1.toNatClampNeg ((1000000000 : Int64)))).toInt32) hx hb dX10_dry_52 rfl ?_
            exact W.iret (v := ((iter (mX10_dry_l30 x2) x1.toNatClampNeg ((1000000000 : Int64)))).toInt32) hx hb hr (fun t ht9 _ => ⟨_, rfl, hm, ht9⟩) (fun q hq => absurd hq List.not_mem_nil) dX10_dry_53
          · exact absurd (lpE (by omega) (by have := clampLt x1; omega)) c_4
        | succ n_30 ih =>
          intro k_30 hk y3_30 ex0_30 ls hl
          have hm : (mX10_dry_l30 x2) k_30 y3_30 = (iter (mX10_dry_l30 x2) (k_30 + 1) ((1000000000 : Int64))) := by rw [ex0_30]; rfl
          have hm : (y3_30 * x2.toInt64) / ((100 : Int64)) = (iter (mX10_dry_l30 x2) (k_30 + 1) ((1000000000 : Int64))) := hm
          refine lv_iload hx hb dX10_dry_30 (lv_at hl 0 rfl) ?_
          refine lv_iload_n hx hb dX10_dry_32 rfl (lv_at hl 3 rfl) ?_
          refine lv_icmp_ge (tgt := 51) hx hb dX10_dry_33 (by decide) (fun c_3 => ?_) (fun c_3 => ?_)
          · exact absurd c_3 (lpN (by omega))
          · skip
            refine lv_lload_n hx hb dX10_dry_36 rfl (lv_at hl 1 rfl) ?_
            refine lv_iload_n hx hb dX10_dry_37 rfl (lv_at hl 4 rfl) ?_
            refine lv_i2l (v := x2.toInt64) hx hb dX10_dry_38 rfl ?_
            refine lv_lmul hx hb dX10_dry_39 ?_
            refine lv_ldc2 (v := (100 : Int64)) hx hb hown (ht _ w_6_96) dX10_dry_40 ?_
            refine lv_ldiv hx hb dX10_dry_43 (by decide) ?_
            refine lv_lstore_n (lv' := [(3, .long ((y3_30 * x2.toInt64) / ((100 : Int64)))), (5, .int (nI k_30)), (0, .ref a_this), (1, .int x1), (2, .int x2)]) hx hb dX10_dry_44 rfl hl (by decide) rfl (fun ls hl => ?_)
            refine lv_iinc (v := nI (k_30 + 1)) (lv' := [(5, .int (nI (k_30 + 1))), (3, .long ((y3_30 * x2.toInt64) / ((100 : Int64)))), (0, .ref a_this), (1, .int x1), (2, .int x2)]) hx hb dX10_dry_45 hl (k := 1) rfl (nI_1 _) (by decide) rfl (fun ls hl => ?_)
            refine lv_goto (tgt := 30) hx hb dX10_dry_48 (by decide) ?_
            exact ih (k_30 + 1) (by omega) ((y3_30 * x2.toInt64) / ((100 : Int64))) hm ls (lv_sub hl [0, 1, 2, 3, 4] rfl)
      exact L_30 x1.toNatClampNeg 0 (Nat.zero_add _) ((1000000000 : Int64)) rfl ls (lv_sub hl [0, 1, 2, 3, 4] rfl)
    · have hm := (if_pos c_2).symm.trans hm
      refine lv_ldc (v := (-1000000002 : Int32)) hx hb hown (ht _ w_5_77) dX10_dry_20 ?_
      exact W.iret (v := (-1000000002 : Int32)) hx hb hr (fun t ht9 _ => ⟨_, rfl, hm, ht9⟩) (fun q hq => absurd hq List.not_mem_nil) dX10_dry_22
theorem dX10_see_0 : decode cX10_see 0 = .ok (.iload_n 1, 1) := by decide +kernel
theorem dX10_see_1 : decode cX10_see 1 = .ok (.iconst 0, 1) := by decide +kernel
theorem dX10_see_2 : decode cX10_see 2 = .ok (.bipush 9, 2) := by decide +kernel
theorem dX10_see_4 : decode cX10_see 4 = .ok (.invokestatic 60, 3) := by decide +kernel
theorem dX10_see_7 : decode cX10_see 7 = .ok (.ifCond .ne 6, 3) := by decide +kernel
theorem dX10_see_10 : decode cX10_see 10 = .ok (.ldc 70, 2) := by decide +kernel
theorem dX10_see_12 : decode cX10_see 12 = .ok (.ireturn, 1) := by decide +kernel
theorem dX10_see_13 : decode cX10_see 13 = .ok (.aload_n 0, 1) := by decide +kernel
theorem dX10_see_14 : decode cX10_see 14 = .ok (.getfield 145, 3) := by decide +kernel
theorem dX10_see_17 : decode cX10_see 17 = .ok (.bipush 6, 2) := by decide +kernel
theorem dX10_see_19 : decode cX10_see 19 = .ok (.if_icmp .ne 6, 3) := by decide +kernel
theorem dX10_see_22 : decode cX10_see 22 = .ok (.ldc 74, 2) := by decide +kernel
theorem dX10_see_24 : decode cX10_see 24 = .ok (.ireturn, 1) := by decide +kernel
theorem dX10_see_25 : decode cX10_see 25 = .ok (.aload_n 0, 1) := by decide +kernel
theorem dX10_see_26 : decode cX10_see 26 = .ok (.getfield 51, 3) := by decide +kernel
theorem dX10_see_29 : decode cX10_see 29 = .ok (.iconst 2, 1) := by decide +kernel
theorem dX10_see_30 : decode cX10_see 30 = .ok (.aload_n 0, 1) := by decide +kernel
theorem dX10_see_31 : decode cX10_see 31 = .ok (.getfield 145, 3) := by decide +kernel
theorem dX10_see_34 : decode cX10_see 34 = .ok (.imul, 1) := by decide +kernel
theorem dX10_see_35 : decode cX10_see 35 = .ok (.iload_n 1, 1) := by decide +kernel
theorem dX10_see_36 : decode cX10_see 36 = .ok (.iastore, 1) := by decide +kernel
theorem dX10_see_37 : decode cX10_see 37 = .ok (.aload_n 0, 1) := by decide +kernel
theorem dX10_see_38 : decode cX10_see 38 = .ok (.getfield 51, 3) := by decide +kernel
theorem dX10_see_41 : decode cX10_see 41 = .ok (.iconst 2, 1) := by decide +kernel
theorem dX10_see_42 : decode cX10_see 42 = .ok (.aload_n 0, 1) := by decide +kernel
theorem dX10_see_43 : decode cX10_see 43 = .ok (.getfield 145, 3) := by decide +kernel
theorem dX10_see_46 : decode cX10_see 46 = .ok (.imul, 1) := by decide +kernel
theorem dX10_see_47 : decode cX10_see 47 = .ok (.iconst 1, 1) := by decide +kernel
theorem dX10_see_48 : decode cX10_see 48 = .ok (.iadd, 1) := by decide +kernel
theorem dX10_see_49 : decode cX10_see 49 = .ok (.iload_n 2, 1) := by decide +kernel
theorem dX10_see_50 : decode cX10_see 50 = .ok (.ifCond .eq 7, 3) := by decide +kernel
theorem dX10_see_53 : decode cX10_see 53 = .ok (.iconst 1, 1) := by decide +kernel
theorem dX10_see_54 : decode cX10_see 54 = .ok (.goto 4, 3) := by decide +kernel
theorem dX10_see_57 : decode cX10_see 57 = .ok (.iconst 0, 1) := by decide +kernel
theorem dX10_see_58 : decode cX10_see 58 = .ok (.iastore, 1) := by decide +kernel
theorem dX10_see_59 : decode cX10_see 59 = .ok (.aload_n 0, 1) := by decide +kernel
theorem dX10_see_60 : decode cX10_see 60 = .ok (.dup, 1) := by decide +kernel
theorem dX10_see_61 : decode cX10_see 61 = .ok (.getfield 145, 3) := by decide +kernel
theorem dX10_see_64 : decode cX10_see 64 = .ok (.iconst 1, 1) := by decide +kernel
theorem dX10_see_65 : decode cX10_see 65 = .ok (.iadd, 1) := by decide +kernel
theorem dX10_see_66 : decode cX10_see 66 = .ok (.putfield 145, 3) := by decide +kernel
theorem dX10_see_69 : decode cX10_see 69 = .ok (.aload_n 0, 1) := by decide +kernel
theorem dX10_see_70 : decode cX10_see 70 = .ok (.getfield 145, 3) := by decide +kernel
theorem dX10_see_73 : decode cX10_see 73 = .ok (.ireturn, 1) := by decide +kernel
theorem h_X10_see : yX10_see.cls ≠ "java/lang/invoke/MethodHandle" ∧ yX10_see.cls ≠ "java/lang/invoke/VarHandle" ∧ (parseMethodDescriptor yX10_see.desc).map (fun d => d.parameters.length) = some 2 := by decide +kernel
def mX10_see (v_seen : Nat) (v_sight : Nat → Int32) (x1 : Int32) (x2 : Int32) : Int32 × Nat × (Nat → Int32) := (if ((mX10_in x1 (nI 0) (nI 9))) = 0 then ((-1000000002 : Int32), v_seen, v_sight) else (if (nI v_seen) = (nI 6) then ((-1000000004 : Int32), v_seen, v_sight) else (if x2 = 0 then (nI (v_seen + 1), v_seen + 1, upd (upd v_sight (2 * v_seen) x1) (2 * v_seen + 1) (nI 0)) else (nI (v_seen + 1), v_seen + 1, upd (upd v_sight (2 * v_seen) x1) (2 * v_seen + 1) (nI 1)))))
set_option maxHeartbeats 4000000 in
set_option maxRecDepth 100000 in
theorem kX10_see (l : Launch) (dC : Nat → ClassId) (dI : Nat → Nat → Nat) (cA cZ : ClassId) (a_this a_this_text a_this_readRain a_this_readDoor a_this_readPerson a_this_rain a_this_door a_this_now a_this_tried a_this_backOf a_this_image a_this_imageSeed a_this_isKept a_this_sight a_this_entry : Nat) (v_letters : Nat) (v_position : Nat) (v_tokenAt : Nat) (v_token : Int32) (v_number : Int32) (v_figures : Nat) (v_faultAt : Int32) (v_faultIs : Int32) (v_readRooms : Int32) (v_readStore : Int32) (v_readRains : Nat) (v_readDoors : Nat) (v_readPersons : Nat) (v_rooms : Int32) (v_rains : Nat) (v_doors : Nat) (v_persons : Nat) (v_backs : Nat) (v_seed : Int32) (v_seen : Nat) (v_entries : Nat) (v_sight : Nat → Int32) (x1 : Int32) (x2 : Int32) (hs : v_seen ≤ 6) (sz : Nat) : Met l yX10_see (Cond.code yX10_see cX10_see 3 (some .int) :: wt) ({ frames := 1, cells := 0, slots := 0, locals := 22 } : Room) (va_Pc [.ref a_this, .int x1, .int x2] (PreM (dC, dI) [(cA, .int), (cZ, .boolean)] sz [(a_this, .inr (10, [.int (nI v_letters), .ref a_this_text, .int (nI v_position), .int (nI v_tokenAt), .int v_token, .int v_number, .int (nI v_figures), .int v_faultAt, .int v_faultIs, .int v_readRooms, .int v_readStore, .int (nI v_readRains), .int (nI v_readDoors), .int (nI v_readPersons), .ref a_this_readRain, .ref a_this_readDoor, .ref a_this_readPerson, .int v_rooms, .int (nI v_rains), .int (nI v_doors), .int (nI v_persons), .ref a_this_rain, .ref a_this_door, .ref a_this_now, .ref a_this_tried, .ref a_this_backOf, .int (nI v_backs), .ref a_this_image, .ref a_this_imageSeed, .ref a_this_isKept, .int v_seed, .int (nI v_seen), .ref a_this_sight, .int (nI v_entries), .ref a_this_entry])), (a_this_sight, .inl (cA, 12, .inl v_sight))])) (PoI (dC, dI) sz [(a_this, .inr (10, [.int (nI v_letters), .ref a_this_text, .int (nI v_position), .int (nI v_tokenAt), .int v_token, .int v_number, .int (nI v_figures), .int v_faultAt, .int v_faultIs, .int v_readRooms, .int v_readStore, .int (nI v_readRains), .int (nI v_readDoors), .int (nI v_readPersons), .ref a_this_readRain, .ref a_this_readDoor, .ref a_this_readPerson, .int v_rooms, .int (nI v_rains), .int (nI v_doors), .int (nI v_persons), .ref a_this_rain, .ref a_this_door, .ref a_this_now, .ref a_this_tried, .ref a_this_backOf, .int (nI v_backs), .ref a_this_image, .ref a_this_imageSeed, .ref a_this_isKept, .int v_seed, .int (nI v_seen), .ref a_this_sight, .int (nI v_entries), .ref a_this_entry])), (a_this_sight, .inl (cA, 12, .inl v_sight))] ((mX10_see v_seen v_sight x1 x2)).1 [(a_this, .inr (10, [.int (nI v_letters), .ref a_this_text, .int (nI v_position), .int (nI v_tokenAt), .int v_token, .int v_number, .int (nI v_figures), .int v_faultAt, .int v_faultIs, .int v_readRooms, .int v_readStore, .int (nI v_readRains), .int (nI v_readDoors), .int (nI v_readPersons), .ref a_this_readRain, .ref a_this_readDoor, .ref a_this_readPerson, .int v_rooms, .int (nI v_rains), .int (nI v_doors), .int (nI v_persons), .ref a_this_rain, .ref a_this_door, .ref a_this_now, .ref a_this_tried, .ref a_this_backOf, .int (nI v_backs), .ref a_this_image, .ref a_this_imageSeed, .ref a_this_isKept, .int v_seed, .int (nI (((mX10_see v_seen v_sight x1 x2)).2.1)), .ref a_this_sight, .int (nI v_entries), .ref a_this_entry])), (a_this_sight, .inl (cA, 12, .inl (((mX10_see v_seen v_sight x1 x2)).2.2)))]) 0 0 (va_A [(a_this, .inr (10, [.int (nI v_letters), .ref a_this_text, .int (nI v_position), .int (nI v_tokenAt), .int v_token, .int v_number, .int (nI v_figures), .int v_faultAt, .int v_faultIs, .int v_readRooms, .int v_readStore, .int (nI v_readRains), .int (nI v_readDoors), .int (nI v_readPersons), .ref a_this_readRain, .ref a_this_readDoor, .ref a_this_readPerson, .int v_rooms, .int (nI v_rains), .int (nI v_doors), .int (nI v_persons), .ref a_this_rain, .ref a_this_door, .ref a_this_now, .ref a_this_tried, .ref a_this_backOf, .int (nI v_backs), .ref a_this_image, .ref a_this_imageSeed, .ref a_this_isKept, .int v_seed, .int (nI v_seen), .ref a_this_sight, .int (nI v_entries), .ref a_this_entry])), (a_this_sight, .inl (cA, 12, .inl v_sight))] sz) := by
  refine Met.ofW (cc := cX10_see) (maxL := 3) (ret := (some .int)) (by decide) rfl ?_
  intro p e s m args below meth c s₁ B hml hv
  obtain ⟨ha, hsz, hP, hK, hD0⟩ := hv
  have hx := B.exec
  have hb := B.bytes
  have hr := B.returns
  have ht : ∀ w ∈ wt, w.before args s = true := fun w h => atoms_spec (ws := (Cond.code yX10_see cX10_see 3 (some .int) :: wt)) B.pre w (List.mem_cons_of_mem _ h)
  have hown : s.vm.findClass RX10 = some m.cls := findClass_of_methodNamed B.named
  have hlocks := B.notSynchronized
  subst hsz
  have hD := hD0.self (sz := s.heap.size)
  have hA : ∀ q : Nat, s.heap.size ≤ q → va_A [(a_this, .inr (10, [.int (nI v_letters), .ref a_this_text, .int (nI v_position), .int (nI v_tokenAt), .int v_token, .int v_number, .int (nI v_figures), .int v_faultAt, .int v_faultIs, .int v_readRooms, .int v_readStore, .int (nI v_readRains), .int (nI v_readDoors), .int (nI v_readPersons), .ref a_this_readRain, .ref a_this_readDoor, .ref a_this_readPerson, .int v_rooms, .int (nI v_rains), .int (nI v_doors), .int (nI v_persons), .ref a_this_rain, .ref a_this_door, .ref a_this_now, .ref a_this_tried, .ref a_this_backOf, .int (nI v_backs), .ref a_this_image, .ref a_this_imageSeed, .ref a_this_isKept, .int v_seed, .int (nI v_seen), .ref a_this_sight, .int (nI v_entries), .ref a_this_entry])), (a_this_sight, .inl (cA, 12, .inl v_sight))] s.heap.size q := fun q h => Or.inr h
  have hS : va_S (va_A [(a_this, .inr (10, [.int (nI v_letters), .ref a_this_text, .int (nI v_position), .int (nI v_tokenAt), .int v_token, .int v_number, .int (nI v_figures), .int v_faultAt, .int v_faultIs, .int v_readRooms, .int v_readStore, .int (nI v_readRains), .int (nI v_readDoors), .int (nI v_readPersons), .ref a_this_readRain, .ref a_this_readDoor, .ref a_this_readPerson, .int v_rooms, .int (nI v_rains), .int (nI v_doors), .int (nI v_persons), .ref a_this_rain, .ref a_this_door, .ref a_this_now, .ref a_this_tried, .ref a_this_backOf, .int (nI v_backs), .ref a_this_image, .ref a_this_imageSeed, .ref a_this_isKept, .int v_seed, .int (nI v_seen), .ref a_this_sight, .int (nI v_entries), .ref a_this_entry])), (a_this_sight, .inl (cA, 12, .inl v_sight))] s.heap.size) s.heap s.heap [] := va_S.rf
  have hl := lv_entry ([.ref a_this, .int x1, .int x2]) (n := 3) (Nat.le_of_ble_eq_true rfl)
  rw [show entryFrame m args 3 = _ from (congrArg (fun a => entryFrame m a 3) ha).trans (lg_entry_eq m [.ref a_this, .int x1, .int x2] 3)]
  generalize (lg_sl ([.ref a_this, .int x1, .int x2]) ++ List.replicate (3 - (lg_sl ([.ref a_this, .int x1, .int x2])).length) Slot.unset).toArray = ls at hl ⊢
  have hl : lv_has ls 3 [(0, .ref a_this), (1, .int x1), (2, .int x2)] := hl
  have hm : (if ((mX10_in x1 (nI 0) (nI 9))) = 0 then ((-1000000002 : Int32), v_seen, v_sight) else (if (nI v_seen) = (nI 6) then ((-1000000004 : Int32), v_seen, v_sight) else (if x2 = 0 then (nI (v_seen + 1), v_seen + 1, upd (upd v_sight (2 * v_seen) x1) (2 * v_seen + 1) (nI 0)) else (nI (v_seen + 1), v_seen + 1, upd (upd v_sight (2 * v_seen) x1) (2 * v_seen + 1) (nI 1))))) = (mX10_see v_seen v_sight x1 x2) := rfl
  refine lv_iload_n hx hb dX10_see_0 rfl (lv_at hl 1 rfl) ?_
  refine lv_iconst (v := nI 0) hx hb dX10_see_1 (by decide) ?_
  refine lv_bipush (v := nI 9) hx hb dX10_see_2 (by decide) ?_
  refine pv_call (v := (mX10_in x1 (nI 0) (nI 9))) (va_runS (As := [.int x1, .int (nI 0), .int (nI 9)]) (rest := []) ⟨hx, hb, hml, hown, ht⟩ (kX10_in l dC dI cA cZ x1 (nI 0) (nI 9)) (va_cwS 3 ht (gi_S w_5_74 w_5_75 w_1_12 (gi_code w_5_76)) rfl rfl rfl h_X10_in ⟨Nat.le_of_ble_eq_true rfl, Nat.le_of_ble_eq_true rfl⟩) ⟨pp_blind, pp_use (ws := []) (fun _ _ h => by cases h) hK⟩ rfl rfl hl.1 rfl (lv_room (Nat.le_of_ble_eq_true rfl)) dX10_see_4 ⟨Nat.zero_le _, Nat.zero_le _⟩) ?_
  refine lv_if_ne (tgt := 13) hx hb dX10_see_7 (by decide) (fun c_1 => ?_) (fun c_1 => ?_)
  · have hm := (if_neg c_1).symm.trans hm
    refine lv_aload_n hx hb dX10_see_13 rfl (lv_at hl 0 rfl) ?_
    refine va_get (D := (dC, dI)) (ci := 10) (v := .int (nI v_seen)) (C := RX10) (T := TX10) (N := 35) hx hb ht iX10 hown hK.1 hP 0 rfl rfl 31 (by decide) (ht _ w_4_234) (fun _ h9 => h9) rfl dX10_see_14 ?_
    refine lv_bipush (v := nI 6) hx hb dX10_see_17 (by decide) ?_
    refine lv_icmp_ne (tgt := 25) hx hb dX10_see_19 (by decide) (fun c_2 => ?_) (fun c_2 => ?_)
    · have hm := (if_neg c_2).symm.trans hm
      have hne := ne_nI c_2
      refine lv_aload_n hx hb dX10_see_25 rfl (lv_at hl 0 rfl) ?_
      refine va_get (D := (dC, dI)) (ci := 10) (v := .ref a_this_sight) (C := RX10) (T := TX10) (N := 35) hx hb ht iX10 hown hK.1 hP 0 rfl rfl 32 (by decide) (ht _ w_4_235) (fun _ h9 => h9) rfl dX10_see_26 ?_
      refine lv_iconst (v := nI 2) hx hb dX10_see_29 (by decide) ?_
      refine lv_aload_n hx hb dX10_see_30 rfl (lv_at hl 0 rfl) ?_
      refine va_get (D := (dC, dI)) (ci := 10) (v := .int (nI v_seen)) (C := RX10) (T := TX10) (N := 35) hx hb ht iX10 hown hK.1 hP 0 rfl rfl 31 (by decide) (ht _ w_4_234) (fun _ h9 => h9) rfl dX10_see_31 ?_
      refine nv_imul hx hb dX10_see_34 ?_
      refine lv_iload_n hx hb dX10_see_35 rfl (lv_at hl 1 rfl) ?_
      refine nv_iast (e := 2 * v_seen) (by omega) (by omega) hx hb hK.1 hP hD hS 1 0 rfl rfl dX10_see_36 (fun H locs hP hD hS => ?_)
      have hP : va_P (dC, dI) vwCl [(a_this, .inr (10, [.int (nI v_letters), .ref a_this_text, .int (nI v_position), .int (nI v_tokenAt), .int v_token, .int v_number, .int (nI v_figures), .int v_faultAt, .int v_faultIs, .int v_readRooms, .int v_readStore, .int (nI v_readRains), .int (nI v_readDoors), .int (nI v_readPersons), .ref a_this_readRain, .ref a_this_readDoor, .ref a_this_readPerson, .int v_rooms, .int (nI v_rains), .int (nI v_doors), .int (nI v_persons), .ref a_this_rain, .ref a_this_door, .ref a_this_now, .ref a_this_tried, .ref a_this_backOf, .int (nI v_backs), .ref a_this_image, .ref a_this_imageSeed, .ref a_this_isKept, .int v_seed, .int (nI v_seen), .ref a_this_sight, .int (nI v_entries), .ref a_this_entry])), (a_this_sight, .inl (cA, 12, .inl (upd v_sight (2 * v_seen) x1)))] H := hP
      have hD : va_D (va_A [(a_this, .inr (10, [.int (nI v_letters), .ref a_this_text, .int (nI v_position), .int (nI v_tokenAt), .int v_token, .int v_number, .int (nI v_figures), .int v_faultAt, .int v_faultIs, .int v_readRooms, .int v_readStore, .int (nI v_readRains), .int (nI v_readDoors), .int (nI v_readPersons), .ref a_this_readRain, .ref a_this_readDoor, .ref a_this_readPerson, .int v_rooms, .int (nI v_rains), .int (nI v_doors), .int (nI v_persons), .ref a_this_rain, .ref a_this_door, .ref a_this_now, .ref a_this_tried, .ref a_this_backOf, .int (nI v_backs), .ref a_this_image, .ref a_this_imageSeed, .ref a_this_isKept, .int v_seed, .int (nI v_seen), .ref a_this_sight, .int (nI v_entries), .ref a_this_entry])), (a_this_sight, .inl (cA, 12, .inl v_sight))] s.heap.size) [(a_this, .inr (10, [.int (nI v_letters), .ref a_this_text, .int (nI v_position), .int (nI v_tokenAt), .int v_token, .int v_number, .int (nI v_figures), .int v_faultAt, .int v_faultIs, .int v_readRooms, .int v_readStore, .int (nI v_readRains), .int (nI v_readDoors), .int (nI v_readPersons), .ref a_this_readRain, .ref a_this_readDoor, .ref a_this_readPerson, .int v_rooms, .int (nI v_rains), .int (nI v_doors), .int (nI v_persons), .ref a_this_rain, .ref a_this_door, .ref a_this_now, .ref a_this_tried, .ref a_this_backOf, .int (nI v_backs), .ref a_this_image, .ref a_this_imageSeed, .ref a_this_isKept, .int v_seed, .int (nI v_seen), .ref a_this_sight, .int (nI v_entries), .ref a_this_entry])), (a_this_sight, .inl (cA, 12, .inl (upd v_sight (2 * v_seen) x1)))] := hD
      refine lv_aload_n hx hb dX10_see_37 rfl (lv_at hl 0 rfl) ?_
      refine va_get (D := (dC, dI)) (ci := 10) (v := .ref a_this_sight) (C := RX10) (T := TX10) (N := 35) hx hb ht iX10 hown hK.1 hP 0 rfl rfl 32 (by decide) (ht _ w_4_235) (fun _ h9 => h9) rfl dX10_see_38 ?_
      refine lv_iconst (v := nI 2) hx hb dX10_see_41 (by decide) ?_
      refine lv_aload_n hx hb dX10_see_42 rfl (lv_at hl 0 rfl) ?_
      refine va_get (D := (dC, dI)) (ci := 10) (v := .int (nI v_seen)) (C := RX10) (T := TX10) (N := 35) hx hb ht iX10 hown hK.1 hP 0 rfl rfl 31 (by decide) (ht _ w_4_234) (fun _ h9 => h9) rfl dX10_see_43 ?_
      refine nv_imul hx hb dX10_see_46 ?_
      refine lv_iconst (v := nI 1) hx hb dX10_see_47 (by decide) ?_
      refine nv_iadd hx hb dX10_see_48 ?_
      refine lv_iload_n hx hb dX10_see_49 rfl (lv_at hl 2 rfl) ?_
      refine lv_if_eq (tgt := 57) hx hb dX10_see_50 (by decide) (fun c_3 => ?_) (fun c_3 => ?_)
      · have hm := (if_pos c_3).symm.trans hm
        refine lv_iconst (v := nI 0) hx hb dX10_see_57 (by decide) ?_
        refine nv_iast (e := 2 * v_seen + 1) (by omega) (by omega) hx hb hK.1 hP hD hS 1 0 rfl rfl dX10_see_58 (fun H locs hP hD hS => ?_)
        have hP : va_P (dC, dI) vwCl [(a_this, .inr (10, [.int (nI v_letters), .ref a_this_text, .int (nI v_position), .int (nI v_tokenAt), .int v_token, .int v_number, .int (nI v_figures), .int v_faultAt, .int v_faultIs, .int v_readRooms, .int v_readStore, .int (nI v_readRains), .int (nI v_readDoors), .int (nI v_readPersons), .ref a_this_readRain, .ref a_this_readDoor, .ref a_this_readPerson, .int v_rooms, .int (nI v_rains), .int (nI v_doors), .int (nI v_persons), .ref a_this_rain, .ref a_this_door, .ref a_this_now, .ref a_this_tried, .ref a_this_backOf, .int (nI v_backs), .ref a_this_image, .ref a_this_imageSeed, .ref a_this_isKept, .int v_seed, .int (nI v_seen), .ref a_this_sight, .int (nI v_entries), .ref a_this_entry])), (a_this_sight, .inl (cA, 12, .inl (upd (upd v_sight (2 * v_seen) x1) (2 * v_seen + 1) (nI 0))))] H := hP
        have hD : va_D (va_A [(a_this, .inr (10, [.int (nI v_letters), .ref a_this_text, .int (nI v_position), .int (nI v_tokenAt), .int v_token, .int v_number, .int (nI v_figures), .int v_faultAt, .int v_faultIs, .int v_readRooms, .int v_readStore, .int (nI v_readRains), .int (nI v_readDoors), .int (nI v_readPersons), .ref a_this_readRain, .ref a_this_readDoor, .ref a_this_readPerson, .int v_rooms, .int (nI v_rains), .int (nI v_doors), .int (nI v_persons), .ref a_this_rain, .ref a_this_door, .ref a_this_now, .ref a_this_tried, .ref a_this_backOf, .int (nI v_backs), .ref a_this_image, .ref a_this_imageSeed, .ref a_this_isKept, .int v_seed, .int (nI v_seen), .ref a_this_sight, .int (nI v_entries), .ref a_this_entry])), (a_this_sight, .inl (cA, 12, .inl v_sight))] s.heap.size) [(a_this, .inr (10, [.int (nI v_letters), .ref a_this_text, .int (nI v_position), .int (nI v_tokenAt), .int v_token, .int v_number, .int (nI v_figures), .int v_faultAt, .int v_faultIs, .int v_readRooms, .int v_readStore, .int (nI v_readRains), .int (nI v_readDoors), .int (nI v_readPersons), .ref a_this_readRain, .ref a_this_readDoor, .ref a_this_readPerson, .int v_rooms, .int (nI v_rains), .int (nI v_doors), .int (nI v_persons), .ref a_this_rain, .ref a_this_door, .ref a_this_now, .ref a_this_tried, .ref a_this_backOf, .int (nI v_backs), .ref a_this_image, .ref a_this_imageSeed, .ref a_this_isKept, .int v_seed, .int (nI v_seen), .ref a_this_sight, .int (nI v_entries), .ref a_this_entry])), (a_this_sight, .inl (cA, 12, .inl (upd (upd v_sight (2 * v_seen) x1) (2 * v_seen + 1) (nI 0))))] := hD
        refine lv_aload_n hx hb dX10_see_59 rfl (lv_at hl 0 rfl) ?_
        refine lv_dup hx hb dX10_see_60 rfl ?_
        refine va_get (D := (dC, dI)) (ci := 10) (v := .int (nI v_seen)) (C := RX10) (T := TX10) (N := 35) hx hb ht iX10 hown hK.1 hP 0 rfl rfl 31 (by decide) (ht _ w_4_234) (fun _ h9 => h9) rfl dX10_see_61 ?_
        refine lv_iconst (v := nI 1) hx hb dX10_see_64 (by decide) ?_
        refine nv_iadd hx hb dX10_see_65 ?_
        refine va_put (D := (dC, dI)) (ci := 10) (v := .int (nI (v_seen + 1))) (ty := .int) (C := RX10) (T := TX10) (N := 35) hx hb ht iX10 tyX10 tyX10_ok nmX10 hown hK.1 hP hD hS 0 rfl rfl 31 (by decide) (ht _ w_4_234) (fun _ h9 => h9) rfl rfl rfl rfl (Nat.le_of_ble_eq_true rfl) dX10_see_66 (fun H locs hP hD hS => ?_)
        have hP : va_P (dC, dI) vwCl [(a_this, .inr (10, [.int (nI v_letters), .ref a_this_text, .int (nI v_position), .int (nI v_tokenAt), .int v_token, .int v_number, .int (nI v_figures), .int v_faultAt, .int v_faultIs, .int v_readRooms, .int v_readStore, .int (nI v_readRains), .int (nI v_readDoors), .int (nI v_readPersons), .ref a_this_readRain, .ref a_this_readDoor, .ref a_this_readPerson, .int v_rooms, .int (nI v_rains), .int (nI v_doors), .int (nI v_persons), .ref a_this_rain, .ref a_this_door, .ref a_this_now, .ref a_this_tried, .ref a_this_backOf, .int (nI v_backs), .ref a_this_image, .ref a_this_imageSeed, .ref a_this_isKept, .int v_seed, .int (nI (v_seen + 1)), .ref a_this_sight, .int (nI v_entries), .ref a_this_entry])), (a_this_sight, .inl (cA, 12, .inl (upd (upd v_sight (2 * v_seen) x1) (2 * v_seen + 1) (nI 0))))] H := hP
        have hD : va_D (va_A [(a_this, .inr (10, [.int (nI v_letters), .ref a_this_text, .int (nI v_position), .int (nI v_tokenAt), .int v_token, .int v_number, .int (nI v_figures), .int v_faultAt, .int v_faultIs, .int v_readRooms, .int v_readStore, .int (nI v_readRains), .int (nI v_readDoors), .int (nI v_readPersons), .ref a_this_readRain, .ref a_this_readDoor, .ref a_this_readPerson, .int v_rooms, .int (nI v_rains), .int (nI v_doors), .int (nI v_persons), .ref a_this_rain, .ref a_this_door, .ref a_this_now, .ref a_this_tried, .ref a_this_backOf, .int (nI v_backs), .ref a_this_image, .ref a_this_imageSeed, .ref a_this_isKept, .int v_seed, .int (nI v_seen), .ref a_this_sight, .int (nI v_entries), .ref a_this_entry])), (a_this_sight, .inl (cA, 12, .inl v_sight))] s.heap.size) [(a_this, .inr (10, [.int (nI v_letters), .ref a_this_text, .int (nI v_position), .int (nI v_tokenAt), .int v_token, .int v_number, .int (nI v_figures), .int v_faultAt, .int v_faultIs, .int v_readRooms, .int v_readStore, .int (nI v_readRains), .int (nI v_readDoors), .int (nI v_readPersons), .ref a_this_readRain, .ref a_this_readDoor, .ref a_this_readPerson, .int v_rooms, .int (nI v_rains), .int (nI v_doors), .int (nI v_persons), .ref a_this_rain, .ref a_this_door, .ref a_this_now, .ref a_this_tried, .ref a_this_backOf, .int (nI v_backs), .ref a_this_image, .ref a_this_imageSeed, .ref a_this_isKept, .int v_seed, .int (nI (v_seen + 1)), .ref a_this_sight, .int (nI v_entries), .ref a_this_entry])), (a_this_sight, .inl (cA, 12, .inl (upd (upd v_sight (2 * v_seen) x1) (2 * v_seen + 1) (nI 0))))] := hD
        refine lv_aload_n hx hb dX10_see_69 rfl (lv_at hl 0 rfl) ?_
        refine va_get (D := (dC, dI)) (ci := 10) (v := .int (nI (v_seen + 1))) (C := RX10) (T := TX10) (N := 35) hx hb ht iX10 hown hK.1 hP 0 rfl rfl 31 (by decide) (ht _ w_4_234) (fun _ h9 => h9) rfl dX10_see_70 ?_
        have hP9 := pc_sub (wc := [(a_this, .inr (10, [.int (nI v_letters), .ref a_this_text, .int (nI v_position), .int (nI v_tokenAt), .int v_token, .int v_number, .int (nI v_figures), .int v_faultAt, .int v_faultIs, .int v_readRooms, .int v_readStore, .int (nI v_readRains), .int (nI v_readDoors), .int (nI v_readPersons), .ref a_this_readRain, .ref a_this_readDoor, .ref a_this_readPerson, .int v_rooms, .int (nI v_rains), .int (nI v_doors), .int (nI v_persons), .ref a_this_rain, .ref a_this_door, .ref a_this_now, .ref a_this_tried, .ref a_this_backOf, .int (nI v_backs), .ref a_this_image, .ref a_this_imageSeed, .ref a_this_isKept, .int v_seed, .int (nI (v_seen + 1)), .ref a_this_sight, .int (nI v_entries), .ref a_this_entry])), (a_this_sight, .inl (cA, 12, .inl (upd (upd v_sight (2 * v_seen) x1) (2 * v_seen + 1) (nI 0))))]) hP [0, 1] rfl
        have hD9 := hD.sub (ws' := [(a_this, .inr (10, [.int (nI v_letters), .ref a_this_text, .int (nI v_position), .int (nI v_tokenAt), .int v_token, .int v_number, .int (nI v_figures), .int v_faultAt, .int v_faultIs, .int v_readRooms, .int v_readStore, .int (nI v_readRains), .int (nI v_readDoors), .int (nI v_readPersons), .ref a_this_readRain, .ref a_this_readDoor, .ref a_this_readPerson, .int v_rooms, .int (nI v_rains), .int (nI v_doors), .int (nI v_persons), .ref a_this_rain, .ref a_this_door, .ref a_this_now, .ref a_this_tried, .ref a_this_backOf, .int (nI v_backs), .ref a_this_image, .ref a_this_imageSeed, .ref a_this_isKept, .int v_seed, .int (nI (v_seen + 1)), .ref a_this_sight, .int (nI v_entries), .ref a_this_entry])), (a_this_sight, .inl (cA, 12, .inl (upd (upd v_sight (2 * v_seen) x1) (2 * v_seen + 1) (nI 0))))]) [0, 1] (by decide) rfl
        exact W.iret (v := nI (v_seen + 1)) hx hb hr (fun t ht9 _ => by rw [← hm]; exact ⟨⟨_, (), rfl, rfl, by rw [ht9]; exact hP9, hD9⟩, hS.F ht9⟩) hS.2.2 dX10_see_73
      · have hm := (if_neg c_3).symm.trans hm
        refine lv_iconst (v := nI 1) hx hb dX10_see_53 (by decide) ?_
        refine lv_goto (tgt := 58) hx hb dX10_see_54 (by decide) ?_
        refine nv_iast (e := 2 * v_seen + 1) (by omega) (by omega) hx hb hK.1 hP hD hS 1 0 rfl rfl dX10_see_58 (fun H locs hP hD hS => ?_)
        have hP : va_P (dC, dI) vwCl [(a_this, .inr (10, [.int (nI v_letters), .ref a_this_text, .int (nI v_position), .int (nI v_tokenAt), .int v_token, .int v_number, .int (nI v_figures), .int v_faultAt, .int v_faultIs, .int v_readRooms, .int v_readStore, .int (nI v_readRains), .int (nI v_readDoors), .int (nI v_readPersons), .ref a_this_readRain, .ref a_this_readDoor, .ref a_this_readPerson, .int v_rooms, .int (nI v_rains), .int (nI v_doors), .int (nI v_persons), .ref a_this_rain, .ref a_this_door, .ref a_this_now, .ref a_this_tried, .ref a_this_backOf, .int (nI v_backs), .ref a_this_image, .ref a_this_imageSeed, .ref a_this_isKept, .int v_seed, .int (nI v_seen), .ref a_this_sight, .int (nI v_entries), .ref a_this_entry])), (a_this_sight, .inl (cA, 12, .inl (upd (upd v_sight (2 * v_seen) x1) (2 * v_seen + 1) (nI 1))))] H := hP
        have hD : va_D (va_A [(a_this, .inr (10, [.int (nI v_letters), .ref a_this_text, .int (nI v_position), .int (nI v_tokenAt), .int v_token, .int v_number, .int (nI v_figures), .int v_faultAt, .int v_faultIs, .int v_readRooms, .int v_readStore, .int (nI v_readRains), .int (nI v_readDoors), .int (nI v_readPersons), .ref a_this_readRain, .ref a_this_readDoor, .ref a_this_readPerson, .int v_rooms, .int (nI v_rains), .int (nI v_doors), .int (nI v_persons), .ref a_this_rain, .ref a_this_door, .ref a_this_now, .ref a_this_tried, .ref a_this_backOf, .int (nI v_backs), .ref a_this_image, .ref a_this_imageSeed, .ref a_this_isKept, .int v_seed, .int (nI v_seen), .ref a_this_sight, .int (nI v_entries), .ref a_this_entry])), (a_this_sight, .inl (cA, 12, .inl v_sight))] s.heap.size) [(a_this, .inr (10, [.int (nI v_letters), .ref a_this_text, .int (nI v_position), .int (nI v_tokenAt), .int v_token, .int v_number, .int (nI v_figures), .int v_faultAt, .int v_faultIs, .int v_readRooms, .int v_readStore, .int (nI v_readRains), .int (nI v_readDoors), .int (nI v_readPersons), .ref a_this_readRain, .ref a_this_readDoor, .ref a_this_readPerson, .int v_rooms, .int (nI v_rains), .int (nI v_doors), .int (nI v_persons), .ref a_this_rain, .ref a_this_door, .ref a_this_now, .ref a_this_tried, .ref a_this_backOf, .int (nI v_backs), .ref a_this_image, .ref a_this_imageSeed, .ref a_this_isKept, .int v_seed, .int (nI v_seen), .ref a_this_sight, .int (nI v_entries), .ref a_this_entry])), (a_this_sight, .inl (cA, 12, .inl (upd (upd v_sight (2 * v_seen) x1) (2 * v_seen + 1) (nI 1))))] := hD
        refine lv_aload_n hx hb dX10_see_59 rfl (lv_at hl 0 rfl) ?_
        refine lv_dup hx hb dX10_see_60 rfl ?_
        refine va_get (D := (dC, dI)) (ci := 10) (v := .int (nI v_seen)) (C := RX10) (T := TX10) (N := 35) hx hb ht iX10 hown hK.1 hP 0 rfl rfl 31 (by decide) (ht _ w_4_234) (fun _ h9 => h9) rfl dX10_see_61 ?_
        refine lv_iconst (v := nI 1) hx hb dX10_see_64 (by decide) ?_
        refine nv_iadd hx hb dX10_see_65 ?_
        refine va_put (D := (dC, dI)) (ci := 10) (v := .int (nI (v_seen + 1))) (ty := .int) (C := RX10) (T := TX10) (N := 35) hx hb ht iX10 tyX10 tyX10_ok nmX10 hown hK.1 hP hD hS 0 rfl rfl 31 (by decide) (ht _ w_4_234) (fun _ h9 => h9) rfl rfl rfl rfl (Nat.le_of_ble_eq_true rfl) dX10_see_66 (fun H locs hP hD hS => ?_)
        have hP : va_P (dC, dI) vwCl [(a_this, .inr (10, [.int (nI v_letters), .ref a_this_text, .int (nI v_position), .int (nI v_tokenAt), .int v_token, .int v_number, .int (nI v_figures), .int v_faultAt, .int v_faultIs, .int v_readRooms, .int v_readStore, .int (nI v_readRains), .int (nI v_readDoors), .int (nI v_readPersons), .ref a_this_readRain, .ref a_this_readDoor, .ref a_this_readPerson, .int v_rooms, .int (nI v_rains), .int (nI v_doors), .int (nI v_persons), .ref a_this_rain, .ref a_this_door, .ref a_this_now, .ref a_this_tried, .ref a_this_backOf, .int (nI v_backs), .ref a_this_image, .ref a_this_imageSeed, .ref a_this_isKept, .int v_seed, .int (nI (v_seen + 1)), .ref a_this_sight, .int (nI v_entries), .ref a_this_entry])), (a_this_sight, .inl (cA, 12, .inl (upd (upd v_sight (2 * v_seen) x1) (2 * v_seen + 1) (nI 1))))] H := hP
        have hD : va_D (va_A [(a_this, .inr (10, [.int (nI v_letters), .ref a_this_text, .int (nI v_position), .int (nI v_tokenAt), .int v_token, .int v_number, .int (nI v_figures), .int v_faultAt, .int v_faultIs, .int v_readRooms, .int v_readStore, .int (nI v_readRains), .int (nI v_readDoors), .int (nI v_readPersons), .ref a_this_readRain, .ref a_this_readDoor, .ref a_this_readPerson, .int v_rooms, .int (nI v_rains), .int (nI v_doors), .int (nI v_persons), .ref a_this_rain, .ref a_this_door, .ref a_this_now, .ref a_this_tried, .ref a_this_backOf, .int (nI v_backs), .ref a_this_image, .ref a_this_imageSeed, .ref a_this_isKept, .int v_seed, .int (nI v_seen), .ref a_this_sight, .int (nI v_entries), .ref a_this_entry])), (a_this_sight, .inl (cA, 12, .inl v_sight))] s.heap.size) [(a_this, .inr (10, [.int (nI v_letters), .ref a_this_text, .int (nI v_position), .int (nI v_tokenAt), .int v_token, .int v_number, .int (nI v_figures), .int v_faultAt, .int v_faultIs, .int v_readRooms, .int v_readStore, .int (nI v_readRains), .int (nI v_readDoors), .int (nI v_readPersons), .ref a_this_readRain, .ref a_this_readDoor, .ref a_this_readPerson, .int v_rooms, .int (nI v_rains), .int (nI v_doors), .int (nI v_persons), .ref a_this_rain, .ref a_this_door, .ref a_this_now, .ref a_this_tried, .ref a_this_backOf, .int (nI v_backs), .ref a_this_image, .ref a_this_imageSeed, .ref a_this_isKept, .int v_seed, .int (nI (v_seen + 1)), .ref a_this_sight, .int (nI v_entries), .ref a_this_entry])), (a_this_sight, .inl (cA, 12, .inl (upd (upd v_sight (2 * v_seen) x1) (2 * v_seen + 1) (nI 1))))] := hD
        refine lv_aload_n hx hb dX10_see_69 rfl (lv_at hl 0 rfl) ?_
        refine va_get (D := (dC, dI)) (ci := 10) (v := .int (nI (v_seen + 1))) (C := RX10) (T := TX10) (N := 35) hx hb ht iX10 hown hK.1 hP 0 rfl rfl 31 (by decide) (ht _ w_4_234) (fun _ h9 => h9) rfl dX10_see_70 ?_
        have hP9 := pc_sub (wc := [(a_this, .inr (10, [.int (nI v_letters), .ref a_this_text, .int (nI v_position), .int (nI v_tokenAt), .int v_token, .int v_number, .int (nI v_figures), .int v_faultAt, .int v_faultIs, .int v_readRooms, .int v_readStore, .int (nI v_readRains), .int (nI v_readDoors), .int (nI v_readPersons), .ref a_this_readRain, .ref a_this_readDoor, .ref a_this_readPerson, .int v_rooms, .int (nI v_rains), .int (nI v_doors), .int (nI v_persons), .ref a_this_rain, .ref a_this_door, .ref a_this_now, .ref a_this_tried, .ref a_this_backOf, .int (nI v_backs), .ref a_this_image, .ref a_this_imageSeed, .ref a_this_isKept, .int v_seed, .int (nI (v_seen + 1)), .ref a_this_sight, .int (nI v_entries), .ref a_this_entry])), (a_this_sight, .inl (cA, 12, .inl (upd (upd v_sight (2 * v_seen) x1) (2 * v_seen + 1) (nI 1))))]) hP [0, 1] rfl
        have hD9 := hD.sub (ws' := [(a_this, .inr (10, [.int (nI v_letters), .ref a_this_text, .int (nI v_position), .int (nI v_tokenAt), .int v_token, .int v_number, .int (nI v_figures), .int v_faultAt, .int v_faultIs, .int v_readRooms, .int v_readStore, .int (nI v_readRains), .int (nI v_readDoors), .int (nI v_readPersons), .ref a_this_readRain, .ref a_this_readDoor, .ref a_this_readPerson, .int v_rooms, .int (nI v_rains), .int (nI v_doors), .int (nI v_persons), .ref a_this_rain, .ref a_this_door, .ref a_this_now, .ref a_this_tried, .ref a_this_backOf, .int (nI v_backs), .ref a_this_image, .ref a_this_imageSeed, .ref a_this_isKept, .int v_seed, .int (nI (v_seen + 1)), .ref a_this_sight, .int (nI v_entries), .ref a_this_entry])), (a_this_sight, .inl (cA, 12, .inl (upd (upd v_sight (2 * v_seen) x1) (2 * v_seen + 1) (nI 1))))]) [0, 1] (by decide) rfl
        exact W.iret (v := nI (v_seen + 1)) hx hb hr (fun t ht9 _ => by rw [← hm]; exact ⟨⟨_, (), rfl, rfl, by rw [ht9]; exact hP9, hD9⟩, hS.F ht9⟩) hS.2.2 dX10_see_73
    · have hm := (if_pos c_2).symm.trans hm
      refine lv_ldc (v := (-1000000004 : Int32)) hx hb hown (ht _ w_5_78) dX10_see_22 ?_
      have hP9 := pc_sub (wc := [(a_this, .inr (10, [.int (nI v_letters), .ref a_this_text, .int (nI v_position), .int (nI v_tokenAt), .int v_token, .int v_number, .int (nI v_figures), .int v_faultAt, .int v_faultIs, .int v_readRooms, .int v_readStore, .int (nI v_readRains), .int (nI v_readDoors), .int (nI v_readPersons), .ref a_this_readRain, .ref a_this_readDoor, .ref a_this_readPerson, .int v_rooms, .int (nI v_rains), .int (nI v_doors), .int (nI v_persons), .ref a_this_rain, .ref a_this_door, .ref a_this_now, .ref a_this_tried, .ref a_this_backOf, .int (nI v_backs), .ref a_this_image, .ref a_this_imageSeed, .ref a_this_isKept, .int v_seed, .int (nI v_seen), .ref a_this_sight, .int (nI v_entries), .ref a_this_entry])), (a_this_sight, .inl (cA, 12, .inl v_sight))]) hP [0, 1] rfl
      have hD9 := hD.sub (ws' := [(a_this, .inr (10, [.int (nI v_letters), .ref a_this_text, .int (nI v_position), .int (nI v_tokenAt), .int v_token, .int v_number, .int (nI v_figures), .int v_faultAt, .int v_faultIs, .int v_readRooms, .int v_readStore, .int (nI v_readRains), .int (nI v_readDoors), .int (nI v_readPersons), .ref a_this_readRain, .ref a_this_readDoor, .ref a_this_readPerson, .int v_rooms, .int (nI v_rains), .int (nI v_doors), .int (nI v_persons), .ref a_this_rain, .ref a_this_door, .ref a_this_now, .ref a_this_tried, .ref a_this_backOf, .int (nI v_backs), .ref a_this_image, .ref a_this_imageSeed, .ref a_this_isKept, .int v_seed, .int (nI v_seen), .ref a_this_sight, .int (nI v_entries), .ref a_this_entry])), (a_this_sight, .inl (cA, 12, .inl v_sight))]) [0, 1] (by decide) rfl
      exact W.iret (v := (-1000000004 : Int32)) hx hb hr (fun t ht9 _ => by rw [← hm]; exact ⟨⟨_, (), rfl, rfl, by rw [ht9]; exact hP9, hD9⟩, hS.F ht9⟩) hS.2.2 dX10_see_24
  · have hm := (if_pos c_1).symm.trans hm
    refine lv_ldc (v := (-1000000002 : Int32)) hx hb hown (ht _ w_5_77) dX10_see_10 ?_
    have hP9 := pc_sub (wc := [(a_this, .inr (10, [.int (nI v_letters), .ref a_this_text, .int (nI v_position), .int (nI v_tokenAt), .int v_token, .int v_number, .int (nI v_figures), .int v_faultAt, .int v_faultIs, .int v_readRooms, .int v_readStore, .int (nI v_readRains), .int (nI v_readDoors), .int (nI v_readPersons), .ref a_this_readRain, .ref a_this_readDoor, .ref a_this_readPerson, .int v_rooms, .int (nI v_rains), .int (nI v_doors), .int (nI v_persons), .ref a_this_rain, .ref a_this_door, .ref a_this_now, .ref a_this_tried, .ref a_this_backOf, .int (nI v_backs), .ref a_this_image, .ref a_this_imageSeed, .ref a_this_isKept, .int v_seed, .int (nI v_seen), .ref a_this_sight, .int (nI v_entries), .ref a_this_entry])), (a_this_sight, .inl (cA, 12, .inl v_sight))]) hP [0, 1] rfl
    have hD9 := hD.sub (ws' := [(a_this, .inr (10, [.int (nI v_letters), .ref a_this_text, .int (nI v_position), .int (nI v_tokenAt), .int v_token, .int v_number, .int (nI v_figures), .int v_faultAt, .int v_faultIs, .int v_readRooms, .int v_readStore, .int (nI v_readRains), .int (nI v_readDoors), .int (nI v_readPersons), .ref a_this_readRain, .ref a_this_readDoor, .ref a_this_readPerson, .int v_rooms, .int (nI v_rains), .int (nI v_doors), .int (nI v_persons), .ref a_this_rain, .ref a_this_door, .ref a_this_now, .ref a_this_tried, .ref a_this_backOf, .int (nI v_backs), .ref a_this_image, .ref a_this_imageSeed, .ref a_this_isKept, .int v_seed, .int (nI v_seen), .ref a_this_sight, .int (nI v_entries), .ref a_this_entry])), (a_this_sight, .inl (cA, 12, .inl v_sight))]) [0, 1] (by decide) rfl
    exact W.iret (v := (-1000000002 : Int32)) hx hb hr (fun t ht9 _ => by rw [← hm]; exact ⟨⟨_, (), rfl, rfl, by rw [ht9]; exact hP9, hD9⟩, hS.F ht9⟩) hS.2.2 dX10_see_12
theorem dX10_ills_0 : decode cX10_ills 0 = .ok (.iconst 0, 1) := by decide +kernel
theorem dX10_ills_1 : decode cX10_ills 1 = .ok (.istore_n 1, 1) := by decide +kernel
theorem dX10_ills_2 : decode cX10_ills 2 = .ok (.iconst 0, 1) := by decide +kernel
theorem dX10_ills_3 : decode cX10_ills 3 = .ok (.istore_n 2, 1) := by decide +kernel
theorem dX10_ills_4 : decode cX10_ills 4 = .ok (.iload_n 2, 1) := by decide +kernel
theorem dX10_ills_5 : decode cX10_ills 5 = .ok (.bipush 9, 2) := by decide +kernel
theorem dX10_ills_7 : decode cX10_ills 7 = .ok (.if_icmp .gt 89, 3) := by decide +kernel
theorem dX10_ills_10 : decode cX10_ills 10 = .ok (.iconst 1, 1) := by decide +kernel
theorem dX10_ills_11 : decode cX10_ills 11 = .ok (.istore_n 3, 1) := by decide +kernel
theorem dX10_ills_12 : decode cX10_ills 12 = .ok (.iconst 0, 1) := by decide +kernel
theorem dX10_ills_13 : decode cX10_ills 13 = .ok (.istore 4, 2) := by decide +kernel
theorem dX10_ills_15 : decode cX10_ills 15 = .ok (.iload 4, 2) := by decide +kernel
theorem dX10_ills_17 : decode cX10_ills 17 = .ok (.aload_n 0, 1) := by decide +kernel
theorem dX10_ills_18 : decode cX10_ills 18 = .ok (.getfield 145, 3) := by decide +kernel
theorem dX10_ills_21 : decode cX10_ills 21 = .ok (.if_icmp .ge 55, 3) := by decide +kernel
theorem dX10_ills_24 : decode cX10_ills 24 = .ok (.iload_n 3, 1) := by decide +kernel
theorem dX10_ills_25 : decode cX10_ills 25 = .ok (.ifCond .eq 43, 3) := by decide +kernel
theorem dX10_ills_28 : decode cX10_ills 28 = .ok (.aload_n 0, 1) := by decide +kernel
theorem dX10_ills_29 : decode cX10_ills 29 = .ok (.getfield 51, 3) := by decide +kernel
theorem dX10_ills_32 : decode cX10_ills 32 = .ok (.iconst 2, 1) := by decide +kernel
theorem dX10_ills_33 : decode cX10_ills 33 = .ok (.iload 4, 2) := by decide +kernel
theorem dX10_ills_35 : decode cX10_ills 35 = .ok (.imul, 1) := by decide +kernel
theorem dX10_ills_36 : decode cX10_ills 36 = .ok (.iaload, 1) := by decide +kernel
theorem dX10_ills_37 : decode cX10_ills 37 = .ok (.iload_n 2, 1) := by decide +kernel
theorem dX10_ills_38 : decode cX10_ills 38 = .ok (.invokestatic 158, 3) := by decide +kernel
theorem dX10_ills_41 : decode cX10_ills 41 = .ok (.aload_n 0, 1) := by decide +kernel
theorem dX10_ills_42 : decode cX10_ills 42 = .ok (.getfield 51, 3) := by decide +kernel
theorem dX10_ills_45 : decode cX10_ills 45 = .ok (.iconst 2, 1) := by decide +kernel
theorem dX10_ills_46 : decode cX10_ills 46 = .ok (.iload 4, 2) := by decide +kernel
theorem dX10_ills_48 : decode cX10_ills 48 = .ok (.imul, 1) := by decide +kernel
theorem dX10_ills_49 : decode cX10_ills 49 = .ok (.iconst 1, 1) := by decide +kernel
theorem dX10_ills_50 : decode cX10_ills 50 = .ok (.iadd, 1) := by decide +kernel
theorem dX10_ills_51 : decode cX10_ills 51 = .ok (.iaload, 1) := by decide +kernel
theorem dX10_ills_52 : decode cX10_ills 52 = .ok (.iconst 1, 1) := by decide +kernel
theorem dX10_ills_53 : decode cX10_ills 53 = .ok (.if_icmp .ne 7, 3) := by decide +kernel
theorem dX10_ills_56 : decode cX10_ills 56 = .ok (.iconst 1, 1) := by decide +kernel
theorem dX10_ills_57 : decode cX10_ills 57 = .ok (.goto 4, 3) := by decide +kernel
theorem dX10_ills_60 : decode cX10_ills 60 = .ok (.iconst 0, 1) := by decide +kernel
theorem dX10_ills_61 : decode cX10_ills 61 = .ok (.if_icmp .ne 7, 3) := by decide +kernel
theorem dX10_ills_64 : decode cX10_ills 64 = .ok (.iconst 1, 1) := by decide +kernel
theorem dX10_ills_65 : decode cX10_ills 65 = .ok (.goto 4, 3) := by decide +kernel
theorem dX10_ills_68 : decode cX10_ills 68 = .ok (.iconst 0, 1) := by decide +kernel
theorem dX10_ills_69 : decode cX10_ills 69 = .ok (.istore_n 3, 1) := by decide +kernel
theorem dX10_ills_70 : decode cX10_ills 70 = .ok (.iinc 4 1, 3) := by decide +kernel
theorem dX10_ills_73 : decode cX10_ills 73 = .ok (.goto (-58), 3) := by decide +kernel
theorem dX10_ills_76 : decode cX10_ills 76 = .ok (.iload_n 1, 1) := by decide +kernel
theorem dX10_ills_77 : decode cX10_ills 77 = .ok (.iload_n 3, 1) := by decide +kernel
theorem dX10_ills_78 : decode cX10_ills 78 = .ok (.ifCond .eq 9, 3) := by decide +kernel
theorem dX10_ills_81 : decode cX10_ills 81 = .ok (.iconst 1, 1) := by decide +kernel
theorem dX10_ills_82 : decode cX10_ills 82 = .ok (.iload_n 2, 1) := by decide +kernel
theorem dX10_ills_83 : decode cX10_ills 83 = .ok (.ishl, 1) := by decide +kernel
theorem dX10_ills_84 : decode cX10_ills 84 = .ok (.goto 4, 3) := by decide +kernel
theorem dX10_ills_87 : decode cX10_ills 87 = .ok (.iconst 0, 1) := by decide +kernel
theorem dX10_ills_88 : decode cX10_ills 88 = .ok (.ior, 1) := by decide +kernel
theorem dX10_ills_89 : decode cX10_ills 89 = .ok (.istore_n 1, 1) := by decide +kernel
theorem dX10_ills_90 : decode cX10_ills 90 = .ok (.iinc 2 1, 3) := by decide +kernel
theorem dX10_ills_93 : decode cX10_ills 93 = .ok (.goto (-89), 3) := by decide +kernel
theorem dX10_ills_96 : decode cX10_ills 96 = .ok (.iload_n 1, 1) := by decide +kernel
theorem dX10_ills_97 : decode cX10_ills 97 = .ok (.ireturn, 1) := by decide +kernel
theorem h_X10_ills : yX10_ills.cls ≠ "java/lang/invoke/MethodHandle" ∧ yX10_ills.cls ≠ "java/lang/invoke/VarHandle" ∧ (parseMethodDescriptor yX10_ills.desc).map (fun d => d.parameters.length) = some 0 := by decide +kernel
def mX10_ills_l15 (v_sight : Nat → Int32) (k_4 : Nat) (k_15 : Nat) (y3_15 : Int32) : Int32 := (if y3_15 = 0 then nI 0 else (if (v_sight (2 * k_15 + 1)) = (nI 1) then (if ((mX10_stopsBy (v_sight (2 * k_15)) (nI k_4))) = (nI 1) then nI 1 else nI 0) else (if ((mX10_stopsBy (v_sight (2 * k_15)) (nI k_4))) = (nI 0) then nI 1 else nI 0)))
def mX10_ills_l4 (v_seen : Nat) (v_sight : Nat → Int32) (k_4 : Nat) (y1_4 : Int32) : Int32 := (if ((iter (mX10_ills_l15 v_sight k_4) v_seen (nI 1))) = 0 then y1_4 ||| (nI 0) else y1_4 ||| ((nI 1) <<< ((nI k_4) &&& 31)))
def mX10_ills (v_seen : Nat) (v_sight : Nat → Int32) : Int32 := (iter (mX10_ills_l4 v_seen v_sight) 10 (nI 0))
set_option maxHeartbeats 4000000 in
set_option maxRecDepth 100000 in
theorem kX10_ills (l : Launch) (dC : Nat → ClassId) (dI : Nat → Nat → Nat) (cA cZ : ClassId) (a_this a_this_text a_this_readRain a_this_readDoor a_this_readPerson a_this_rain a_this_door a_this_now a_this_tried a_this_backOf a_this_image a_this_imageSeed a_this_isKept a_this_sight a_this_entry : Nat) (v_letters : Nat) (v_position : Nat) (v_tokenAt : Nat) (v_token : Int32) (v_number : Int32) (v_figures : Nat) (v_faultAt : Int32) (v_faultIs : Int32) (v_readRooms : Int32) (v_readStore : Int32) (v_readRains : Nat) (v_readDoors : Nat) (v_readPersons : Nat) (v_rooms : Int32) (v_rains : Nat) (v_doors : Nat) (v_persons : Nat) (v_backs : Nat) (v_seed : Int32) (v_seen : Nat) (v_entries : Nat) (v_sight : Nat → Int32) (hs : v_seen ≤ 6) : Met l yX10_ills (Cond.code yX10_ills cX10_ills 5 (some .int) :: wt) ({ frames := 1, cells := 0, slots := 0, locals := 21 } : Room) (va_Pc [.ref a_this] (PreP (dC, dI) [(cA, .int), (cZ, .boolean)] [(a_this, .inr (10, [.int (nI v_letters), .ref a_this_text, .int (nI v_position), .int (nI v_tokenAt), .int v_token, .int v_number, .int (nI v_figures), .int v_faultAt, .int v_faultIs, .int v_readRooms, .int v_readStore, .int (nI v_readRains), .int (nI v_readDoors), .int (nI v_readPersons), .ref a_this_readRain, .ref a_this_readDoor, .ref a_this_readPerson, .int v_rooms, .int (nI v_rains), .int (nI v_doors), .int (nI v_persons), .ref a_this_rain, .ref a_this_door, .ref a_this_now, .ref a_this_tried, .ref a_this_backOf, .int (nI v_backs), .ref a_this_image, .ref a_this_imageSeed, .ref a_this_isKept, .int v_seed, .int (nI v_seen), .ref a_this_sight, .int (nI v_entries), .ref a_this_entry])), (a_this_sight, .inl (cA, 12, .inl v_sight))])) (vp_Si (fun r => r = (mX10_ills v_seen v_sight))) 0 0 (fun _ => False) := by
  refine Met.ofW (cc := cX10_ills) (maxL := 5) (ret := (some .int)) (by decide) rfl ?_
  intro p e s m args below meth c s₁ B hml hv
  obtain ⟨ha, hP, hK⟩ := hv
  have hx := B.exec
  have hb := B.bytes
  have hr := B.returns
  have ht : ∀ w ∈ wt, w.before args s = true := fun w h => atoms_spec (ws := (Cond.code yX10_ills cX10_ills 5 (some .int) :: wt)) B.pre w (List.mem_cons_of_mem _ h)
  have hown : s.vm.findClass RX10 = some m.cls := findClass_of_methodNamed B.named
  have hlocks := B.notSynchronized
  have hl := lv_entry ([.ref a_this]) (n := 5) (Nat.le_of_ble_eq_true rfl)
  rw [show entryFrame m args 5 = _ from (congrArg (fun a => entryFrame m a 5) ha).trans (lg_entry_eq m [.ref a_this] 5)]
  generalize (lg_sl ([.ref a_this]) ++ List.replicate (5 - (lg_sl ([.ref a_this])).length) Slot.unset).toArray = ls at hl ⊢
  have hl : lv_has ls 5 [(0, .ref a_this)] := hl
  have hm : (iter (mX10_ills_l4 v_seen v_sight) 10 (nI 0)) = (mX10_ills v_seen v_sight) := rfl
  refine lv_iconst (v := nI 0) hx hb dX10_ills_0 (by decide) ?_
  refine lv_istore_n (lv' := [(1, .int (nI 0)), (0, .ref a_this)]) hx hb dX10_ills_1 rfl hl (by decide) rfl (fun ls hl => ?_)
  refine lv_iconst (v := nI 0) hx hb dX10_ills_2 (by decide) ?_
  refine lv_istore_n (lv' := [(2, .int (nI 0)), (1, .int (nI 0)), (0, .ref a_this)]) hx hb dX10_ills_3 rfl hl (by decide) rfl (fun ls hl => ?_)
  have L_4 : ∀ (n_4 k_4 : Nat), k_4 + n_4 = 10 → ∀ (y1_4 : Int32), y1_4 = (iter (mX10_ills_l4 v_seen v_sight) k_4 (nI 0)) → ∀ (ls : Array Slot), lv_has ls 5 [(2, .int (nI k_4)), (1, .int y1_4), (0, .ref a_this)] → W p l e (headSpec (Cond.code yX10_ills cX10_ills 5 (some .int) :: wt) ({ frames := 1, cells := 0, slots := 0, locals := 21 } : Room)).room s m args below meth c s.heap [] 0 0 (MQ below (vp_Si (fun r => r = (mX10_ills v_seen v_sight))) args s 0 0 (fun _ => False)) (F0 m 4 ls []) := by
    intro n_4
    induction n_4 with
    | zero =>
      intro k_4 hk y1_4 ex0_4 ls hl
      obtain rfl : 10 = k_4 := by omega
      subst ex0_4
      refine lv_iload_n hx hb dX10_ills_4 rfl (lv_at hl 0 rfl) ?_
      refine lv_bipush (v := nI 9) hx hb dX10_ills_5 (by decide) ?_
      refine lv_icmp_gt (tgt := 96) hx hb dX10_ills_7 (by decide) (fun c_9 => ?_) (fun c_9 => ?_)
      · skip
        refine lv_iload_n hx hb dX10_ills_96 rfl (lv_at hl 1 rfl) ?_
        exact W.iret (v := (iter (mX10_ills_l4 v_seen v_sight) 10 (nI 0))) hx hb hr (fun t ht9 _ => ⟨_, rfl, hm, ht9⟩) (fun q hq => absurd hq List.not_mem_nil) dX10_ills_97
      · exact absurd (nI_lt (a := 9) (by omega) (by omega)) c_9
    | succ n_4 ih =>
      intro k_4 hk y1_4 ex0_4 ls hl
      have hm : (mX10_ills_l4 v_seen v_sight) k_4 y1_4 = (iter (mX10_ills_l4 v_seen v_sight) (k_4 + 1) (nI 0)) := by rw [ex0_4]; rfl
      have hm : (if ((iter (mX10_ills_l15 v_sight k_4) v_seen (nI 1))) = 0 then y1_4 ||| (nI 0) else y1_4 ||| ((nI 1) <<< ((nI k_4) &&& 31))) = (iter (mX10_ills_l4 v_seen v_sight) (k_4 + 1) (nI 0)) := hm
      refine lv_iload_n hx hb dX10_ills_4 rfl (lv_at hl 0 rfl) ?_
      refine lv_bipush (v := nI 9) hx hb dX10_ills_5 (by decide) ?_
      refine lv_icmp_gt (tgt := 96) hx hb dX10_ills_7 (by decide) (fun c_1 => ?_) (fun c_1 => ?_)
      · exact absurd c_1 (nI_nlt (a := 9) (by omega) (by omega))
      · skip
        refine lv_iconst (v := nI 1) hx hb dX10_ills_10 (by decide) ?_
        refine lv_istore_n (lv' := [(3, .int (nI 1)), (2, .int (nI k_4)), (1, .int y1_4), (0, .ref a_this)]) hx hb dX10_ills_11 rfl hl (by decide) rfl (fun ls hl => ?_)
        refine lv_iconst (v := nI 0) hx hb dX10_ills_12 (by decide) ?_
        refine lv_istore (lv' := [(4, .int (nI 0)), (3, .int (nI 1)), (2, .int (nI k_4)), (1, .int y1_4), (0, .ref a_this)]) hx hb dX10_ills_13 hl (by decide) rfl (fun ls hl => ?_)
        have L_15 : ∀ (n_15 k_15 : Nat), k_15 + n_15 = v_seen → ∀ (y3_15 : Int32), y3_15 = (iter (mX10_ills_l15 v_sight k_4) k_15 (nI 1)) → ∀ (ls : Array Slot), lv_has ls 5 [(4, .int (nI k_15)), (3, .int y3_15), (2, .int (nI k_4)), (1, .int y1_4), (0, .ref a_this)] → W p l e (headSpec (Cond.code yX10_ills cX10_ills 5 (some .int) :: wt) ({ frames := 1, cells := 0, slots := 0, locals := 21 } : Room)).room s m args below meth c s.heap [] 0 0 (MQ below (vp_Si (fun r => r = (mX10_ills v_seen v_sight))) args s 0 0 (fun _ => False)) (F0 m 15 ls []) := by
          intro n_15
          induction n_15 with
          | zero =>
            intro k_15 hk y3_15 ex0_15 ls hl
            obtain rfl : v_seen = k_15 := by omega
            subst ex0_15
            refine lv_iload hx hb dX10_ills_15 (lv_at hl 0 rfl) ?_
            refine lv_aload_n hx hb dX10_ills_17 rfl (lv_at hl 4 rfl) ?_
            refine va_get (D := (dC, dI)) (ci := 10) (v := .int (nI v_seen)) (C := RX10) (T := TX10) (N := 35) hx hb ht iX10 hown hK.1 hP 0 rfl rfl 31 (by decide) (ht _ w_4_234) (fun _ h9 => h9) rfl dX10_ills_18 ?_
            refine lv_icmp_ge (tgt := 76) hx hb dX10_ills_21 (by decide) (fun c_7 => ?_) (fun c_7 => ?_)
            · skip
              refine lv_iload_n hx hb dX10_ills_76 rfl (lv_at hl 3 rfl) ?_
              refine lv_iload_n hx hb dX10_ills_77 rfl (lv_at hl 1 rfl) ?_
              refine lv_if_eq (tgt := 87) hx hb dX10_ills_78 (by decide) (fun c_8 => ?_) (fun c_8 => ?_)
              · have hm := (if_pos c_8).symm.trans hm
                refine lv_iconst (v := nI 0) hx hb dX10_ills_87 (by decide) ?_
                refine lv_ior hx hb dX10_ills_88 ?_
                refine lv_istore_n (lv' := [(1, .int (y1_4 ||| (nI 0))), (4, .int (nI v_seen)), (3, .int ((iter (mX10_ills_l15 v_sight k_4) v_seen (nI 1)))), (2, .int (nI k_4)), (0, .ref a_this)]) hx hb dX10_ills_89 rfl hl (by decide) rfl (fun ls hl => ?_)
                refine lv_iinc (v := nI (k_4 + 1)) (lv' := [(2, .int (nI (k_4 + 1))), (1, .int (y1_4 ||| (nI 0))), (4, .int (nI v_seen)), (3, .int ((iter (mX10_ills_l15 v_sight k_4) v_seen (nI 1)))), (0, .ref a_this)]) hx hb dX10_ills_90 hl (k := 3) rfl (nI_1 _) (by decide) rfl (fun ls hl => ?_)
                refine lv_goto (tgt := 4) hx hb dX10_ills_93 (by decide) ?_
                exact ih (k_4 + 1) (by omega) (y1_4 ||| (nI 0)) hm ls (lv_sub hl [0, 1, 4] rfl)
              · have hm := (if_neg c_8).symm.trans hm
                refine lv_iconst (v := nI 1) hx hb dX10_ills_81 (by decide) ?_
                refine lv_iload_n hx hb dX10_ills_82 rfl (lv_at hl 2 rfl) ?_
                refine lv_ishl hx hb dX10_ills_83 ?_
                refine lv_goto (tgt := 88) hx hb dX10_ills_84 (by decide) ?_
                refine lv_ior hx hb dX10_ills_88 ?_
                refine lv_istore_n (lv' := [(1, .int (y1_4 ||| ((nI 1) <<< ((nI k_4) &&& 31)))), (4, .int (nI v_seen)), (3, .int ((iter (mX10_ills_l15 v_sight k_4) v_seen (nI 1)))), (2, .int (nI k_4)), (0, .ref a_this)]) hx hb dX10_ills_89 rfl hl (by decide) rfl (fun ls hl => ?_)
                refine lv_iinc (v := nI (k_4 + 1)) (lv' := [(2, .int (nI (k_4 + 1))), (1, .int (y1_4 ||| ((nI 1) <<< ((nI k_4) &&& 31)))), (4, .int (nI v_seen)), (3, .int ((iter (mX10_ills_l15 v_sight k_4) v_seen (nI 1)))), (0, .ref a_this)]) hx hb dX10_ills_90 hl (k := 3) rfl (nI_1 _) (by decide) rfl (fun ls hl => ?_)
                refine lv_goto (tgt := 4) hx hb dX10_ills_93 (by decide) ?_
                exact ih (k_4 + 1) (by omega) (y1_4 ||| ((nI 1) <<< ((nI k_4) &&& 31))) hm ls (lv_sub hl [0, 1, 4] rfl)
            · exact absurd (nI_le (by omega) (by omega)) c_7
          | succ n_15 ih =>
            intro k_15 hk y3_15 ex0_15 ls hl
            have hm : (mX10_ills_l15 v_sight k_4) k_15 y3_15 = (iter (mX10_ills_l15 v_sight k_4) (k_15 + 1) (nI 1)) := by rw [ex0_15]; rfl
            have hm : (if y3_15 = 0 then nI 0 else (if (v_sight (2 * k_15 + 1)) = (nI 1) then (if ((mX10_stopsBy (v_sight (2 * k_15)) (nI k_4))) = (nI 1) then nI 1 else nI 0) else (if ((mX10_stopsBy (v_sight (2 * k_15)) (nI k_4))) = (nI 0) then nI 1 else nI 0))) = (iter (mX10_ills_l15 v_sight k_4) (k_15 + 1) (nI 1)) := hm
            refine lv_iload hx hb dX10_ills_15 (lv_at hl 0 rfl) ?_
            refine lv_aload_n hx hb dX10_ills_17 rfl (lv_at hl 4 rfl) ?_
            refine va_get (D := (dC, dI)) (ci := 10) (v := .int (nI v_seen)) (C := RX10) (T := TX10) (N := 35) hx hb ht iX10 hown hK.1 hP 0 rfl rfl 31 (by decide) (ht _ w_4_234) (fun _ h9 => h9) rfl dX10_ills_18 ?_
            refine lv_icmp_ge (tgt := 76) hx hb dX10_ills_21 (by decide) (fun c_2 => ?_) (fun c_2 => ?_)
            · exact absurd c_2 (nI_ge (by omega) (by omega))
            · skip
              refine lv_iload_n hx hb dX10_ills_24 rfl (lv_at hl 1 rfl) ?_
              refine lv_if_eq (tgt := 68) hx hb dX10_ills_25 (by decide) (fun c_3 => ?_) (fun c_3 => ?_)
              · have hm := (if_pos c_3).symm.trans hm
                refine lv_iconst (v := nI 0) hx hb dX10_ills_68 (by decide) ?_
                refine lv_istore_n (lv' := [(3, .int (nI 0)), (4, .int (nI k_15)), (2, .int (nI k_4)), (1, .int y1_4), (0, .ref a_this)]) hx hb dX10_ills_69 rfl hl (by decide) rfl (fun ls hl => ?_)
                refine lv_iinc (v := nI (k_15 + 1)) (lv' := [(4, .int (nI (k_15 + 1))), (3, .int (nI 0)), (2, .int (nI k_4)), (1, .int y1_4), (0, .ref a_this)]) hx hb dX10_ills_70 hl (k := 1) rfl (nI_1 _) (by decide) rfl (fun ls hl => ?_)
                refine lv_goto (tgt := 15) hx hb dX10_ills_73 (by decide) ?_
                exact ih (k_15 + 1) (by omega) (nI 0) hm ls (lv_sub hl [0, 1, 2, 3, 4] rfl)
              · have hm := (if_neg c_3).symm.trans hm
                refine lv_aload_n hx hb dX10_ills_28 rfl (lv_at hl 4 rfl) ?_
                refine va_get (D := (dC, dI)) (ci := 10) (v := .ref a_this_sight) (C := RX10) (T := TX10) (N := 35) hx hb ht iX10 hown hK.1 hP 0 rfl rfl 32 (by decide) (ht _ w_4_235) (fun _ h9 => h9) rfl dX10_ills_29 ?_
                refine lv_iconst (v := nI 2) hx hb dX10_ills_32 (by decide) ?_
                refine lv_iload hx hb dX10_ills_33 (lv_at hl 0 rfl) ?_
                refine nv_imul hx hb dX10_ills_35 ?_
                refine nv_iald (e := 2 * k_15) (by omega) (by omega) hx hb hK.1 hP 1 0 rfl rfl dX10_ills_36 ?_
                refine lv_iload_n hx hb dX10_ills_37 rfl (lv_at hl 2 rfl) ?_
                refine pv_call (v := (mX10_stopsBy (v_sight (2 * k_15)) (nI k_4))) (va_runS (As := [.int (v_sight (2 * k_15)), .int (nI k_4)]) (rest := []) ⟨hx, hb, hml, hown, ht⟩ (kX10_stopsBy l dC dI cA cZ (v_sight (2 * k_15)) (nI k_4)) (va_cwS 2 ht (gi_S w_5_152 w_5_153 w_1_12 (gi_code w_5_154)) rfl rfl rfl h_X10_stopsBy ⟨Nat.le_of_ble_eq_true rfl, Nat.le_of_ble_eq_true rfl⟩) ⟨pp_blind, pp_use (ws := []) (fun _ _ h => by cases h) hK⟩ rfl rfl hl.1 rfl (lv_room (Nat.le_of_ble_eq_true rfl)) dX10_ills_38 ⟨Nat.zero_le _, Nat.zero_le _⟩) ?_
                refine lv_aload_n hx hb dX10_ills_41 rfl (lv_at hl 4 rfl) ?_
                refine va_get (D := (dC, dI)) (ci := 10) (v := .ref a_this_sight) (C := RX10) (T := TX10) (N := 35) hx hb ht iX10 hown hK.1 hP 0 rfl rfl 32 (by decide) (ht _ w_4_235) (fun _ h9 => h9) rfl dX10_ills_42 ?_
                refine lv_iconst (v := nI 2) hx hb dX10_ills_45 (by decide) ?_
                refine lv_iload hx hb dX10_ills_46 (lv_at hl 0 rfl) ?_
                refine nv_imul hx hb dX10_ills_48 ?_
                refine lv_iconst (v := nI 1) hx hb dX10_ills_49 (by decide) ?_
                refine nv_iadd hx hb dX10_ills_50 ?_
                refine nv_iald (e := 2 * k_15 + 1) (by omega) (by omega) hx hb hK.1 hP 1 0 rfl rfl dX10_ills_51 ?_
                refine lv_iconst (v := nI 1) hx hb dX10_ills_52 (by decide) ?_
                refine lv_icmp_ne (tgt := 60) hx hb dX10_ills_53 (by decide) (fun c_4 => ?_) (fun c_4 => ?_)
                · have hm := (if_neg c_4).symm.trans hm
                  refine lv_iconst (v := nI 0) hx hb dX10_ills_60 (by decide) ?_
                  refine lv_icmp_ne (tgt := 68) hx hb dX10_ills_61 (by decide) (fun c_5 => ?_) (fun c_5 => ?_)
                  · have hm := (if_neg c_5).symm.trans hm
                    refine lv_iconst (v := nI 0) hx hb dX10_ills_68 (by decide) ?_
                    refine lv_istore_n (lv' := [(3, .int (nI 0)), (4, .int (nI k_15)), (2, .int (nI k_4)), (1, .int y1_4), (0, .ref a_this)]) hx hb dX10_ills_69 rfl hl (by decide) rfl (fun ls hl => ?_)
                    refine lv_iinc (v := nI (k_15 + 1)) (lv' := [(4, .int (nI (k_15 + 1))), (3, .int (nI 0)), (2, .int (nI k_4)), (1, .int y1_4), (0, .ref a_this)]) hx hb dX10_ills_70 hl (k := 1) rfl (nI_1 _) (by decide) rfl (fun ls hl => ?_)
                    refine lv_goto (tgt := 15) hx hb dX10_ills_73 (by decide) ?_
                    exact ih (k_15 + 1) (by omega) (nI 0) hm ls (lv_sub hl [0, 1, 2, 3, 4] rfl)
                  · have hm := (if_pos c_5).symm.trans hm
                    refine lv_iconst (v := nI 1) hx hb dX10_ills_64 (by decide) ?_
                    refine lv_goto (tgt := 69) hx hb dX10_ills_65 (by decide) ?_
                    refine lv_istore_n (lv' := [(3, .int (nI 1)), (4, .int (nI k_15)), (2, .int (nI k_4)), (1, .int y1_4), (0, .ref a_this)]) hx hb dX10_ills_69 rfl hl (by decide) rfl (fun ls hl => ?_)
                    refine lv_iinc (v := nI (k_15 + 1)) (lv' := [(4, .int (nI (k_15 + 1))), (3, .int (nI 1)), (2, .int (nI k_4)), (1, .int y1_4), (0, .ref a_this)]) hx hb dX10_ills_70 hl (k := 1) rfl (nI_1 _) (by decide) rfl (fun ls hl => ?_)
                    refine lv_goto (tgt := 15) hx hb dX10_ills_73 (by decide) ?_
                    exact ih (k_15 + 1) (by omega) (nI 1) hm ls (lv_sub hl [0, 1, 2, 3, 4] rfl)
                · have hm := (if_pos c_4).symm.trans hm
                  refine lv_iconst (v := nI 1) hx hb dX10_ills_56 (by decide) ?_
                  refine lv_goto (tgt := 61) hx hb dX10_ills_57 (by decide) ?_
                  refine lv_icmp_ne (tgt := 68) hx hb dX10_ills_61 (by decide) (fun c_6 => ?_) (fun c_6 => ?_)
                  · have hm := (if_neg c_6).symm.trans hm
                    refine lv_iconst (v := nI 0) hx hb dX10_ills_68 (by decide) ?_
                    refine lv_istore_n (lv' := [(3, .int (nI 0)), (4, .int (nI k_15)), (2, .int (nI k_4)), (1, .int y1_4), (0, .ref a_this)]) hx hb dX10_ills_69 rfl hl (by decide) rfl (fun ls hl => ?_)
                    refine lv_iinc (v := nI (k_15 + 1)) (lv' := [(4, .int (nI (k_15 + 1))), (3, .int (nI 0)), (2, .int (nI k_4)), (1, .int y1_4), (0, .ref a_this)]) hx hb dX10_ills_70 hl (k := 1) rfl (nI_1 _) (by decide) rfl (fun ls hl => ?_)
                    refine lv_goto (tgt := 15) hx hb dX10_ills_73 (by decide) ?_
                    exact ih (k_15 + 1) (by omega) (nI 0) hm ls (lv_sub hl [0, 1, 2, 3, 4] rfl)
                  · have hm := (if_pos c_6).symm.trans hm
                    refine lv_iconst (v := nI 1) hx hb dX10_ills_64 (by decide) ?_
                    refine lv_goto (tgt := 69) hx hb dX10_ills_65 (by decide) ?_
                    refine lv_istore_n (lv' := [(3, .int (nI 1)), (4, .int (nI k_15)), (2, .int (nI k_4)), (1, .int y1_4), (0, .ref a_this)]) hx hb dX10_ills_69 rfl hl (by decide) rfl (fun ls hl => ?_)
                    refine lv_iinc (v := nI (k_15 + 1)) (lv' := [(4, .int (nI (k_15 + 1))), (3, .int (nI 1)), (2, .int (nI k_4)), (1, .int y1_4), (0, .ref a_this)]) hx hb dX10_ills_70 hl (k := 1) rfl (nI_1 _) (by decide) rfl (fun ls hl => ?_)
                    refine lv_goto (tgt := 15) hx hb dX10_ills_73 (by decide) ?_
                    exact ih (k_15 + 1) (by omega) (nI 1) hm ls (lv_sub hl [0, 1, 2, 3, 4] rfl)
        exact L_15 v_seen 0 (Nat.zero_add _) (nI 1) rfl ls (lv_sub hl [0, 1, 2, 3, 4] rfl)
  exact L_4 10 0 (Nat.zero_add _) (nI 0) rfl ls (lv_sub hl [0, 1, 2] rfl)
theorem dX10_lookAt_0 : decode cX10_lookAt 0 = .ok (.aload_n 0, 1) := by decide +kernel
theorem dX10_lookAt_1 : decode cX10_lookAt 1 = .ok (.invokevirtual 251, 3) := by decide +kernel
theorem dX10_lookAt_4 : decode cX10_lookAt 4 = .ok (.istore_n 1, 1) := by decide +kernel
theorem dX10_lookAt_5 : decode cX10_lookAt 5 = .ok (.iconst 0, 1) := by decide +kernel
theorem dX10_lookAt_6 : decode cX10_lookAt 6 = .ok (.istore_n 2, 1) := by decide +kernel
theorem dX10_lookAt_7 : decode cX10_lookAt 7 = .ok (.iconst 0, 1) := by decide +kernel
theorem dX10_lookAt_8 : decode cX10_lookAt 8 = .ok (.istore_n 3, 1) := by decide +kernel
theorem dX10_lookAt_9 : decode cX10_lookAt 9 = .ok (.iload_n 3, 1) := by decide +kernel
theorem dX10_lookAt_10 : decode cX10_lookAt 10 = .ok (.bipush 9, 2) := by decide +kernel
theorem dX10_lookAt_12 : decode cX10_lookAt 12 = .ok (.if_icmp .gt 17, 3) := by decide +kernel
theorem dX10_lookAt_15 : decode cX10_lookAt 15 = .ok (.iload_n 2, 1) := by decide +kernel
theorem dX10_lookAt_16 : decode cX10_lookAt 16 = .ok (.iload_n 1, 1) := by decide +kernel
theorem dX10_lookAt_17 : decode cX10_lookAt 17 = .ok (.iload_n 3, 1) := by decide +kernel
theorem dX10_lookAt_18 : decode cX10_lookAt 18 = .ok (.ishr, 1) := by decide +kernel
theorem dX10_lookAt_19 : decode cX10_lookAt 19 = .ok (.iconst 1, 1) := by decide +kernel
theorem dX10_lookAt_20 : decode cX10_lookAt 20 = .ok (.iand, 1) := by decide +kernel
theorem dX10_lookAt_21 : decode cX10_lookAt 21 = .ok (.iadd, 1) := by decide +kernel
theorem dX10_lookAt_22 : decode cX10_lookAt 22 = .ok (.istore_n 2, 1) := by decide +kernel
theorem dX10_lookAt_23 : decode cX10_lookAt 23 = .ok (.iinc 3 1, 3) := by decide +kernel
theorem dX10_lookAt_26 : decode cX10_lookAt 26 = .ok (.goto (-17), 3) := by decide +kernel
theorem dX10_lookAt_29 : decode cX10_lookAt 29 = .ok (.iconst (-1), 1) := by decide +kernel
theorem dX10_lookAt_30 : decode cX10_lookAt 30 = .ok (.istore_n 3, 1) := by decide +kernel
theorem dX10_lookAt_31 : decode cX10_lookAt 31 = .ok (.iload_n 2, 1) := by decide +kernel
theorem dX10_lookAt_32 : decode cX10_lookAt 32 = .ok (.istore 4, 2) := by decide +kernel
theorem dX10_lookAt_34 : decode cX10_lookAt 34 = .ok (.iconst 0, 1) := by decide +kernel
theorem dX10_lookAt_35 : decode cX10_lookAt 35 = .ok (.istore 5, 2) := by decide +kernel
theorem dX10_lookAt_37 : decode cX10_lookAt 37 = .ok (.iload 5, 2) := by decide +kernel
theorem dX10_lookAt_39 : decode cX10_lookAt 39 = .ok (.bipush 9, 2) := by decide +kernel
theorem dX10_lookAt_41 : decode cX10_lookAt 41 = .ok (.if_icmp .gt 107, 3) := by decide +kernel
theorem dX10_lookAt_44 : decode cX10_lookAt 44 = .ok (.iconst 0, 1) := by decide +kernel
theorem dX10_lookAt_45 : decode cX10_lookAt 45 = .ok (.istore 6, 2) := by decide +kernel
theorem dX10_lookAt_47 : decode cX10_lookAt 47 = .ok (.iconst 0, 1) := by decide +kernel
theorem dX10_lookAt_48 : decode cX10_lookAt 48 = .ok (.istore 7, 2) := by decide +kernel
theorem dX10_lookAt_50 : decode cX10_lookAt 50 = .ok (.iload 7, 2) := by decide +kernel
theorem dX10_lookAt_52 : decode cX10_lookAt 52 = .ok (.bipush 9, 2) := by decide +kernel
theorem dX10_lookAt_54 : decode cX10_lookAt 54 = .ok (.if_icmp .gt 38, 3) := by decide +kernel
theorem dX10_lookAt_57 : decode cX10_lookAt 57 = .ok (.iload 6, 2) := by decide +kernel
theorem dX10_lookAt_59 : decode cX10_lookAt 59 = .ok (.iload_n 1, 1) := by decide +kernel
theorem dX10_lookAt_60 : decode cX10_lookAt 60 = .ok (.iload 7, 2) := by decide +kernel
theorem dX10_lookAt_62 : decode cX10_lookAt 62 = .ok (.invokestatic 161, 3) := by decide +kernel
theorem dX10_lookAt_65 : decode cX10_lookAt 65 = .ok (.ifCond .eq 17, 3) := by decide +kernel
theorem dX10_lookAt_68 : decode cX10_lookAt 68 = .ok (.iload 5, 2) := by decide +kernel
theorem dX10_lookAt_70 : decode cX10_lookAt 70 = .ok (.iload 7, 2) := by decide +kernel
theorem dX10_lookAt_72 : decode cX10_lookAt 72 = .ok (.invokestatic 158, 3) := by decide +kernel
theorem dX10_lookAt_75 : decode cX10_lookAt 75 = .ok (.ifCond .eq 7, 3) := by decide +kernel
theorem dX10_lookAt_78 : decode cX10_lookAt 78 = .ok (.iconst 1, 1) := by decide +kernel
theorem dX10_lookAt_79 : decode cX10_lookAt 79 = .ok (.goto 4, 3) := by decide +kernel
theorem dX10_lookAt_82 : decode cX10_lookAt 82 = .ok (.iconst 0, 1) := by decide +kernel
theorem dX10_lookAt_83 : decode cX10_lookAt 83 = .ok (.iadd, 1) := by decide +kernel
theorem dX10_lookAt_84 : decode cX10_lookAt 84 = .ok (.istore 6, 2) := by decide +kernel
theorem dX10_lookAt_86 : decode cX10_lookAt 86 = .ok (.iinc 7 1, 3) := by decide +kernel
theorem dX10_lookAt_89 : decode cX10_lookAt 89 = .ok (.goto (-39), 3) := by decide +kernel
theorem dX10_lookAt_92 : decode cX10_lookAt 92 = .ok (.iload 6, 2) := by decide +kernel
theorem dX10_lookAt_94 : decode cX10_lookAt 94 = .ok (.iload_n 2, 1) := by decide +kernel
theorem dX10_lookAt_95 : decode cX10_lookAt 95 = .ok (.iload 6, 2) := by decide +kernel
theorem dX10_lookAt_97 : decode cX10_lookAt 97 = .ok (.isub, 1) := by decide +kernel
theorem dX10_lookAt_98 : decode cX10_lookAt 98 = .ok (.if_icmp .le 8, 3) := by decide +kernel
theorem dX10_lookAt_101 : decode cX10_lookAt 101 = .ok (.iload 6, 2) := by decide +kernel
theorem dX10_lookAt_103 : decode cX10_lookAt 103 = .ok (.goto 7, 3) := by decide +kernel
theorem dX10_lookAt_106 : decode cX10_lookAt 106 = .ok (.iload_n 2, 1) := by decide +kernel
theorem dX10_lookAt_107 : decode cX10_lookAt 107 = .ok (.iload 6, 2) := by decide +kernel
theorem dX10_lookAt_109 : decode cX10_lookAt 109 = .ok (.isub, 1) := by decide +kernel
theorem dX10_lookAt_110 : decode cX10_lookAt 110 = .ok (.istore 7, 2) := by decide +kernel
theorem dX10_lookAt_112 : decode cX10_lookAt 112 = .ok (.iload 7, 2) := by decide +kernel
theorem dX10_lookAt_114 : decode cX10_lookAt 114 = .ok (.iload 4, 2) := by decide +kernel
theorem dX10_lookAt_116 : decode cX10_lookAt 116 = .ok (.if_icmp .ge 8, 3) := by decide +kernel
theorem dX10_lookAt_119 : decode cX10_lookAt 119 = .ok (.iload 5, 2) := by decide +kernel
theorem dX10_lookAt_121 : decode cX10_lookAt 121 = .ok (.goto 4, 3) := by decide +kernel
theorem dX10_lookAt_124 : decode cX10_lookAt 124 = .ok (.iload_n 3, 1) := by decide +kernel
theorem dX10_lookAt_125 : decode cX10_lookAt 125 = .ok (.istore_n 3, 1) := by decide +kernel
theorem dX10_lookAt_126 : decode cX10_lookAt 126 = .ok (.iload 7, 2) := by decide +kernel
theorem dX10_lookAt_128 : decode cX10_lookAt 128 = .ok (.iload 4, 2) := by decide +kernel
theorem dX10_lookAt_130 : decode cX10_lookAt 130 = .ok (.if_icmp .ge 8, 3) := by decide +kernel
theorem dX10_lookAt_133 : decode cX10_lookAt 133 = .ok (.iload 7, 2) := by decide +kernel
theorem dX10_lookAt_135 : decode cX10_lookAt 135 = .ok (.goto 5, 3) := by decide +kernel
theorem dX10_lookAt_138 : decode cX10_lookAt 138 = .ok (.iload 4, 2) := by decide +kernel
theorem dX10_lookAt_140 : decode cX10_lookAt 140 = .ok (.istore 4, 2) := by decide +kernel
theorem dX10_lookAt_142 : decode cX10_lookAt 142 = .ok (.iinc 5 1, 3) := by decide +kernel
theorem dX10_lookAt_145 : decode cX10_lookAt 145 = .ok (.goto (-108), 3) := by decide +kernel
theorem dX10_lookAt_148 : decode cX10_lookAt 148 = .ok (.iload_n 3, 1) := by decide +kernel
theorem dX10_lookAt_149 : decode cX10_lookAt 149 = .ok (.ireturn, 1) := by decide +kernel
theorem h_X10_lookAt : yX10_lookAt.cls ≠ "java/lang/invoke/MethodHandle" ∧ yX10_lookAt.cls ≠ "java/lang/invoke/VarHandle" ∧ (parseMethodDescriptor yX10_lookAt.desc).map (fun d => d.parameters.length) = some 0 := by decide +kernel
def mX10_lookAt_l9 (v_seen : Nat) (v_sight : Nat → Int32) (k_9 : Nat) (y2_9 : Int32) : Int32 := y2_9 + ((((mX10_ills v_seen v_sight)) >>> ((nI k_9) &&& 31)) &&& (nI 1))
def mX10_lookAt_l50 (v_seen : Nat) (v_sight : Nat → Int32) (k_37 : Nat) (k_50 : Nat) (y6_50 : Int32) : Int32 := (if ((mX10_has ((mX10_ills v_seen v_sight)) (nI k_50))) = 0 then y6_50 + (nI 0) else (if ((mX10_stopsBy (nI k_37) (nI k_50))) = 0 then y6_50 + (nI 0) else y6_50 + (nI 1)))
def mX10_lookAt_l37 (v_seen : Nat) (v_sight : Nat → Int32) (k_37 : Nat) (s : Int32 × Int32) : Int32 × Int32 := (if ((iter (mX10_lookAt_l50 v_seen v_sight k_37) 10 (nI 0))) ≤ (((iter (mX10_lookAt_l9 v_seen v_sight) 10 (nI 0))) - ((iter (mX10_lookAt_l50 v_seen v_sight k_37) 10 (nI 0)))) then (if s.2 ≤ (((iter (mX10_lookAt_l9 v_seen v_sight) 10 (nI 0))) - ((iter (mX10_lookAt_l50 v_seen v_sight k_37) 10 (nI 0)))) then (if s.2 ≤ (((iter (mX10_lookAt_l9 v_seen v_sight) 10 (nI 0))) - ((iter (mX10_lookAt_l50 v_seen v_sight k_37) 10 (nI 0)))) then (s.1, s.2) else (s.1, ((iter (mX10_lookAt_l9 v_seen v_sight) 10 (nI 0))) - ((iter (mX10_lookAt_l50 v_seen v_sight k_37) 10 (nI 0))))) else (if s.2 ≤ (((iter (mX10_lookAt_l9 v_seen v_sight) 10 (nI 0))) - ((iter (mX10_lookAt_l50 v_seen v_sight k_37) 10 (nI 0)))) then (nI k_37, s.2) else (nI k_37, ((iter (mX10_lookAt_l9 v_seen v_sight) 10 (nI 0))) - ((iter (mX10_lookAt_l50 v_seen v_sight k_37) 10 (nI 0)))))) else (if s.2 ≤ ((iter (mX10_lookAt_l50 v_seen v_sight k_37) 10 (nI 0))) then (if s.2 ≤ ((iter (mX10_lookAt_l50 v_seen v_sight k_37) 10 (nI 0))) then (s.1, s.2) else (s.1, (iter (mX10_lookAt_l50 v_seen v_sight k_37) 10 (nI 0)))) else (if s.2 ≤ ((iter (mX10_lookAt_l50 v_seen v_sight k_37) 10 (nI 0))) then (nI k_37, s.2) else (nI k_37, (iter (mX10_lookAt_l50 v_seen v_sight k_37) 10 (nI 0))))))
def mX10_lookAt (v_seen : Nat) (v_sight : Nat → Int32) : Int32 := ((fun (w_37 : Int32 × Int32) => w_37.1) (iter (mX10_lookAt_l37 v_seen v_sight) 10 (((-1 : Int32), (iter (mX10_lookAt_l9 v_seen v_sight) 10 (nI 0))))))
set_option maxHeartbeats 4000000 in
set_option maxRecDepth 100000 in
theorem kX10_lookAt (l : Launch) (dC : Nat → ClassId) (dI : Nat → Nat → Nat) (cA cZ : ClassId) (a_this a_this_text a_this_readRain a_this_readDoor a_this_readPerson a_this_rain a_this_door a_this_now a_this_tried a_this_backOf a_this_image a_this_imageSeed a_this_isKept a_this_sight a_this_entry : Nat) (v_letters : Nat) (v_position : Nat) (v_tokenAt : Nat) (v_token : Int32) (v_number : Int32) (v_figures : Nat) (v_faultAt : Int32) (v_faultIs : Int32) (v_readRooms : Int32) (v_readStore : Int32) (v_readRains : Nat) (v_readDoors : Nat) (v_readPersons : Nat) (v_rooms : Int32) (v_rains : Nat) (v_doors : Nat) (v_persons : Nat) (v_backs : Nat) (v_seed : Int32) (v_seen : Nat) (v_entries : Nat) (v_sight : Nat → Int32) (hs : v_seen ≤ 6) : Met l yX10_lookAt (Cond.code yX10_lookAt cX10_lookAt 8 (some .int) :: wt) ({ frames := 2, cells := 0, slots := 0, locals := 45 } : Room) (va_Pc [.ref a_this] (PreP (dC, dI) [(cA, .int), (cZ, .boolean)] [(a_this, .inr (10, [.int (nI v_letters), .ref a_this_text, .int (nI v_position), .int (nI v_tokenAt), .int v_token, .int v_number, .int (nI v_figures), .int v_faultAt, .int v_faultIs, .int v_readRooms, .int v_readStore, .int (nI v_readRains), .int (nI v_readDoors), .int (nI v_readPersons), .ref a_this_readRain, .ref a_this_readDoor, .ref a_this_readPerson, .int v_rooms, .int (nI v_rains), .int (nI v_doors), .int (nI v_persons), .ref a_this_rain, .ref a_this_door, .ref a_this_now, .ref a_this_tried, .ref a_this_backOf, .int (nI v_backs), .ref a_this_image, .ref a_this_imageSeed, .ref a_this_isKept, .int v_seed, .int (nI v_seen), .ref a_this_sight, .int (nI v_entries), .ref a_this_entry])), (a_this_sight, .inl (cA, 12, .inl v_sight))])) (vp_Si (fun r => r = (mX10_lookAt v_seen v_sight))) 0 0 (fun _ => False) := by
  refine Met.ofW (cc := cX10_lookAt) (maxL := 8) (ret := (some .int)) (by decide) rfl ?_
  intro p e s m args below meth c s₁ B hml hv
  obtain ⟨ha, hP, hK⟩ := hv
  have hx := B.exec
  have hb := B.bytes
  have hr := B.returns
  have ht : ∀ w ∈ wt, w.before args s = true := fun w h => atoms_spec (ws := (Cond.code yX10_lookAt cX10_lookAt 8 (some .int) :: wt)) B.pre w (List.mem_cons_of_mem _ h)
  have hown : s.vm.findClass RX10 = some m.cls := findClass_of_methodNamed B.named
  have hlocks := B.notSynchronized
  have hl := lv_entry ([.ref a_this]) (n := 8) (Nat.le_of_ble_eq_true rfl)
  rw [show entryFrame m args 8 = _ from (congrArg (fun a => entryFrame m a 8) ha).trans (lg_entry_eq m [.ref a_this] 8)]
  generalize (lg_sl ([.ref a_this]) ++ List.replicate (8 - (lg_sl ([.ref a_this])).length) Slot.unset).toArray = ls at hl ⊢
  have hl : lv_has ls 8 [(0, .ref a_this)] := hl
  have hm : ((fun (w_37 : Int32 × Int32) => w_37.1) (iter (mX10_lookAt_l37 v_seen v_sight) 10 (((-1 : Int32), (iter (mX10_lookAt_l9 v_seen v_sight) 10 (nI 0)))))) = (mX10_lookAt v_seen v_sight) := rfl
  refine lv_aload_n hx hb dX10_lookAt_0 rfl (lv_at hl 0 rfl) ?_
  refine pv_call (v := (mX10_ills v_seen v_sight)) (va_runV (As := []) (rest := []) ⟨hx, hb, hml, hown, ht⟩ (kX10_ills l dC dI cA cZ a_this a_this_text a_this_readRain a_this_readDoor a_this_readPerson a_this_rain a_this_door a_this_now a_this_tried a_this_backOf a_this_image a_this_imageSeed a_this_isKept a_this_sight a_this_entry v_letters v_position v_tokenAt v_token v_number v_figures v_faultAt v_faultIs v_readRooms v_readStore v_readRains v_readDoors v_readPersons v_rooms v_rains v_doors v_persons v_backs v_seed v_seen v_entries v_sight (by omega)) (cwV 0 ht (gi_V (C := RX10) w_6_109 w_6_102 w_6_103 w_1_12 (gi_code w_6_104)) rfl rfl rfl ⟨rfl, h_X10_ills⟩ ⟨Nat.le_of_ble_eq_true rfl, Nat.le_of_ble_eq_true rfl⟩) ⟨pp_blind, va_recv hK.1 hP (ci := 10) (q0 := 0) rfl rfl, pp_use hP hK⟩ rfl rfl hl.1 rfl (lv_room (Nat.le_of_ble_eq_true rfl)) dX10_lookAt_1 ⟨Nat.zero_le _, Nat.zero_le _⟩) ?_
  refine lv_istore_n (lv' := [(1, .int ((mX10_ills v_seen v_sight))), (0, .ref a_this)]) hx hb dX10_lookAt_4 rfl hl (by decide) rfl (fun ls hl => ?_)
  refine lv_iconst (v := nI 0) hx hb dX10_lookAt_5 (by decide) ?_
  refine lv_istore_n (lv' := [(2, .int (nI 0)), (1, .int ((mX10_ills v_seen v_sight))), (0, .ref a_this)]) hx hb dX10_lookAt_6 rfl hl (by decide) rfl (fun ls hl => ?_)
  refine lv_iconst (v := nI 0) hx hb dX10_lookAt_7 (by decide) ?_
  refine lv_istore_n (lv' := [(3, .int (nI 0)), (2, .int (nI 0)), (1, .int ((mX10_ills v_seen v_sight))), (0, .ref a_this)]) hx hb dX10_lookAt_8 rfl hl (by decide) rfl (fun ls hl => ?_)
  have L_9 : ∀ (n_9 k_9 : Nat), k_9 + n_9 = 10 → ∀ (y2_9 : Int32), y2_9 = (iter (mX10_lookAt_l9 v_seen v_sight) k_9 (nI 0)) → ∀ (ls : Array Slot), lv_has ls 8 [(3, .int (nI k_9)), (2, .int y2_9), (1, .int ((mX10_ills v_seen v_sight))), (0, .ref a_this)] → W p l e (headSpec (Cond.code yX10_lookAt cX10_lookAt 8 (some .int) :: wt) ({ frames := 2, cells := 0, slots := 0, locals := 45 } : Room)).room s m args below meth c s.heap [] 0 0 (MQ below (vp_Si (fun r => r = (mX10_lookAt v_seen v_sight))) args s 0 0 (fun _ => False)) (F0 m 9 ls []) := by
    intro n_9
    induction n_9 with
    | zero =>
      intro k_9 hk y2_9 ex0_9 ls hl
      obtain rfl : 10 = k_9 := by omega
      subst ex0_9
      refine lv_iload_n hx hb dX10_lookAt_9 rfl (lv_at hl 0 rfl) ?_
      refine lv_bipush (v := nI 9) hx hb dX10_lookAt_10 (by decide) ?_
      refine lv_icmp_gt (tgt := 29) hx hb dX10_lookAt_12 (by decide) (fun c_2 => ?_) (fun c_2 => ?_)
      · skip
        refine lv_iconst (v := (-1 : Int32)) hx hb dX10_lookAt_29 (by decide) ?_
        refine lv_istore_n (lv' := [(3, .int ((-1 : Int32))), (2, .int ((iter (mX10_lookAt_l9 v_seen v_sight) 10 (nI 0)))), (1, .int ((mX10_ills v_seen v_sight))), (0, .ref a_this)]) hx hb dX10_lookAt_30 rfl hl (by decide) rfl (fun ls hl => ?_)
        refine lv_iload_n hx hb dX10_lookAt_31 rfl (lv_at hl 1 rfl) ?_
        refine lv_istore (lv' := [(4, .int ((iter (mX10_lookAt_l9 v_seen v_sight) 10 (nI 0)))), (3, .int ((-1 : Int32))), (2, .int ((iter (mX10_lookAt_l9 v_seen v_sight) 10 (nI 0)))), (1, .int ((mX10_ills v_seen v_sight))), (0, .ref a_this)]) hx hb dX10_lookAt_32 hl (by decide) rfl (fun ls hl => ?_)
        refine lv_iconst (v := nI 0) hx hb dX10_lookAt_34 (by decide) ?_
        refine lv_istore (lv' := [(5, .int (nI 0)), (4, .int ((iter (mX10_lookAt_l9 v_seen v_sight) 10 (nI 0)))), (3, .int ((-1 : Int32))), (2, .int ((iter (mX10_lookAt_l9 v_seen v_sight) 10 (nI 0)))), (1, .int ((mX10_ills v_seen v_sight))), (0, .ref a_this)]) hx hb dX10_lookAt_35 hl (by decide) rfl (fun ls hl => ?_)
        have L_37 : ∀ (n_37 k_37 : Nat), k_37 + n_37 = 10 → ∀ (y3_37 : Int32) (y4_37 : Int32), y3_37 = ((iter (mX10_lookAt_l37 v_seen v_sight) k_37 (((-1 : Int32), (iter (mX10_lookAt_l9 v_seen v_sight) 10 (nI 0)))))).1 → y4_37 = ((iter (mX10_lookAt_l37 v_seen v_sight) k_37 (((-1 : Int32), (iter (mX10_lookAt_l9 v_seen v_sight) 10 (nI 0)))))).2 → ∀ (ls : Array Slot), lv_has ls 8 [(5, .int (nI k_37)), (4, .int y4_37), (3, .int y3_37), (2, .int ((iter (mX10_lookAt_l9 v_seen v_sight) 10 (nI 0)))), (1, .int ((mX10_ills v_seen v_sight))), (0, .ref a_this)] → W p l e (headSpec (Cond.code yX10_lookAt cX10_lookAt 8 (some .int) :: wt) ({ frames := 2, cells := 0, slots := 0, locals := 45 } : Room)).room s m args below meth c s.heap [] 0 0 (MQ below (vp_Si (fun r => r = (mX10_lookAt v_seen v_sight))) args s 0 0 (fun _ => False)) (F0 m 37 ls []) := by
          intro n_37
          induction n_37 with
          | zero =>
            intro k_37 hk y3_37 y4_37 ex0_37 ex1_37 ls hl
            obtain rfl : 10 = k_37 := by omega
            have he : (y3_37, y4_37) = (iter (mX10_lookAt_l37 v_seen v_sight) 10 (((-1 : Int32), (iter (mX10_lookAt_l9 v_seen v_sight) 10 (nI 0))))) := by rw [ex0_37, ex1_37]
            rw [← he] at hm
            have hm : y3_37 = _ := hm
            refine lv_iload hx hb dX10_lookAt_37 (lv_at hl 0 rfl) ?_
            refine lv_bipush (v := nI 9) hx hb dX10_lookAt_39 (by decide) ?_
            refine lv_icmp_gt (tgt := 148) hx hb dX10_lookAt_41 (by decide) (fun c_15 => ?_) (fun c_15 => ?_)
            · skip
              refine lv_iload_n hx hb dX10_lookAt_148 rfl (lv_at hl 2 rfl) ?_
              exact W.iret (v := y3_37) hx hb hr (fun t ht9 _ => ⟨_, rfl, hm, ht9⟩) (fun q hq => absurd hq List.not_mem_nil) dX10_lookAt_149
            · exact absurd (nI_lt (a := 9) (by omega) (by omega)) c_15
          | succ n_37 ih =>
            intro k_37 hk y3_37 y4_37 ex0_37 ex1_37 ls hl
            have hm : (mX10_lookAt_l37 v_seen v_sight) k_37 (y3_37, y4_37) = (iter (mX10_lookAt_l37 v_seen v_sight) (k_37 + 1) (((-1 : Int32), (iter (mX10_lookAt_l9 v_seen v_sight) 10 (nI 0))))) := by rw [ex0_37, ex1_37]; rfl
            have hm : (if ((iter (mX10_lookAt_l50 v_seen v_sight k_37) 10 (nI 0))) ≤ (((iter (mX10_lookAt_l9 v_seen v_sight) 10 (nI 0))) - ((iter (mX10_lookAt_l50 v_seen v_sight k_37) 10 (nI 0)))) then (if y4_37 ≤ (((iter (mX10_lookAt_l9 v_seen v_sight) 10 (nI 0))) - ((iter (mX10_lookAt_l50 v_seen v_sight k_37) 10 (nI 0)))) then (if y4_37 ≤ (((iter (mX10_lookAt_l9 v_seen v_sight) 10 (nI 0))) - ((iter (mX10_lookAt_l50 v_seen v_sight k_37) 10 (nI 0)))) then (y3_37, y4_37) else (y3_37, ((iter (mX10_lookAt_l9 v_seen v_sight) 10 (nI 0))) - ((iter (mX10_lookAt_l50 v_seen v_sight k_37) 10 (nI 0))))) else (if y4_37 ≤ (((iter (mX10_lookAt_l9 v_seen v_sight) 10 (nI 0))) - ((iter (mX10_lookAt_l50 v_seen v_sight k_37) 10 (nI 0)))) then (nI k_37, y4_37) else (nI k_37, ((iter (mX10_lookAt_l9 v_seen v_sight) 10 (nI 0))) - ((iter (mX10_lookAt_l50 v_seen v_sight k_37) 10 (nI 0)))))) else (if y4_37 ≤ ((iter (mX10_lookAt_l50 v_seen v_sight k_37) 10 (nI 0))) then (if y4_37 ≤ ((iter (mX10_lookAt_l50 v_seen v_sight k_37) 10 (nI 0))) then (y3_37, y4_37) else (y3_37, (iter (mX10_lookAt_l50 v_seen v_sight k_37) 10 (nI 0)))) else (if y4_37 ≤ ((iter (mX10_lookAt_l50 v_seen v_sight k_37) 10 (nI 0))) then (nI k_37, y4_37) else (nI k_37, (iter (mX10_lookAt_l50 v_seen v_sight k_37) 10 (nI 0)))))) = (iter (mX10_lookAt_l37 v_seen v_sight) (k_37 + 1) (((-1 : Int32), (iter (mX10_lookAt_l9 v_seen v_sight) 10 (nI 0))))) := hm
            refine lv_iload hx hb dX10_lookAt_37 (lv_at hl 0 rfl) ?_
            refine lv_bipush (v := nI 9) hx hb dX10_lookAt_39 (by decide) ?_
            refine lv_icmp_gt (tgt := 148) hx hb dX10_lookAt_41 (by decide) (fun c_3 => ?_) (fun c_3 => ?_)
            · exact absurd c_3 (nI_nlt (a := 9) (by omega) (by omega))
            · skip
              refine lv_iconst (v := nI 0) hx hb dX10_lookAt_44 (by decide) ?_
              refine lv_istore (lv' := [(6, .int (nI 0)), (5, .int (nI k_37)), (4, .int y4_37), (3, .int y3_37), (2, .int ((iter (mX10_lookAt_l9 v_seen v_sight) 10 (nI 0)))), (1, .int ((mX10_ills v_seen v_sight))), (0, .ref a_this)]) hx hb dX10_lookAt_45 hl (by decide) rfl (fun ls hl => ?_)
              refine lv_iconst (v := nI 0) hx hb dX10_lookAt_47 (by decide) ?_
              refine lv_istore (lv' := [(7, .int (nI 0)), (6, .int (nI 0)), (5, .int (nI k_37)), (4, .int y4_37), (3, .int y3_37), (2, .int ((iter (mX10_lookAt_l9 v_seen v_sight) 10 (nI 0)))), (1, .int ((mX10_ills v_seen v_sight))), (0, .ref a_this)]) hx hb dX10_lookAt_48 hl (by decide) rfl (fun ls hl => ?_)
              have L_50 : ∀ (n_50 k_50 : Nat), k_50 + n_50 = 10 → ∀ (y6_50 : Int32), y6_50 = (iter (mX10_lookAt_l50 v_seen v_sight k_37) k_50 (nI 0)) → ∀ (ls : Array Slot), lv_has ls 8 [(7, .int (nI k_50)), (6, .int y6_50), (5, .int (nI k_37)), (4, .int y4_37), (3, .int y3_37), (2, .int ((iter (mX10_lookAt_l9 v_seen v_sight) 10 (nI 0)))), (1, .int ((mX10_ills v_seen v_sight))), (0, .ref a_this)] → W p l e (headSpec (Cond.code yX10_lookAt cX10_lookAt 8 (some .int) :: wt) ({ frames := 2, cells := 0, slots := 0, locals := 45 } : Room)).room s m args below meth c s.heap [] 0 0 (MQ below (vp_Si (fun r => r = (mX10_lookAt v_seen v_sight))) args s 0 0 (fun _ => False)) (F0 m 50 ls []) := by
                intro n_50
                induction n_50 with
                | zero =>
                  intro k_50 hk y6_50 ex0_50 ls hl
                  obtain rfl : 10 = k_50 := by omega
                  subst ex0_50
                  refine lv_iload hx hb dX10_lookAt_50 (lv_at hl 0 rfl) ?_
                  refine lv_bipush (v := nI 9) hx hb dX10_lookAt_52 (by decide) ?_
                  refine lv_icmp_gt (tgt := 92) hx hb dX10_lookAt_54 (by decide) (fun c_7 => ?_) (fun c_7 => ?_)
                  · skip
                    refine lv_iload hx hb dX10_lookAt_92 (lv_at hl 1 rfl) ?_
                    refine lv_iload_n hx hb dX10_lookAt_94 rfl (lv_at hl 5 rfl) ?_
                    refine lv_iload hx hb dX10_lookAt_95 (lv_at hl 1 rfl) ?_
                    refine lv_isub hx hb dX10_lookAt_97 ?_
                    refine lv_icmp_le (tgt := 106) hx hb dX10_lookAt_98 (by decide) (fun c_8 => ?_) (fun c_8 => ?_)
                    · have hm := (if_pos c_8).symm.trans hm
                      refine lv_iload_n hx hb dX10_lookAt_106 rfl (lv_at hl 5 rfl) ?_
                      refine lv_iload hx hb dX10_lookAt_107 (lv_at hl 1 rfl) ?_
                      refine lv_isub hx hb dX10_lookAt_109 ?_
                      refine lv_istore (lv' := [(7, .int (((iter (mX10_lookAt_l9 v_seen v_sight) 10 (nI 0))) - ((iter (mX10_lookAt_l50 v_seen v_sight k_37) 10 (nI 0))))), (6, .int ((iter (mX10_lookAt_l50 v_seen v_sight k_37) 10 (nI 0)))), (5, .int (nI k_37)), (4, .int y4_37), (3, .int y3_37), (2, .int ((iter (mX10_lookAt_l9 v_seen v_sight) 10 (nI 0)))), (1, .int ((mX10_ills v_seen v_sight))), (0, .ref a_this)]) hx hb dX10_lookAt_110 hl (by decide) rfl (fun ls hl => ?_)
                      refine lv_iload hx hb dX10_lookAt_112 (lv_at hl 0 rfl) ?_
                      refine lv_iload hx hb dX10_lookAt_114 (lv_at hl 3 rfl) ?_
                      refine lv_icmp_ge (tgt := 124) hx hb dX10_lookAt_116 (by decide) (fun c_9 => ?_) (fun c_9 => ?_)
                      · have hm := (if_pos c_9).symm.trans hm
                        refine lv_iload_n hx hb dX10_lookAt_124 rfl (lv_at hl 4 rfl) ?_
                        refine lv_istore_n (lv' := [(3, .int y3_37), (7, .int (((iter (mX10_lookAt_l9 v_seen v_sight) 10 (nI 0))) - ((iter (mX10_lookAt_l50 v_seen v_sight k_37) 10 (nI 0))))), (6, .int ((iter (mX10_lookAt_l50 v_seen v_sight k_37) 10 (nI 0)))), (5, .int (nI k_37)), (4, .int y4_37), (2, .int ((iter (mX10_lookAt_l9 v_seen v_sight) 10 (nI 0)))), (1, .int ((mX10_ills v_seen v_sight))), (0, .ref a_this)]) hx hb dX10_lookAt_125 rfl hl (by decide) rfl (fun ls hl => ?_)
                        refine lv_iload hx hb dX10_lookAt_126 (lv_at hl 1 rfl) ?_
                        refine lv_iload hx hb dX10_lookAt_128 (lv_at hl 4 rfl) ?_
                        refine lv_icmp_ge (tgt := 138) hx hb dX10_lookAt_130 (by decide) (fun c_10 => ?_) (fun c_10 => ?_)
                        · have hm := (if_pos c_10).symm.trans hm
                          refine lv_iload hx hb dX10_lookAt_138 (lv_at hl 4 rfl) ?_
                          refine lv_istore (lv' := [(4, .int y4_37), (3, .int y3_37), (7, .int (((iter (mX10_lookAt_l9 v_seen v_sight) 10 (nI 0))) - ((iter (mX10_lookAt_l50 v_seen v_sight k_37) 10 (nI 0))))), (6, .int ((iter (mX10_lookAt_l50 v_seen v_sight k_37) 10 (nI 0)))), (5, .int (nI k_37)), (2, .int ((iter (mX10_lookAt_l9 v_seen v_sight) 10 (nI 0)))), (1, .int ((mX10_ills v_seen v_sight))), (0, .ref a_this)]) hx hb dX10_lookAt_140 hl (by decide) rfl (fun ls hl => ?_)
                          refine lv_iinc (v := nI (k_37 + 1)) (lv' := [(5, .int (nI (k_37 + 1))), (4, .int y4_37), (3, .int y3_37), (7, .int (((iter (mX10_lookAt_l9 v_seen v_sight) 10 (nI 0))) - ((iter (mX10_lookAt_l50 v_seen v_sight k_37) 10 (nI 0))))), (6, .int ((iter (mX10_lookAt_l50 v_seen v_sight k_37) 10 (nI 0)))), (2, .int ((iter (mX10_lookAt_l9 v_seen v_sight) 10 (nI 0)))), (1, .int ((mX10_ills v_seen v_sight))), (0, .ref a_this)]) hx hb dX10_lookAt_142 hl (k := 4) rfl (nI_1 _) (by decide) rfl (fun ls hl => ?_)
                          refine lv_goto (tgt := 37) hx hb dX10_lookAt_145 (by decide) ?_
                          exact ih (k_37 + 1) (by omega) y3_37 y4_37 (congrArg (fun z => z.1) hm) (congrArg (fun z => z.2) hm) ls (lv_sub hl [0, 1, 2, 5, 6, 7] rfl)
                        · have hm := (if_neg c_10).symm.trans hm
                          refine lv_iload hx hb dX10_lookAt_133 (lv_at hl 1 rfl) ?_
                          refine lv_goto (tgt := 140) hx hb dX10_lookAt_135 (by decide) ?_
                          refine lv_istore (lv' := [(4, .int (((iter (mX10_lookAt_l9 v_seen v_sight) 10 (nI 0))) - ((iter (mX10_lookAt_l50 v_seen v_sight k_37) 10 (nI 0))))), (3, .int y3_37), (7, .int (((iter (mX10_lookAt_l9 v_seen v_sight) 10 (nI 0))) - ((iter (mX10_lookAt_l50 v_seen v_sight k_37) 10 (nI 0))))), (6, .int ((iter (mX10_lookAt_l50 v_seen v_sight k_37) 10 (nI 0)))), (5, .int (nI k_37)), (2, .int ((iter (mX10_lookAt_l9 v_seen v_sight) 10 (nI 0)))), (1, .int ((mX10_ills v_seen v_sight))), (0, .ref a_this)]) hx hb dX10_lookAt_140 hl (by decide) rfl (fun ls hl => ?_)
                          refine lv_iinc (v := nI (k_37 + 1)) (lv' := [(5, .int (nI (k_37 + 1))), (4, .int (((iter (mX10_lookAt_l9 v_seen v_sight) 10 (nI 0))) - ((iter (mX10_lookAt_l50 v_seen v_sight k_37) 10 (nI 0))))), (3, .int y3_37), (7, .int (((iter (mX10_lookAt_l9 v_seen v_sight) 10 (nI 0))) - ((iter (mX10_lookAt_l50 v_seen v_sight k_37) 10 (nI 0))))), (6, .int ((iter (mX10_lookAt_l50 v_seen v_sight k_37) 10 (nI 0)))), (2, .int ((iter (mX10_lookAt_l9 v_seen v_sight) 10 (nI 0)))), (1, .int ((mX10_ills v_seen v_sight))), (0, .ref a_this)]) hx hb dX10_lookAt_142 hl (k := 4) rfl (nI_1 _) (by decide) rfl (fun ls hl => ?_)
                          refine lv_goto (tgt := 37) hx hb dX10_lookAt_145 (by decide) ?_
                          exact ih (k_37 + 1) (by omega) y3_37 (((iter (mX10_lookAt_l9 v_seen v_sight) 10 (nI 0))) - ((iter (mX10_lookAt_l50 v_seen v_sight k_37) 10 (nI 0)))) (congrArg (fun z => z.1) hm) (congrArg (fun z => z.2) hm) ls (lv_sub hl [0, 1, 2, 5, 6, 7] rfl)
                      · have hm := (if_neg c_9).symm.trans hm
                        refine lv_iload hx hb dX10_lookAt_119 (lv_at hl 2 rfl) ?_
                        refine lv_goto (tgt := 125) hx hb dX10_lookAt_121 (by decide) ?_
                        refine lv_istore_n (lv' := [(3, .int (nI k_37)), (7, .int (((iter (mX10_lookAt_l9 v_seen v_sight) 10 (nI 0))) - ((iter (mX10_lookAt_l50 v_seen v_sight k_37) 10 (nI 0))))), (6, .int ((iter (mX10_lookAt_l50 v_seen v_sight k_37) 10 (nI 0)))), (5, .int (nI k_37)), (4, .int y4_37), (2, .int ((iter (mX10_lookAt_l9 v_seen v_sight) 10 (nI 0)))), (1, .int ((mX10_ills v_seen v_sight))), (0, .ref a_this)]) hx hb dX10_lookAt_125 rfl hl (by decide) rfl (fun ls hl => ?_)
                        refine lv_iload hx hb dX10_lookAt_126 (lv_at hl 1 rfl) ?_
                        refine lv_iload hx hb dX10_lookAt_128 (lv_at hl 4 rfl) ?_
                        refine lv_icmp_ge (tgt := 138) hx hb dX10_lookAt_130 (by decide) (fun c_11 => ?_) (fun c_11 => ?_)
                        · have hm := (if_pos c_11).symm.trans hm
                          refine lv_iload hx hb dX10_lookAt_138 (lv_at hl 4 rfl) ?_
                          refine lv_istore (lv' := [(4, .int y4_37), (3, .int (nI k_37)), (7, .int (((iter (mX10_lookAt_l9 v_seen v_sight) 10 (nI 0))) - ((iter (mX10_lookAt_l50 v_seen v_sight k_37) 10 (nI 0))))), (6, .int ((iter (mX10_lookAt_l50 v_seen v_sight k_37) 10 (nI 0)))), (5, .int (nI k_37)), (2, .int ((iter (mX10_lookAt_l9 v_seen v_sight) 10 (nI 0)))), (1, .int ((mX10_ills v_seen v_sight))), (0, .ref a_this)]) hx hb dX10_lookAt_140 hl (by decide) rfl (fun ls hl => ?_)
                          refine lv_iinc (v := nI (k_37 + 1)) (lv' := [(5, .int (nI (k_37 + 1))), (4, .int y4_37), (3, .int (nI k_37)), (7, .int (((iter (mX10_lookAt_l9 v_seen v_sight) 10 (nI 0))) - ((iter (mX10_lookAt_l50 v_seen v_sight k_37) 10 (nI 0))))), (6, .int ((iter (mX10_lookAt_l50 v_seen v_sight k_37) 10 (nI 0)))), (2, .int ((iter (mX10_lookAt_l9 v_seen v_sight) 10 (nI 0)))), (1, .int ((mX10_ills v_seen v_sight))), (0, .ref a_this)]) hx hb dX10_lookAt_142 hl (k := 4) rfl (nI_1 _) (by decide) rfl (fun ls hl => ?_)
                          refine lv_goto (tgt := 37) hx hb dX10_lookAt_145 (by decide) ?_
                          exact ih (k_37 + 1) (by omega) (nI k_37) y4_37 (congrArg (fun z => z.1) hm) (congrArg (fun z => z.2) hm) ls (lv_sub hl [0, 1, 2, 5, 6, 7] rfl)
                        · have hm := (if_neg c_11).symm.trans hm
                          refine lv_iload hx hb dX10_lookAt_133 (lv_at hl 1 rfl) ?_
                          refine lv_goto (tgt := 140) hx hb dX10_lookAt_135 (by decide) ?_
                          refine lv_istore (lv' := [(4, .int (((iter (mX10_lookAt_l9 v_seen v_sight) 10 (nI 0))) - ((iter (mX10_lookAt_l50 v_seen v_sight k_37) 10 (nI 0))))), (3, .int (nI k_37)), (7, .int (((iter (mX10_lookAt_l9 v_seen v_sight) 10 (nI 0))) - ((iter (mX10_lookAt_l50 v_seen v_sight k_37) 10 (nI 0))))), (6, .int ((iter (mX10_lookAt_l50 v_seen v_sight k_37) 10 (nI 0)))), (5, .int (nI k_37)), (2, .int ((iter (mX10_lookAt_l9 v_seen v_sight) 10 (nI 0)))), (1, .int ((mX10_ills v_seen v_sight))), (0, .ref a_this)]) hx hb dX10_lookAt_140 hl (by decide) rfl (fun ls hl => ?_)
                          refine lv_iinc (v := nI (k_37 + 1)) (lv' := [(5, .int (nI (k_37 + 1))), (4, .int (((iter (mX10_lookAt_l9 v_seen v_sight) 10 (nI 0))) - ((iter (mX10_lookAt_l50 v_seen v_sight k_37) 10 (nI 0))))), (3, .int (nI k_37)), (7, .int (((iter (mX10_lookAt_l9 v_seen v_sight) 10 (nI 0))) - ((iter (mX10_lookAt_l50 v_seen v_sight k_37) 10 (nI 0))))), (6, .int ((iter (mX10_lookAt_l50 v_seen v_sight k_37) 10 (nI 0)))), (2, .int ((iter (mX10_lookAt_l9 v_seen v_sight) 10 (nI 0)))), (1, .int ((mX10_ills v_seen v_sight))), (0, .ref a_this)]) hx hb dX10_lookAt_142 hl (k := 4) rfl (nI_1 _) (by decide) rfl (fun ls hl => ?_)
                          refine lv_goto (tgt := 37) hx hb dX10_lookAt_145 (by decide) ?_
                          exact ih (k_37 + 1) (by omega) (nI k_37) (((iter (mX10_lookAt_l9 v_seen v_sight) 10 (nI 0))) - ((iter (mX10_lookAt_l50 v_seen v_sight k_37) 10 (nI 0)))) (congrArg (fun z => z.1) hm) (congrArg (fun z => z.2) hm) ls (lv_sub hl [0, 1, 2, 5, 6, 7] rfl)
                    · have hm := (if_neg c_8).symm.trans hm
                      refine lv_iload hx hb dX10_lookAt_101 (lv_at hl 1 rfl) ?_
                      refine lv_goto (tgt := 110) hx hb dX10_lookAt_103 (by decide) ?_
                      refine lv_istore (lv' := [(7, .int ((iter (mX10_lookAt_l50 v_seen v_sight k_37) 10 (nI 0)))), (6, .int ((iter (mX10_lookAt_l50 v_seen v_sight k_37) 10 (nI 0)))), (5, .int (nI k_37)), (4, .int y4_37), (3, .int y3_37), (2, .int ((iter (mX10_lookAt_l9 v_seen v_sight) 10 (nI 0)))), (1, .int ((mX10_ills v_seen v_sight))), (0, .ref a_this)]) hx hb dX10_lookAt_110 hl (by decide) rfl (fun ls hl => ?_)
                      refine lv_iload hx hb dX10_lookAt_112 (lv_at hl 0 rfl) ?_
                      refine lv_iload hx hb dX10_lookAt_114 (lv_at hl 3 rfl) ?_
                      refine lv_icmp_ge (tgt := 124) hx hb dX10_lookAt_116 (by decide) (fun c_12 => ?_) (fun c_12 => ?_)
                      · have hm := (if_pos c_12).symm.trans hm
                        refine lv_iload_n hx hb dX10_lookAt_124 rfl (lv_at hl 4 rfl) ?_
                        refine lv_istore_n (lv' := [(3, .int y3_37), (7, .int ((iter (mX10_lookAt_l50 v_seen v_sight k_37) 10 (nI 0)))), (6, .int ((iter (mX10_lookAt_l50 v_seen v_sight k_37) 10 (nI 0)))), (5, .int (nI k_37)), (4, .int y4_37), (2, .int ((iter (mX10_lookAt_l9 v_seen v_sight) 10 (nI 0)))), (1, .int ((mX10_ills v_seen v_sight))), (0, .ref a_this)]) hx hb dX10_lookAt_125 rfl hl (by decide) rfl (fun ls hl => ?_)
                        refine lv_iload hx hb dX10_lookAt_126 (lv_at hl 1 rfl) ?_
                        refine lv_iload hx hb dX10_lookAt_128 (lv_at hl 4 rfl) ?_
                        refine lv_icmp_ge (tgt := 138) hx hb dX10_lookAt_130 (by decide) (fun c_13 => ?_) (fun c_13 => ?_)
                        · have hm := (if_pos c_13).symm.trans hm
                          refine lv_iload hx hb dX10_lookAt_138 (lv_at hl 4 rfl) ?_
                          refine lv_istore (lv' := [(4, .int y4_37), (3, .int y3_37), (7, .int ((iter (mX10_lookAt_l50 v_seen v_sight k_37) 10 (nI 0)))), (6, .int ((iter (mX10_lookAt_l50 v_seen v_sight k_37) 10 (nI 0)))), (5, .int (nI k_37)), (2, .int ((iter (mX10_lookAt_l9 v_seen v_sight) 10 (nI 0)))), (1, .int ((mX10_ills v_seen v_sight))), (0, .ref a_this)]) hx hb dX10_lookAt_140 hl (by decide) rfl (fun ls hl => ?_)
                          refine lv_iinc (v := nI (k_37 + 1)) (lv' := [(5, .int (nI (k_37 + 1))), (4, .int y4_37), (3, .int y3_37), (7, .int ((iter (mX10_lookAt_l50 v_seen v_sight k_37) 10 (nI 0)))), (6, .int ((iter (mX10_lookAt_l50 v_seen v_sight k_37) 10 (nI 0)))), (2, .int ((iter (mX10_lookAt_l9 v_seen v_sight) 10 (nI 0)))), (1, .int ((mX10_ills v_seen v_sight))), (0, .ref a_this)]) hx hb dX10_lookAt_142 hl (k := 4) rfl (nI_1 _) (by decide) rfl (fun ls hl => ?_)
                          refine lv_goto (tgt := 37) hx hb dX10_lookAt_145 (by decide) ?_
                          exact ih (k_37 + 1) (by omega) y3_37 y4_37 (congrArg (fun z => z.1) hm) (congrArg (fun z => z.2) hm) ls (lv_sub hl [0, 1, 2, 5, 6, 7] rfl)
                        · have hm := (if_neg c_13).symm.trans hm
                          refine lv_iload hx hb dX10_lookAt_133 (lv_at hl 1 rfl) ?_
                          refine lv_goto (tgt := 140) hx hb dX10_lookAt_135 (by decide) ?_
                          refine lv_istore (lv' := [(4, .int ((iter (mX10_lookAt_l50 v_seen v_sight k_37) 10 (nI 0)))), (3, .int y3_37), (7, .int ((iter (mX10_lookAt_l50 v_seen v_sight k_37) 10 (nI 0)))), (6, .int ((iter (mX10_lookAt_l50 v_seen v_sight k_37) 10 (nI 0)))), (5, .int (nI k_37)), (2, .int ((iter (mX10_lookAt_l9 v_seen v_sight) 10 (nI 0)))), (1, .int ((mX10_ills v_seen v_sight))), (0, .ref a_this)]) hx hb dX10_lookAt_140 hl (by decide) rfl (fun ls hl => ?_)
                          refine lv_iinc (v := nI (k_37 + 1)) (lv' := [(5, .int (nI (k_37 + 1))), (4, .int ((iter (mX10_lookAt_l50 v_seen v_sight k_37) 10 (nI 0)))), (3, .int y3_37), (7, .int ((iter (mX10_lookAt_l50 v_seen v_sight k_37) 10 (nI 0)))), (6, .int ((iter (mX10_lookAt_l50 v_seen v_sight k_37) 10 (nI 0)))), (2, .int ((iter (mX10_lookAt_l9 v_seen v_sight) 10 (nI 0)))), (1, .int ((mX10_ills v_seen v_sight))), (0, .ref a_this)]) hx hb dX10_lookAt_142 hl (k := 4) rfl (nI_1 _) (by decide) rfl (fun ls hl => ?_)
                          refine lv_goto (tgt := 37) hx hb dX10_lookAt_145 (by decide) ?_
                          exact ih (k_37 + 1) (by omega) y3_37 ((iter (mX10_lookAt_l50 v_seen v_sight k_37) 10 (nI 0))) (congrArg (fun z => z.1) hm) (congrArg (fun z => z.2) hm) ls (lv_sub hl [0, 1, 2, 5, 6, 7] rfl)
                      · have hm := (if_neg c_12).symm.trans hm
                        refine lv_iload hx hb dX10_lookAt_119 (lv_at hl 2 rfl) ?_
                        refine lv_goto (tgt := 125) hx hb dX10_lookAt_121 (by decide) ?_
                        refine lv_istore_n (lv' := [(3, .int (nI k_37)), (7, .int ((iter (mX10_lookAt_l50 v_seen v_sight k_37) 10 (nI 0)))), (6, .int ((iter (mX10_lookAt_l50 v_seen v_sight k_37) 10 (nI 0)))), (5, .int (nI k_37)), (4, .int y4_37), (2, .int ((iter (mX10_lookAt_l9 v_seen v_sight) 10 (nI 0)))), (1, .int ((mX10_ills v_seen v_sight))), (0, .ref a_this)]) hx hb dX10_lookAt_125 rfl hl (by decide) rfl (fun ls hl => ?_)
                        refine lv_iload hx hb dX10_lookAt_126 (lv_at hl 1 rfl) ?_
                        refine lv_iload hx hb dX10_lookAt_128 (lv_at hl 4 rfl) ?_
                        refine lv_icmp_ge (tgt := 138) hx hb dX10_lookAt_130 (by decide) (fun c_14 => ?_) (fun c_14 => ?_)
                        · have hm := (if_pos c_14).symm.trans hm
                          refine lv_iload hx hb dX10_lookAt_138 (lv_at hl 4 rfl) ?_
                          refine lv_istore (lv' := [(4, .int y4_37), (3, .int (nI k_37)), (7, .int ((iter (mX10_lookAt_l50 v_seen v_sight k_37) 10 (nI 0)))), (6, .int ((iter (mX10_lookAt_l50 v_seen v_sight k_37) 10 (nI 0)))), (5, .int (nI k_37)), (2, .int ((iter (mX10_lookAt_l9 v_seen v_sight) 10 (nI 0)))), (1, .int ((mX10_ills v_seen v_sight))), (0, .ref a_this)]) hx hb dX10_lookAt_140 hl (by decide) rfl (fun ls hl => ?_)
                          refine lv_iinc (v := nI (k_37 + 1)) (lv' := [(5, .int (nI (k_37 + 1))), (4, .int y4_37), (3, .int (nI k_37)), (7, .int ((iter (mX10_lookAt_l50 v_seen v_sight k_37) 10 (nI 0)))), (6, .int ((iter (mX10_lookAt_l50 v_seen v_sight k_37) 10 (nI 0)))), (2, .int ((iter (mX10_lookAt_l9 v_seen v_sight) 10 (nI 0)))), (1, .int ((mX10_ills v_seen v_sight))), (0, .ref a_this)]) hx hb dX10_lookAt_142 hl (k := 4) rfl (nI_1 _) (by decide) rfl (fun ls hl => ?_)
                          refine lv_goto (tgt := 37) hx hb dX10_lookAt_145 (by decide) ?_
                          exact ih (k_37 + 1) (by omega) (nI k_37) y4_37 (congrArg (fun z => z.1) hm) (congrArg (fun z => z.2) hm) ls (lv_sub hl [0, 1, 2, 5, 6, 7] rfl)
                        · have hm := (if_neg c_14).symm.trans hm
                          refine lv_iload hx hb dX10_lookAt_133 (lv_at hl 1 rfl) ?_
                          refine lv_goto (tgt := 140) hx hb dX10_lookAt_135 (by decide) ?_
                          refine lv_istore (lv' := [(4, .int ((iter (mX10_lookAt_l50 v_seen v_sight k_37) 10 (nI 0)))), (3, .int (nI k_37)), (7, .int ((iter (mX10_lookAt_l50 v_seen v_sight k_37) 10 (nI 0)))), (6, .int ((iter (mX10_lookAt_l50 v_seen v_sight k_37) 10 (nI 0)))), (5, .int (nI k_37)), (2, .int ((iter (mX10_lookAt_l9 v_seen v_sight) 10 (nI 0)))), (1, .int ((mX10_ills v_seen v_sight))), (0, .ref a_this)]) hx hb dX10_lookAt_140 hl (by decide) rfl (fun ls hl => ?_)
                          refine lv_iinc (v := nI (k_37 + 1)) (lv' := [(5, .int (nI (k_37 + 1))), (4, .int ((iter (mX10_lookAt_l50 v_seen v_sight k_37) 10 (nI 0)))), (3, .int (nI k_37)), (7, .int ((iter (mX10_lookAt_l50 v_seen v_sight k_37) 10 (nI 0)))), (6, .int ((iter (mX10_lookAt_l50 v_seen v_sight k_37) 10 (nI 0)))), (2, .int ((iter (mX10_lookAt_l9 v_seen v_sight) 10 (nI 0)))), (1, .int ((mX10_ills v_seen v_sight))), (0, .ref a_this)]) hx hb dX10_lookAt_142 hl (k := 4) rfl (nI_1 _) (by decide) rfl (fun ls hl => ?_)
                          refine lv_goto (tgt := 37) hx hb dX10_lookAt_145 (by decide) ?_
                          exact ih (k_37 + 1) (by omega) (nI k_37) ((iter (mX10_lookAt_l50 v_seen v_sight k_37) 10 (nI 0))) (congrArg (fun z => z.1) hm) (congrArg (fun z => z.2) hm) ls (lv_sub hl [0, 1, 2, 5, 6, 7] rfl)
                  · exact absurd (nI_lt (a := 9) (by omega) (by omega)) c_7
                | succ n_50 ih =>
                  intro k_50 hk y6_50 ex0_50 ls hl
                  have hm : (mX10_lookAt_l50 v_seen v_sight k_37) k_50 y6_50 = (iter (mX10_lookAt_l50 v_seen v_sight k_37) (k_50 + 1) (nI 0)) := by rw [ex0_50]; rfl
                  have hm : (if ((mX10_has ((mX10_ills v_seen v_sight)) (nI k_50))) = 0 then y6_50 + (nI 0) else (if ((mX10_stopsBy (nI k_37) (nI k_50))) = 0 then y6_50 + (nI 0) else y6_50 + (nI 1))) = (iter (mX10_lookAt_l50 v_seen v_sight k_37) (k_50 + 1) (nI 0)) := hm
                  refine lv_iload hx hb dX10_lookAt_50 (lv_at hl 0 rfl) ?_
                  refine lv_bipush (v := nI 9) hx hb dX10_lookAt_52 (by decide) ?_
                  refine lv_icmp_gt (tgt := 92) hx hb dX10_lookAt_54 (by decide) (fun c_4 => ?_) (fun c_4 => ?_)
                  · exact absurd c_4 (nI_nlt (a := 9) (by omega) (by omega))
                  · skip
                    refine lv_iload hx hb dX10_lookAt_57 (lv_at hl 1 rfl) ?_
                    refine lv_iload_n hx hb dX10_lookAt_59 rfl (lv_at hl 6 rfl) ?_
                    refine lv_iload hx hb dX10_lookAt_60 (lv_at hl 0 rfl) ?_
                    refine pv_call (v := (mX10_has ((mX10_ills v_seen v_sight)) (nI k_50))) (va_runS (As := [.int ((mX10_ills v_seen v_sight)), .int (nI k_50)]) (rest := [.int y6_50]) ⟨hx, hb, hml, hown, ht⟩ (kX10_has l dC dI cA cZ ((mX10_ills v_seen v_sight)) (nI k_50)) (va_cwS 2 ht (gi_S w_5_149 w_5_150 w_1_12 (gi_code w_5_151)) rfl rfl rfl h_X10_has ⟨Nat.le_of_ble_eq_true rfl, Nat.le_of_ble_eq_true rfl⟩) ⟨pp_blind, pp_use (ws := []) (fun _ _ h => by cases h) hK⟩ rfl rfl hl.1 rfl (lv_room (Nat.le_of_ble_eq_true rfl)) dX10_lookAt_62 ⟨Nat.zero_le _, Nat.zero_le _⟩) ?_
                    refine lv_if_eq (tgt := 82) hx hb dX10_lookAt_65 (by decide) (fun c_5 => ?_) (fun c_5 => ?_)
                    · have hm := (if_pos c_5).symm.trans hm
                      refine lv_iconst (v := nI 0) hx hb dX10_lookAt_82 (by decide) ?_
                      refine lv_iadd hx hb dX10_lookAt_83 ?_
                      refine lv_istore (lv' := [(6, .int (y6_50 + (nI 0))), (7, .int (nI k_50)), (5, .int (nI k_37)), (4, .int y4_37), (3, .int y3_37), (2, .int ((iter (mX10_lookAt_l9 v_seen v_sight) 10 (nI 0)))), (1, .int ((mX10_ills v_seen v_sight))), (0, .ref a_this)]) hx hb dX10_lookAt_84 hl (by decide) rfl (fun ls hl => ?_)
                      refine lv_iinc (v := nI (k_50 + 1)) (lv' := [(7, .int (nI (k_50 + 1))), (6, .int (y6_50 + (nI 0))), (5, .int (nI k_37)), (4, .int y4_37), (3, .int y3_37), (2, .int ((iter (mX10_lookAt_l9 v_seen v_sight) 10 (nI 0)))), (1, .int ((mX10_ills v_seen v_sight))), (0, .ref a_this)]) hx hb dX10_lookAt_86 hl (k := 1) rfl (nI_1 _) (by decide) rfl (fun ls hl => ?_)
                      refine lv_goto (tgt := 50) hx hb dX10_lookAt_89 (by decide) ?_
                      exact ih (k_50 + 1) (by omega) (y6_50 + (nI 0)) hm ls (lv_sub hl [0, 1, 2, 3, 4, 5, 6, 7] rfl)
                    · have hm := (if_neg c_5).symm.trans hm
                      refine lv_iload hx hb dX10_lookAt_68 (lv_at hl 2 rfl) ?_
                      refine lv_iload hx hb dX10_lookAt_70 (lv_at hl 0 rfl) ?_
                      refine pv_call (v := (mX10_stopsBy (nI k_37) (nI k_50))) (va_runS (As := [.int (nI k_37), .int (nI k_50)]) (rest := [.int y6_50]) ⟨hx, hb, hml, hown, ht⟩ (kX10_stopsBy l dC dI cA cZ (nI k_37) (nI k_50)) (va_cwS 2 ht (gi_S w_5_152 w_5_153 w_1_12 (gi_code w_5_154)) rfl rfl rfl h_X10_stopsBy ⟨Nat.le_of_ble_eq_true rfl, Nat.le_of_ble_eq_true rfl⟩) ⟨pp_blind, pp_use (ws := []) (fun _ _ h => by cases h) hK⟩ rfl rfl hl.1 rfl (lv_room (Nat.le_of_ble_eq_true rfl)) dX10_lookAt_72 ⟨Nat.zero_le _, Nat.zero_le _⟩) ?_
                      refine lv_if_eq (tgt := 82) hx hb dX10_lookAt_75 (by decide) (fun c_6 => ?_) (fun c_6 => ?_)
                      · have hm := (if_pos c_6).symm.trans hm
                        refine lv_iconst (v := nI 0) hx hb dX10_lookAt_82 (by decide) ?_
                        refine lv_iadd hx hb dX10_lookAt_83 ?_
                        refine lv_istore (lv' := [(6, .int (y6_50 + (nI 0))), (7, .int (nI k_50)), (5, .int (nI k_37)), (4, .int y4_37), (3, .int y3_37), (2, .int ((iter (mX10_lookAt_l9 v_seen v_sight) 10 (nI 0)))), (1, .int ((mX10_ills v_seen v_sight))), (0, .ref a_this)]) hx hb dX10_lookAt_84 hl (by decide) rfl (fun ls hl => ?_)
                        refine lv_iinc (v := nI (k_50 + 1)) (lv' := [(7, .int (nI (k_50 + 1))), (6, .int (y6_50 + (nI 0))), (5, .int (nI k_37)), (4, .int y4_37), (3, .int y3_37), (2, .int ((iter (mX10_lookAt_l9 v_seen v_sight) 10 (nI 0)))), (1, .int ((mX10_ills v_seen v_sight))), (0, .ref a_this)]) hx hb dX10_lookAt_86 hl (k := 1) rfl (nI_1 _) (by decide) rfl (fun ls hl => ?_)
                        refine lv_goto (tgt := 50) hx hb dX10_lookAt_89 (by decide) ?_
                        exact ih (k_50 + 1) (by omega) (y6_50 + (nI 0)) hm ls (lv_sub hl [0, 1, 2, 3, 4, 5, 6, 7] rfl)
                      · have hm := (if_neg c_6).symm.trans hm
                        refine lv_iconst (v := nI 1) hx hb dX10_lookAt_78 (by decide) ?_
                        refine lv_goto (tgt := 83) hx hb dX10_lookAt_79 (by decide) ?_
                        refine lv_iadd hx hb dX10_lookAt_83 ?_
                        refine lv_istore (lv' := [(6, .int (y6_50 + (nI 1))), (7, .int (nI k_50)), (5, .int (nI k_37)), (4, .int y4_37), (3, .int y3_37), (2, .int ((iter (mX10_lookAt_l9 v_seen v_sight) 10 (nI 0)))), (1, .int ((mX10_ills v_seen v_sight))), (0, .ref a_this)]) hx hb dX10_lookAt_84 hl (by decide) rfl (fun ls hl => ?_)
                        refine lv_iinc (v := nI (k_50 + 1)) (lv' := [(7, .int (nI (k_50 + 1))), (6, .int (y6_50 + (nI 1))), (5, .int (nI k_37)), (4, .int y4_37), (3, .int y3_37), (2, .int ((iter (mX10_lookAt_l9 v_seen v_sight) 10 (nI 0)))), (1, .int ((mX10_ills v_seen v_sight))), (0, .ref a_this)]) hx hb dX10_lookAt_86 hl (k := 1) rfl (nI_1 _) (by decide) rfl (fun ls hl => ?_)
                        refine lv_goto (tgt := 50) hx hb dX10_lookAt_89 (by decide) ?_
                        exact ih (k_50 + 1) (by omega) (y6_50 + (nI 1)) hm ls (lv_sub hl [0, 1, 2, 3, 4, 5, 6, 7] rfl)
              exact L_50 10 0 (Nat.zero_add _) (nI 0) rfl ls (lv_sub hl [0, 1, 2, 3, 4, 5, 6, 7] rfl)
        exact L_37 10 0 (Nat.zero_add _) ((-1 : Int32)) ((iter (mX10_lookAt_l9 v_seen v_sight) 10 (nI 0))) rfl rfl ls (lv_sub hl [0, 1, 2, 3, 4, 5] rfl)
      · exact absurd (nI_lt (a := 9) (by omega) (by omega)) c_2
    | succ n_9 ih =>
      intro k_9 hk y2_9 ex0_9 ls hl
      have hm : (mX10_lookAt_l9 v_seen v_sight) k_9 y2_9 = (iter (mX10_lookAt_l9 v_seen v_sight) (k_9 + 1) (nI 0)) := by rw [ex0_9]; rfl
      have hm : y2_9 + ((((mX10_ills v_seen v_sight)) >>> ((nI k_9) &&& 31)) &&& (nI 1)) = (iter (mX10_lookAt_l9 v_seen v_sight) (k_9 + 1) (nI 0)) := hm
      refine lv_iload_n hx hb dX10_lookAt_9 rfl (lv_at hl 0 rfl) ?_
      refine lv_bipush (v := nI 9) hx hb dX10_lookAt_10 (by decide) ?_
      refine lv_icmp_gt (tgt := 29) hx hb dX10_lookAt_12 (by decide) (fun c_1 => ?_) (fun c_1 => ?_)
      · exact absurd c_1 (nI_nlt (a := 9) (by omega) (by omega))
      · skip
        refine lv_iload_n hx hb dX10_lookAt_15 rfl (lv_at hl 1 rfl) ?_
        refine lv_iload_n hx hb dX10_lookAt_16 rfl (lv_at hl 2 rfl) ?_
        refine lv_iload_n hx hb dX10_lookAt_17 rfl (lv_at hl 0 rfl) ?_
        refine lv_ishr hx hb dX10_lookAt_18 ?_
        refine lv_iconst (v := nI 1) hx hb dX10_lookAt_19 (by decide) ?_
        refine lv_iand hx hb dX10_lookAt_20 ?_
        refine lv_iadd hx hb dX10_lookAt_21 ?_
        refine lv_istore_n (lv' := [(2, .int (y2_9 + ((((mX10_ills v_seen v_sight)) >>> ((nI k_9) &&& 31)) &&& (nI 1)))), (3, .int (nI k_9)), (1, .int ((mX10_ills v_seen v_sight))), (0, .ref a_this)]) hx hb dX10_lookAt_22 rfl hl (by decide) rfl (fun ls hl => ?_)
        refine lv_iinc (v := nI (k_9 + 1)) (lv' := [(3, .int (nI (k_9 + 1))), (2, .int (y2_9 + ((((mX10_ills v_seen v_sight)) >>> ((nI k_9) &&& 31)) &&& (nI 1)))), (1, .int ((mX10_ills v_seen v_sight))), (0, .ref a_this)]) hx hb dX10_lookAt_23 hl (k := 1) rfl (nI_1 _) (by decide) rfl (fun ls hl => ?_)
        refine lv_goto (tgt := 9) hx hb dX10_lookAt_26 (by decide) ?_
        exact ih (k_9 + 1) (by omega) (y2_9 + ((((mX10_ills v_seen v_sight)) >>> ((nI k_9) &&& 31)) &&& (nI 1))) hm ls (lv_sub hl [0, 1, 2, 3] rfl)
  exact L_9 10 0 (Nat.zero_add _) (nI 0) rfl ls (lv_sub hl [0, 1, 2, 3] rfl)
theorem dX10_write_0 : decode cX10_write 0 = .ok (.aload_n 0, 1) := by decide +kernel
theorem dX10_write_1 : decode cX10_write 1 = .ok (.iload_n 1, 1) := by decide +kernel
theorem dX10_write_2 : decode cX10_write 2 = .ok (.invokevirtual 182, 3) := by decide +kernel
theorem dX10_write_5 : decode cX10_write 5 = .ok (.ifCond .ne 6, 3) := by decide +kernel
theorem dX10_write_8 : decode cX10_write 8 = .ok (.ldc 185, 2) := by decide +kernel
theorem dX10_write_10 : decode cX10_write 10 = .ok (.ireturn, 1) := by decide +kernel
theorem dX10_write_11 : decode cX10_write 11 = .ok (.iload_n 2, 1) := by decide +kernel
theorem dX10_write_12 : decode cX10_write 12 = .ok (.iconst 0, 1) := by decide +kernel
theorem dX10_write_13 : decode cX10_write 13 = .ok (.bipush 9, 2) := by decide +kernel
theorem dX10_write_15 : decode cX10_write 15 = .ok (.invokestatic 60, 3) := by decide +kernel
theorem dX10_write_18 : decode cX10_write 18 = .ok (.ifCond .ne 6, 3) := by decide +kernel
theorem dX10_write_21 : decode cX10_write 21 = .ok (.ldc 70, 2) := by decide +kernel
theorem dX10_write_23 : decode cX10_write 23 = .ok (.ireturn, 1) := by decide +kernel
theorem dX10_write_24 : decode cX10_write 24 = .ok (.aload_n 0, 1) := by decide +kernel
theorem dX10_write_25 : decode cX10_write 25 = .ok (.getfield 148, 3) := by decide +kernel
theorem dX10_write_28 : decode cX10_write 28 = .ok (.bipush 20, 2) := by decide +kernel
theorem dX10_write_30 : decode cX10_write 30 = .ok (.if_icmp .ne 6, 3) := by decide +kernel
theorem dX10_write_33 : decode cX10_write 33 = .ok (.ldc 74, 2) := by decide +kernel
theorem dX10_write_35 : decode cX10_write 35 = .ok (.ireturn, 1) := by decide +kernel
theorem dX10_write_36 : decode cX10_write 36 = .ok (.aload_n 0, 1) := by decide +kernel
theorem dX10_write_37 : decode cX10_write 37 = .ok (.getfield 54, 3) := by decide +kernel
theorem dX10_write_40 : decode cX10_write 40 = .ok (.iconst 2, 1) := by decide +kernel
theorem dX10_write_41 : decode cX10_write 41 = .ok (.aload_n 0, 1) := by decide +kernel
theorem dX10_write_42 : decode cX10_write 42 = .ok (.getfield 148, 3) := by decide +kernel
theorem dX10_write_45 : decode cX10_write 45 = .ok (.imul, 1) := by decide +kernel
theorem dX10_write_46 : decode cX10_write 46 = .ok (.iload_n 1, 1) := by decide +kernel
theorem dX10_write_47 : decode cX10_write 47 = .ok (.iastore, 1) := by decide +kernel
theorem dX10_write_48 : decode cX10_write 48 = .ok (.aload_n 0, 1) := by decide +kernel
theorem dX10_write_49 : decode cX10_write 49 = .ok (.getfield 54, 3) := by decide +kernel
theorem dX10_write_52 : decode cX10_write 52 = .ok (.iconst 2, 1) := by decide +kernel
theorem dX10_write_53 : decode cX10_write 53 = .ok (.aload_n 0, 1) := by decide +kernel
theorem dX10_write_54 : decode cX10_write 54 = .ok (.getfield 148, 3) := by decide +kernel
theorem dX10_write_57 : decode cX10_write 57 = .ok (.imul, 1) := by decide +kernel
theorem dX10_write_58 : decode cX10_write 58 = .ok (.iconst 1, 1) := by decide +kernel
theorem dX10_write_59 : decode cX10_write 59 = .ok (.iadd, 1) := by decide +kernel
theorem dX10_write_60 : decode cX10_write 60 = .ok (.iload_n 2, 1) := by decide +kernel
theorem dX10_write_61 : decode cX10_write 61 = .ok (.iastore, 1) := by decide +kernel
theorem dX10_write_62 : decode cX10_write 62 = .ok (.aload_n 0, 1) := by decide +kernel
theorem dX10_write_63 : decode cX10_write 63 = .ok (.dup, 1) := by decide +kernel
theorem dX10_write_64 : decode cX10_write 64 = .ok (.getfield 148, 3) := by decide +kernel
theorem dX10_write_67 : decode cX10_write 67 = .ok (.iconst 1, 1) := by decide +kernel
theorem dX10_write_68 : decode cX10_write 68 = .ok (.iadd, 1) := by decide +kernel
theorem dX10_write_69 : decode cX10_write 69 = .ok (.putfield 148, 3) := by decide +kernel
theorem dX10_write_72 : decode cX10_write 72 = .ok (.aload_n 0, 1) := by decide +kernel
theorem dX10_write_73 : decode cX10_write 73 = .ok (.getfield 148, 3) := by decide +kernel
theorem dX10_write_76 : decode cX10_write 76 = .ok (.ireturn, 1) := by decide +kernel
theorem h_X10_write : yX10_write.cls ≠ "java/lang/invoke/MethodHandle" ∧ yX10_write.cls ≠ "java/lang/invoke/VarHandle" ∧ (parseMethodDescriptor yX10_write.desc).map (fun d => d.parameters.length) = some 2 := by decide +kernel
def mX10_write (v_doors : Nat) (v_entries : Nat) (v_entry : Nat → Int32) (x1 : Int32) (x2 : Int32) : Int32 × Nat × (Nat → Int32) := (if ((mX10_isDoor v_doors x1)) = 0 then ((-1000000001 : Int32), v_entries, v_entry) else (if ((mX10_in x2 (nI 0) (nI 9))) = 0 then ((-1000000002 : Int32), v_entries, v_entry) else (if (nI v_entries) = (nI 20) then ((-1000000004 : Int32), v_entries, v_entry) else (nI (v_entries + 1), v_entries + 1, upd (upd v_entry (2 * v_entries) x1) (2 * v_entries + 1) x2))))
set_option maxHeartbeats 4000000 in
set_option maxRecDepth 100000 in
theorem kX10_write (l : Launch) (dC : Nat → ClassId) (dI : Nat → Nat → Nat) (cA cZ : ClassId) (a_this a_this_text a_this_readRain a_this_readDoor a_this_readPerson a_this_rain a_this_door a_this_now a_this_tried a_this_backOf a_this_image a_this_imageSeed a_this_isKept a_this_sight a_this_entry : Nat) (v_letters : Nat) (v_position : Nat) (v_tokenAt : Nat) (v_token : Int32) (v_number : Int32) (v_figures : Nat) (v_faultAt : Int32) (v_faultIs : Int32) (v_readRooms : Int32) (v_readStore : Int32) (v_readRains : Nat) (v_readDoors : Nat) (v_readPersons : Nat) (v_rooms : Int32) (v_rains : Nat) (v_doors : Nat) (v_persons : Nat) (v_backs : Nat) (v_seed : Int32) (v_seen : Nat) (v_entries : Nat) (v_entry : Nat → Int32) (x1 : Int32) (x2 : Int32) (hD : v_doors ≤ 10) (he : v_entries ≤ 20) (sz : Nat) : Met l yX10_write (Cond.code yX10_write cX10_write 3 (some .int) :: wt) ({ frames := 2, cells := 0, slots := 0, locals := 43 } : Room) (va_Pc [.ref a_this, .int x1, .int x2] (PreM (dC, dI) [(cA, .int), (cZ, .boolean)] sz [(a_this, .inr (10, [.int (nI v_letters), .ref a_this_text, .int (nI v_position), .int (nI v_tokenAt), .int v_token, .int v_number, .int (nI v_figures), .int v_faultAt, .int v_faultIs, .int v_readRooms, .int v_readStore, .int (nI v_readRains), .int (nI v_readDoors), .int (nI v_readPersons), .ref a_this_readRain, .ref a_this_readDoor, .ref a_this_readPerson, .int v_rooms, .int (nI v_rains), .int (nI v_doors), .int (nI v_persons), .ref a_this_rain, .ref a_this_door, .ref a_this_now, .ref a_this_tried, .ref a_this_backOf, .int (nI v_backs), .ref a_this_image, .ref a_this_imageSeed, .ref a_this_isKept, .int v_seed, .int (nI v_seen), .ref a_this_sight, .int (nI v_entries), .ref a_this_entry])), (a_this_entry, .inl (cA, 40, .inl v_entry))])) (PoI (dC, dI) sz [(a_this, .inr (10, [.int (nI v_letters), .ref a_this_text, .int (nI v_position), .int (nI v_tokenAt), .int v_token, .int v_number, .int (nI v_figures), .int v_faultAt, .int v_faultIs, .int v_readRooms, .int v_readStore, .int (nI v_readRains), .int (nI v_readDoors), .int (nI v_readPersons), .ref a_this_readRain, .ref a_this_readDoor, .ref a_this_readPerson, .int v_rooms, .int (nI v_rains), .int (nI v_doors), .int (nI v_persons), .ref a_this_rain, .ref a_this_door, .ref a_this_now, .ref a_this_tried, .ref a_this_backOf, .int (nI v_backs), .ref a_this_image, .ref a_this_imageSeed, .ref a_this_isKept, .int v_seed, .int (nI v_seen), .ref a_this_sight, .int (nI v_entries), .ref a_this_entry])), (a_this_entry, .inl (cA, 40, .inl v_entry))] ((mX10_write v_doors v_entries v_entry x1 x2)).1 [(a_this, .inr (10, [.int (nI v_letters), .ref a_this_text, .int (nI v_position), .int (nI v_tokenAt), .int v_token, .int v_number, .int (nI v_figures), .int v_faultAt, .int v_faultIs, .int v_readRooms, .int v_readStore, .int (nI v_readRains), .int (nI v_readDoors), .int (nI v_readPersons), .ref a_this_readRain, .ref a_this_readDoor, .ref a_this_readPerson, .int v_rooms, .int (nI v_rains), .int (nI v_doors), .int (nI v_persons), .ref a_this_rain, .ref a_this_door, .ref a_this_now, .ref a_this_tried, .ref a_this_backOf, .int (nI v_backs), .ref a_this_image, .ref a_this_imageSeed, .ref a_this_isKept, .int v_seed, .int (nI v_seen), .ref a_this_sight, .int (nI (((mX10_write v_doors v_entries v_entry x1 x2)).2.1)), .ref a_this_entry])), (a_this_entry, .inl (cA, 40, .inl (((mX10_write v_doors v_entries v_entry x1 x2)).2.2)))]) 0 0 (va_A [(a_this, .inr (10, [.int (nI v_letters), .ref a_this_text, .int (nI v_position), .int (nI v_tokenAt), .int v_token, .int v_number, .int (nI v_figures), .int v_faultAt, .int v_faultIs, .int v_readRooms, .int v_readStore, .int (nI v_readRains), .int (nI v_readDoors), .int (nI v_readPersons), .ref a_this_readRain, .ref a_this_readDoor, .ref a_this_readPerson, .int v_rooms, .int (nI v_rains), .int (nI v_doors), .int (nI v_persons), .ref a_this_rain, .ref a_this_door, .ref a_this_now, .ref a_this_tried, .ref a_this_backOf, .int (nI v_backs), .ref a_this_image, .ref a_this_imageSeed, .ref a_this_isKept, .int v_seed, .int (nI v_seen), .ref a_this_sight, .int (nI v_entries), .ref a_this_entry])), (a_this_entry, .inl (cA, 40, .inl v_entry))] sz) := by
  refine Met.ofW (cc := cX10_write) (maxL := 3) (ret := (some .int)) (by decide) rfl ?_
  intro p e s m args below meth c s₁ B hml hv
  obtain ⟨ha, hsz, hP, hK, hD0⟩ := hv
  have hx := B.exec
  have hb := B.bytes
  have hr := B.returns
  have ht : ∀ w ∈ wt, w.before args s = true := fun w h => atoms_spec (ws := (Cond.code yX10_write cX10_write 3 (some .int) :: wt)) B.pre w (List.mem_cons_of_mem _ h)
  have hown : s.vm.findClass RX10 = some m.cls := findClass_of_methodNamed B.named
  have hlocks := B.notSynchronized
  subst hsz
  have hD := hD0.self (sz := s.heap.size)
  have hA : ∀ q : Nat, s.heap.size ≤ q → va_A [(a_this, .inr (10, [.int (nI v_letters), .ref a_this_text, .int (nI v_position), .int (nI v_tokenAt), .int v_token, .int v_number, .int (nI v_figures), .int v_faultAt, .int v_faultIs, .int v_readRooms, .int v_readStore, .int (nI v_readRains), .int (nI v_readDoors), .int (nI v_readPersons), .ref a_this_readRain, .ref a_this_readDoor, .ref a_this_readPerson, .int v_rooms, .int (nI v_rains), .int (nI v_doors), .int (nI v_persons), .ref a_this_rain, .ref a_this_door, .ref a_this_now, .ref a_this_tried, .ref a_this_backOf, .int (nI v_backs), .ref a_this_image, .ref a_this_imageSeed, .ref a_this_isKept, .int v_seed, .int (nI v_seen), .ref a_this_sight, .int (nI v_entries), .ref a_this_entry])), (a_this_entry, .inl (cA, 40, .inl v_entry))] s.heap.size q := fun q h => Or.inr h
  have hS : va_S (va_A [(a_this, .inr (10, [.int (nI v_letters), .ref a_this_text, .int (nI v_position), .int (nI v_tokenAt), .int v_token, .int v_number, .int (nI v_figures), .int v_faultAt, .int v_faultIs, .int v_readRooms, .int v_readStore, .int (nI v_readRains), .int (nI v_readDoors), .int (nI v_readPersons), .ref a_this_readRain, .ref a_this_readDoor, .ref a_this_readPerson, .int v_rooms, .int (nI v_rains), .int (nI v_doors), .int (nI v_persons), .ref a_this_rain, .ref a_this_door, .ref a_this_now, .ref a_this_tried, .ref a_this_backOf, .int (nI v_backs), .ref a_this_image, .ref a_this_imageSeed, .ref a_this_isKept, .int v_seed, .int (nI v_seen), .ref a_this_sight, .int (nI v_entries), .ref a_this_entry])), (a_this_entry, .inl (cA, 40, .inl v_entry))] s.heap.size) s.heap s.heap [] := va_S.rf
  have hl := lv_entry ([.ref a_this, .int x1, .int x2]) (n := 3) (Nat.le_of_ble_eq_true rfl)
  rw [show entryFrame m args 3 = _ from (congrArg (fun a => entryFrame m a 3) ha).trans (lg_entry_eq m [.ref a_this, .int x1, .int x2] 3)]
  generalize (lg_sl ([.ref a_this, .int x1, .int x2]) ++ List.replicate (3 - (lg_sl ([.ref a_this, .int x1, .int x2])).length) Slot.unset).toArray = ls at hl ⊢
  have hl : lv_has ls 3 [(0, .ref a_this), (1, .int x1), (2, .int x2)] := hl
  have hm : (if ((mX10_isDoor v_doors x1)) = 0 then ((-1000000001 : Int32), v_entries, v_entry) else (if ((mX10_in x2 (nI 0) (nI 9))) = 0 then ((-1000000002 : Int32), v_entries, v_entry) else (if (nI v_entries) = (nI 20) then ((-1000000004 : Int32), v_entries, v_entry) else (nI (v_entries + 1), v_entries + 1, upd (upd v_entry (2 * v_entries) x1) (2 * v_entries + 1) x2)))) = (mX10_write v_doors v_entries v_entry x1 x2) := rfl
  refine lv_aload_n hx hb dX10_write_0 rfl (lv_at hl 0 rfl) ?_
  refine lv_iload_n hx hb dX10_write_1 rfl (lv_at hl 1 rfl) ?_
  refine pv_call (v := (mX10_isDoor v_doors x1)) (va_runV (As := [.int x1]) (rest := []) ⟨hx, hb, hml, hown, ht⟩ (kX10_isDoor l dC dI cA cZ a_this a_this_text a_this_readRain a_this_readDoor a_this_readPerson a_this_rain a_this_door a_this_now a_this_tried a_this_backOf a_this_image a_this_imageSeed a_this_isKept a_this_sight a_this_entry v_letters v_position v_tokenAt v_token v_number v_figures v_faultAt v_faultIs v_readRooms v_readStore v_readRains v_readDoors v_readPersons v_rooms v_rains v_doors v_persons v_backs v_seed v_seen v_entries x1) (cwV 1 ht (gi_V (C := RX10) w_5_163 w_5_165 w_0_32 w_1_12 (gi_code w_5_166)) rfl rfl rfl ⟨rfl, h_X10_isDoor⟩ ⟨Nat.le_of_ble_eq_true rfl, Nat.le_of_ble_eq_true rfl⟩) ⟨pp_blind, va_recv hK.1 hP (ci := 10) (q0 := 0) rfl rfl, pp_use (pc_sub (wc := [(a_this, .inr (10, [.int (nI v_letters), .ref a_this_text, .int (nI v_position), .int (nI v_tokenAt), .int v_token, .int v_number, .int (nI v_figures), .int v_faultAt, .int v_faultIs, .int v_readRooms, .int v_readStore, .int (nI v_readRains), .int (nI v_readDoors), .int (nI v_readPersons), .ref a_this_readRain, .ref a_this_readDoor, .ref a_this_readPerson, .int v_rooms, .int (nI v_rains), .int (nI v_doors), .int (nI v_persons), .ref a_this_rain, .ref a_this_door, .ref a_this_now, .ref a_this_tried, .ref a_this_backOf, .int (nI v_backs), .ref a_this_image, .ref a_this_imageSeed, .ref a_this_isKept, .int v_seed, .int (nI v_seen), .ref a_this_sight, .int (nI v_entries), .ref a_this_entry]))]) hP [0] rfl) hK⟩ rfl rfl hl.1 rfl (lv_room (Nat.le_of_ble_eq_true rfl)) dX10_write_2 ⟨Nat.zero_le _, Nat.zero_le _⟩) ?_
  refine lv_if_ne (tgt := 11) hx hb dX10_write_5 (by decide) (fun c_1 => ?_) (fun c_1 => ?_)
  · have hm := (if_neg c_1).symm.trans hm
    refine lv_iload_n hx hb dX10_write_11 rfl (lv_at hl 2 rfl) ?_
    refine lv_iconst (v := nI 0) hx hb dX10_write_12 (by decide) ?_
    refine lv_bipush (v := nI 9) hx hb dX10_write_13 (by decide) ?_
    refine pv_call (v := (mX10_in x2 (nI 0) (nI 9))) (va_runS (As := [.int x2, .int (nI 0), .int (nI 9)]) (rest := []) ⟨hx, hb, hml, hown, ht⟩ (kX10_in l dC dI cA cZ x2 (nI 0) (nI 9)) (va_cwS 3 ht (gi_S w_5_74 w_5_75 w_1_12 (gi_code w_5_76)) rfl rfl rfl h_X10_in ⟨Nat.le_of_ble_eq_true rfl, Nat.le_of_ble_eq_true rfl⟩) ⟨pp_blind, pp_use (ws := []) (fun _ _ h => by cases h) hK⟩ rfl rfl hl.1 rfl (lv_room (Nat.le_of_ble_eq_true rfl)) dX10_write_15 ⟨Nat.zero_le _, Nat.zero_le _⟩) ?_
    refine lv_if_ne (tgt := 24) hx hb dX10_write_18 (by decide) (fun c_2 => ?_) (fun c_2 => ?_)
    · have hm := (if_neg c_2).symm.trans hm
      refine lv_aload_n hx hb dX10_write_24 rfl (lv_at hl 0 rfl) ?_
      refine va_get (D := (dC, dI)) (ci := 10) (v := .int (nI v_entries)) (C := RX10) (T := TX10) (N := 35) hx hb ht iX10 hown hK.1 hP 0 rfl rfl 33 (by decide) (ht _ w_4_236) (fun _ h9 => h9) rfl dX10_write_25 ?_
      refine lv_bipush (v := nI 20) hx hb dX10_write_28 (by decide) ?_
      refine lv_icmp_ne (tgt := 36) hx hb dX10_write_30 (by decide) (fun c_3 => ?_) (fun c_3 => ?_)
      · have hm := (if_neg c_3).symm.trans hm
        have hne := ne_nI c_3
        refine lv_aload_n hx hb dX10_write_36 rfl (lv_at hl 0 rfl) ?_
        refine va_get (D := (dC, dI)) (ci := 10) (v := .ref a_this_entry) (C := RX10) (T := TX10) (N := 35) hx hb ht iX10 hown hK.1 hP 0 rfl rfl 34 (by decide) (ht _ w_4_237) (fun _ h9 => h9) rfl dX10_write_37 ?_
        refine lv_iconst (v := nI 2) hx hb dX10_write_40 (by decide) ?_
        refine lv_aload_n hx hb dX10_write_41 rfl (lv_at hl 0 rfl) ?_
        refine va_get (D := (dC, dI)) (ci := 10) (v := .int (nI v_entries)) (C := RX10) (T := TX10) (N := 35) hx hb ht iX10 hown hK.1 hP 0 rfl rfl 33 (by decide) (ht _ w_4_236) (fun _ h9 => h9) rfl dX10_write_42 ?_
        refine nv_imul hx hb dX10_write_45 ?_
        refine lv_iload_n hx hb dX10_write_46 rfl (lv_at hl 1 rfl) ?_
        refine nv_iast (e := 2 * v_entries) (by omega) (by omega) hx hb hK.1 hP hD hS 1 0 rfl rfl dX10_write_47 (fun H locs hP hD hS => ?_)
        have hP : va_P (dC, dI) vwCl [(a_this, .inr (10, [.int (nI v_letters), .ref a_this_text, .int (nI v_position), .int (nI v_tokenAt), .int v_token, .int v_number, .int (nI v_figures), .int v_faultAt, .int v_faultIs, .int v_readRooms, .int v_readStore, .int (nI v_readRains), .int (nI v_readDoors), .int (nI v_readPersons), .ref a_this_readRain, .ref a_this_readDoor, .ref a_this_readPerson, .int v_rooms, .int (nI v_rains), .int (nI v_doors), .int (nI v_persons), .ref a_this_rain, .ref a_this_door, .ref a_this_now, .ref a_this_tried, .ref a_this_backOf, .int (nI v_backs), .ref a_this_image, .ref a_this_imageSeed, .ref a_this_isKept, .int v_seed, .int (nI v_seen), .ref a_this_sight, .int (nI v_entries), .ref a_this_entry])), (a_this_entry, .inl (cA, 40, .inl (upd v_entry (2 * v_entries) x1)))] H := hP
        have hD : va_D (va_A [(a_this, .inr (10, [.int (nI v_letters), .ref a_this_text, .int (nI v_position), .int (nI v_tokenAt), .int v_token, .int v_number, .int (nI v_figures), .int v_faultAt, .int v_faultIs, .int v_readRooms, .int v_readStore, .int (nI v_readRains), .int (nI v_readDoors), .int (nI v_readPersons), .ref a_this_readRain, .ref a_this_readDoor, .ref a_this_readPerson, .int v_rooms, .int (nI v_rains), .int (nI v_doors), .int (nI v_persons), .ref a_this_rain, .ref a_this_door, .ref a_this_now, .ref a_this_tried, .ref a_this_backOf, .int (nI v_backs), .ref a_this_image, .ref a_this_imageSeed, .ref a_this_isKept, .int v_seed, .int (nI v_seen), .ref a_this_sight, .int (nI v_entries), .ref a_this_entry])), (a_this_entry, .inl (cA, 40, .inl v_entry))] s.heap.size) [(a_this, .inr (10, [.int (nI v_letters), .ref a_this_text, .int (nI v_position), .int (nI v_tokenAt), .int v_token, .int v_number, .int (nI v_figures), .int v_faultAt, .int v_faultIs, .int v_readRooms, .int v_readStore, .int (nI v_readRains), .int (nI v_readDoors), .int (nI v_readPersons), .ref a_this_readRain, .ref a_this_readDoor, .ref a_this_readPerson, .int v_rooms, .int (nI v_rains), .int (nI v_doors), .int (nI v_persons), .ref a_this_rain, .ref a_this_door, .ref a_this_now, .ref a_this_tried, .ref a_this_backOf, .int (nI v_backs), .ref a_this_image, .ref a_this_imageSeed, .ref a_this_isKept, .int v_seed, .int (nI v_seen), .ref a_this_sight, .int (nI v_entries), .ref a_this_entry])), (a_this_entry, .inl (cA, 40, .inl (upd v_entry (2 * v_entries) x1)))] := hD
        refine lv_aload_n hx hb dX10_write_48 rfl (lv_at hl 0 rfl) ?_
        refine va_get (D := (dC, dI)) (ci := 10) (v := .ref a_this_entry) (C := RX10) (T := TX10) (N := 35) hx hb ht iX10 hown hK.1 hP 0 rfl rfl 34 (by decide) (ht _ w_4_237) (fun _ h9 => h9) rfl dX10_write_49 ?_
        refine lv_iconst (v := nI 2) hx hb dX10_write_52 (by decide) ?_
        refine lv_aload_n hx hb dX10_write_53 rfl (lv_at hl 0 rfl) ?_
        refine va_get (D := (dC, dI)) (ci := 10) (v := .int (nI v_entries)) (C := RX10) (T := TX10) (N := 35) hx hb ht iX10 hown hK.1 hP 0 rfl rfl 33 (by decide) (ht _ w_4_236) (fun _ h9 => h9) rfl dX10_write_54 ?_
        refine nv_imul hx hb dX10_write_57 ?_
        refine lv_iconst (v := nI 1) hx hb dX10_write_58 (by decide) ?_
        refine nv_iadd hx hb dX10_write_59 ?_
        refine lv_iload_n hx hb dX10_write_60 rfl (lv_at hl 2 rfl) ?_
        refine nv_iast (e := 2 * v_entries + 1) (by omega) (by omega) hx hb hK.1 hP hD hS 1 0 rfl rfl dX10_write_61 (fun H locs hP hD hS => ?_)
        have hP : va_P (dC, dI) vwCl [(a_this, .inr (10, [.int (nI v_letters), .ref a_this_text, .int (nI v_position), .int (nI v_tokenAt), .int v_token, .int v_number, .int (nI v_figures), .int v_faultAt, .int v_faultIs, .int v_readRooms, .int v_readStore, .int (nI v_readRains), .int (nI v_readDoors), .int (nI v_readPersons), .ref a_this_readRain, .ref a_this_readDoor, .ref a_this_readPerson, .int v_rooms, .int (nI v_rains), .int (nI v_doors), .int (nI v_persons), .ref a_this_rain, .ref a_this_door, .ref a_this_now, .ref a_this_tried, .ref a_this_backOf, .int (nI v_backs), .ref a_this_image, .ref a_this_imageSeed, .ref a_this_isKept, .int v_seed, .int (nI v_seen), .ref a_this_sight, .int (nI v_entries), .ref a_this_entry])), (a_this_entry, .inl (cA, 40, .inl (upd (upd v_entry (2 * v_entries) x1) (2 * v_entries + 1) x2)))] H := hP
        have hD : va_D (va_A [(a_this, .inr (10, [.int (nI v_letters), .ref a_this_text, .int (nI v_position), .int (nI v_tokenAt), .int v_token, .int v_number, .int (nI v_figures), .int v_faultAt, .int v_faultIs, .int v_readRooms, .int v_readStore, .int (nI v_readRains), .int (nI v_readDoors), .int (nI v_readPersons), .ref a_this_readRain, .ref a_this_readDoor, .ref a_this_readPerson, .int v_rooms, .int (nI v_rains), .int (nI v_doors), .int (nI v_persons), .ref a_this_rain, .ref a_this_door, .ref a_this_now, .ref a_this_tried, .ref a_this_backOf, .int (nI v_backs), .ref a_this_image, .ref a_this_imageSeed, .ref a_this_isKept, .int v_seed, .int (nI v_seen), .ref a_this_sight, .int (nI v_entries), .ref a_this_entry])), (a_this_entry, .inl (cA, 40, .inl v_entry))] s.heap.size) [(a_this, .inr (10, [.int (nI v_letters), .ref a_this_text, .int (nI v_position), .int (nI v_tokenAt), .int v_token, .int v_number, .int (nI v_figures), .int v_faultAt, .int v_faultIs, .int v_readRooms, .int v_readStore, .int (nI v_readRains), .int (nI v_readDoors), .int (nI v_readPersons), .ref a_this_readRain, .ref a_this_readDoor, .ref a_this_readPerson, .int v_rooms, .int (nI v_rains), .int (nI v_doors), .int (nI v_persons), .ref a_this_rain, .ref a_this_door, .ref a_this_now, .ref a_this_tried, .ref a_this_backOf, .int (nI v_backs), .ref a_this_image, .ref a_this_imageSeed, .ref a_this_isKept, .int v_seed, .int (nI v_seen), .ref a_this_sight, .int (nI v_entries), .ref a_this_entry])), (a_this_entry, .inl (cA, 40, .inl (upd (upd v_entry (2 * v_entries) x1) (2 * v_entries + 1) x2)))] := hD
        refine lv_aload_n hx hb dX10_write_62 rfl (lv_at hl 0 rfl) ?_
        refine lv_dup hx hb dX10_write_63 rfl ?_
        refine va_get (D := (dC, dI)) (ci := 10) (v := .int (nI v_entries)) (C := RX10) (T := TX10) (N := 35) hx hb ht iX10 hown hK.1 hP 0 rfl rfl 33 (by decide) (ht _ w_4_236) (fun _ h9 => h9) rfl dX10_write_64 ?_
        refine lv_iconst (v := nI 1) hx hb dX10_write_67 (by decide) ?_
        refine nv_iadd hx hb dX10_write_68 ?_
        refine va_put (D := (dC, dI)) (ci := 10) (v := .int (nI (v_entries + 1))) (ty := .int) (C := RX10) (T := TX10) (N := 35) hx hb ht iX10 tyX10 tyX10_ok nmX10 hown hK.1 hP hD hS 0 rfl rfl 33 (by decide) (ht _ w_4_236) (fun _ h9 => h9) rfl rfl rfl rfl (Nat.le_of_ble_eq_true rfl) dX10_write_69 (fun H locs hP hD hS => ?_)
        have hP : va_P (dC, dI) vwCl [(a_this, .inr (10, [.int (nI v_letters), .ref a_this_text, .int (nI v_position), .int (nI v_tokenAt), .int v_token, .int v_number, .int (nI v_figures), .int v_faultAt, .int v_faultIs, .int v_readRooms, .int v_readStore, .int (nI v_readRains), .int (nI v_readDoors), .int (nI v_readPersons), .ref a_this_readRain, .ref a_this_readDoor, .ref a_this_readPerson, .int v_rooms, .int (nI v_rains), .int (nI v_doors), .int (nI v_persons), .ref a_this_rain, .ref a_this_door, .ref a_this_now, .ref a_this_tried, .ref a_this_backOf, .int (nI v_backs), .ref a_this_image, .ref a_this_imageSeed, .ref a_this_isKept, .int v_seed, .int (nI v_seen), .ref a_this_sight, .int (nI (v_entries + 1)), .ref a_this_entry])), (a_this_entry, .inl (cA, 40, .inl (upd (upd v_entry (2 * v_entries) x1) (2 * v_entries + 1) x2)))] H := hP
        have hD : va_D (va_A [(a_this, .inr (10, [.int (nI v_letters), .ref a_this_text, .int (nI v_position), .int (nI v_tokenAt), .int v_token, .int v_number, .int (nI v_figures), .int v_faultAt, .int v_faultIs, .int v_readRooms, .int v_readStore, .int (nI v_readRains), .int (nI v_readDoors), .int (nI v_readPersons), .ref a_this_readRain, .ref a_this_readDoor, .ref a_this_readPerson, .int v_rooms, .int (nI v_rains), .int (nI v_doors), .int (nI v_persons), .ref a_this_rain, .ref a_this_door, .ref a_this_now, .ref a_this_tried, .ref a_this_backOf, .int (nI v_backs), .ref a_this_image, .ref a_this_imageSeed, .ref a_this_isKept, .int v_seed, .int (nI v_seen), .ref a_this_sight, .int (nI v_entries), .ref a_this_entry])), (a_this_entry, .inl (cA, 40, .inl v_entry))] s.heap.size) [(a_this, .inr (10, [.int (nI v_letters), .ref a_this_text, .int (nI v_position), .int (nI v_tokenAt), .int v_token, .int v_number, .int (nI v_figures), .int v_faultAt, .int v_faultIs, .int v_readRooms, .int v_readStore, .int (nI v_readRains), .int (nI v_readDoors), .int (nI v_readPersons), .ref a_this_readRain, .ref a_this_readDoor, .ref a_this_readPerson, .int v_rooms, .int (nI v_rains), .int (nI v_doors), .int (nI v_persons), .ref a_this_rain, .ref a_this_door, .ref a_this_now, .ref a_this_tried, .ref a_this_backOf, .int (nI v_backs), .ref a_this_image, .ref a_this_imageSeed, .ref a_this_isKept, .int v_seed, .int (nI v_seen), .ref a_this_sight, .int (nI (v_entries + 1)), .ref a_this_entry])), (a_this_entry, .inl (cA, 40, .inl (upd (upd v_entry (2 * v_entries) x1) (2 * v_entries + 1) x2)))] := hD
        refine lv_aload_n hx hb dX10_write_72 rfl (lv_at hl 0 rfl) ?_
        refine va_get (D := (dC, dI)) (ci := 10) (v := .int (nI (v_entries + 1))) (C := RX10) (T := TX10) (N := 35) hx hb ht iX10 hown hK.1 hP 0 rfl rfl 33 (by decide) (ht _ w_4_236) (fun _ h9 => h9) rfl dX10_write_73 ?_
        have hP9 := pc_sub (wc := [(a_this, .inr (10, [.int (nI v_letters), .ref a_this_text, .int (nI v_position), .int (nI v_tokenAt), .int v_token, .int v_number, .int (nI v_figures), .int v_faultAt, .int v_faultIs, .int v_readRooms, .int v_readStore, .int (nI v_readRains), .int (nI v_readDoors), .int (nI v_readPersons), .ref a_this_readRain, .ref a_this_readDoor, .ref a_this_readPerson, .int v_rooms, .int (nI v_rains), .int (nI v_doors), .int (nI v_persons), .ref a_this_rain, .ref a_this_door, .ref a_this_now, .ref a_this_tried, .ref a_this_backOf, .int (nI v_backs), .ref a_this_image, .ref a_this_imageSeed, .ref a_this_isKept, .int v_seed, .int (nI v_seen), .ref a_this_sight, .int (nI (v_entries + 1)), .ref a_this_entry])), (a_this_entry, .inl (cA, 40, .inl (upd (upd v_entry (2 * v_entries) x1) (2 * v_entries + 1) x2)))]) hP [0, 1] rfl
        have hD9 := hD.sub (ws' := [(a_this, .inr (10, [.int (nI v_letters), .ref a_this_text, .int (nI v_position), .int (nI v_tokenAt), .int v_token, .int v_number, .int (nI v_figures), .int v_faultAt, .int v_faultIs, .int v_readRooms, .int v_readStore, .int (nI v_readRains), .int (nI v_readDoors), .int (nI v_readPersons), .ref a_this_readRain, .ref a_this_readDoor, .ref a_this_readPerson, .int v_rooms, .int (nI v_rains), .int (nI v_doors), .int (nI v_persons), .ref a_this_rain, .ref a_this_door, .ref a_this_now, .ref a_this_tried, .ref a_this_backOf, .int (nI v_backs), .ref a_this_image, .ref a_this_imageSeed, .ref a_this_isKept, .int v_seed, .int (nI v_seen), .ref a_this_sight, .int (nI (v_entries + 1)), .ref a_this_entry])), (a_this_entry, .inl (cA, 40, .inl (upd (upd v_entry (2 * v_entries) x1) (2 * v_entries + 1) x2)))]) [0, 1] (by decide) rfl
        exact W.iret (v := nI (v_entries + 1)) hx hb hr (fun t ht9 _ => by rw [← hm]; exact ⟨⟨_, (), rfl, rfl, by rw [ht9]; exact hP9, hD9⟩, hS.F ht9⟩) hS.2.2 dX10_write_76
      · have hm := (if_pos c_3).symm.trans hm
        refine lv_ldc (v := (-1000000004 : Int32)) hx hb hown (ht _ w_5_78) dX10_write_33 ?_
        have hP9 := pc_sub (wc := [(a_this, .inr (10, [.int (nI v_letters), .ref a_this_text, .int (nI v_position), .int (nI v_tokenAt), .int v_token, .int v_number, .int (nI v_figures), .int v_faultAt, .int v_faultIs, .int v_readRooms, .int v_readStore, .int (nI v_readRains), .int (nI v_readDoors), .int (nI v_readPersons), .ref a_this_readRain, .ref a_this_readDoor, .ref a_this_readPerson, .int v_rooms, .int (nI v_rains), .int (nI v_doors), .int (nI v_persons), .ref a_this_rain, .ref a_this_door, .ref a_this_now, .ref a_this_tried, .ref a_this_backOf, .int (nI v_backs), .ref a_this_image, .ref a_this_imageSeed, .ref a_this_isKept, .int v_seed, .int (nI v_seen), .ref a_this_sight, .int (nI v_entries), .ref a_this_entry])), (a_this_entry, .inl (cA, 40, .inl v_entry))]) hP [0, 1] rfl
        have hD9 := hD.sub (ws' := [(a_this, .inr (10, [.int (nI v_letters), .ref a_this_text, .int (nI v_position), .int (nI v_tokenAt), .int v_token, .int v_number, .int (nI v_figures), .int v_faultAt, .int v_faultIs, .int v_readRooms, .int v_readStore, .int (nI v_readRains), .int (nI v_readDoors), .int (nI v_readPersons), .ref a_this_readRain, .ref a_this_readDoor, .ref a_this_readPerson, .int v_rooms, .int (nI v_rains), .int (nI v_doors), .int (nI v_persons), .ref a_this_rain, .ref a_this_door, .ref a_this_now, .ref a_this_tried, .ref a_this_backOf, .int (nI v_backs), .ref a_this_image, .ref a_this_imageSeed, .ref a_this_isKept, .int v_seed, .int (nI v_seen), .ref a_this_sight, .int (nI v_entries), .ref a_this_entry])), (a_this_entry, .inl (cA, 40, .inl v_entry))]) [0, 1] (by decide) rfl
        exact W.iret (v := (-1000000004 : Int32)) hx hb hr (fun t ht9 _ => by rw [← hm]; exact ⟨⟨_, (), rfl, rfl, by rw [ht9]; exact hP9, hD9⟩, hS.F ht9⟩) hS.2.2 dX10_write_35
    · have hm := (if_pos c_2).symm.trans hm
      refine lv_ldc (v := (-1000000002 : Int32)) hx hb hown (ht _ w_5_77) dX10_write_21 ?_
      have hP9 := pc_sub (wc := [(a_this, .inr (10, [.int (nI v_letters), .ref a_this_text, .int (nI v_position), .int (nI v_tokenAt), .int v_token, .int v_number, .int (nI v_figures), .int v_faultAt, .int v_faultIs, .int v_readRooms, .int v_readStore, .int (nI v_readRains), .int (nI v_readDoors), .int (nI v_readPersons), .ref a_this_readRain, .ref a_this_readDoor, .ref a_this_readPerson, .int v_rooms, .int (nI v_rains), .int (nI v_doors), .int (nI v_persons), .ref a_this_rain, .ref a_this_door, .ref a_this_now, .ref a_this_tried, .ref a_this_backOf, .int (nI v_backs), .ref a_this_image, .ref a_this_imageSeed, .ref a_this_isKept, .int v_seed, .int (nI v_seen), .ref a_this_sight, .int (nI v_entries), .ref a_this_entry])), (a_this_entry, .inl (cA, 40, .inl v_entry))]) hP [0, 1] rfl
      have hD9 := hD.sub (ws' := [(a_this, .inr (10, [.int (nI v_letters), .ref a_this_text, .int (nI v_position), .int (nI v_tokenAt), .int v_token, .int v_number, .int (nI v_figures), .int v_faultAt, .int v_faultIs, .int v_readRooms, .int v_readStore, .int (nI v_readRains), .int (nI v_readDoors), .int (nI v_readPersons), .ref a_this_readRain, .ref a_this_readDoor, .ref a_this_readPerson, .int v_rooms, .int (nI v_rains), .int (nI v_doors), .int (nI v_persons), .ref a_this_rain, .ref a_this_door, .ref a_this_now, .ref a_this_tried, .ref a_this_backOf, .int (nI v_backs), .ref a_this_image, .ref a_this_imageSeed, .ref a_this_isKept, .int v_seed, .int (nI v_seen), .ref a_this_sight, .int (nI v_entries), .ref a_this_entry])), (a_this_entry, .inl (cA, 40, .inl v_entry))]) [0, 1] (by decide) rfl
      exact W.iret (v := (-1000000002 : Int32)) hx hb hr (fun t ht9 _ => by rw [← hm]; exact ⟨⟨_, (), rfl, rfl, by rw [ht9]; exact hP9, hD9⟩, hS.F ht9⟩) hS.2.2 dX10_write_23
  · have hm := (if_pos c_1).symm.trans hm
    refine lv_ldc (v := (-1000000001 : Int32)) hx hb hown (ht _ w_5_167) dX10_write_8 ?_
    have hP9 := pc_sub (wc := [(a_this, .inr (10, [.int (nI v_letters), .ref a_this_text, .int (nI v_position), .int (nI v_tokenAt), .int v_token, .int v_number, .int (nI v_figures), .int v_faultAt, .int v_faultIs, .int v_readRooms, .int v_readStore, .int (nI v_readRains), .int (nI v_readDoors), .int (nI v_readPersons), .ref a_this_readRain, .ref a_this_readDoor, .ref a_this_readPerson, .int v_rooms, .int (nI v_rains), .int (nI v_doors), .int (nI v_persons), .ref a_this_rain, .ref a_this_door, .ref a_this_now, .ref a_this_tried, .ref a_this_backOf, .int (nI v_backs), .ref a_this_image, .ref a_this_imageSeed, .ref a_this_isKept, .int v_seed, .int (nI v_seen), .ref a_this_sight, .int (nI v_entries), .ref a_this_entry])), (a_this_entry, .inl (cA, 40, .inl v_entry))]) hP [0, 1] rfl
    have hD9 := hD.sub (ws' := [(a_this, .inr (10, [.int (nI v_letters), .ref a_this_text, .int (nI v_position), .int (nI v_tokenAt), .int v_token, .int v_number, .int (nI v_figures), .int v_faultAt, .int v_faultIs, .int v_readRooms, .int v_readStore, .int (nI v_readRains), .int (nI v_readDoors), .int (nI v_readPersons), .ref a_this_readRain, .ref a_this_readDoor, .ref a_this_readPerson, .int v_rooms, .int (nI v_rains), .int (nI v_doors), .int (nI v_persons), .ref a_this_rain, .ref a_this_door, .ref a_this_now, .ref a_this_tried, .ref a_this_backOf, .int (nI v_backs), .ref a_this_image, .ref a_this_imageSeed, .ref a_this_isKept, .int v_seed, .int (nI v_seen), .ref a_this_sight, .int (nI v_entries), .ref a_this_entry])), (a_this_entry, .inl (cA, 40, .inl v_entry))]) [0, 1] (by decide) rfl
    exact W.iret (v := (-1000000001 : Int32)) hx hb hr (fun t ht9 _ => by rw [← hm]; exact ⟨⟨_, (), rfl, rfl, by rw [ht9]; exact hP9, hD9⟩, hS.F ht9⟩) hS.2.2 dX10_write_10
theorem dX10_judge_0 : decode cX10_judge 0 = .ok (.iconst 0, 1) := by decide +kernel
theorem dX10_judge_1 : decode cX10_judge 1 = .ok (.istore_n 1, 1) := by decide +kernel
theorem dX10_judge_2 : decode cX10_judge 2 = .ok (.iload_n 1, 1) := by decide +kernel
theorem dX10_judge_3 : decode cX10_judge 3 = .ok (.aload_n 0, 1) := by decide +kernel
theorem dX10_judge_4 : decode cX10_judge 4 = .ok (.getfield 148, 3) := by decide +kernel
theorem dX10_judge_7 : decode cX10_judge 7 = .ok (.if_icmp .ge 39, 3) := by decide +kernel
theorem dX10_judge_10 : decode cX10_judge 10 = .ok (.aload_n 0, 1) := by decide +kernel
theorem dX10_judge_11 : decode cX10_judge 11 = .ok (.getfield 32, 3) := by decide +kernel
theorem dX10_judge_14 : decode cX10_judge 14 = .ok (.iconst 3, 1) := by decide +kernel
theorem dX10_judge_15 : decode cX10_judge 15 = .ok (.aload_n 0, 1) := by decide +kernel
theorem dX10_judge_16 : decode cX10_judge 16 = .ok (.getfield 54, 3) := by decide +kernel
theorem dX10_judge_19 : decode cX10_judge 19 = .ok (.iconst 2, 1) := by decide +kernel
theorem dX10_judge_20 : decode cX10_judge 20 = .ok (.iload_n 1, 1) := by decide +kernel
theorem dX10_judge_21 : decode cX10_judge 21 = .ok (.imul, 1) := by decide +kernel
theorem dX10_judge_22 : decode cX10_judge 22 = .ok (.iaload, 1) := by decide +kernel
theorem dX10_judge_23 : decode cX10_judge 23 = .ok (.iadd, 1) := by decide +kernel
theorem dX10_judge_24 : decode cX10_judge 24 = .ok (.iaload, 1) := by decide +kernel
theorem dX10_judge_25 : decode cX10_judge 25 = .ok (.aload_n 0, 1) := by decide +kernel
theorem dX10_judge_26 : decode cX10_judge 26 = .ok (.getfield 54, 3) := by decide +kernel
theorem dX10_judge_29 : decode cX10_judge 29 = .ok (.iconst 2, 1) := by decide +kernel
theorem dX10_judge_30 : decode cX10_judge 30 = .ok (.iload_n 1, 1) := by decide +kernel
theorem dX10_judge_31 : decode cX10_judge 31 = .ok (.imul, 1) := by decide +kernel
theorem dX10_judge_32 : decode cX10_judge 32 = .ok (.iconst 1, 1) := by decide +kernel
theorem dX10_judge_33 : decode cX10_judge 33 = .ok (.iadd, 1) := by decide +kernel
theorem dX10_judge_34 : decode cX10_judge 34 = .ok (.iaload, 1) := by decide +kernel
theorem dX10_judge_35 : decode cX10_judge 35 = .ok (.if_icmp .eq 5, 3) := by decide +kernel
theorem dX10_judge_38 : decode cX10_judge 38 = .ok (.iload_n 1, 1) := by decide +kernel
theorem dX10_judge_39 : decode cX10_judge 39 = .ok (.ireturn, 1) := by decide +kernel
theorem dX10_judge_40 : decode cX10_judge 40 = .ok (.iinc 1 1, 3) := by decide +kernel
theorem dX10_judge_43 : decode cX10_judge 43 = .ok (.goto (-41), 3) := by decide +kernel
theorem dX10_judge_46 : decode cX10_judge 46 = .ok (.iconst (-1), 1) := by decide +kernel
theorem dX10_judge_47 : decode cX10_judge 47 = .ok (.ireturn, 1) := by decide +kernel
theorem h_X10_judge : yX10_judge.cls ≠ "java/lang/invoke/MethodHandle" ∧ yX10_judge.cls ≠ "java/lang/invoke/VarHandle" ∧ (parseMethodDescriptor yX10_judge.desc).map (fun d => d.parameters.length) = some 0 := by decide +kernel
def mX10_judge_l2 (v_entry : Nat → Int32) (v_now : Nat → Int32) : Nat → Nat → Int32
  | 0, k_2 => (-1 : Int32)
  | n_2 + 1, k_2 => (if (v_now (3 + ((v_entry (2 * k_2)).toNatClampNeg))) = (v_entry (2 * k_2 + 1)) then (mX10_judge_l2 v_entry v_now n_2 (k_2 + 1)) else nI k_2)
def mX10_judge (v_entries : Nat) (v_entry : Nat → Int32) (v_now : Nat → Int32) : Int32 := (mX10_judge_l2 v_entry v_now v_entries 0)
set_option maxHeartbeats 4000000 in
set_option maxRecDepth 100000 in
theorem kX10_judge (l : Launch) (dC : Nat → ClassId) (dI : Nat → Nat → Nat) (cA cZ : ClassId) (a_this a_this_text a_this_readRain a_this_readDoor a_this_readPerson a_this_rain a_this_door a_this_now a_this_tried a_this_backOf a_this_image a_this_imageSeed a_this_isKept a_this_sight a_this_entry : Nat) (v_letters : Nat) (v_position : Nat) (v_tokenAt : Nat) (v_token : Int32) (v_number : Int32) (v_figures : Nat) (v_faultAt : Int32) (v_faultIs : Int32) (v_readRooms : Int32) (v_readStore : Int32) (v_readRains : Nat) (v_readDoors : Nat) (v_readPersons : Nat) (v_rooms : Int32) (v_rains : Nat) (v_doors : Nat) (v_persons : Nat) (v_backs : Nat) (v_seed : Int32) (v_seen : Nat) (v_entries : Nat) (v_entry : Nat → Int32) (v_now : Nat → Int32) (he : v_entries ≤ 20) (hE : ∀ k, k < v_entries → v_entry (2 * k) = nI (v_entry (2 * k)).toNatClampNeg ∧ (v_entry (2 * k)).toNatClampNeg < 10) : Met l yX10_judge (Cond.code yX10_judge cX10_judge 2 (some .int) :: wt) ({ frames := 0, cells := 0, slots := 0, locals := 0 } : Room) (va_Pc [.ref a_this] (PreP (dC, dI) [(cA, .int), (cZ, .boolean)] [(a_this, .inr (10, [.int (nI v_letters), .ref a_this_text, .int (nI v_position), .int (nI v_tokenAt), .int v_token, .int v_number, .int (nI v_figures), .int v_faultAt, .int v_faultIs, .int v_readRooms, .int v_readStore, .int (nI v_readRains), .int (nI v_readDoors), .int (nI v_readPersons), .ref a_this_readRain, .ref a_this_readDoor, .ref a_this_readPerson, .int v_rooms, .int (nI v_rains), .int (nI v_doors), .int (nI v_persons), .ref a_this_rain, .ref a_this_door, .ref a_this_now, .ref a_this_tried, .ref a_this_backOf, .int (nI v_backs), .ref a_this_image, .ref a_this_imageSeed, .ref a_this_isKept, .int v_seed, .int (nI v_seen), .ref a_this_sight, .int (nI v_entries), .ref a_this_entry])), (a_this_entry, .inl (cA, 40, .inl v_entry)), (a_this_now, .inl (cA, 35, .inl v_now))])) (vp_Si (fun r => r = (mX10_judge v_entries v_entry v_now))) 0 0 (fun _ => False) := by
  refine Met.ofW (cc := cX10_judge) (maxL := 2) (ret := (some .int)) (by decide) rfl ?_
  intro p e s m args below meth c s₁ B hml hv
  obtain ⟨ha, hP, hK⟩ := hv
  have hx := B.exec
  have hb := B.bytes
  have hr := B.returns
  have ht : ∀ w ∈ wt, w.before args s = true := fun w h => atoms_spec (ws := (Cond.code yX10_judge cX10_judge 2 (some .int) :: wt)) B.pre w (List.mem_cons_of_mem _ h)
  have hown : s.vm.findClass RX10 = some m.cls := findClass_of_methodNamed B.named
  have hlocks := B.notSynchronized
  have hl := lv_entry ([.ref a_this]) (n := 2) (Nat.le_of_ble_eq_true rfl)
  rw [show entryFrame m args 2 = _ from (congrArg (fun a => entryFrame m a 2) ha).trans (lg_entry_eq m [.ref a_this] 2)]
  generalize (lg_sl ([.ref a_this]) ++ List.replicate (2 - (lg_sl ([.ref a_this])).length) Slot.unset).toArray = ls at hl ⊢
  have hl : lv_has ls 2 [(0, .ref a_this)] := hl
  have hm : (mX10_judge_l2 v_entry v_now v_entries 0) = (mX10_judge v_entries v_entry v_now) := rfl
  refine lv_iconst (v := nI 0) hx hb dX10_judge_0 (by decide) ?_
  refine lv_istore_n (lv' := [(1, .int (nI 0)), (0, .ref a_this)]) hx hb dX10_judge_1 rfl hl (by decide) rfl (fun ls hl => ?_)
  have L_2 : ∀ (n_2 k_2 : Nat), k_2 + n_2 = v_entries →  mX10_judge_l2 v_entry v_now n_2 k_2 = (mX10_judge v_entries v_entry v_now) → ∀ (ls : Array Slot), lv_has ls 2 [(1, .int (nI k_2)), (0, .ref a_this)] → W p l e (headSpec (Cond.code yX10_judge cX10_judge 2 (some .int) :: wt) ({ frames := 0, cells := 0, slots := 0, locals := 0 } : Room)).room s m args below meth c s.heap [] 0 0 (MQ below (vp_Si (fun r => r = (mX10_judge v_entries v_entry v_now))) args s 0 0 (fun _ => False)) (F0 m 2 ls []) := by
    intro n_2
    induction n_2 with
    | zero =>
      intro k_2 hk  hm ls hl
      have hm : (-1 : Int32) = (mX10_judge v_entries v_entry v_now) := hm
      refine lv_iload_n hx hb dX10_judge_2 rfl (lv_at hl 0 rfl) ?_
      refine lv_aload_n hx hb dX10_judge_3 rfl (lv_at hl 1 rfl) ?_
      refine va_get (D := (dC, dI)) (ci := 10) (v := .int (nI v_entries)) (C := RX10) (T := TX10) (N := 35) hx hb ht iX10 hown hK.1 hP 0 rfl rfl 33 (by decide) (ht _ w_4_236) (fun _ h9 => h9) rfl dX10_judge_4 ?_
      refine lv_icmp_ge (tgt := 46) hx hb dX10_judge_7 (by decide) (fun c_1 => ?_) (fun c_1 => ?_)
      · skip
        refine lv_iconst (v := (-1 : Int32)) hx hb dX10_judge_46 (by decide) ?_
        exact W.iret (v := (-1 : Int32)) hx hb hr (fun t ht9 _ => ⟨_, rfl, hm, ht9⟩) (fun q hq => absurd hq List.not_mem_nil) dX10_judge_47
      · exact absurd (nI_le (by omega) (by omega)) c_1
    | succ n_2 ih =>
      intro k_2 hk  hm ls hl
      have hm : (if (v_now (3 + ((v_entry (2 * k_2)).toNatClampNeg))) = (v_entry (2 * k_2 + 1)) then (mX10_judge_l2 v_entry v_now n_2 (k_2 + 1)) else nI k_2) = (mX10_judge v_entries v_entry v_now) := hm
      refine lv_iload_n hx hb dX10_judge_2 rfl (lv_at hl 0 rfl) ?_
      refine lv_aload_n hx hb dX10_judge_3 rfl (lv_at hl 1 rfl) ?_
      refine va_get (D := (dC, dI)) (ci := 10) (v := .int (nI v_entries)) (C := RX10) (T := TX10) (N := 35) hx hb ht iX10 hown hK.1 hP 0 rfl rfl 33 (by decide) (ht _ w_4_236) (fun _ h9 => h9) rfl dX10_judge_4 ?_
      refine lv_icmp_ge (tgt := 46) hx hb dX10_judge_7 (by decide) (fun c_2 => ?_) (fun c_2 => ?_)
      · exact absurd c_2 (nI_ge (by omega) (by omega))
      · skip
        refine lv_aload_n hx hb dX10_judge_10 rfl (lv_at hl 1 rfl) ?_
        refine va_get (D := (dC, dI)) (ci := 10) (v := .ref a_this_now) (C := RX10) (T := TX10) (N := 35) hx hb ht iX10 hown hK.1 hP 0 rfl rfl 23 (by decide) (ht _ w_4_226) (fun _ h9 => h9) rfl dX10_judge_11 ?_
        refine lv_iconst (v := nI 3) hx hb dX10_judge_14 (by decide) ?_
        refine lv_aload_n hx hb dX10_judge_15 rfl (lv_at hl 1 rfl) ?_
        refine va_get (D := (dC, dI)) (ci := 10) (v := .ref a_this_entry) (C := RX10) (T := TX10) (N := 35) hx hb ht iX10 hown hK.1 hP 0 rfl rfl 34 (by decide) (ht _ w_4_237) (fun _ h9 => h9) rfl dX10_judge_16 ?_
        refine lv_iconst (v := nI 2) hx hb dX10_judge_19 (by decide) ?_
        refine lv_iload_n hx hb dX10_judge_20 rfl (lv_at hl 0 rfl) ?_
        refine nv_imul hx hb dX10_judge_21 ?_
        refine nv_iald (e := 2 * k_2) (by omega) (by omega) hx hb hK.1 hP 1 0 rfl rfl dX10_judge_22 ?_
        refine lv_topi (fun x ex => ?_)
        obtain rfl : x = nI ((v_entry (2 * k_2)).toNatClampNeg) := ex.trans ((hE k_2 (by omega)).1)
        refine nv_iadd hx hb dX10_judge_23 ?_
        refine nv_iald (e := 3 + ((v_entry (2 * k_2)).toNatClampNeg)) (by have := (hE k_2 (by omega)).2; omega) (by omega) hx hb hK.1 hP 2 0 rfl rfl dX10_judge_24 ?_
        refine lv_aload_n hx hb dX10_judge_25 rfl (lv_at hl 1 rfl) ?_
        refine va_get (D := (dC, dI)) (ci := 10) (v := .ref a_this_entry) (C := RX10) (T := TX10) (N := 35) hx hb ht iX10 hown hK.1 hP 0 rfl rfl 34 (by decide) (ht _ w_4_237) (fun _ h9 => h9) rfl dX10_judge_26 ?_
        refine lv_iconst (v := nI 2) hx hb dX10_judge_29 (by decide) ?_
        refine lv_iload_n hx hb dX10_judge_30 rfl (lv_at hl 0 rfl) ?_
        refine nv_imul hx hb dX10_judge_31 ?_
        refine lv_iconst (v := nI 1) hx hb dX10_judge_32 (by decide) ?_
        refine nv_iadd hx hb dX10_judge_33 ?_
        refine nv_iald (e := 2 * k_2 + 1) (by omega) (by omega) hx hb hK.1 hP 1 0 rfl rfl dX10_judge_34 ?_
        refine lv_icmp_eq (tgt := 40) hx hb dX10_judge_35 (by decide) (fun c_3 => ?_) (fun c_3 => ?_)
        · have hm := (if_pos c_3).symm.trans hm
          refine lv_iinc (v := nI (k_2 + 1)) (lv' := [(1, .int (nI (k_2 + 1))), (0, .ref a_this)]) hx hb dX10_judge_40 hl (k := 0) rfl (nI_1 _) (by decide) rfl (fun ls hl => ?_)
          refine lv_goto (tgt := 2) hx hb dX10_judge_43 (by decide) ?_
          exact ih (k_2 + 1) (by omega) hm ls (lv_sub hl [0, 1] rfl)
        · have hm := (if_neg c_3).symm.trans hm
          refine lv_iload_n hx hb dX10_judge_38 rfl (lv_at hl 0 rfl) ?_
          exact W.iret (v := nI k_2) hx hb hr (fun t ht9 _ => ⟨_, rfl, hm, ht9⟩) (fun q hq => absurd hq List.not_mem_nil) dX10_judge_39
  exact L_2 v_entries 0 (Nat.zero_add _) hm ls (lv_sub hl [0, 1] rfl)
theorem dX10_tear_0 : decode cX10_tear 0 = .ok (.aload_n 0, 1) := by decide +kernel
theorem dX10_tear_1 : decode cX10_tear 1 = .ok (.getfield 145, 3) := by decide +kernel
theorem dX10_tear_4 : decode cX10_tear 4 = .ok (.aload_n 0, 1) := by decide +kernel
theorem dX10_tear_5 : decode cX10_tear 5 = .ok (.getfield 148, 3) := by decide +kernel
theorem dX10_tear_8 : decode cX10_tear 8 = .ok (.iadd, 1) := by decide +kernel
theorem dX10_tear_9 : decode cX10_tear 9 = .ok (.istore_n 1, 1) := by decide +kernel
theorem dX10_tear_10 : decode cX10_tear 10 = .ok (.aload_n 0, 1) := by decide +kernel
theorem dX10_tear_11 : decode cX10_tear 11 = .ok (.iconst 0, 1) := by decide +kernel
theorem dX10_tear_12 : decode cX10_tear 12 = .ok (.putfield 145, 3) := by decide +kernel
theorem dX10_tear_15 : decode cX10_tear 15 = .ok (.aload_n 0, 1) := by decide +kernel
theorem dX10_tear_16 : decode cX10_tear 16 = .ok (.iconst 0, 1) := by decide +kernel
theorem dX10_tear_17 : decode cX10_tear 17 = .ok (.putfield 148, 3) := by decide +kernel
theorem dX10_tear_20 : decode cX10_tear 20 = .ok (.iload_n 1, 1) := by decide +kernel
theorem dX10_tear_21 : decode cX10_tear 21 = .ok (.ireturn, 1) := by decide +kernel
theorem h_X10_tear : yX10_tear.cls ≠ "java/lang/invoke/MethodHandle" ∧ yX10_tear.cls ≠ "java/lang/invoke/VarHandle" ∧ (parseMethodDescriptor yX10_tear.desc).map (fun d => d.parameters.length) = some 0 := by decide +kernel
def mX10_tear (v_seen : Nat) (v_entries : Nat) : Int32 × Nat × Nat := (nI (v_seen + v_entries), 0, 0)
set_option maxHeartbeats 4000000 in
set_option maxRecDepth 100000 in
theorem kX10_tear (l : Launch) (dC : Nat → ClassId) (dI : Nat → Nat → Nat) (cA cZ : ClassId) (a_this a_this_text a_this_readRain a_this_readDoor a_this_readPerson a_this_rain a_this_door a_this_now a_this_tried a_this_backOf a_this_image a_this_imageSeed a_this_isKept a_this_sight a_this_entry : Nat) (v_letters : Nat) (v_position : Nat) (v_tokenAt : Nat) (v_token : Int32) (v_number : Int32) (v_figures : Nat) (v_faultAt : Int32) (v_faultIs : Int32) (v_readRooms : Int32) (v_readStore : Int32) (v_readRains : Nat) (v_readDoors : Nat) (v_readPersons : Nat) (v_rooms : Int32) (v_rains : Nat) (v_doors : Nat) (v_persons : Nat) (v_backs : Nat) (v_seed : Int32) (v_seen : Nat) (v_entries : Nat) (sz : Nat) : Met l yX10_tear (Cond.code yX10_tear cX10_tear 2 (some .int) :: wt) ({ frames := 0, cells := 0, slots := 0, locals := 0 } : Room) (va_Pc [.ref a_this] (PreM (dC, dI) [(cA, .int), (cZ, .boolean)] sz [(a_this, .inr (10, [.int (nI v_letters), .ref a_this_text, .int (nI v_position), .int (nI v_tokenAt), .int v_token, .int v_number, .int (nI v_figures), .int v_faultAt, .int v_faultIs, .int v_readRooms, .int v_readStore, .int (nI v_readRains), .int (nI v_readDoors), .int (nI v_readPersons), .ref a_this_readRain, .ref a_this_readDoor, .ref a_this_readPerson, .int v_rooms, .int (nI v_rains), .int (nI v_doors), .int (nI v_persons), .ref a_this_rain, .ref a_this_door, .ref a_this_now, .ref a_this_tried, .ref a_this_backOf, .int (nI v_backs), .ref a_this_image, .ref a_this_imageSeed, .ref a_this_isKept, .int v_seed, .int (nI v_seen), .ref a_this_sight, .int (nI v_entries), .ref a_this_entry]))])) (PoI (dC, dI) sz [(a_this, .inr (10, [.int (nI v_letters), .ref a_this_text, .int (nI v_position), .int (nI v_tokenAt), .int v_token, .int v_number, .int (nI v_figures), .int v_faultAt, .int v_faultIs, .int v_readRooms, .int v_readStore, .int (nI v_readRains), .int (nI v_readDoors), .int (nI v_readPersons), .ref a_this_readRain, .ref a_this_readDoor, .ref a_this_readPerson, .int v_rooms, .int (nI v_rains), .int (nI v_doors), .int (nI v_persons), .ref a_this_rain, .ref a_this_door, .ref a_this_now, .ref a_this_tried, .ref a_this_backOf, .int (nI v_backs), .ref a_this_image, .ref a_this_imageSeed, .ref a_this_isKept, .int v_seed, .int (nI v_seen), .ref a_this_sight, .int (nI v_entries), .ref a_this_entry]))] ((mX10_tear v_seen v_entries)).1 [(a_this, .inr (10, [.int (nI v_letters), .ref a_this_text, .int (nI v_position), .int (nI v_tokenAt), .int v_token, .int v_number, .int (nI v_figures), .int v_faultAt, .int v_faultIs, .int v_readRooms, .int v_readStore, .int (nI v_readRains), .int (nI v_readDoors), .int (nI v_readPersons), .ref a_this_readRain, .ref a_this_readDoor, .ref a_this_readPerson, .int v_rooms, .int (nI v_rains), .int (nI v_doors), .int (nI v_persons), .ref a_this_rain, .ref a_this_door, .ref a_this_now, .ref a_this_tried, .ref a_this_backOf, .int (nI v_backs), .ref a_this_image, .ref a_this_imageSeed, .ref a_this_isKept, .int v_seed, .int (nI (((mX10_tear v_seen v_entries)).2.1)), .ref a_this_sight, .int (nI (((mX10_tear v_seen v_entries)).2.2)), .ref a_this_entry]))]) 0 0 (va_A [(a_this, .inr (10, [.int (nI v_letters), .ref a_this_text, .int (nI v_position), .int (nI v_tokenAt), .int v_token, .int v_number, .int (nI v_figures), .int v_faultAt, .int v_faultIs, .int v_readRooms, .int v_readStore, .int (nI v_readRains), .int (nI v_readDoors), .int (nI v_readPersons), .ref a_this_readRain, .ref a_this_readDoor, .ref a_this_readPerson, .int v_rooms, .int (nI v_rains), .int (nI v_doors), .int (nI v_persons), .ref a_this_rain, .ref a_this_door, .ref a_this_now, .ref a_this_tried, .ref a_this_backOf, .int (nI v_backs), .ref a_this_image, .ref a_this_imageSeed, .ref a_this_isKept, .int v_seed, .int (nI v_seen), .ref a_this_sight, .int (nI v_entries), .ref a_this_entry]))] sz) := by
  refine Met.ofW (cc := cX10_tear) (maxL := 2) (ret := (some .int)) (by decide) rfl ?_
  intro p e s m args below meth c s₁ B hml hv
  obtain ⟨ha, hsz, hP, hK, hD0⟩ := hv
  have hx := B.exec
  have hb := B.bytes
  have hr := B.returns
  have ht : ∀ w ∈ wt, w.before args s = true := fun w h => atoms_spec (ws := (Cond.code yX10_tear cX10_tear 2 (some .int) :: wt)) B.pre w (List.mem_cons_of_mem _ h)
  have hown : s.vm.findClass RX10 = some m.cls := findClass_of_methodNamed B.named
  have hlocks := B.notSynchronized
  subst hsz
  have hD := hD0.self (sz := s.heap.size)
  have hA : ∀ q : Nat, s.heap.size ≤ q → va_A [(a_this, .inr (10, [.int (nI v_letters), .ref a_this_text, .int (nI v_position), .int (nI v_tokenAt), .int v_token, .int v_number, .int (nI v_figures), .int v_faultAt, .int v_faultIs, .int v_readRooms, .int v_readStore, .int (nI v_readRains), .int (nI v_readDoors), .int (nI v_readPersons), .ref a_this_readRain, .ref a_this_readDoor, .ref a_this_readPerson, .int v_rooms, .int (nI v_rains), .int (nI v_doors), .int (nI v_persons), .ref a_this_rain, .ref a_this_door, .ref a_this_now, .ref a_this_tried, .ref a_this_backOf, .int (nI v_backs), .ref a_this_image, .ref a_this_imageSeed, .ref a_this_isKept, .int v_seed, .int (nI v_seen), .ref a_this_sight, .int (nI v_entries), .ref a_this_entry]))] s.heap.size q := fun q h => Or.inr h
  have hS : va_S (va_A [(a_this, .inr (10, [.int (nI v_letters), .ref a_this_text, .int (nI v_position), .int (nI v_tokenAt), .int v_token, .int v_number, .int (nI v_figures), .int v_faultAt, .int v_faultIs, .int v_readRooms, .int v_readStore, .int (nI v_readRains), .int (nI v_readDoors), .int (nI v_readPersons), .ref a_this_readRain, .ref a_this_readDoor, .ref a_this_readPerson, .int v_rooms, .int (nI v_rains), .int (nI v_doors), .int (nI v_persons), .ref a_this_rain, .ref a_this_door, .ref a_this_now, .ref a_this_tried, .ref a_this_backOf, .int (nI v_backs), .ref a_this_image, .ref a_this_imageSeed, .ref a_this_isKept, .int v_seed, .int (nI v_seen), .ref a_this_sight, .int (nI v_entries), .ref a_this_entry]))] s.heap.size) s.heap s.heap [] := va_S.rf
  have hl := lv_entry ([.ref a_this]) (n := 2) (Nat.le_of_ble_eq_true rfl)
  rw [show entryFrame m args 2 = _ from (congrArg (fun a => entryFrame m a 2) ha).trans (lg_entry_eq m [.ref a_this] 2)]
  generalize (lg_sl ([.ref a_this]) ++ List.replicate (2 - (lg_sl ([.ref a_this])).length) Slot.unset).toArray = ls at hl ⊢
  have hl : lv_has ls 2 [(0, .ref a_this)] := hl
  have hm : (nI (v_seen + v_entries), 0, 0) = (mX10_tear v_seen v_entries) := rfl
  refine lv_aload_n hx hb dX10_tear_0 rfl (lv_at hl 0 rfl) ?_
  refine va_get (D := (dC, dI)) (ci := 10) (v := .int (nI v_seen)) (C := RX10) (T := TX10) (N := 35) hx hb ht iX10 hown hK.1 hP 0 rfl rfl 31 (by decide) (ht _ w_4_234) (fun _ h9 => h9) rfl dX10_tear_1 ?_
  refine lv_aload_n hx hb dX10_tear_4 rfl (lv_at hl 0 rfl) ?_
  refine va_get (D := (dC, dI)) (ci := 10) (v := .int (nI v_entries)) (C := RX10) (T := TX10) (N := 35) hx hb ht iX10 hown hK.1 hP 0 rfl rfl 33 (by decide) (ht _ w_4_236) (fun _ h9 => h9) rfl dX10_tear_5 ?_
  refine nv_iadd hx hb dX10_tear_8 ?_
  refine lv_istore_n (lv' := [(1, .int (nI (v_seen + v_entries))), (0, .ref a_this)]) hx hb dX10_tear_9 rfl hl (by decide) rfl (fun ls hl => ?_)
  refine lv_aload_n hx hb dX10_tear_10 rfl (lv_at hl 1 rfl) ?_
  refine lv_iconst (v := nI 0) hx hb dX10_tear_11 (by decide) ?_
  refine va_put (D := (dC, dI)) (ci := 10) (v := .int (nI 0)) (ty := .int) (C := RX10) (T := TX10) (N := 35) hx hb ht iX10 tyX10 tyX10_ok nmX10 hown hK.1 hP hD hS 0 rfl rfl 31 (by decide) (ht _ w_4_234) (fun _ h9 => h9) rfl rfl rfl rfl (Nat.le_of_ble_eq_true rfl) dX10_tear_12 (fun H locs hP hD hS => ?_)
  have hP : va_P (dC, dI) vwCl [(a_this, .inr (10, [.int (nI v_letters), .ref a_this_text, .int (nI v_position), .int (nI v_tokenAt), .int v_token, .int v_number, .int (nI v_figures), .int v_faultAt, .int v_faultIs, .int v_readRooms, .int v_readStore, .int (nI v_readRains), .int (nI v_readDoors), .int (nI v_readPersons), .ref a_this_readRain, .ref a_this_readDoor, .ref a_this_readPerson, .int v_rooms, .int (nI v_rains), .int (nI v_doors), .int (nI v_persons), .ref a_this_rain, .ref a_this_door, .ref a_this_now, .ref a_this_tried, .ref a_this_backOf, .int (nI v_backs), .ref a_this_image, .ref a_this_imageSeed, .ref a_this_isKept, .int v_seed, .int (nI 0), .ref a_this_sight, .int (nI v_entries), .ref a_this_entry]))] H := hP
  have hD : va_D (va_A [(a_this, .inr (10, [.int (nI v_letters), .ref a_this_text, .int (nI v_position), .int (nI v_tokenAt), .int v_token, .int v_number, .int (nI v_figures), .int v_faultAt, .int v_faultIs, .int v_readRooms, .int v_readStore, .int (nI v_readRains), .int (nI v_readDoors), .int (nI v_readPersons), .ref a_this_readRain, .ref a_this_readDoor, .ref a_this_readPerson, .int v_rooms, .int (nI v_rains), .int (nI v_doors), .int (nI v_persons), .ref a_this_rain, .ref a_this_door, .ref a_this_now, .ref a_this_tried, .ref a_this_backOf, .int (nI v_backs), .ref a_this_image, .ref a_this_imageSeed, .ref a_this_isKept, .int v_seed, .int (nI v_seen), .ref a_this_sight, .int (nI v_entries), .ref a_this_entry]))] s.heap.size) [(a_this, .inr (10, [.int (nI v_letters), .ref a_this_text, .int (nI v_position), .int (nI v_tokenAt), .int v_token, .int v_number, .int (nI v_figures), .int v_faultAt, .int v_faultIs, .int v_readRooms, .int v_readStore, .int (nI v_readRains), .int (nI v_readDoors), .int (nI v_readPersons), .ref a_this_readRain, .ref a_this_readDoor, .ref a_this_readPerson, .int v_rooms, .int (nI v_rains), .int (nI v_doors), .int (nI v_persons), .ref a_this_rain, .ref a_this_door, .ref a_this_now, .ref a_this_tried, .ref a_this_backOf, .int (nI v_backs), .ref a_this_image, .ref a_this_imageSeed, .ref a_this_isKept, .int v_seed, .int (nI 0), .ref a_this_sight, .int (nI v_entries), .ref a_this_entry]))] := hD
  refine lv_aload_n hx hb dX10_tear_15 rfl (lv_at hl 1 rfl) ?_
  refine lv_iconst (v := nI 0) hx hb dX10_tear_16 (by decide) ?_
  refine va_put (D := (dC, dI)) (ci := 10) (v := .int (nI 0)) (ty := .int) (C := RX10) (T := TX10) (N := 35) hx hb ht iX10 tyX10 tyX10_ok nmX10 hown hK.1 hP hD hS 0 rfl rfl 33 (by decide) (ht _ w_4_236) (fun _ h9 => h9) rfl rfl rfl rfl (Nat.le_of_ble_eq_true rfl) dX10_tear_17 (fun H locs hP hD hS => ?_)
  have hP : va_P (dC, dI) vwCl [(a_this, .inr (10, [.int (nI v_letters), .ref a_this_text, .int (nI v_position), .int (nI v_tokenAt), .int v_token, .int v_number, .int (nI v_figures), .int v_faultAt, .int v_faultIs, .int v_readRooms, .int v_readStore, .int (nI v_readRains), .int (nI v_readDoors), .int (nI v_readPersons), .ref a_this_readRain, .ref a_this_readDoor, .ref a_this_readPerson, .int v_rooms, .int (nI v_rains), .int (nI v_doors), .int (nI v_persons), .ref a_this_rain, .ref a_this_door, .ref a_this_now, .ref a_this_tried, .ref a_this_backOf, .int (nI v_backs), .ref a_this_image, .ref a_this_imageSeed, .ref a_this_isKept, .int v_seed, .int (nI 0), .ref a_this_sight, .int (nI 0), .ref a_this_entry]))] H := hP
  have hD : va_D (va_A [(a_this, .inr (10, [.int (nI v_letters), .ref a_this_text, .int (nI v_position), .int (nI v_tokenAt), .int v_token, .int v_number, .int (nI v_figures), .int v_faultAt, .int v_faultIs, .int v_readRooms, .int v_readStore, .int (nI v_readRains), .int (nI v_readDoors), .int (nI v_readPersons), .ref a_this_readRain, .ref a_this_readDoor, .ref a_this_readPerson, .int v_rooms, .int (nI v_rains), .int (nI v_doors), .int (nI v_persons), .ref a_this_rain, .ref a_this_door, .ref a_this_now, .ref a_this_tried, .ref a_this_backOf, .int (nI v_backs), .ref a_this_image, .ref a_this_imageSeed, .ref a_this_isKept, .int v_seed, .int (nI v_seen), .ref a_this_sight, .int (nI v_entries), .ref a_this_entry]))] s.heap.size) [(a_this, .inr (10, [.int (nI v_letters), .ref a_this_text, .int (nI v_position), .int (nI v_tokenAt), .int v_token, .int v_number, .int (nI v_figures), .int v_faultAt, .int v_faultIs, .int v_readRooms, .int v_readStore, .int (nI v_readRains), .int (nI v_readDoors), .int (nI v_readPersons), .ref a_this_readRain, .ref a_this_readDoor, .ref a_this_readPerson, .int v_rooms, .int (nI v_rains), .int (nI v_doors), .int (nI v_persons), .ref a_this_rain, .ref a_this_door, .ref a_this_now, .ref a_this_tried, .ref a_this_backOf, .int (nI v_backs), .ref a_this_image, .ref a_this_imageSeed, .ref a_this_isKept, .int v_seed, .int (nI 0), .ref a_this_sight, .int (nI 0), .ref a_this_entry]))] := hD
  refine lv_iload_n hx hb dX10_tear_20 rfl (lv_at hl 0 rfl) ?_
  have hP9 := pc_sub (wc := [(a_this, .inr (10, [.int (nI v_letters), .ref a_this_text, .int (nI v_position), .int (nI v_tokenAt), .int v_token, .int v_number, .int (nI v_figures), .int v_faultAt, .int v_faultIs, .int v_readRooms, .int v_readStore, .int (nI v_readRains), .int (nI v_readDoors), .int (nI v_readPersons), .ref a_this_readRain, .ref a_this_readDoor, .ref a_this_readPerson, .int v_rooms, .int (nI v_rains), .int (nI v_doors), .int (nI v_persons), .ref a_this_rain, .ref a_this_door, .ref a_this_now, .ref a_this_tried, .ref a_this_backOf, .int (nI v_backs), .ref a_this_image, .ref a_this_imageSeed, .ref a_this_isKept, .int v_seed, .int (nI 0), .ref a_this_sight, .int (nI 0), .ref a_this_entry]))]) hP [0] rfl
  have hD9 := hD.sub (ws' := [(a_this, .inr (10, [.int (nI v_letters), .ref a_this_text, .int (nI v_position), .int (nI v_tokenAt), .int v_token, .int v_number, .int (nI v_figures), .int v_faultAt, .int v_faultIs, .int v_readRooms, .int v_readStore, .int (nI v_readRains), .int (nI v_readDoors), .int (nI v_readPersons), .ref a_this_readRain, .ref a_this_readDoor, .ref a_this_readPerson, .int v_rooms, .int (nI v_rains), .int (nI v_doors), .int (nI v_persons), .ref a_this_rain, .ref a_this_door, .ref a_this_now, .ref a_this_tried, .ref a_this_backOf, .int (nI v_backs), .ref a_this_image, .ref a_this_imageSeed, .ref a_this_isKept, .int v_seed, .int (nI 0), .ref a_this_sight, .int (nI 0), .ref a_this_entry]))]) [0] (by decide) rfl
  exact W.iret (v := nI (v_seen + v_entries)) hx hb hr (fun t ht9 _ => by rw [← hm]; exact ⟨⟨_, (), rfl, rfl, by rw [ht9]; exact hP9, hD9⟩, hS.F ht9⟩) hS.2.2 dX10_tear_21
theorem dX10_seed_0 : decode cX10_seed 0 = .ok (.iload_n 1, 1) := by decide +kernel
theorem dX10_seed_1 : decode cX10_seed 1 = .ok (.ifCond .ge 6, 3) := by decide +kernel
theorem dX10_seed_4 : decode cX10_seed 4 = .ok (.ldc 70, 2) := by decide +kernel
theorem dX10_seed_6 : decode cX10_seed 6 = .ok (.ireturn, 1) := by decide +kernel
theorem dX10_seed_7 : decode cX10_seed 7 = .ok (.aload_n 0, 1) := by decide +kernel
theorem dX10_seed_8 : decode cX10_seed 8 = .ok (.getfield 224, 3) := by decide +kernel
theorem dX10_seed_11 : decode cX10_seed 11 = .ok (.istore_n 2, 1) := by decide +kernel
theorem dX10_seed_12 : decode cX10_seed 12 = .ok (.aload_n 0, 1) := by decide +kernel
theorem dX10_seed_13 : decode cX10_seed 13 = .ok (.iload_n 1, 1) := by decide +kernel
theorem dX10_seed_14 : decode cX10_seed 14 = .ok (.putfield 224, 3) := by decide +kernel
theorem dX10_seed_17 : decode cX10_seed 17 = .ok (.iload_n 2, 1) := by decide +kernel
theorem dX10_seed_18 : decode cX10_seed 18 = .ok (.ireturn, 1) := by decide +kernel
theorem h_X10_seed : yX10_seed.cls ≠ "java/lang/invoke/MethodHandle" ∧ yX10_seed.cls ≠ "java/lang/invoke/VarHandle" ∧ (parseMethodDescriptor yX10_seed.desc).map (fun d => d.parameters.length) = some 1 := by decide +kernel
def mX10_seed (v_seed : Int32) (x1 : Int32) : Int32 × Int32 := (if 0 ≤ x1 then (v_seed, x1) else ((-1000000002 : Int32), v_seed))
set_option maxHeartbeats 4000000 in
set_option maxRecDepth 100000 in
theorem kX10_seed (l : Launch) (dC : Nat → ClassId) (dI : Nat → Nat → Nat) (cA cZ : ClassId) (a_this a_this_text a_this_readRain a_this_readDoor a_this_readPerson a_this_rain a_this_door a_this_now a_this_tried a_this_backOf a_this_image a_this_imageSeed a_this_isKept a_this_sight a_this_entry : Nat) (v_letters : Nat) (v_position : Nat) (v_tokenAt : Nat) (v_token : Int32) (v_number : Int32) (v_figures : Nat) (v_faultAt : Int32) (v_faultIs : Int32) (v_readRooms : Int32) (v_readStore : Int32) (v_readRains : Nat) (v_readDoors : Nat) (v_readPersons : Nat) (v_rooms : Int32) (v_rains : Nat) (v_doors : Nat) (v_persons : Nat) (v_backs : Nat) (v_seed : Int32) (v_seen : Nat) (v_entries : Nat) (x1 : Int32) (sz : Nat) : Met l yX10_seed (Cond.code yX10_seed cX10_seed 3 (some .int) :: wt) ({ frames := 0, cells := 0, slots := 0, locals := 0 } : Room) (va_Pc [.ref a_this, .int x1] (PreM (dC, dI) [(cA, .int), (cZ, .boolean)] sz [(a_this, .inr (10, [.int (nI v_letters), .ref a_this_text, .int (nI v_position), .int (nI v_tokenAt), .int v_token, .int v_number, .int (nI v_figures), .int v_faultAt, .int v_faultIs, .int v_readRooms, .int v_readStore, .int (nI v_readRains), .int (nI v_readDoors), .int (nI v_readPersons), .ref a_this_readRain, .ref a_this_readDoor, .ref a_this_readPerson, .int v_rooms, .int (nI v_rains), .int (nI v_doors), .int (nI v_persons), .ref a_this_rain, .ref a_this_door, .ref a_this_now, .ref a_this_tried, .ref a_this_backOf, .int (nI v_backs), .ref a_this_image, .ref a_this_imageSeed, .ref a_this_isKept, .int v_seed, .int (nI v_seen), .ref a_this_sight, .int (nI v_entries), .ref a_this_entry]))])) (PoI (dC, dI) sz [(a_this, .inr (10, [.int (nI v_letters), .ref a_this_text, .int (nI v_position), .int (nI v_tokenAt), .int v_token, .int v_number, .int (nI v_figures), .int v_faultAt, .int v_faultIs, .int v_readRooms, .int v_readStore, .int (nI v_readRains), .int (nI v_readDoors), .int (nI v_readPersons), .ref a_this_readRain, .ref a_this_readDoor, .ref a_this_readPerson, .int v_rooms, .int (nI v_rains), .int (nI v_doors), .int (nI v_persons), .ref a_this_rain, .ref a_this_door, .ref a_this_now, .ref a_this_tried, .ref a_this_backOf, .int (nI v_backs), .ref a_this_image, .ref a_this_imageSeed, .ref a_this_isKept, .int v_seed, .int (nI v_seen), .ref a_this_sight, .int (nI v_entries), .ref a_this_entry]))] ((mX10_seed v_seed x1)).1 [(a_this, .inr (10, [.int (nI v_letters), .ref a_this_text, .int (nI v_position), .int (nI v_tokenAt), .int v_token, .int v_number, .int (nI v_figures), .int v_faultAt, .int v_faultIs, .int v_readRooms, .int v_readStore, .int (nI v_readRains), .int (nI v_readDoors), .int (nI v_readPersons), .ref a_this_readRain, .ref a_this_readDoor, .ref a_this_readPerson, .int v_rooms, .int (nI v_rains), .int (nI v_doors), .int (nI v_persons), .ref a_this_rain, .ref a_this_door, .ref a_this_now, .ref a_this_tried, .ref a_this_backOf, .int (nI v_backs), .ref a_this_image, .ref a_this_imageSeed, .ref a_this_isKept, .int (((mX10_seed v_seed x1)).2), .int (nI v_seen), .ref a_this_sight, .int (nI v_entries), .ref a_this_entry]))]) 0 0 (va_A [(a_this, .inr (10, [.int (nI v_letters), .ref a_this_text, .int (nI v_position), .int (nI v_tokenAt), .int v_token, .int v_number, .int (nI v_figures), .int v_faultAt, .int v_faultIs, .int v_readRooms, .int v_readStore, .int (nI v_readRains), .int (nI v_readDoors), .int (nI v_readPersons), .ref a_this_readRain, .ref a_this_readDoor, .ref a_this_readPerson, .int v_rooms, .int (nI v_rains), .int (nI v_doors), .int (nI v_persons), .ref a_this_rain, .ref a_this_door, .ref a_this_now, .ref a_this_tried, .ref a_this_backOf, .int (nI v_backs), .ref a_this_image, .ref a_this_imageSeed, .ref a_this_isKept, .int v_seed, .int (nI v_seen), .ref a_this_sight, .int (nI v_entries), .ref a_this_entry]))] sz) := by
  refine Met.ofW (cc := cX10_seed) (maxL := 3) (ret := (some .int)) (by decide) rfl ?_
  intro p e s m args below meth c s₁ B hml hv
  obtain ⟨ha, hsz, hP, hK, hD0⟩ := hv
  have hx := B.exec
  have hb := B.bytes
  have hr := B.returns
  have ht : ∀ w ∈ wt, w.before args s = true := fun w h => atoms_spec (ws := (Cond.code yX10_seed cX10_seed 3 (some .int) :: wt)) B.pre w (List.mem_cons_of_mem _ h)
  have hown : s.vm.findClass RX10 = some m.cls := findClass_of_methodNamed B.named
  have hlocks := B.notSynchronized
  subst hsz
  have hD := hD0.self (sz := s.heap.size)
  have hA : ∀ q : Nat, s.heap.size ≤ q → va_A [(a_this, .inr (10, [.int (nI v_letters), .ref a_this_text, .int (nI v_position), .int (nI v_tokenAt), .int v_token, .int v_number, .int (nI v_figures), .int v_faultAt, .int v_faultIs, .int v_readRooms, .int v_readStore, .int (nI v_readRains), .int (nI v_readDoors), .int (nI v_readPersons), .ref a_this_readRain, .ref a_this_readDoor, .ref a_this_readPerson, .int v_rooms, .int (nI v_rains), .int (nI v_doors), .int (nI v_persons), .ref a_this_rain, .ref a_this_door, .ref a_this_now, .ref a_this_tried, .ref a_this_backOf, .int (nI v_backs), .ref a_this_image, .ref a_this_imageSeed, .ref a_this_isKept, .int v_seed, .int (nI v_seen), .ref a_this_sight, .int (nI v_entries), .ref a_this_entry]))] s.heap.size q := fun q h => Or.inr h
  have hS : va_S (va_A [(a_this, .inr (10, [.int (nI v_letters), .ref a_this_text, .int (nI v_position), .int (nI v_tokenAt), .int v_token, .int v_number, .int (nI v_figures), .int v_faultAt, .int v_faultIs, .int v_readRooms, .int v_readStore, .int (nI v_readRains), .int (nI v_readDoors), .int (nI v_readPersons), .ref a_this_readRain, .ref a_this_readDoor, .ref a_this_readPerson, .int v_rooms, .int (nI v_rains), .int (nI v_doors), .int (nI v_persons), .ref a_this_rain, .ref a_this_door, .ref a_this_now, .ref a_this_tried, .ref a_this_backOf, .int (nI v_backs), .ref a_this_image, .ref a_this_imageSeed, .ref a_this_isKept, .int v_seed, .int (nI v_seen), .ref a_this_sight, .int (nI v_entries), .ref a_this_entry]))] s.heap.size) s.heap s.heap [] := va_S.rf
  have hl := lv_entry ([.ref a_this, .int x1]) (n := 3) (Nat.le_of_ble_eq_true rfl)
  rw [show entryFrame m args 3 = _ from (congrArg (fun a => entryFrame m a 3) ha).trans (lg_entry_eq m [.ref a_this, .int x1] 3)]
  generalize (lg_sl ([.ref a_this, .int x1]) ++ List.replicate (3 - (lg_sl ([.ref a_this, .int x1])).length) Slot.unset).toArray = ls at hl ⊢
  have hl : lv_has ls 3 [(0, .ref a_this), (1, .int x1)] := hl
  have hm : (if 0 ≤ x1 then (v_seed, x1) else ((-1000000002 : Int32), v_seed)) = (mX10_seed v_seed x1) := rfl
  refine lv_iload_n hx hb dX10_seed_0 rfl (lv_at hl 1 rfl) ?_
  refine lv_if_ge (tgt := 7) hx hb dX10_seed_1 (by decide) (fun c_1 => ?_) (fun c_1 => ?_)
  · have hm := (if_pos c_1).symm.trans hm
    refine lv_aload_n hx hb dX10_seed_7 rfl (lv_at hl 0 rfl) ?_
    refine va_get (D := (dC, dI)) (ci := 10) (v := .int v_seed) (C := RX10) (T := TX10) (N := 35) hx hb ht iX10 hown hK.1 hP 0 rfl rfl 30 (by decide) (ht _ w_4_233) (fun _ h9 => h9) rfl dX10_seed_8 ?_
    refine lv_istore_n (lv' := [(2, .int v_seed), (0, .ref a_this), (1, .int x1)]) hx hb dX10_seed_11 rfl hl (by decide) rfl (fun ls hl => ?_)
    refine lv_aload_n hx hb dX10_seed_12 rfl (lv_at hl 1 rfl) ?_
    refine lv_iload_n hx hb dX10_seed_13 rfl (lv_at hl 2 rfl) ?_
    refine va_put (D := (dC, dI)) (ci := 10) (v := .int x1) (ty := .int) (C := RX10) (T := TX10) (N := 35) hx hb ht iX10 tyX10 tyX10_ok nmX10 hown hK.1 hP hD hS 0 rfl rfl 30 (by decide) (ht _ w_4_233) (fun _ h9 => h9) rfl rfl rfl rfl (Nat.le_of_ble_eq_true rfl) dX10_seed_14 (fun H locs hP hD hS => ?_)
    have hP : va_P (dC, dI) vwCl [(a_this, .inr (10, [.int (nI v_letters), .ref a_this_text, .int (nI v_position), .int (nI v_tokenAt), .int v_token, .int v_number, .int (nI v_figures), .int v_faultAt, .int v_faultIs, .int v_readRooms, .int v_readStore, .int (nI v_readRains), .int (nI v_readDoors), .int (nI v_readPersons), .ref a_this_readRain, .ref a_this_readDoor, .ref a_this_readPerson, .int v_rooms, .int (nI v_rains), .int (nI v_doors), .int (nI v_persons), .ref a_this_rain, .ref a_this_door, .ref a_this_now, .ref a_this_tried, .ref a_this_backOf, .int (nI v_backs), .ref a_this_image, .ref a_this_imageSeed, .ref a_this_isKept, .int x1, .int (nI v_seen), .ref a_this_sight, .int (nI v_entries), .ref a_this_entry]))] H := hP
    have hD : va_D (va_A [(a_this, .inr (10, [.int (nI v_letters), .ref a_this_text, .int (nI v_position), .int (nI v_tokenAt), .int v_token, .int v_number, .int (nI v_figures), .int v_faultAt, .int v_faultIs, .int v_readRooms, .int v_readStore, .int (nI v_readRains), .int (nI v_readDoors), .int (nI v_readPersons), .ref a_this_readRain, .ref a_this_readDoor, .ref a_this_readPerson, .int v_rooms, .int (nI v_rains), .int (nI v_doors), .int (nI v_persons), .ref a_this_rain, .ref a_this_door, .ref a_this_now, .ref a_this_tried, .ref a_this_backOf, .int (nI v_backs), .ref a_this_image, .ref a_this_imageSeed, .ref a_this_isKept, .int v_seed, .int (nI v_seen), .ref a_this_sight, .int (nI v_entries), .ref a_this_entry]))] s.heap.size) [(a_this, .inr (10, [.int (nI v_letters), .ref a_this_text, .int (nI v_position), .int (nI v_tokenAt), .int v_token, .int v_number, .int (nI v_figures), .int v_faultAt, .int v_faultIs, .int v_readRooms, .int v_readStore, .int (nI v_readRains), .int (nI v_readDoors), .int (nI v_readPersons), .ref a_this_readRain, .ref a_this_readDoor, .ref a_this_readPerson, .int v_rooms, .int (nI v_rains), .int (nI v_doors), .int (nI v_persons), .ref a_this_rain, .ref a_this_door, .ref a_this_now, .ref a_this_tried, .ref a_this_backOf, .int (nI v_backs), .ref a_this_image, .ref a_this_imageSeed, .ref a_this_isKept, .int x1, .int (nI v_seen), .ref a_this_sight, .int (nI v_entries), .ref a_this_entry]))] := hD
    refine lv_iload_n hx hb dX10_seed_17 rfl (lv_at hl 0 rfl) ?_
    have hP9 := pc_sub (wc := [(a_this, .inr (10, [.int (nI v_letters), .ref a_this_text, .int (nI v_position), .int (nI v_tokenAt), .int v_token, .int v_number, .int (nI v_figures), .int v_faultAt, .int v_faultIs, .int v_readRooms, .int v_readStore, .int (nI v_readRains), .int (nI v_readDoors), .int (nI v_readPersons), .ref a_this_readRain, .ref a_this_readDoor, .ref a_this_readPerson, .int v_rooms, .int (nI v_rains), .int (nI v_doors), .int (nI v_persons), .ref a_this_rain, .ref a_this_door, .ref a_this_now, .ref a_this_tried, .ref a_this_backOf, .int (nI v_backs), .ref a_this_image, .ref a_this_imageSeed, .ref a_this_isKept, .int x1, .int (nI v_seen), .ref a_this_sight, .int (nI v_entries), .ref a_this_entry]))]) hP [0] rfl
    have hD9 := hD.sub (ws' := [(a_this, .inr (10, [.int (nI v_letters), .ref a_this_text, .int (nI v_position), .int (nI v_tokenAt), .int v_token, .int v_number, .int (nI v_figures), .int v_faultAt, .int v_faultIs, .int v_readRooms, .int v_readStore, .int (nI v_readRains), .int (nI v_readDoors), .int (nI v_readPersons), .ref a_this_readRain, .ref a_this_readDoor, .ref a_this_readPerson, .int v_rooms, .int (nI v_rains), .int (nI v_doors), .int (nI v_persons), .ref a_this_rain, .ref a_this_door, .ref a_this_now, .ref a_this_tried, .ref a_this_backOf, .int (nI v_backs), .ref a_this_image, .ref a_this_imageSeed, .ref a_this_isKept, .int x1, .int (nI v_seen), .ref a_this_sight, .int (nI v_entries), .ref a_this_entry]))]) [0] (by decide) rfl
    exact W.iret (v := v_seed) hx hb hr (fun t ht9 _ => by rw [← hm]; exact ⟨⟨_, (), rfl, rfl, by rw [ht9]; exact hP9, hD9⟩, hS.F ht9⟩) hS.2.2 dX10_seed_18
  · have hm := (if_neg c_1).symm.trans hm
    refine lv_ldc (v := (-1000000002 : Int32)) hx hb hown (ht _ w_5_77) dX10_seed_4 ?_
    have hP9 := pc_sub (wc := [(a_this, .inr (10, [.int (nI v_letters), .ref a_this_text, .int (nI v_position), .int (nI v_tokenAt), .int v_token, .int v_number, .int (nI v_figures), .int v_faultAt, .int v_faultIs, .int v_readRooms, .int v_readStore, .int (nI v_readRains), .int (nI v_readDoors), .int (nI v_readPersons), .ref a_this_readRain, .ref a_this_readDoor, .ref a_this_readPerson, .int v_rooms, .int (nI v_rains), .int (nI v_doors), .int (nI v_persons), .ref a_this_rain, .ref a_this_door, .ref a_this_now, .ref a_this_tried, .ref a_this_backOf, .int (nI v_backs), .ref a_this_image, .ref a_this_imageSeed, .ref a_this_isKept, .int v_seed, .int (nI v_seen), .ref a_this_sight, .int (nI v_entries), .ref a_this_entry]))]) hP [0] rfl
    have hD9 := hD.sub (ws' := [(a_this, .inr (10, [.int (nI v_letters), .ref a_this_text, .int (nI v_position), .int (nI v_tokenAt), .int v_token, .int v_number, .int (nI v_figures), .int v_faultAt, .int v_faultIs, .int v_readRooms, .int v_readStore, .int (nI v_readRains), .int (nI v_readDoors), .int (nI v_readPersons), .ref a_this_readRain, .ref a_this_readDoor, .ref a_this_readPerson, .int v_rooms, .int (nI v_rains), .int (nI v_doors), .int (nI v_persons), .ref a_this_rain, .ref a_this_door, .ref a_this_now, .ref a_this_tried, .ref a_this_backOf, .int (nI v_backs), .ref a_this_image, .ref a_this_imageSeed, .ref a_this_isKept, .int v_seed, .int (nI v_seen), .ref a_this_sight, .int (nI v_entries), .ref a_this_entry]))]) [0] (by decide) rfl
    exact W.iret (v := (-1000000002 : Int32)) hx hb hr (fun t ht9 _ => by rw [← hm]; exact ⟨⟨_, (), rfl, rfl, by rw [ht9]; exact hP9, hD9⟩, hS.F ht9⟩) hS.2.2 dX10_seed_6
theorem dX10_keep_0 : decode cX10_keep 0 = .ok (.iload_n 1, 1) := by decide +kernel
theorem dX10_keep_1 : decode cX10_keep 1 = .ok (.iconst 0, 1) := by decide +kernel
theorem dX10_keep_2 : decode cX10_keep 2 = .ok (.iconst 1, 1) := by decide +kernel
theorem dX10_keep_3 : decode cX10_keep 3 = .ok (.invokestatic 60, 3) := by decide +kernel
theorem dX10_keep_6 : decode cX10_keep 6 = .ok (.ifCond .ne 6, 3) := by decide +kernel
theorem dX10_keep_9 : decode cX10_keep 9 = .ok (.ldc 185, 2) := by decide +kernel
theorem dX10_keep_11 : decode cX10_keep 11 = .ok (.ireturn, 1) := by decide +kernel
theorem dX10_keep_12 : decode cX10_keep 12 = .ok (.aload_n 0, 1) := by decide +kernel
theorem dX10_keep_13 : decode cX10_keep 13 = .ok (.getfield 32, 3) := by decide +kernel
theorem dX10_keep_16 : decode cX10_keep 16 = .ok (.iconst 0, 1) := by decide +kernel
theorem dX10_keep_17 : decode cX10_keep 17 = .ok (.aload_n 0, 1) := by decide +kernel
theorem dX10_keep_18 : decode cX10_keep 18 = .ok (.getfield 41, 3) := by decide +kernel
theorem dX10_keep_21 : decode cX10_keep 21 = .ok (.bipush 35, 2) := by decide +kernel
theorem dX10_keep_23 : decode cX10_keep 23 = .ok (.iload_n 1, 1) := by decide +kernel
theorem dX10_keep_24 : decode cX10_keep 24 = .ok (.imul, 1) := by decide +kernel
theorem dX10_keep_25 : decode cX10_keep 25 = .ok (.bipush 35, 2) := by decide +kernel
theorem dX10_keep_27 : decode cX10_keep 27 = .ok (.invokestatic 141, 3) := by decide +kernel
theorem dX10_keep_30 : decode cX10_keep 30 = .ok (.aload_n 0, 1) := by decide +kernel
theorem dX10_keep_31 : decode cX10_keep 31 = .ok (.getfield 44, 3) := by decide +kernel
theorem dX10_keep_34 : decode cX10_keep 34 = .ok (.iload_n 1, 1) := by decide +kernel
theorem dX10_keep_35 : decode cX10_keep 35 = .ok (.aload_n 0, 1) := by decide +kernel
theorem dX10_keep_36 : decode cX10_keep 36 = .ok (.getfield 224, 3) := by decide +kernel
theorem dX10_keep_39 : decode cX10_keep 39 = .ok (.iastore, 1) := by decide +kernel
theorem dX10_keep_40 : decode cX10_keep 40 = .ok (.aload_n 0, 1) := by decide +kernel
theorem dX10_keep_41 : decode cX10_keep 41 = .ok (.getfield 47, 3) := by decide +kernel
theorem dX10_keep_44 : decode cX10_keep 44 = .ok (.iload_n 1, 1) := by decide +kernel
theorem dX10_keep_45 : decode cX10_keep 45 = .ok (.iconst 1, 1) := by decide +kernel
theorem dX10_keep_46 : decode cX10_keep 46 = .ok (.bastore, 1) := by decide +kernel
theorem dX10_keep_47 : decode cX10_keep 47 = .ok (.aload_n 0, 1) := by decide +kernel
theorem dX10_keep_48 : decode cX10_keep 48 = .ok (.iconst 0, 1) := by decide +kernel
theorem dX10_keep_49 : decode cX10_keep 49 = .ok (.putfield 151, 3) := by decide +kernel
theorem dX10_keep_52 : decode cX10_keep 52 = .ok (.iconst 1, 1) := by decide +kernel
theorem dX10_keep_53 : decode cX10_keep 53 = .ok (.ireturn, 1) := by decide +kernel
theorem h_X10_keep : yX10_keep.cls ≠ "java/lang/invoke/MethodHandle" ∧ yX10_keep.cls ≠ "java/lang/invoke/VarHandle" ∧ (parseMethodDescriptor yX10_keep.desc).map (fun d => d.parameters.length) = some 1 := by decide +kernel
def mX10_keep (v_backs : Nat) (v_seed : Int32) (v_image : Nat → Int32) (v_imageSeed : Nat → Int32) (v_isKept : Nat → Int32) (v_now : Nat → Int32) (x1 : Int32) : Int32 × Nat × (Nat → Int32) × (Nat → Int32) × (Nat → Int32) := (if ((mX10_in x1 (nI 0) (nI 1))) = 0 then ((-1000000001 : Int32), v_backs, v_image, v_imageSeed, v_isKept) else (nI 1, 0, (mX10_bring v_now v_image 0 (35 * x1.toNatClampNeg) 35), upd v_imageSeed x1.toNatClampNeg v_seed, upd v_isKept x1.toNatClampNeg (nI 1)))
set_option maxHeartbeats 4000000 in
set_option maxRecDepth 100000 in
theorem kX10_keep (l : Launch) (dC : Nat → ClassId) (dI : Nat → Nat → Nat) (cA cZ : ClassId) (a_this a_this_text a_this_readRain a_this_readDoor a_this_readPerson a_this_rain a_this_door a_this_now a_this_tried a_this_backOf a_this_image a_this_imageSeed a_this_isKept a_this_sight a_this_entry : Nat) (v_letters : Nat) (v_position : Nat) (v_tokenAt : Nat) (v_token : Int32) (v_number : Int32) (v_figures : Nat) (v_faultAt : Int32) (v_faultIs : Int32) (v_readRooms : Int32) (v_readStore : Int32) (v_readRains : Nat) (v_readDoors : Nat) (v_readPersons : Nat) (v_rooms : Int32) (v_rains : Nat) (v_doors : Nat) (v_persons : Nat) (v_backs : Nat) (v_seed : Int32) (v_seen : Nat) (v_entries : Nat) (v_image : Nat → Int32) (v_imageSeed : Nat → Int32) (v_isKept : Nat → Int32) (v_now : Nat → Int32) (x1 : Int32) (sz : Nat) : Met l yX10_keep (Cond.code yX10_keep cX10_keep 2 (some .int) :: wt) ({ frames := 1, cells := 0, slots := 0, locals := 25 } : Room) (va_Pc [.ref a_this, .int x1] (PreM (dC, dI) [(cA, .int), (cZ, .boolean)] sz [(a_this, .inr (10, [.int (nI v_letters), .ref a_this_text, .int (nI v_position), .int (nI v_tokenAt), .int v_token, .int v_number, .int (nI v_figures), .int v_faultAt, .int v_faultIs, .int v_readRooms, .int v_readStore, .int (nI v_readRains), .int (nI v_readDoors), .int (nI v_readPersons), .ref a_this_readRain, .ref a_this_readDoor, .ref a_this_readPerson, .int v_rooms, .int (nI v_rains), .int (nI v_doors), .int (nI v_persons), .ref a_this_rain, .ref a_this_door, .ref a_this_now, .ref a_this_tried, .ref a_this_backOf, .int (nI v_backs), .ref a_this_image, .ref a_this_imageSeed, .ref a_this_isKept, .int v_seed, .int (nI v_seen), .ref a_this_sight, .int (nI v_entries), .ref a_this_entry])), (a_this_image, .inl (cA, 70, .inl v_image)), (a_this_imageSeed, .inl (cA, 2, .inl v_imageSeed)), (a_this_isKept, .inl (cZ, 2, .inl v_isKept)), (a_this_now, .inl (cA, 35, .inl v_now))])) (PoI (dC, dI) sz [(a_this, .inr (10, [.int (nI v_letters), .ref a_this_text, .int (nI v_position), .int (nI v_tokenAt), .int v_token, .int v_number, .int (nI v_figures), .int v_faultAt, .int v_faultIs, .int v_readRooms, .int v_readStore, .int (nI v_readRains), .int (nI v_readDoors), .int (nI v_readPersons), .ref a_this_readRain, .ref a_this_readDoor, .ref a_this_readPerson, .int v_rooms, .int (nI v_rains), .int (nI v_doors), .int (nI v_persons), .ref a_this_rain, .ref a_this_door, .ref a_this_now, .ref a_this_tried, .ref a_this_backOf, .int (nI v_backs), .ref a_this_image, .ref a_this_imageSeed, .ref a_this_isKept, .int v_seed, .int (nI v_seen), .ref a_this_sight, .int (nI v_entries), .ref a_this_entry])), (a_this_image, .inl (cA, 70, .inl v_image)), (a_this_imageSeed, .inl (cA, 2, .inl v_imageSeed)), (a_this_isKept, .inl (cZ, 2, .inl v_isKept)), (a_this_now, .inl (cA, 35, .inl v_now))] ((mX10_keep v_backs v_seed v_image v_imageSeed v_isKept v_now x1)).1 [(a_this, .inr (10, [.int (nI v_letters), .ref a_this_text, .int (nI v_position), .int (nI v_tokenAt), .int v_token, .int v_number, .int (nI v_figures), .int v_faultAt, .int v_faultIs, .int v_readRooms, .int v_readStore, .int (nI v_readRains), .int (nI v_readDoors), .int (nI v_readPersons), .ref a_this_readRain, .ref a_this_readDoor, .ref a_this_readPerson, .int v_rooms, .int (nI v_rains), .int (nI v_doors), .int (nI v_persons), .ref a_this_rain, .ref a_this_door, .ref a_this_now, .ref a_this_tried, .ref a_this_backOf, .int (nI (((mX10_keep v_backs v_seed v_image v_imageSeed v_isKept v_now x1)).2.1)), .ref a_this_image, .ref a_this_imageSeed, .ref a_this_isKept, .int v_seed, .int (nI v_seen), .ref a_this_sight, .int (nI v_entries), .ref a_this_entry])), (a_this_image, .inl (cA, 70, .inl (((mX10_keep v_backs v_seed v_image v_imageSeed v_isKept v_now x1)).2.2.1))), (a_this_imageSeed, .inl (cA, 2, .inl (((mX10_keep v_backs v_seed v_image v_imageSeed v_isKept v_now x1)).2.2.2.1))), (a_this_isKept, .inl (cZ, 2, .inl (((mX10_keep v_backs v_seed v_image v_imageSeed v_isKept v_now x1)).2.2.2.2))), (a_this_now, .inl (cA, 35, .inl v_now))]) 0 0 (va_A [(a_this, .inr (10, [.int (nI v_letters), .ref a_this_text, .int (nI v_position), .int (nI v_tokenAt), .int v_token, .int v_number, .int (nI v_figures), .int v_faultAt, .int v_faultIs, .int v_readRooms, .int v_readStore, .int (nI v_readRains), .int (nI v_readDoors), .int (nI v_readPersons), .ref a_this_readRain, .ref a_this_readDoor, .ref a_this_readPerson, .int v_rooms, .int (nI v_rains), .int (nI v_doors), .int (nI v_persons), .ref a_this_rain, .ref a_this_door, .ref a_this_now, .ref a_this_tried, .ref a_this_backOf, .int (nI v_backs), .ref a_this_image, .ref a_this_imageSeed, .ref a_this_isKept, .int v_seed, .int (nI v_seen), .ref a_this_sight, .int (nI v_entries), .ref a_this_entry])), (a_this_image, .inl (cA, 70, .inl v_image)), (a_this_imageSeed, .inl (cA, 2, .inl v_imageSeed)), (a_this_isKept, .inl (cZ, 2, .inl v_isKept)), (a_this_now, .inl (cA, 35, .inl v_now))] sz) := by
  refine Met.ofW (cc := cX10_keep) (maxL := 2) (ret := (some .int)) (by decide) rfl ?_
  intro p e s m args below meth c s₁ B hml hv
  obtain ⟨ha, hsz, hP, hK, hD0⟩ := hv
  have hx := B.exec
  have hb := B.bytes
  have hr := B.returns
  have ht : ∀ w ∈ wt, w.before args s = true := fun w h => atoms_spec (ws := (Cond.code yX10_keep cX10_keep 2 (some .int) :: wt)) B.pre w (List.mem_cons_of_mem _ h)
  have hown : s.vm.findClass RX10 = some m.cls := findClass_of_methodNamed B.named
  have hlocks := B.notSynchronized
  subst hsz
  have hD := hD0.self (sz := s.heap.size)
  have hA : ∀ q : Nat, s.heap.size ≤ q → va_A [(a_this, .inr (10, [.int (nI v_letters), .ref a_this_text, .int (nI v_position), .int (nI v_tokenAt), .int v_token, .int v_number, .int (nI v_figures), .int v_faultAt, .int v_faultIs, .int v_readRooms, .int v_readStore, .int (nI v_readRains), .int (nI v_readDoors), .int (nI v_readPersons), .ref a_this_readRain, .ref a_this_readDoor, .ref a_this_readPerson, .int v_rooms, .int (nI v_rains), .int (nI v_doors), .int (nI v_persons), .ref a_this_rain, .ref a_this_door, .ref a_this_now, .ref a_this_tried, .ref a_this_backOf, .int (nI v_backs), .ref a_this_image, .ref a_this_imageSeed, .ref a_this_isKept, .int v_seed, .int (nI v_seen), .ref a_this_sight, .int (nI v_entries), .ref a_this_entry])), (a_this_image, .inl (cA, 70, .inl v_image)), (a_this_imageSeed, .inl (cA, 2, .inl v_imageSeed)), (a_this_isKept, .inl (cZ, 2, .inl v_isKept)), (a_this_now, .inl (cA, 35, .inl v_now))] s.heap.size q := fun q h => Or.inr h
  have hS : va_S (va_A [(a_this, .inr (10, [.int (nI v_letters), .ref a_this_text, .int (nI v_position), .int (nI v_tokenAt), .int v_token, .int v_number, .int (nI v_figures), .int v_faultAt, .int v_faultIs, .int v_readRooms, .int v_readStore, .int (nI v_readRains), .int (nI v_readDoors), .int (nI v_readPersons), .ref a_this_readRain, .ref a_this_readDoor, .ref a_this_readPerson, .int v_rooms, .int (nI v_rains), .int (nI v_doors), .int (nI v_persons), .ref a_this_rain, .ref a_this_door, .ref a_this_now, .ref a_this_tried, .ref a_this_backOf, .int (nI v_backs), .ref a_this_image, .ref a_this_imageSeed, .ref a_this_isKept, .int v_seed, .int (nI v_seen), .ref a_this_sight, .int (nI v_entries), .ref a_this_entry])), (a_this_image, .inl (cA, 70, .inl v_image)), (a_this_imageSeed, .inl (cA, 2, .inl v_imageSeed)), (a_this_isKept, .inl (cZ, 2, .inl v_isKept)), (a_this_now, .inl (cA, 35, .inl v_now))] s.heap.size) s.heap s.heap [] := va_S.rf
  have hl := lv_entry ([.ref a_this, .int x1]) (n := 2) (Nat.le_of_ble_eq_true rfl)
  rw [show entryFrame m args 2 = _ from (congrArg (fun a => entryFrame m a 2) ha).trans (lg_entry_eq m [.ref a_this, .int x1] 2)]
  generalize (lg_sl ([.ref a_this, .int x1]) ++ List.replicate (2 - (lg_sl ([.ref a_this, .int x1])).length) Slot.unset).toArray = ls at hl ⊢
  have hl : lv_has ls 2 [(0, .ref a_this), (1, .int x1)] := hl
  have hm : (if ((mX10_in x1 (nI 0) (nI 1))) = 0 then ((-1000000001 : Int32), v_backs, v_image, v_imageSeed, v_isKept) else (nI 1, 0, (mX10_bring v_now v_image 0 (35 * x1.toNatClampNeg) 35), upd v_imageSeed x1.toNatClampNeg v_seed, upd v_isKept x1.toNatClampNeg (nI 1))) = (mX10_keep v_backs v_seed v_image v_imageSeed v_isKept v_now x1) := rfl
  refine lv_iload_n hx hb dX10_keep_0 rfl (lv_at hl 1 rfl) ?_
  refine lv_iconst (v := nI 0) hx hb dX10_keep_1 (by decide) ?_
  refine lv_iconst (v := nI 1) hx hb dX10_keep_2 (by decide) ?_
  refine pv_call (v := (mX10_in x1 (nI 0) (nI 1))) (va_runS (As := [.int x1, .int (nI 0), .int (nI 1)]) (rest := []) ⟨hx, hb, hml, hown, ht⟩ (kX10_in l dC dI cA cZ x1 (nI 0) (nI 1)) (va_cwS 3 ht (gi_S w_5_74 w_5_75 w_1_12 (gi_code w_5_76)) rfl rfl rfl h_X10_in ⟨Nat.le_of_ble_eq_true rfl, Nat.le_of_ble_eq_true rfl⟩) ⟨pp_blind, pp_use (ws := []) (fun _ _ h => by cases h) hK⟩ rfl rfl hl.1 rfl (lv_room (Nat.le_of_ble_eq_true rfl)) dX10_keep_3 ⟨Nat.zero_le _, Nat.zero_le _⟩) ?_
  refine lv_if_ne (tgt := 12) hx hb dX10_keep_6 (by decide) (fun c_1 => ?_) (fun c_1 => ?_)
  · have hm := (if_neg c_1).symm.trans hm
    obtain ⟨hj1, hx1⟩ := in_nat (B := 1) (by omega) c_1
    have hl : lv_has ls 2 [(0, .ref a_this), (1, .int (nI x1.toNatClampNeg))] := by rw [← hx1]; exact hl
    refine lv_aload_n hx hb dX10_keep_12 rfl (lv_at hl 0 rfl) ?_
    refine va_get (D := (dC, dI)) (ci := 10) (v := .ref a_this_now) (C := RX10) (T := TX10) (N := 35) hx hb ht iX10 hown hK.1 hP 0 rfl rfl 23 (by decide) (ht _ w_4_226) (fun _ h9 => h9) rfl dX10_keep_13 ?_
    refine lv_iconst (v := nI 0) hx hb dX10_keep_16 (by decide) ?_
    refine lv_aload_n hx hb dX10_keep_17 rfl (lv_at hl 0 rfl) ?_
    refine va_get (D := (dC, dI)) (ci := 10) (v := .ref a_this_image) (C := RX10) (T := TX10) (N := 35) hx hb ht iX10 hown hK.1 hP 0 rfl rfl 27 (by decide) (ht _ w_4_230) (fun _ h9 => h9) rfl dX10_keep_18 ?_
    refine lv_bipush (v := nI 35) hx hb dX10_keep_21 (by decide) ?_
    refine lv_iload_n hx hb dX10_keep_23 rfl (lv_at hl 1 rfl) ?_
    refine nv_imul hx hb dX10_keep_24 ?_
    refine lv_bipush (v := nI 35) hx hb dX10_keep_25 (by decide) ?_
    have hPc := pc_sub (wc := [(a_this_now, .inl (cA, 35, .inl v_now)), (a_this_image, .inl (cA, 70, .inl v_image))]) hP [4, 1] rfl
    have hDc := hD.sub (ws' := [(a_this_now, .inl (cA, 35, .inl v_now)), (a_this_image, .inl (cA, 70, .inl v_image))]) [4, 1] (by decide) rfl
    refine mv_callv (wc := [(a_this_now, .inl (cA, 35, .inl v_now)), (a_this_image, .inl (cA, 70, .inl v_image))]) (wr := [(a_this, .inr (10, [.int (nI v_letters), .ref a_this_text, .int (nI v_position), .int (nI v_tokenAt), .int v_token, .int v_number, .int (nI v_figures), .int v_faultAt, .int v_faultIs, .int v_readRooms, .int v_readStore, .int (nI v_readRains), .int (nI v_readDoors), .int (nI v_readPersons), .ref a_this_readRain, .ref a_this_readDoor, .ref a_this_readPerson, .int v_rooms, .int (nI v_rains), .int (nI v_doors), .int (nI v_persons), .ref a_this_rain, .ref a_this_door, .ref a_this_now, .ref a_this_tried, .ref a_this_backOf, .int (nI v_backs), .ref a_this_image, .ref a_this_imageSeed, .ref a_this_isKept, .int v_seed, .int (nI v_seen), .ref a_this_sight, .int (nI v_entries), .ref a_this_entry])), (a_this_imageSeed, .inl (cA, 2, .inl v_imageSeed)), (a_this_isKept, .inl (cZ, 2, .inl v_isKept))]) (w1 := [(a_this_now, .inl (cA, 35, .inl v_now)), (a_this_image, .inl (cA, 70, .inl ((mX10_bring v_now v_image 0 (35 * x1.toNatClampNeg) 35))))]) [4, 1] [0, 2, 3] hP hD hS hA rfl rfl (by decide) (by decide) (va_runS (As := [.ref a_this_now, .int (nI 0), .ref a_this_image, .int (nI (35 * x1.toNatClampNeg)), .int (nI 35)]) (rest := []) ⟨hx, hb, hml, hown, ht⟩ (kX10_bring l dC dI cA cZ a_this_now a_this_image 35 70 v_now v_image 0 (35 * x1.toNatClampNeg) 35 (by decide) (by decide) (by omega) (by omega) s.heap.size) (va_cwS 5 ht (gi_S w_5_119 w_5_120 w_1_12 (gi_code w_5_121)) rfl rfl rfl h_X10_bring ⟨Nat.le_of_ble_eq_true rfl, Nat.le_of_ble_eq_true rfl⟩) ⟨pm_blind, pm_use hPc hK hDc⟩ rfl rfl hl.1 rfl (lv_room (Nat.le_of_ble_eq_true rfl)) dX10_keep_27 ⟨Nat.zero_le _, Nat.zero_le _⟩) (fun H locs hP hD hS => ?_)
    have hP : va_P (dC, dI) vwCl [(a_this, .inr (10, [.int (nI v_letters), .ref a_this_text, .int (nI v_position), .int (nI v_tokenAt), .int v_token, .int v_number, .int (nI v_figures), .int v_faultAt, .int v_faultIs, .int v_readRooms, .int v_readStore, .int (nI v_readRains), .int (nI v_readDoors), .int (nI v_readPersons), .ref a_this_readRain, .ref a_this_readDoor, .ref a_this_readPerson, .int v_rooms, .int (nI v_rains), .int (nI v_doors), .int (nI v_persons), .ref a_this_rain, .ref a_this_door, .ref a_this_now, .ref a_this_tried, .ref a_this_backOf, .int (nI v_backs), .ref a_this_image, .ref a_this_imageSeed, .ref a_this_isKept, .int v_seed, .int (nI v_seen), .ref a_this_sight, .int (nI v_entries), .ref a_this_entry])), (a_this_imageSeed, .inl (cA, 2, .inl v_imageSeed)), (a_this_isKept, .inl (cZ, 2, .inl v_isKept)), (a_this_now, .inl (cA, 35, .inl v_now)), (a_this_image, .inl (cA, 70, .inl ((mX10_bring v_now v_image 0 (35 * x1.toNatClampNeg) 35))))] H := hP
    have hD : va_D (va_A [(a_this, .inr (10, [.int (nI v_letters), .ref a_this_text, .int (nI v_position), .int (nI v_tokenAt), .int v_token, .int v_number, .int (nI v_figures), .int v_faultAt, .int v_faultIs, .int v_readRooms, .int v_readStore, .int (nI v_readRains), .int (nI v_readDoors), .int (nI v_readPersons), .ref a_this_readRain, .ref a_this_readDoor, .ref a_this_readPerson, .int v_rooms, .int (nI v_rains), .int (nI v_doors), .int (nI v_persons), .ref a_this_rain, .ref a_this_door, .ref a_this_now, .ref a_this_tried, .ref a_this_backOf, .int (nI v_backs), .ref a_this_image, .ref a_this_imageSeed, .ref a_this_isKept, .int v_seed, .int (nI v_seen), .ref a_this_sight, .int (nI v_entries), .ref a_this_entry])), (a_this_image, .inl (cA, 70, .inl v_image)), (a_this_imageSeed, .inl (cA, 2, .inl v_imageSeed)), (a_this_isKept, .inl (cZ, 2, .inl v_isKept)), (a_this_now, .inl (cA, 35, .inl v_now))] s.heap.size) [(a_this, .inr (10, [.int (nI v_letters), .ref a_this_text, .int (nI v_position), .int (nI v_tokenAt), .int v_token, .int v_number, .int (nI v_figures), .int v_faultAt, .int v_faultIs, .int v_readRooms, .int v_readStore, .int (nI v_readRains), .int (nI v_readDoors), .int (nI v_readPersons), .ref a_this_readRain, .ref a_this_readDoor, .ref a_this_readPerson, .int v_rooms, .int (nI v_rains), .int (nI v_doors), .int (nI v_persons), .ref a_this_rain, .ref a_this_door, .ref a_this_now, .ref a_this_tried, .ref a_this_backOf, .int (nI v_backs), .ref a_this_image, .ref a_this_imageSeed, .ref a_this_isKept, .int v_seed, .int (nI v_seen), .ref a_this_sight, .int (nI v_entries), .ref a_this_entry])), (a_this_imageSeed, .inl (cA, 2, .inl v_imageSeed)), (a_this_isKept, .inl (cZ, 2, .inl v_isKept)), (a_this_now, .inl (cA, 35, .inl v_now)), (a_this_image, .inl (cA, 70, .inl ((mX10_bring v_now v_image 0 (35 * x1.toNatClampNeg) 35))))] := hD
    refine lv_aload_n hx hb dX10_keep_30 rfl (lv_at hl 0 rfl) ?_
    refine va_get (D := (dC, dI)) (ci := 10) (v := .ref a_this_imageSeed) (C := RX10) (T := TX10) (N := 35) hx hb ht iX10 hown hK.1 hP 0 rfl rfl 28 (by decide) (ht _ w_4_231) (fun _ h9 => h9) rfl dX10_keep_31 ?_
    refine lv_iload_n hx hb dX10_keep_34 rfl (lv_at hl 1 rfl) ?_
    refine lv_aload_n hx hb dX10_keep_35 rfl (lv_at hl 0 rfl) ?_
    refine va_get (D := (dC, dI)) (ci := 10) (v := .int v_seed) (C := RX10) (T := TX10) (N := 35) hx hb ht iX10 hown hK.1 hP 0 rfl rfl 30 (by decide) (ht _ w_4_233) (fun _ h9 => h9) rfl dX10_keep_36 ?_
    refine nv_iast (e := x1.toNatClampNeg) (by omega) (by omega) hx hb hK.1 hP hD hS 1 0 rfl rfl dX10_keep_39 (fun H locs hP hD hS => ?_)
    have hP : va_P (dC, dI) vwCl [(a_this, .inr (10, [.int (nI v_letters), .ref a_this_text, .int (nI v_position), .int (nI v_tokenAt), .int v_token, .int v_number, .int (nI v_figures), .int v_faultAt, .int v_faultIs, .int v_readRooms, .int v_readStore, .int (nI v_readRains), .int (nI v_readDoors), .int (nI v_readPersons), .ref a_this_readRain, .ref a_this_readDoor, .ref a_this_readPerson, .int v_rooms, .int (nI v_rains), .int (nI v_doors), .int (nI v_persons), .ref a_this_rain, .ref a_this_door, .ref a_this_now, .ref a_this_tried, .ref a_this_backOf, .int (nI v_backs), .ref a_this_image, .ref a_this_imageSeed, .ref a_this_isKept, .int v_seed, .int (nI v_seen), .ref a_this_sight, .int (nI v_entries), .ref a_this_entry])), (a_this_imageSeed, .inl (cA, 2, .inl (upd v_imageSeed x1.toNatClampNeg v_seed))), (a_this_isKept, .inl (cZ, 2, .inl v_isKept)), (a_this_now, .inl (cA, 35, .inl v_now)), (a_this_image, .inl (cA, 70, .inl ((mX10_bring v_now v_image 0 (35 * x1.toNatClampNeg) 35))))] H := hP
    have hD : va_D (va_A [(a_this, .inr (10, [.int (nI v_letters), .ref a_this_text, .int (nI v_position), .int (nI v_tokenAt), .int v_token, .int v_number, .int (nI v_figures), .int v_faultAt, .int v_faultIs, .int v_readRooms, .int v_readStore, .int (nI v_readRains), .int (nI v_readDoors), .int (nI v_readPersons), .ref a_this_readRain, .ref a_this_readDoor, .ref a_this_readPerson, .int v_rooms, .int (nI v_rains), .int (nI v_doors), .int (nI v_persons), .ref a_this_rain, .ref a_this_door, .ref a_this_now, .ref a_this_tried, .ref a_this_backOf, .int (nI v_backs), .ref a_this_image, .ref a_this_imageSeed, .ref a_this_isKept, .int v_seed, .int (nI v_seen), .ref a_this_sight, .int (nI v_entries), .ref a_this_entry])), (a_this_image, .inl (cA, 70, .inl v_image)), (a_this_imageSeed, .inl (cA, 2, .inl v_imageSeed)), (a_this_isKept, .inl (cZ, 2, .inl v_isKept)), (a_this_now, .inl (cA, 35, .inl v_now))] s.heap.size) [(a_this, .inr (10, [.int (nI v_letters), .ref a_this_text, .int (nI v_position), .int (nI v_tokenAt), .int v_token, .int v_number, .int (nI v_figures), .int v_faultAt, .int v_faultIs, .int v_readRooms, .int v_readStore, .int (nI v_readRains), .int (nI v_readDoors), .int (nI v_readPersons), .ref a_this_readRain, .ref a_this_readDoor, .ref a_this_readPerson, .int v_rooms, .int (nI v_rains), .int (nI v_doors), .int (nI v_persons), .ref a_this_rain, .ref a_this_door, .ref a_this_now, .ref a_this_tried, .ref a_this_backOf, .int (nI v_backs), .ref a_this_image, .ref a_this_imageSeed, .ref a_this_isKept, .int v_seed, .int (nI v_seen), .ref a_this_sight, .int (nI v_entries), .ref a_this_entry])), (a_this_imageSeed, .inl (cA, 2, .inl (upd v_imageSeed x1.toNatClampNeg v_seed))), (a_this_isKept, .inl (cZ, 2, .inl v_isKept)), (a_this_now, .inl (cA, 35, .inl v_now)), (a_this_image, .inl (cA, 70, .inl ((mX10_bring v_now v_image 0 (35 * x1.toNatClampNeg) 35))))] := hD
    refine lv_aload_n hx hb dX10_keep_40 rfl (lv_at hl 0 rfl) ?_
    refine va_get (D := (dC, dI)) (ci := 10) (v := .ref a_this_isKept) (C := RX10) (T := TX10) (N := 35) hx hb ht iX10 hown hK.1 hP 0 rfl rfl 29 (by decide) (ht _ w_4_232) (fun _ h9 => h9) rfl dX10_keep_41 ?_
    refine lv_iload_n hx hb dX10_keep_44 rfl (lv_at hl 1 rfl) ?_
    refine lv_iconst (v := nI 1) hx hb dX10_keep_45 (by decide) ?_
    refine nv_zast (e := x1.toNatClampNeg) (by omega) (by omega) hx hb hK.1 hP hD hS 2 1 rfl rfl (by decide) dX10_keep_46 (fun H locs hP hD hS => ?_)
    have hP : va_P (dC, dI) vwCl [(a_this, .inr (10, [.int (nI v_letters), .ref a_this_text, .int (nI v_position), .int (nI v_tokenAt), .int v_token, .int v_number, .int (nI v_figures), .int v_faultAt, .int v_faultIs, .int v_readRooms, .int v_readStore, .int (nI v_readRains), .int (nI v_readDoors), .int (nI v_readPersons), .ref a_this_readRain, .ref a_this_readDoor, .ref a_this_readPerson, .int v_rooms, .int (nI v_rains), .int (nI v_doors), .int (nI v_persons), .ref a_this_rain, .ref a_this_door, .ref a_this_now, .ref a_this_tried, .ref a_this_backOf, .int (nI v_backs), .ref a_this_image, .ref a_this_imageSeed, .ref a_this_isKept, .int v_seed, .int (nI v_seen), .ref a_this_sight, .int (nI v_entries), .ref a_this_entry])), (a_this_imageSeed, .inl (cA, 2, .inl (upd v_imageSeed x1.toNatClampNeg v_seed))), (a_this_isKept, .inl (cZ, 2, .inl (upd v_isKept x1.toNatClampNeg (nI 1)))), (a_this_now, .inl (cA, 35, .inl v_now)), (a_this_image, .inl (cA, 70, .inl ((mX10_bring v_now v_image 0 (35 * x1.toNatClampNeg) 35))))] H := hP
    have hD : va_D (va_A [(a_this, .inr (10, [.int (nI v_letters), .ref a_this_text, .int (nI v_position), .int (nI v_tokenAt), .int v_token, .int v_number, .int (nI v_figures), .int v_faultAt, .int v_faultIs, .int v_readRooms, .int v_readStore, .int (nI v_readRains), .int (nI v_readDoors), .int (nI v_readPersons), .ref a_this_readRain, .ref a_this_readDoor, .ref a_this_readPerson, .int v_rooms, .int (nI v_rains), .int (nI v_doors), .int (nI v_persons), .ref a_this_rain, .ref a_this_door, .ref a_this_now, .ref a_this_tried, .ref a_this_backOf, .int (nI v_backs), .ref a_this_image, .ref a_this_imageSeed, .ref a_this_isKept, .int v_seed, .int (nI v_seen), .ref a_this_sight, .int (nI v_entries), .ref a_this_entry])), (a_this_image, .inl (cA, 70, .inl v_image)), (a_this_imageSeed, .inl (cA, 2, .inl v_imageSeed)), (a_this_isKept, .inl (cZ, 2, .inl v_isKept)), (a_this_now, .inl (cA, 35, .inl v_now))] s.heap.size) [(a_this, .inr (10, [.int (nI v_letters), .ref a_this_text, .int (nI v_position), .int (nI v_tokenAt), .int v_token, .int v_number, .int (nI v_figures), .int v_faultAt, .int v_faultIs, .int v_readRooms, .int v_readStore, .int (nI v_readRains), .int (nI v_readDoors), .int (nI v_readPersons), .ref a_this_readRain, .ref a_this_readDoor, .ref a_this_readPerson, .int v_rooms, .int (nI v_rains), .int (nI v_doors), .int (nI v_persons), .ref a_this_rain, .ref a_this_door, .ref a_this_now, .ref a_this_tried, .ref a_this_backOf, .int (nI v_backs), .ref a_this_image, .ref a_this_imageSeed, .ref a_this_isKept, .int v_seed, .int (nI v_seen), .ref a_this_sight, .int (nI v_entries), .ref a_this_entry])), (a_this_imageSeed, .inl (cA, 2, .inl (upd v_imageSeed x1.toNatClampNeg v_seed))), (a_this_isKept, .inl (cZ, 2, .inl (upd v_isKept x1.toNatClampNeg (nI 1)))), (a_this_now, .inl (cA, 35, .inl v_now)), (a_this_image, .inl (cA, 70, .inl ((mX10_bring v_now v_image 0 (35 * x1.toNatClampNeg) 35))))] := hD
    refine lv_aload_n hx hb dX10_keep_47 rfl (lv_at hl 0 rfl) ?_
    refine lv_iconst (v := nI 0) hx hb dX10_keep_48 (by decide) ?_
    refine va_put (D := (dC, dI)) (ci := 10) (v := .int (nI 0)) (ty := .int) (C := RX10) (T := TX10) (N := 35) hx hb ht iX10 tyX10 tyX10_ok nmX10 hown hK.1 hP hD hS 0 rfl rfl 26 (by decide) (ht _ w_4_229) (fun _ h9 => h9) rfl rfl rfl rfl (Nat.le_of_ble_eq_true rfl) dX10_keep_49 (fun H locs hP hD hS => ?_)
    have hP : va_P (dC, dI) vwCl [(a_this, .inr (10, [.int (nI v_letters), .ref a_this_text, .int (nI v_position), .int (nI v_tokenAt), .int v_token, .int v_number, .int (nI v_figures), .int v_faultAt, .int v_faultIs, .int v_readRooms, .int v_readStore, .int (nI v_readRains), .int (nI v_readDoors), .int (nI v_readPersons), .ref a_this_readRain, .ref a_this_readDoor, .ref a_this_readPerson, .int v_rooms, .int (nI v_rains), .int (nI v_doors), .int (nI v_persons), .ref a_this_rain, .ref a_this_door, .ref a_this_now, .ref a_this_tried, .ref a_this_backOf, .int (nI 0), .ref a_this_image, .ref a_this_imageSeed, .ref a_this_isKept, .int v_seed, .int (nI v_seen), .ref a_this_sight, .int (nI v_entries), .ref a_this_entry])), (a_this_imageSeed, .inl (cA, 2, .inl (upd v_imageSeed x1.toNatClampNeg v_seed))), (a_this_isKept, .inl (cZ, 2, .inl (upd v_isKept x1.toNatClampNeg (nI 1)))), (a_this_now, .inl (cA, 35, .inl v_now)), (a_this_image, .inl (cA, 70, .inl ((mX10_bring v_now v_image 0 (35 * x1.toNatClampNeg) 35))))] H := hP
    have hD : va_D (va_A [(a_this, .inr (10, [.int (nI v_letters), .ref a_this_text, .int (nI v_position), .int (nI v_tokenAt), .int v_token, .int v_number, .int (nI v_figures), .int v_faultAt, .int v_faultIs, .int v_readRooms, .int v_readStore, .int (nI v_readRains), .int (nI v_readDoors), .int (nI v_readPersons), .ref a_this_readRain, .ref a_this_readDoor, .ref a_this_readPerson, .int v_rooms, .int (nI v_rains), .int (nI v_doors), .int (nI v_persons), .ref a_this_rain, .ref a_this_door, .ref a_this_now, .ref a_this_tried, .ref a_this_backOf, .int (nI v_backs), .ref a_this_image, .ref a_this_imageSeed, .ref a_this_isKept, .int v_seed, .int (nI v_seen), .ref a_this_sight, .int (nI v_entries), .ref a_this_entry])), (a_this_image, .inl (cA, 70, .inl v_image)), (a_this_imageSeed, .inl (cA, 2, .inl v_imageSeed)), (a_this_isKept, .inl (cZ, 2, .inl v_isKept)), (a_this_now, .inl (cA, 35, .inl v_now))] s.heap.size) [(a_this, .inr (10, [.int (nI v_letters), .ref a_this_text, .int (nI v_position), .int (nI v_tokenAt), .int v_token, .int v_number, .int (nI v_figures), .int v_faultAt, .int v_faultIs, .int v_readRooms, .int v_readStore, .int (nI v_readRains), .int (nI v_readDoors), .int (nI v_readPersons), .ref a_this_readRain, .ref a_this_readDoor, .ref a_this_readPerson, .int v_rooms, .int (nI v_rains), .int (nI v_doors), .int (nI v_persons), .ref a_this_rain, .ref a_this_door, .ref a_this_now, .ref a_this_tried, .ref a_this_backOf, .int (nI 0), .ref a_this_image, .ref a_this_imageSeed, .ref a_this_isKept, .int v_seed, .int (nI v_seen), .ref a_this_sight, .int (nI v_entries), .ref a_this_entry])), (a_this_imageSeed, .inl (cA, 2, .inl (upd v_imageSeed x1.toNatClampNeg v_seed))), (a_this_isKept, .inl (cZ, 2, .inl (upd v_isKept x1.toNatClampNeg (nI 1)))), (a_this_now, .inl (cA, 35, .inl v_now)), (a_this_image, .inl (cA, 70, .inl ((mX10_bring v_now v_image 0 (35 * x1.toNatClampNeg) 35))))] := hD
    refine lv_iconst (v := nI 1) hx hb dX10_keep_52 (by decide) ?_
    have hP9 := pc_sub (wc := [(a_this, .inr (10, [.int (nI v_letters), .ref a_this_text, .int (nI v_position), .int (nI v_tokenAt), .int v_token, .int v_number, .int (nI v_figures), .int v_faultAt, .int v_faultIs, .int v_readRooms, .int v_readStore, .int (nI v_readRains), .int (nI v_readDoors), .int (nI v_readPersons), .ref a_this_readRain, .ref a_this_readDoor, .ref a_this_readPerson, .int v_rooms, .int (nI v_rains), .int (nI v_doors), .int (nI v_persons), .ref a_this_rain, .ref a_this_door, .ref a_this_now, .ref a_this_tried, .ref a_this_backOf, .int (nI 0), .ref a_this_image, .ref a_this_imageSeed, .ref a_this_isKept, .int v_seed, .int (nI v_seen), .ref a_this_sight, .int (nI v_entries), .ref a_this_entry])), (a_this_image, .inl (cA, 70, .inl ((mX10_bring v_now v_image 0 (35 * x1.toNatClampNeg) 35)))), (a_this_imageSeed, .inl (cA, 2, .inl (upd v_imageSeed x1.toNatClampNeg v_seed))), (a_this_isKept, .inl (cZ, 2, .inl (upd v_isKept x1.toNatClampNeg (nI 1)))), (a_this_now, .inl (cA, 35, .inl v_now))]) hP [0, 4, 1, 2, 3] rfl
    have hD9 := hD.sub (ws' := [(a_this, .inr (10, [.int (nI v_letters), .ref a_this_text, .int (nI v_position), .int (nI v_tokenAt), .int v_token, .int v_number, .int (nI v_figures), .int v_faultAt, .int v_faultIs, .int v_readRooms, .int v_readStore, .int (nI v_readRains), .int (nI v_readDoors), .int (nI v_readPersons), .ref a_this_readRain, .ref a_this_readDoor, .ref a_this_readPerson, .int v_rooms, .int (nI v_rains), .int (nI v_doors), .int (nI v_persons), .ref a_this_rain, .ref a_this_door, .ref a_this_now, .ref a_this_tried, .ref a_this_backOf, .int (nI 0), .ref a_this_image, .ref a_this_imageSeed, .ref a_this_isKept, .int v_seed, .int (nI v_seen), .ref a_this_sight, .int (nI v_entries), .ref a_this_entry])), (a_this_image, .inl (cA, 70, .inl ((mX10_bring v_now v_image 0 (35 * x1.toNatClampNeg) 35)))), (a_this_imageSeed, .inl (cA, 2, .inl (upd v_imageSeed x1.toNatClampNeg v_seed))), (a_this_isKept, .inl (cZ, 2, .inl (upd v_isKept x1.toNatClampNeg (nI 1)))), (a_this_now, .inl (cA, 35, .inl v_now))]) [0, 4, 1, 2, 3] (by decide) rfl
    exact W.iret (v := nI 1) hx hb hr (fun t ht9 _ => by rw [← hm]; exact ⟨⟨_, (), rfl, rfl, by rw [ht9]; exact hP9, hD9⟩, hS.F ht9⟩) hS.2.2 dX10_keep_53
  · have hm := (if_pos c_1).symm.trans hm
    refine lv_ldc (v := (-1000000001 : Int32)) hx hb hown (ht _ w_5_167) dX10_keep_9 ?_
    have hP9 := pc_sub (wc := [(a_this, .inr (10, [.int (nI v_letters), .ref a_this_text, .int (nI v_position), .int (nI v_tokenAt), .int v_token, .int v_number, .int (nI v_figures), .int v_faultAt, .int v_faultIs, .int v_readRooms, .int v_readStore, .int (nI v_readRains), .int (nI v_readDoors), .int (nI v_readPersons), .ref a_this_readRain, .ref a_this_readDoor, .ref a_this_readPerson, .int v_rooms, .int (nI v_rains), .int (nI v_doors), .int (nI v_persons), .ref a_this_rain, .ref a_this_door, .ref a_this_now, .ref a_this_tried, .ref a_this_backOf, .int (nI v_backs), .ref a_this_image, .ref a_this_imageSeed, .ref a_this_isKept, .int v_seed, .int (nI v_seen), .ref a_this_sight, .int (nI v_entries), .ref a_this_entry])), (a_this_image, .inl (cA, 70, .inl v_image)), (a_this_imageSeed, .inl (cA, 2, .inl v_imageSeed)), (a_this_isKept, .inl (cZ, 2, .inl v_isKept)), (a_this_now, .inl (cA, 35, .inl v_now))]) hP [0, 1, 2, 3, 4] rfl
    have hD9 := hD.sub (ws' := [(a_this, .inr (10, [.int (nI v_letters), .ref a_this_text, .int (nI v_position), .int (nI v_tokenAt), .int v_token, .int v_number, .int (nI v_figures), .int v_faultAt, .int v_faultIs, .int v_readRooms, .int v_readStore, .int (nI v_readRains), .int (nI v_readDoors), .int (nI v_readPersons), .ref a_this_readRain, .ref a_this_readDoor, .ref a_this_readPerson, .int v_rooms, .int (nI v_rains), .int (nI v_doors), .int (nI v_persons), .ref a_this_rain, .ref a_this_door, .ref a_this_now, .ref a_this_tried, .ref a_this_backOf, .int (nI v_backs), .ref a_this_image, .ref a_this_imageSeed, .ref a_this_isKept, .int v_seed, .int (nI v_seen), .ref a_this_sight, .int (nI v_entries), .ref a_this_entry])), (a_this_image, .inl (cA, 70, .inl v_image)), (a_this_imageSeed, .inl (cA, 2, .inl v_imageSeed)), (a_this_isKept, .inl (cZ, 2, .inl v_isKept)), (a_this_now, .inl (cA, 35, .inl v_now))]) [0, 1, 2, 3, 4] (by decide) rfl
    exact W.iret (v := (-1000000001 : Int32)) hx hb hr (fun t ht9 _ => by rw [← hm]; exact ⟨⟨_, (), rfl, rfl, by rw [ht9]; exact hP9, hD9⟩, hS.F ht9⟩) hS.2.2 dX10_keep_11
theorem dX10_goBack_0 : decode cX10_goBack 0 = .ok (.iload_n 1, 1) := by decide +kernel
theorem dX10_goBack_1 : decode cX10_goBack 1 = .ok (.iconst 0, 1) := by decide +kernel
theorem dX10_goBack_2 : decode cX10_goBack 2 = .ok (.iconst 1, 1) := by decide +kernel
theorem dX10_goBack_3 : decode cX10_goBack 3 = .ok (.invokestatic 60, 3) := by decide +kernel
theorem dX10_goBack_6 : decode cX10_goBack 6 = .ok (.ifCond .ne 6, 3) := by decide +kernel
theorem dX10_goBack_9 : decode cX10_goBack 9 = .ok (.ldc 185, 2) := by decide +kernel
theorem dX10_goBack_11 : decode cX10_goBack 11 = .ok (.ireturn, 1) := by decide +kernel
theorem dX10_goBack_12 : decode cX10_goBack 12 = .ok (.aload_n 0, 1) := by decide +kernel
theorem dX10_goBack_13 : decode cX10_goBack 13 = .ok (.getfield 47, 3) := by decide +kernel
theorem dX10_goBack_16 : decode cX10_goBack 16 = .ok (.iload_n 1, 1) := by decide +kernel
theorem dX10_goBack_17 : decode cX10_goBack 17 = .ok (.baload, 1) := by decide +kernel
theorem dX10_goBack_18 : decode cX10_goBack 18 = .ok (.ifCond .ne 6, 3) := by decide +kernel
theorem dX10_goBack_21 : decode cX10_goBack 21 = .ok (.ldc 196, 2) := by decide +kernel
theorem dX10_goBack_23 : decode cX10_goBack 23 = .ok (.ireturn, 1) := by decide +kernel
theorem dX10_goBack_24 : decode cX10_goBack 24 = .ok (.aload_n 0, 1) := by decide +kernel
theorem dX10_goBack_25 : decode cX10_goBack 25 = .ok (.getfield 41, 3) := by decide +kernel
theorem dX10_goBack_28 : decode cX10_goBack 28 = .ok (.bipush 35, 2) := by decide +kernel
theorem dX10_goBack_30 : decode cX10_goBack 30 = .ok (.iload_n 1, 1) := by decide +kernel
theorem dX10_goBack_31 : decode cX10_goBack 31 = .ok (.imul, 1) := by decide +kernel
theorem dX10_goBack_32 : decode cX10_goBack 32 = .ok (.aload_n 0, 1) := by decide +kernel
theorem dX10_goBack_33 : decode cX10_goBack 33 = .ok (.getfield 32, 3) := by decide +kernel
theorem dX10_goBack_36 : decode cX10_goBack 36 = .ok (.iconst 0, 1) := by decide +kernel
theorem dX10_goBack_37 : decode cX10_goBack 37 = .ok (.bipush 35, 2) := by decide +kernel
theorem dX10_goBack_39 : decode cX10_goBack 39 = .ok (.invokestatic 141, 3) := by decide +kernel
theorem dX10_goBack_42 : decode cX10_goBack 42 = .ok (.aload_n 0, 1) := by decide +kernel
theorem dX10_goBack_43 : decode cX10_goBack 43 = .ok (.aload_n 0, 1) := by decide +kernel
theorem dX10_goBack_44 : decode cX10_goBack 44 = .ok (.getfield 44, 3) := by decide +kernel
theorem dX10_goBack_47 : decode cX10_goBack 47 = .ok (.iload_n 1, 1) := by decide +kernel
theorem dX10_goBack_48 : decode cX10_goBack 48 = .ok (.iaload, 1) := by decide +kernel
theorem dX10_goBack_49 : decode cX10_goBack 49 = .ok (.putfield 224, 3) := by decide +kernel
theorem dX10_goBack_52 : decode cX10_goBack 52 = .ok (.aload_n 0, 1) := by decide +kernel
theorem dX10_goBack_53 : decode cX10_goBack 53 = .ok (.iconst 0, 1) := by decide +kernel
theorem dX10_goBack_54 : decode cX10_goBack 54 = .ok (.putfield 151, 3) := by decide +kernel
theorem dX10_goBack_57 : decode cX10_goBack 57 = .ok (.iconst 1, 1) := by decide +kernel
theorem dX10_goBack_58 : decode cX10_goBack 58 = .ok (.ireturn, 1) := by decide +kernel
theorem h_X10_goBack : yX10_goBack.cls ≠ "java/lang/invoke/MethodHandle" ∧ yX10_goBack.cls ≠ "java/lang/invoke/VarHandle" ∧ (parseMethodDescriptor yX10_goBack.desc).map (fun d => d.parameters.length) = some 1 := by decide +kernel
def mX10_goBack (v_backs : Nat) (v_seed : Int32) (v_image : Nat → Int32) (v_imageSeed : Nat → Int32) (v_isKept : Nat → Int32) (v_now : Nat → Int32) (x1 : Int32) : Int32 × Nat × Int32 × (Nat → Int32) := (if ((mX10_in x1 (nI 0) (nI 1))) = 0 then ((-1000000001 : Int32), v_backs, v_seed, v_now) else (if (v_isKept x1.toNatClampNeg) = 0 then ((-1000000003 : Int32), v_backs, v_seed, v_now) else (nI 1, 0, v_imageSeed x1.toNatClampNeg, (mX10_bring v_image v_now (35 * x1.toNatClampNeg) 0 35))))
set_option maxHeartbeats 4000000 in
set_option maxRecDepth 100000 in
theorem kX10_goBack (l : Launch) (dC : Nat → ClassId) (dI : Nat → Nat → Nat) (cA cZ : ClassId) (a_this a_this_text a_this_readRain a_this_readDoor a_this_readPerson a_this_rain a_this_door a_this_now a_this_tried a_this_backOf a_this_image a_this_imageSeed a_this_isKept a_this_sight a_this_entry : Nat) (v_letters : Nat) (v_position : Nat) (v_tokenAt : Nat) (v_token : Int32) (v_number : Int32) (v_figures : Nat) (v_faultAt : Int32) (v_faultIs : Int32) (v_readRooms : Int32) (v_readStore : Int32) (v_readRains : Nat) (v_readDoors : Nat) (v_readPersons : Nat) (v_rooms : Int32) (v_rains : Nat) (v_doors : Nat) (v_persons : Nat) (v_backs : Nat) (v_seed : Int32) (v_seen : Nat) (v_entries : Nat) (v_image : Nat → Int32) (v_imageSeed : Nat → Int32) (v_isKept : Nat → Int32) (v_now : Nat → Int32) (x1 : Int32) (sz : Nat) : Met l yX10_goBack (Cond.code yX10_goBack cX10_goBack 2 (some .int) :: wt) ({ frames := 1, cells := 0, slots := 0, locals := 25 } : Room) (va_Pc [.ref a_this, .int x1] (PreM (dC, dI) [(cA, .int), (cZ, .boolean)] sz [(a_this, .inr (10, [.int (nI v_letters), .ref a_this_text, .int (nI v_position), .int (nI v_tokenAt), .int v_token, .int v_number, .int (nI v_figures), .int v_faultAt, .int v_faultIs, .int v_readRooms, .int v_readStore, .int (nI v_readRains), .int (nI v_readDoors), .int (nI v_readPersons), .ref a_this_readRain, .ref a_this_readDoor, .ref a_this_readPerson, .int v_rooms, .int (nI v_rains), .int (nI v_doors), .int (nI v_persons), .ref a_this_rain, .ref a_this_door, .ref a_this_now, .ref a_this_tried, .ref a_this_backOf, .int (nI v_backs), .ref a_this_image, .ref a_this_imageSeed, .ref a_this_isKept, .int v_seed, .int (nI v_seen), .ref a_this_sight, .int (nI v_entries), .ref a_this_entry])), (a_this_image, .inl (cA, 70, .inl v_image)), (a_this_imageSeed, .inl (cA, 2, .inl v_imageSeed)), (a_this_isKept, .inl (cZ, 2, .inl v_isKept)), (a_this_now, .inl (cA, 35, .inl v_now))])) (PoI (dC, dI) sz [(a_this, .inr (10, [.int (nI v_letters), .ref a_this_text, .int (nI v_position), .int (nI v_tokenAt), .int v_token, .int v_number, .int (nI v_figures), .int v_faultAt, .int v_faultIs, .int v_readRooms, .int v_readStore, .int (nI v_readRains), .int (nI v_readDoors), .int (nI v_readPersons), .ref a_this_readRain, .ref a_this_readDoor, .ref a_this_readPerson, .int v_rooms, .int (nI v_rains), .int (nI v_doors), .int (nI v_persons), .ref a_this_rain, .ref a_this_door, .ref a_this_now, .ref a_this_tried, .ref a_this_backOf, .int (nI v_backs), .ref a_this_image, .ref a_this_imageSeed, .ref a_this_isKept, .int v_seed, .int (nI v_seen), .ref a_this_sight, .int (nI v_entries), .ref a_this_entry])), (a_this_image, .inl (cA, 70, .inl v_image)), (a_this_imageSeed, .inl (cA, 2, .inl v_imageSeed)), (a_this_isKept, .inl (cZ, 2, .inl v_isKept)), (a_this_now, .inl (cA, 35, .inl v_now))] ((mX10_goBack v_backs v_seed v_image v_imageSeed v_isKept v_now x1)).1 [(a_this, .inr (10, [.int (nI v_letters), .ref a_this_text, .int (nI v_position), .int (nI v_tokenAt), .int v_token, .int v_number, .int (nI v_figures), .int v_faultAt, .int v_faultIs, .int v_readRooms, .int v_readStore, .int (nI v_readRains), .int (nI v_readDoors), .int (nI v_readPersons), .ref a_this_readRain, .ref a_this_readDoor, .ref a_this_readPerson, .int v_rooms, .int (nI v_rains), .int (nI v_doors), .int (nI v_persons), .ref a_this_rain, .ref a_this_door, .ref a_this_now, .ref a_this_tried, .ref a_this_backOf, .int (nI (((mX10_goBack v_backs v_seed v_image v_imageSeed v_isKept v_now x1)).2.1)), .ref a_this_image, .ref a_this_imageSeed, .ref a_this_isKept, .int (((mX10_goBack v_backs v_seed v_image v_imageSeed v_isKept v_now x1)).2.2.1), .int (nI v_seen), .ref a_this_sight, .int (nI v_entries), .ref a_this_entry])), (a_this_image, .inl (cA, 70, .inl v_image)), (a_this_imageSeed, .inl (cA, 2, .inl v_imageSeed)), (a_this_isKept, .inl (cZ, 2, .inl v_isKept)), (a_this_now, .inl (cA, 35, .inl (((mX10_goBack v_backs v_seed v_image v_imageSeed v_isKept v_now x1)).2.2.2)))]) 0 0 (va_A [(a_this, .inr (10, [.int (nI v_letters), .ref a_this_text, .int (nI v_position), .int (nI v_tokenAt), .int v_token, .int v_number, .int (nI v_figures), .int v_faultAt, .int v_faultIs, .int v_readRooms, .int v_readStore, .int (nI v_readRains), .int (nI v_readDoors), .int (nI v_readPersons), .ref a_this_readRain, .ref a_this_readDoor, .ref a_this_readPerson, .int v_rooms, .int (nI v_rains), .int (nI v_doors), .int (nI v_persons), .ref a_this_rain, .ref a_this_door, .ref a_this_now, .ref a_this_tried, .ref a_this_backOf, .int (nI v_backs), .ref a_this_image, .ref a_this_imageSeed, .ref a_this_isKept, .int v_seed, .int (nI v_seen), .ref a_this_sight, .int (nI v_entries), .ref a_this_entry])), (a_this_image, .inl (cA, 70, .inl v_image)), (a_this_imageSeed, .inl (cA, 2, .inl v_imageSeed)), (a_this_isKept, .inl (cZ, 2, .inl v_isKept)), (a_this_now, .inl (cA, 35, .inl v_now))] sz) := by
  refine Met.ofW (cc := cX10_goBack) (maxL := 2) (ret := (some .int)) (by decide) rfl ?_
  intro p e s m args below meth c s₁ B hml hv
  obtain ⟨ha, hsz, hP, hK, hD0⟩ := hv
  have hx := B.exec
  have hb := B.bytes
  have hr := B.returns
  have ht : ∀ w ∈ wt, w.before args s = true := fun w h => atoms_spec (ws := (Cond.code yX10_goBack cX10_goBack 2 (some .int) :: wt)) B.pre w (List.mem_cons_of_mem _ h)
  have hown : s.vm.findClass RX10 = some m.cls := findClass_of_methodNamed B.named
  have hlocks := B.notSynchronized
  subst hsz
  have hD := hD0.self (sz := s.heap.size)
  have hA : ∀ q : Nat, s.heap.size ≤ q → va_A [(a_this, .inr (10, [.int (nI v_letters), .ref a_this_text, .int (nI v_position), .int (nI v_tokenAt), .int v_token, .int v_number, .int (nI v_figures), .int v_faultAt, .int v_faultIs, .int v_readRooms, .int v_readStore, .int (nI v_readRains), .int (nI v_readDoors), .int (nI v_readPersons), .ref a_this_readRain, .ref a_this_readDoor, .ref a_this_readPerson, .int v_rooms, .int (nI v_rains), .int (nI v_doors), .int (nI v_persons), .ref a_this_rain, .ref a_this_door, .ref a_this_now, .ref a_this_tried, .ref a_this_backOf, .int (nI v_backs), .ref a_this_image, .ref a_this_imageSeed, .ref a_this_isKept, .int v_seed, .int (nI v_seen), .ref a_this_sight, .int (nI v_entries), .ref a_this_entry])), (a_this_image, .inl (cA, 70, .inl v_image)), (a_this_imageSeed, .inl (cA, 2, .inl v_imageSeed)), (a_this_isKept, .inl (cZ, 2, .inl v_isKept)), (a_this_now, .inl (cA, 35, .inl v_now))] s.heap.size q := fun q h => Or.inr h
  have hS : va_S (va_A [(a_this, .inr (10, [.int (nI v_letters), .ref a_this_text, .int (nI v_position), .int (nI v_tokenAt), .int v_token, .int v_number, .int (nI v_figures), .int v_faultAt, .int v_faultIs, .int v_readRooms, .int v_readStore, .int (nI v_readRains), .int (nI v_readDoors), .int (nI v_readPersons), .ref a_this_readRain, .ref a_this_readDoor, .ref a_this_readPerson, .int v_rooms, .int (nI v_rains), .int (nI v_doors), .int (nI v_persons), .ref a_this_rain, .ref a_this_door, .ref a_this_now, .ref a_this_tried, .ref a_this_backOf, .int (nI v_backs), .ref a_this_image, .ref a_this_imageSeed, .ref a_this_isKept, .int v_seed, .int (nI v_seen), .ref a_this_sight, .int (nI v_entries), .ref a_this_entry])), (a_this_image, .inl (cA, 70, .inl v_image)), (a_this_imageSeed, .inl (cA, 2, .inl v_imageSeed)), (a_this_isKept, .inl (cZ, 2, .inl v_isKept)), (a_this_now, .inl (cA, 35, .inl v_now))] s.heap.size) s.heap s.heap [] := va_S.rf
  have hl := lv_entry ([.ref a_this, .int x1]) (n := 2) (Nat.le_of_ble_eq_true rfl)
  rw [show entryFrame m args 2 = _ from (congrArg (fun a => entryFrame m a 2) ha).trans (lg_entry_eq m [.ref a_this, .int x1] 2)]
  generalize (lg_sl ([.ref a_this, .int x1]) ++ List.replicate (2 - (lg_sl ([.ref a_this, .int x1])).length) Slot.unset).toArray = ls at hl ⊢
  have hl : lv_has ls 2 [(0, .ref a_this), (1, .int x1)] := hl
  have hm : (if ((mX10_in x1 (nI 0) (nI 1))) = 0 then ((-1000000001 : Int32), v_backs, v_seed, v_now) else (if (v_isKept x1.toNatClampNeg) = 0 then ((-1000000003 : Int32), v_backs, v_seed, v_now) else (nI 1, 0, v_imageSeed x1.toNatClampNeg, (mX10_bring v_image v_now (35 * x1.toNatClampNeg) 0 35)))) = (mX10_goBack v_backs v_seed v_image v_imageSeed v_isKept v_now x1) := rfl
  refine lv_iload_n hx hb dX10_goBack_0 rfl (lv_at hl 1 rfl) ?_
  refine lv_iconst (v := nI 0) hx hb dX10_goBack_1 (by decide) ?_
  refine lv_iconst (v := nI 1) hx hb dX10_goBack_2 (by decide) ?_
  refine pv_call (v := (mX10_in x1 (nI 0) (nI 1))) (va_runS (As := [.int x1, .int (nI 0), .int (nI 1)]) (rest := []) ⟨hx, hb, hml, hown, ht⟩ (kX10_in l dC dI cA cZ x1 (nI 0) (nI 1)) (va_cwS 3 ht (gi_S w_5_74 w_5_75 w_1_12 (gi_code w_5_76)) rfl rfl rfl h_X10_in ⟨Nat.le_of_ble_eq_true rfl, Nat.le_of_ble_eq_true rfl⟩) ⟨pp_blind, pp_use (ws := []) (fun _ _ h => by cases h) hK⟩ rfl rfl hl.1 rfl (lv_room (Nat.le_of_ble_eq_true rfl)) dX10_goBack_3 ⟨Nat.zero_le _, Nat.zero_le _⟩) ?_
  refine lv_if_ne (tgt := 12) hx hb dX10_goBack_6 (by decide) (fun c_1 => ?_) (fun c_1 => ?_)
  · have hm := (if_neg c_1).symm.trans hm
    obtain ⟨hj1, hx1⟩ := in_nat (B := 1) (by omega) c_1
    have hl : lv_has ls 2 [(0, .ref a_this), (1, .int (nI x1.toNatClampNeg))] := by rw [← hx1]; exact hl
    refine lv_aload_n hx hb dX10_goBack_12 rfl (lv_at hl 0 rfl) ?_
    refine va_get (D := (dC, dI)) (ci := 10) (v := .ref a_this_isKept) (C := RX10) (T := TX10) (N := 35) hx hb ht iX10 hown hK.1 hP 0 rfl rfl 29 (by decide) (ht _ w_4_232) (fun _ h9 => h9) rfl dX10_goBack_13 ?_
    refine lv_iload_n hx hb dX10_goBack_16 rfl (lv_at hl 1 rfl) ?_
    refine nv_zald (e := x1.toNatClampNeg) (by omega) (by omega) hx hb hK.1 hP 3 1 rfl rfl dX10_goBack_17 ?_
    refine lv_if_ne (tgt := 24) hx hb dX10_goBack_18 (by decide) (fun c_2 => ?_) (fun c_2 => ?_)
    · have hm := (if_neg c_2).symm.trans hm
      refine lv_aload_n hx hb dX10_goBack_24 rfl (lv_at hl 0 rfl) ?_
      refine va_get (D := (dC, dI)) (ci := 10) (v := .ref a_this_image) (C := RX10) (T := TX10) (N := 35) hx hb ht iX10 hown hK.1 hP 0 rfl rfl 27 (by decide) (ht _ w_4_230) (fun _ h9 => h9) rfl dX10_goBack_25 ?_
      refine lv_bipush (v := nI 35) hx hb dX10_goBack_28 (by decide) ?_
      refine lv_iload_n hx hb dX10_goBack_30 rfl (lv_at hl 1 rfl) ?_
      refine nv_imul hx hb dX10_goBack_31 ?_
      refine lv_aload_n hx hb dX10_goBack_32 rfl (lv_at hl 0 rfl) ?_
      refine va_get (D := (dC, dI)) (ci := 10) (v := .ref a_this_now) (C := RX10) (T := TX10) (N := 35) hx hb ht iX10 hown hK.1 hP 0 rfl rfl 23 (by decide) (ht _ w_4_226) (fun _ h9 => h9) rfl dX10_goBack_33 ?_
      refine lv_iconst (v := nI 0) hx hb dX10_goBack_36 (by decide) ?_
      refine lv_bipush (v := nI 35) hx hb dX10_goBack_37 (by decide) ?_
      have hPc := pc_sub (wc := [(a_this_image, .inl (cA, 70, .inl v_image)), (a_this_now, .inl (cA, 35, .inl v_now))]) hP [1, 4] rfl
      have hDc := hD.sub (ws' := [(a_this_image, .inl (cA, 70, .inl v_image)), (a_this_now, .inl (cA, 35, .inl v_now))]) [1, 4] (by decide) rfl
      refine mv_callv (wc := [(a_this_image, .inl (cA, 70, .inl v_image)), (a_this_now, .inl (cA, 35, .inl v_now))]) (wr := [(a_this, .inr (10, [.int (nI v_letters), .ref a_this_text, .int (nI v_position), .int (nI v_tokenAt), .int v_token, .int v_number, .int (nI v_figures), .int v_faultAt, .int v_faultIs, .int v_readRooms, .int v_readStore, .int (nI v_readRains), .int (nI v_readDoors), .int (nI v_readPersons), .ref a_this_readRain, .ref a_this_readDoor, .ref a_this_readPerson, .int v_rooms, .int (nI v_rains), .int (nI v_doors), .int (nI v_persons), .ref a_this_rain, .ref a_this_door, .ref a_this_now, .ref a_this_tried, .ref a_this_backOf, .int (nI v_backs), .ref a_this_image, .ref a_this_imageSeed, .ref a_this_isKept, .int v_seed, .int (nI v_seen), .ref a_this_sight, .int (nI v_entries), .ref a_this_entry])), (a_this_imageSeed, .inl (cA, 2, .inl v_imageSeed)), (a_this_isKept, .inl (cZ, 2, .inl v_isKept))]) (w1 := [(a_this_image, .inl (cA, 70, .inl v_image)), (a_this_now, .inl (cA, 35, .inl ((mX10_bring v_image v_now (35 * x1.toNatClampNeg) 0 35))))]) [1, 4] [0, 2, 3] hP hD hS hA rfl rfl (by decide) (by decide) (va_runS (As := [.ref a_this_image, .int (nI (35 * x1.toNatClampNeg)), .ref a_this_now, .int (nI 0), .int (nI 35)]) (rest := []) ⟨hx, hb, hml, hown, ht⟩ (kX10_bring l dC dI cA cZ a_this_image a_this_now 70 35 v_image v_now (35 * x1.toNatClampNeg) 0 35 (by decide) (by decide) (by omega) (by omega) s.heap.size) (va_cwS 5 ht (gi_S w_5_119 w_5_120 w_1_12 (gi_code w_5_121)) rfl rfl rfl h_X10_bring ⟨Nat.le_of_ble_eq_true rfl, Nat.le_of_ble_eq_true rfl⟩) ⟨pm_blind, pm_use hPc hK hDc⟩ rfl rfl hl.1 rfl (lv_room (Nat.le_of_ble_eq_true rfl)) dX10_goBack_39 ⟨Nat.zero_le _, Nat.zero_le _⟩) (fun H locs hP hD hS => ?_)
      have hP : va_P (dC, dI) vwCl [(a_this, .inr (10, [.int (nI v_letters), .ref a_this_text, .int (nI v_position), .int (nI v_tokenAt), .int v_token, .int v_number, .int (nI v_figures), .int v_faultAt, .int v_faultIs, .int v_readRooms, .int v_readStore, .int (nI v_readRains), .int (nI v_readDoors), .int (nI v_readPersons), .ref a_this_readRain, .ref a_this_readDoor, .ref a_this_readPerson, .int v_rooms, .int (nI v_rains), .int (nI v_doors), .int (nI v_persons), .ref a_this_rain, .ref a_this_door, .ref a_this_now, .ref a_this_tried, .ref a_this_backOf, .int (nI v_backs), .ref a_this_image, .ref a_this_imageSeed, .ref a_this_isKept, .int v_seed, .int (nI v_seen), .ref a_this_sight, .int (nI v_entries), .ref a_this_entry])), (a_this_imageSeed, .inl (cA, 2, .inl v_imageSeed)), (a_this_isKept, .inl (cZ, 2, .inl v_isKept)), (a_this_image, .inl (cA, 70, .inl v_image)), (a_this_now, .inl (cA, 35, .inl ((mX10_bring v_image v_now (35 * x1.toNatClampNeg) 0 35))))] H := hP
      have hD : va_D (va_A [(a_this, .inr (10, [.int (nI v_letters), .ref a_this_text, .int (nI v_position), .int (nI v_tokenAt), .int v_token, .int v_number, .int (nI v_figures), .int v_faultAt, .int v_faultIs, .int v_readRooms, .int v_readStore, .int (nI v_readRains), .int (nI v_readDoors), .int (nI v_readPersons), .ref a_this_readRain, .ref a_this_readDoor, .ref a_this_readPerson, .int v_rooms, .int (nI v_rains), .int (nI v_doors), .int (nI v_persons), .ref a_this_rain, .ref a_this_door, .ref a_this_now, .ref a_this_tried, .ref a_this_backOf, .int (nI v_backs), .ref a_this_image, .ref a_this_imageSeed, .ref a_this_isKept, .int v_seed, .int (nI v_seen), .ref a_this_sight, .int (nI v_entries), .ref a_this_entry])), (a_this_image, .inl (cA, 70, .inl v_image)), (a_this_imageSeed, .inl (cA, 2, .inl v_imageSeed)), (a_this_isKept, .inl (cZ, 2, .inl v_isKept)), (a_this_now, .inl (cA, 35, .inl v_now))] s.heap.size) [(a_this, .inr (10, [.int (nI v_letters), .ref a_this_text, .int (nI v_position), .int (nI v_tokenAt), .int v_token, .int v_number, .int (nI v_figures), .int v_faultAt, .int v_faultIs, .int v_readRooms, .int v_readStore, .int (nI v_readRains), .int (nI v_readDoors), .int (nI v_readPersons), .ref a_this_readRain, .ref a_this_readDoor, .ref a_this_readPerson, .int v_rooms, .int (nI v_rains), .int (nI v_doors), .int (nI v_persons), .ref a_this_rain, .ref a_this_door, .ref a_this_now, .ref a_this_tried, .ref a_this_backOf, .int (nI v_backs), .ref a_this_image, .ref a_this_imageSeed, .ref a_this_isKept, .int v_seed, .int (nI v_seen), .ref a_this_sight, .int (nI v_entries), .ref a_this_entry])), (a_this_imageSeed, .inl (cA, 2, .inl v_imageSeed)), (a_this_isKept, .inl (cZ, 2, .inl v_isKept)), (a_this_image, .inl (cA, 70, .inl v_image)), (a_this_now, .inl (cA, 35, .inl ((mX10_bring v_image v_now (35 * x1.toNatClampNeg) 0 35))))] := hD
      refine lv_aload_n hx hb dX10_goBack_42 rfl (lv_at hl 0 rfl) ?_
      refine lv_aload_n hx hb dX10_goBack_43 rfl (lv_at hl 0 rfl) ?_
      refine va_get (D := (dC, dI)) (ci := 10) (v := .ref a_this_imageSeed) (C := RX10) (T := TX10) (N := 35) hx hb ht iX10 hown hK.1 hP 0 rfl rfl 28 (by decide) (ht _ w_4_231) (fun _ h9 => h9) rfl dX10_goBack_44 ?_
      refine lv_iload_n hx hb dX10_goBack_47 rfl (lv_at hl 1 rfl) ?_
      refine nv_iald (e := x1.toNatClampNeg) (by omega) (by omega) hx hb hK.1 hP 1 0 rfl rfl dX10_goBack_48 ?_
      refine va_put (D := (dC, dI)) (ci := 10) (v := .int (v_imageSeed x1.toNatClampNeg)) (ty := .int) (C := RX10) (T := TX10) (N := 35) hx hb ht iX10 tyX10 tyX10_ok nmX10 hown hK.1 hP hD hS 0 rfl rfl 30 (by decide) (ht _ w_4_233) (fun _ h9 => h9) rfl rfl rfl rfl (Nat.le_of_ble_eq_true rfl) dX10_goBack_49 (fun H locs hP hD hS => ?_)
      have hP : va_P (dC, dI) vwCl [(a_this, .inr (10, [.int (nI v_letters), .ref a_this_text, .int (nI v_position), .int (nI v_tokenAt), .int v_token, .int v_number, .int (nI v_figures), .int v_faultAt, .int v_faultIs, .int v_readRooms, .int v_readStore, .int (nI v_readRains), .int (nI v_readDoors), .int (nI v_readPersons), .ref a_this_readRain, .ref a_this_readDoor, .ref a_this_readPerson, .int v_rooms, .int (nI v_rains), .int (nI v_doors), .int (nI v_persons), .ref a_this_rain, .ref a_this_door, .ref a_this_now, .ref a_this_tried, .ref a_this_backOf, .int (nI v_backs), .ref a_this_image, .ref a_this_imageSeed, .ref a_this_isKept, .int (v_imageSeed x1.toNatClampNeg), .int (nI v_seen), .ref a_this_sight, .int (nI v_entries), .ref a_this_entry])), (a_this_imageSeed, .inl (cA, 2, .inl v_imageSeed)), (a_this_isKept, .inl (cZ, 2, .inl v_isKept)), (a_this_image, .inl (cA, 70, .inl v_image)), (a_this_now, .inl (cA, 35, .inl ((mX10_bring v_image v_now (35 * x1.toNatClampNeg) 0 35))))] H := hP
      have hD : va_D (va_A [(a_this, .inr (10, [.int (nI v_letters), .ref a_this_text, .int (nI v_position), .int (nI v_tokenAt), .int v_token, .int v_number, .int (nI v_figures), .int v_faultAt, .int v_faultIs, .int v_readRooms, .int v_readStore, .int (nI v_readRains), .int (nI v_readDoors), .int (nI v_readPersons), .ref a_this_readRain, .ref a_this_readDoor, .ref a_this_readPerson, .int v_rooms, .int (nI v_rains), .int (nI v_doors), .int (nI v_persons), .ref a_this_rain, .ref a_this_door, .ref a_this_now, .ref a_this_tried, .ref a_this_backOf, .int (nI v_backs), .ref a_this_image, .ref a_this_imageSeed, .ref a_this_isKept, .int v_seed, .int (nI v_seen), .ref a_this_sight, .int (nI v_entries), .ref a_this_entry])), (a_this_image, .inl (cA, 70, .inl v_image)), (a_this_imageSeed, .inl (cA, 2, .inl v_imageSeed)), (a_this_isKept, .inl (cZ, 2, .inl v_isKept)), (a_this_now, .inl (cA, 35, .inl v_now))] s.heap.size) [(a_this, .inr (10, [.int (nI v_letters), .ref a_this_text, .int (nI v_position), .int (nI v_tokenAt), .int v_token, .int v_number, .int (nI v_figures), .int v_faultAt, .int v_faultIs, .int v_readRooms, .int v_readStore, .int (nI v_readRains), .int (nI v_readDoors), .int (nI v_readPersons), .ref a_this_readRain, .ref a_this_readDoor, .ref a_this_readPerson, .int v_rooms, .int (nI v_rains), .int (nI v_doors), .int (nI v_persons), .ref a_this_rain, .ref a_this_door, .ref a_this_now, .ref a_this_tried, .ref a_this_backOf, .int (nI v_backs), .ref a_this_image, .ref a_this_imageSeed, .ref a_this_isKept, .int (v_imageSeed x1.toNatClampNeg), .int (nI v_seen), .ref a_this_sight, .int (nI v_entries), .ref a_this_entry])), (a_this_imageSeed, .inl (cA, 2, .inl v_imageSeed)), (a_this_isKept, .inl (cZ, 2, .inl v_isKept)), (a_this_image, .inl (cA, 70, .inl v_image)), (a_this_now, .inl (cA, 35, .inl ((mX10_bring v_image v_now (35 * x1.toNatClampNeg) 0 35))))] := hD
      refine lv_aload_n hx hb dX10_goBack_52 rfl (lv_at hl 0 rfl) ?_
      refine lv_iconst (v := nI 0) hx hb dX10_goBack_53 (by decide) ?_
      refine va_put (D := (dC, dI)) (ci := 10) (v := .int (nI 0)) (ty := .int) (C := RX10) (T := TX10) (N := 35) hx hb ht iX10 tyX10 tyX10_ok nmX10 hown hK.1 hP hD hS 0 rfl rfl 26 (by decide) (ht _ w_4_229) (fun _ h9 => h9) rfl rfl rfl rfl (Nat.le_of_ble_eq_true rfl) dX10_goBack_54 (fun H locs hP hD hS => ?_)
      have hP : va_P (dC, dI) vwCl [(a_this, .inr (10, [.int (nI v_letters), .ref a_this_text, .int (nI v_position), .int (nI v_tokenAt), .int v_token, .int v_number, .int (nI v_figures), .int v_faultAt, .int v_faultIs, .int v_readRooms, .int v_readStore, .int (nI v_readRains), .int (nI v_readDoors), .int (nI v_readPersons), .ref a_this_readRain, .ref a_this_readDoor, .ref a_this_readPerson, .int v_rooms, .int (nI v_rains), .int (nI v_doors), .int (nI v_persons), .ref a_this_rain, .ref a_this_door, .ref a_this_now, .ref a_this_tried, .ref a_this_backOf, .int (nI 0), .ref a_this_image, .ref a_this_imageSeed, .ref a_this_isKept, .int (v_imageSeed x1.toNatClampNeg), .int (nI v_seen), .ref a_this_sight, .int (nI v_entries), .ref a_this_entry])), (a_this_imageSeed, .inl (cA, 2, .inl v_imageSeed)), (a_this_isKept, .inl (cZ, 2, .inl v_isKept)), (a_this_image, .inl (cA, 70, .inl v_image)), (a_this_now, .inl (cA, 35, .inl ((mX10_bring v_image v_now (35 * x1.toNatClampNeg) 0 35))))] H := hP
      have hD : va_D (va_A [(a_this, .inr (10, [.int (nI v_letters), .ref a_this_text, .int (nI v_position), .int (nI v_tokenAt), .int v_token, .int v_number, .int (nI v_figures), .int v_faultAt, .int v_faultIs, .int v_readRooms, .int v_readStore, .int (nI v_readRains), .int (nI v_readDoors), .int (nI v_readPersons), .ref a_this_readRain, .ref a_this_readDoor, .ref a_this_readPerson, .int v_rooms, .int (nI v_rains), .int (nI v_doors), .int (nI v_persons), .ref a_this_rain, .ref a_this_door, .ref a_this_now, .ref a_this_tried, .ref a_this_backOf, .int (nI v_backs), .ref a_this_image, .ref a_this_imageSeed, .ref a_this_isKept, .int v_seed, .int (nI v_seen), .ref a_this_sight, .int (nI v_entries), .ref a_this_entry])), (a_this_image, .inl (cA, 70, .inl v_image)), (a_this_imageSeed, .inl (cA, 2, .inl v_imageSeed)), (a_this_isKept, .inl (cZ, 2, .inl v_isKept)), (a_this_now, .inl (cA, 35, .inl v_now))] s.heap.size) [(a_this, .inr (10, [.int (nI v_letters), .ref a_this_text, .int (nI v_position), .int (nI v_tokenAt), .int v_token, .int v_number, .int (nI v_figures), .int v_faultAt, .int v_faultIs, .int v_readRooms, .int v_readStore, .int (nI v_readRains), .int (nI v_readDoors), .int (nI v_readPersons), .ref a_this_readRain, .ref a_this_readDoor, .ref a_this_readPerson, .int v_rooms, .int (nI v_rains), .int (nI v_doors), .int (nI v_persons), .ref a_this_rain, .ref a_this_door, .ref a_this_now, .ref a_this_tried, .ref a_this_backOf, .int (nI 0), .ref a_this_image, .ref a_this_imageSeed, .ref a_this_isKept, .int (v_imageSeed x1.toNatClampNeg), .int (nI v_seen), .ref a_this_sight, .int (nI v_entries), .ref a_this_entry])), (a_this_imageSeed, .inl (cA, 2, .inl v_imageSeed)), (a_this_isKept, .inl (cZ, 2, .inl v_isKept)), (a_this_image, .inl (cA, 70, .inl v_image)), (a_this_now, .inl (cA, 35, .inl ((mX10_bring v_image v_now (35 * x1.toNatClampNeg) 0 35))))] := hD
      refine lv_iconst (v := nI 1) hx hb dX10_goBack_57 (by decide) ?_
      have hP9 := pc_sub (wc := [(a_this, .inr (10, [.int (nI v_letters), .ref a_this_text, .int (nI v_position), .int (nI v_tokenAt), .int v_token, .int v_number, .int (nI v_figures), .int v_faultAt, .int v_faultIs, .int v_readRooms, .int v_readStore, .int (nI v_readRains), .int (nI v_readDoors), .int (nI v_readPersons), .ref a_this_readRain, .ref a_this_readDoor, .ref a_this_readPerson, .int v_rooms, .int (nI v_rains), .int (nI v_doors), .int (nI v_persons), .ref a_this_rain, .ref a_this_door, .ref a_this_now, .ref a_this_tried, .ref a_this_backOf, .int (nI 0), .ref a_this_image, .ref a_this_imageSeed, .ref a_this_isKept, .int (v_imageSeed x1.toNatClampNeg), .int (nI v_seen), .ref a_this_sight, .int (nI v_entries), .ref a_this_entry])), (a_this_image, .inl (cA, 70, .inl v_image)), (a_this_imageSeed, .inl (cA, 2, .inl v_imageSeed)), (a_this_isKept, .inl (cZ, 2, .inl v_isKept)), (a_this_now, .inl (cA, 35, .inl ((mX10_bring v_image v_now (35 * x1.toNatClampNeg) 0 35))))]) hP [0, 3, 1, 2, 4] rfl
      have hD9 := hD.sub (ws' := [(a_this, .inr (10, [.int (nI v_letters), .ref a_this_text, .int (nI v_position), .int (nI v_tokenAt), .int v_token, .int v_number, .int (nI v_figures), .int v_faultAt, .int v_faultIs, .int v_readRooms, .int v_readStore, .int (nI v_readRains), .int (nI v_readDoors), .int (nI v_readPersons), .ref a_this_readRain, .ref a_this_readDoor, .ref a_this_readPerson, .int v_rooms, .int (nI v_rains), .int (nI v_doors), .int (nI v_persons), .ref a_this_rain, .ref a_this_door, .ref a_this_now, .ref a_this_tried, .ref a_this_backOf, .int (nI 0), .ref a_this_image, .ref a_this_imageSeed, .ref a_this_isKept, .int (v_imageSeed x1.toNatClampNeg), .int (nI v_seen), .ref a_this_sight, .int (nI v_entries), .ref a_this_entry])), (a_this_image, .inl (cA, 70, .inl v_image)), (a_this_imageSeed, .inl (cA, 2, .inl v_imageSeed)), (a_this_isKept, .inl (cZ, 2, .inl v_isKept)), (a_this_now, .inl (cA, 35, .inl ((mX10_bring v_image v_now (35 * x1.toNatClampNeg) 0 35))))]) [0, 3, 1, 2, 4] (by decide) rfl
      exact W.iret (v := nI 1) hx hb hr (fun t ht9 _ => by rw [← hm]; exact ⟨⟨_, (), rfl, rfl, by rw [ht9]; exact hP9, hD9⟩, hS.F ht9⟩) hS.2.2 dX10_goBack_58
    · have hm := (if_pos c_2).symm.trans hm
      refine lv_ldc (v := (-1000000003 : Int32)) hx hb hown (ht _ w_5_191) dX10_goBack_21 ?_
      have hP9 := pc_sub (wc := [(a_this, .inr (10, [.int (nI v_letters), .ref a_this_text, .int (nI v_position), .int (nI v_tokenAt), .int v_token, .int v_number, .int (nI v_figures), .int v_faultAt, .int v_faultIs, .int v_readRooms, .int v_readStore, .int (nI v_readRains), .int (nI v_readDoors), .int (nI v_readPersons), .ref a_this_readRain, .ref a_this_readDoor, .ref a_this_readPerson, .int v_rooms, .int (nI v_rains), .int (nI v_doors), .int (nI v_persons), .ref a_this_rain, .ref a_this_door, .ref a_this_now, .ref a_this_tried, .ref a_this_backOf, .int (nI v_backs), .ref a_this_image, .ref a_this_imageSeed, .ref a_this_isKept, .int v_seed, .int (nI v_seen), .ref a_this_sight, .int (nI v_entries), .ref a_this_entry])), (a_this_image, .inl (cA, 70, .inl v_image)), (a_this_imageSeed, .inl (cA, 2, .inl v_imageSeed)), (a_this_isKept, .inl (cZ, 2, .inl v_isKept)), (a_this_now, .inl (cA, 35, .inl v_now))]) hP [0, 1, 2, 3, 4] rfl
      have hD9 := hD.sub (ws' := [(a_this, .inr (10, [.int (nI v_letters), .ref a_this_text, .int (nI v_position), .int (nI v_tokenAt), .int v_token, .int v_number, .int (nI v_figures), .int v_faultAt, .int v_faultIs, .int v_readRooms, .int v_readStore, .int (nI v_readRains), .int (nI v_readDoors), .int (nI v_readPersons), .ref a_this_readRain, .ref a_this_readDoor, .ref a_this_readPerson, .int v_rooms, .int (nI v_rains), .int (nI v_doors), .int (nI v_persons), .ref a_this_rain, .ref a_this_door, .ref a_this_now, .ref a_this_tried, .ref a_this_backOf, .int (nI v_backs), .ref a_this_image, .ref a_this_imageSeed, .ref a_this_isKept, .int v_seed, .int (nI v_seen), .ref a_this_sight, .int (nI v_entries), .ref a_this_entry])), (a_this_image, .inl (cA, 70, .inl v_image)), (a_this_imageSeed, .inl (cA, 2, .inl v_imageSeed)), (a_this_isKept, .inl (cZ, 2, .inl v_isKept)), (a_this_now, .inl (cA, 35, .inl v_now))]) [0, 1, 2, 3, 4] (by decide) rfl
      exact W.iret (v := (-1000000003 : Int32)) hx hb hr (fun t ht9 _ => by rw [← hm]; exact ⟨⟨_, (), rfl, rfl, by rw [ht9]; exact hP9, hD9⟩, hS.F ht9⟩) hS.2.2 dX10_goBack_23
  · have hm := (if_pos c_1).symm.trans hm
    refine lv_ldc (v := (-1000000001 : Int32)) hx hb hown (ht _ w_5_167) dX10_goBack_9 ?_
    have hP9 := pc_sub (wc := [(a_this, .inr (10, [.int (nI v_letters), .ref a_this_text, .int (nI v_position), .int (nI v_tokenAt), .int v_token, .int v_number, .int (nI v_figures), .int v_faultAt, .int v_faultIs, .int v_readRooms, .int v_readStore, .int (nI v_readRains), .int (nI v_readDoors), .int (nI v_readPersons), .ref a_this_readRain, .ref a_this_readDoor, .ref a_this_readPerson, .int v_rooms, .int (nI v_rains), .int (nI v_doors), .int (nI v_persons), .ref a_this_rain, .ref a_this_door, .ref a_this_now, .ref a_this_tried, .ref a_this_backOf, .int (nI v_backs), .ref a_this_image, .ref a_this_imageSeed, .ref a_this_isKept, .int v_seed, .int (nI v_seen), .ref a_this_sight, .int (nI v_entries), .ref a_this_entry])), (a_this_image, .inl (cA, 70, .inl v_image)), (a_this_imageSeed, .inl (cA, 2, .inl v_imageSeed)), (a_this_isKept, .inl (cZ, 2, .inl v_isKept)), (a_this_now, .inl (cA, 35, .inl v_now))]) hP [0, 1, 2, 3, 4] rfl
    have hD9 := hD.sub (ws' := [(a_this, .inr (10, [.int (nI v_letters), .ref a_this_text, .int (nI v_position), .int (nI v_tokenAt), .int v_token, .int v_number, .int (nI v_figures), .int v_faultAt, .int v_faultIs, .int v_readRooms, .int v_readStore, .int (nI v_readRains), .int (nI v_readDoors), .int (nI v_readPersons), .ref a_this_readRain, .ref a_this_readDoor, .ref a_this_readPerson, .int v_rooms, .int (nI v_rains), .int (nI v_doors), .int (nI v_persons), .ref a_this_rain, .ref a_this_door, .ref a_this_now, .ref a_this_tried, .ref a_this_backOf, .int (nI v_backs), .ref a_this_image, .ref a_this_imageSeed, .ref a_this_isKept, .int v_seed, .int (nI v_seen), .ref a_this_sight, .int (nI v_entries), .ref a_this_entry])), (a_this_image, .inl (cA, 70, .inl v_image)), (a_this_imageSeed, .inl (cA, 2, .inl v_imageSeed)), (a_this_isKept, .inl (cZ, 2, .inl v_isKept)), (a_this_now, .inl (cA, 35, .inl v_now))]) [0, 1, 2, 3, 4] (by decide) rfl
    exact W.iret (v := (-1000000001 : Int32)) hx hb hr (fun t ht9 _ => by rw [← hm]; exact ⟨⟨_, (), rfl, rfl, by rw [ht9]; exact hP9, hD9⟩, hS.F ht9⟩) hS.2.2 dX10_goBack_11
