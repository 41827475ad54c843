set_option maxHeartbeats 8000000 in
set_option maxRecDepth 100000 in
theorem law_loop {p : Program} {l : Launch} {e : Env} {s : State} {m : MethodId} {below : List Frame} {meth : Method} {c : Code} {dC : Nat → ClassId} {dI : Nat → Nat → Nat} {cA cZ : ClassId} {b L : Nat} {xs : Nat → Int32} (hL : L ≤ 2048) (C0 : lw_At p s m meth c b L xs) (hK : KK (dC, dI) [(cA, .int), (cZ, .boolean)] s) : ∀ (n j : Nat), L ≤ j + 4 * n → j ≤ L + 4 → ∀ (q0 : Nat) (u : List Nat) (q1 : Nat) (v : List Nat) (cI : Nat → Int32) (cR : Nat → Nat → Int32) (mN : Nat → Nat) (mI : Nat → Int32) (mR : Nat → Nat → Int32), Rel cI cR mN mI mR → ∀ (H : Heap) (locs : List Loc), va_P (dC, dI) vwCl (LW cA cZ q0 u q1 v cI cR mN mI mR) H → va_D (fun q : Nat => s.heap.size ≤ q) (LW cA cZ q0 u q1 v cI cR mN mI mR) → va_S (fun q : Nat => s.heap.size ≤ q) s.heap H locs → ∀ (ls : Array Slot), lv_has ls 4 [(0, .ref b), (1, .ref q0), (2, .ref q1), (3, .int (nI j))] → W p l e room_1 s m #[Value.ref b] below meth c H locs 600000 7302250 (lw_Z below #[Value.ref b] s) (F0 m 18 ls []) := by
  have C1 := C0
  obtain ⟨hx, hb, hr, hml, hown, hts, hX, hbl, hlocks, hgv⟩ := C0
  have hbA : ¬ (fun q : Nat => s.heap.size ≤ q) b := Nat.not_le.mpr hbl
  intro n
  induction n with
  | zero =>
    intro j h1 h2 q0 u q1 v cI cR mN mI mR hR H locs hP hD hS ls hl
    refine lv_iload_n hx hb dL_law_18 rfl (lv_at hl 3 rfl) ?_
    refine lv_aload_n hx hb dL_law_19 rfl (lv_at hl 0 rfl) ?_
    refine va_slen hx hb hX hbl hbA hS dL_law_20 ?_
    refine lv_iconst (v := nI 4) hx hb dL_law_21 (by decide) ?_
    refine lv_isub hx hb dL_law_22 ?_
    refine lv_icmp_gt (tgt := 1220) hx hb dL_law_23 (by decide) (fun c_1 => ?_) (fun c_1 => ?_)
    · skip
      refine lv_iconst (v := 1) hx hb dL_law_1220 (by decide) ?_
      refine va_forget (fun q hq => hS.2.2 q hq) ?_
      exact lw_ret hx hb hr hlocks dL_law_1221
    · exact absurd ((lw_gt hL (by omega)).mpr (by omega)) c_1
  | succ n ih =>
    intro j h1 h2 q0 u q1 v cI cR mN mI mR hR H locs hP hD hS ls hl
    refine lv_iload_n hx hb dL_law_18 rfl (lv_at hl 3 rfl) ?_
    refine lv_aload_n hx hb dL_law_19 rfl (lv_at hl 0 rfl) ?_
    refine va_slen hx hb hX hbl hbA hS dL_law_20 ?_
    refine lv_iconst (v := nI 4) hx hb dL_law_21 (by decide) ?_
    refine lv_isub hx hb dL_law_22 ?_
    refine lv_icmp_gt (tgt := 1220) hx hb dL_law_23 (by decide) (fun c_1 => ?_) (fun c_1 => ?_)
    · skip
      refine lv_iconst (v := 1) hx hb dL_law_1220 (by decide) ?_
      refine va_forget (fun q hq => hS.2.2 q hq) ?_
      exact lw_ret hx hb hr hlocks dL_law_1221
    · have hj : j + 4 ≤ L := Nat.le_of_not_lt (fun q => c_1 ((lw_gt hL (by omega)).mpr q))
      have next : ∀ (cI : Nat → Int32) (cR : Nat → Nat → Int32) (mN : Nat → Nat) (mI : Nat → Int32) (mR : Nat → Nat → Int32), Rel cI cR mN mI mR → ∀ (H : Heap) (locs : List Loc), va_P (dC, dI) vwCl (LW cA cZ q0 u q1 v cI cR mN mI mR) H → va_D (fun q : Nat => s.heap.size ≤ q) (LW cA cZ q0 u q1 v cI cR mN mI mR) → va_S (fun q : Nat => s.heap.size ≤ q) s.heap H locs → ∀ (ls : Array Slot), lv_has ls 4 [(0, .ref b), (1, .ref q0), (2, .ref q1), (3, .int (nI j))] → W p l e room_1 s m #[Value.ref b] below meth c H locs 600000 7302250 (lw_Z below #[Value.ref b] s) (F0 m 1214 ls []) := by
        intro cI cR mN mI mR hR H locs hP hD hS ls hl
        refine lv_iinc (v := nI (j + 4)) (lv' := [(3, .int (nI (j + 4))), (0, .ref b), (1, .ref q0), (2, .ref q1)]) hx hb dL_law_1214 hl (k := 3) rfl (nI_add j 4) (by decide) rfl (fun ls hl => ?_)
        refine lv_goto (tgt := 18) hx hb dL_law_1217 (by decide) ?_
        exact ih (j + 4) (by omega) (by omega) q0 u q1 v cI cR mN mI mR hR H locs hP hD hS ls (lv_sub hl [1, 2, 3, 0] rfl)
      refine lv_aload_n hx hb dL_law_26 rfl (lv_at hl 0 rfl) ?_
      refine lv_iload_n hx hb dL_law_27 rfl (lv_at hl 3 rfl) ?_
      refine nv_sld (i := j) hx hb hX hbl hbA hS (by omega) (by omega) dL_law_28 ?_
      refine lv_bipush (v := 63) hx hb dL_law_29 (by decide) ?_
      refine lv_iand hx hb dL_law_31 ?_
      refine lv_topi (fun x ex => ?_)
      by_cases c0 : x = 0
      · refine lv_tableIn (tgt := 208) hx hb dL_law_32 (by rw [c0]; decide) (by rw [c0]; decide) (by rw [c0]; rfl) (by decide) ?_
        exact law_0 hL C1 hK hj hR hP hD hS hl next
      by_cases c1 : x = 1
      · refine lv_tableIn (tgt := 231) hx hb dL_law_32 (by rw [c1]; decide) (by rw [c1]; decide) (by rw [c1]; rfl) (by decide) ?_
        exact law_1 hL C1 hK hj hR hP hD hS hl next
      by_cases c2 : x = 2
      · refine lv_tableIn (tgt := 244) hx hb dL_law_32 (by rw [c2]; decide) (by rw [c2]; decide) (by rw [c2]; rfl) (by decide) ?_
        exact law_2 hL C1 hK hj hR hP hD hS hl next
      by_cases c3 : x = 3
      · refine lv_tableIn (tgt := 257) hx hb dL_law_32 (by rw [c3]; decide) (by rw [c3]; decide) (by rw [c3]; rfl) (by decide) ?_
        exact law_3 hL C1 hK hj hR hP hD hS hl next
      by_cases c4 : x = 4
      · refine lv_tableIn (tgt := 280) hx hb dL_law_32 (by rw [c4]; decide) (by rw [c4]; decide) (by rw [c4]; rfl) (by decide) ?_
        exact law_4 hL C1 hK hj hR hP hD hS hl next
      by_cases c5 : x = 5
      · refine lv_tableIn (tgt := 313) hx hb dL_law_32 (by rw [c5]; decide) (by rw [c5]; decide) (by rw [c5]; rfl) (by decide) ?_
        exact law_5 hL C1 hK hj hR hP hD hS hl next
      by_cases c6 : x = 6
      · refine lv_tableIn (tgt := 346) hx hb dL_law_32 (by rw [c6]; decide) (by rw [c6]; decide) (by rw [c6]; rfl) (by decide) ?_
        exact law_6 hL C1 hK hj hR hP hD hS hl next
      by_cases c7 : x = 7
      · refine lv_tableIn (tgt := 369) hx hb dL_law_32 (by rw [c7]; decide) (by rw [c7]; decide) (by rw [c7]; rfl) (by decide) ?_
        exact law_7 hL C1 hK hj hR hP hD hS hl next
      by_cases c8 : x = 8
      · refine lv_tableIn (tgt := 392) hx hb dL_law_32 (by rw [c8]; decide) (by rw [c8]; decide) (by rw [c8]; rfl) (by decide) ?_
        exact law_8 hL C1 hK hj hR hP hD hS hl next
      by_cases c9 : x = 9
      · refine lv_tableIn (tgt := 415) hx hb dL_law_32 (by rw [c9]; decide) (by rw [c9]; decide) (by rw [c9]; rfl) (by decide) ?_
        exact law_9 hL C1 hK hj hR hP hD hS hl next
      by_cases c10 : x = 10
      · refine lv_tableIn (tgt := 448) hx hb dL_law_32 (by rw [c10]; decide) (by rw [c10]; decide) (by rw [c10]; rfl) (by decide) ?_
        exact law_10 hL C1 hK hj hR hP hD hS hl next
      by_cases c11 : x = 11
      · refine lv_tableIn (tgt := 481) hx hb dL_law_32 (by rw [c11]; decide) (by rw [c11]; decide) (by rw [c11]; rfl) (by decide) ?_
        exact law_11 hL C1 hK hj hR hP hD hS hl next
      by_cases c12 : x = 12
      · refine lv_tableIn (tgt := 504) hx hb dL_law_32 (by rw [c12]; decide) (by rw [c12]; decide) (by rw [c12]; rfl) (by decide) ?_
        exact law_12 hL C1 hK hj hR hP hD hS hl next
      by_cases c13 : x = 13
      · refine lv_tableIn (tgt := 527) hx hb dL_law_32 (by rw [c13]; decide) (by rw [c13]; decide) (by rw [c13]; rfl) (by decide) ?_
        exact law_13 hL C1 hK hj hR hP hD hS hl next
      by_cases c14 : x = 14
      · refine lv_tableIn (tgt := 560) hx hb dL_law_32 (by rw [c14]; decide) (by rw [c14]; decide) (by rw [c14]; rfl) (by decide) ?_
        exact law_14 hL C1 hK hj hR hP hD hS hl next
      by_cases c15 : x = 15
      · refine lv_tableIn (tgt := 583) hx hb dL_law_32 (by rw [c15]; decide) (by rw [c15]; decide) (by rw [c15]; rfl) (by decide) ?_
        exact law_15 hL C1 hK hj hR hP hD hS hl next
      by_cases c16 : x = 16
      · refine lv_tableIn (tgt := 606) hx hb dL_law_32 (by rw [c16]; decide) (by rw [c16]; decide) (by rw [c16]; rfl) (by decide) ?_
        exact law_16 hL C1 hK hj hR hP hD hS hl next
      by_cases c17 : x = 17
      · refine lv_tableIn (tgt := 639) hx hb dL_law_32 (by rw [c17]; decide) (by rw [c17]; decide) (by rw [c17]; rfl) (by decide) ?_
        exact law_17 hL C1 hK hj hR hP hD hS hl next
      by_cases c18 : x = 18
      · refine lv_tableIn (tgt := 662) hx hb dL_law_32 (by rw [c18]; decide) (by rw [c18]; decide) (by rw [c18]; rfl) (by decide) ?_
        exact law_18 hL C1 hK hj hR hP hD hS hl next
      by_cases c19 : x = 19
      · refine lv_tableIn (tgt := 705) hx hb dL_law_32 (by rw [c19]; decide) (by rw [c19]; decide) (by rw [c19]; rfl) (by decide) ?_
        exact law_19 hL C1 hK hj hR hP hD hS hl next
      by_cases c20 : x = 20
      · refine lv_tableIn (tgt := 748) hx hb dL_law_32 (by rw [c20]; decide) (by rw [c20]; decide) (by rw [c20]; rfl) (by decide) ?_
        exact law_20 hL C1 hK hj hR hP hD hS hl next
      by_cases c21 : x = 21
      · refine lv_tableIn (tgt := 781) hx hb dL_law_32 (by rw [c21]; decide) (by rw [c21]; decide) (by rw [c21]; rfl) (by decide) ?_
        exact law_21 hL C1 hK hj hR hP hD hS hl next
      by_cases c22 : x = 22
      · refine lv_tableIn (tgt := 814) hx hb dL_law_32 (by rw [c22]; decide) (by rw [c22]; decide) (by rw [c22]; rfl) (by decide) ?_
        exact law_22 hL C1 hK hj hR hP hD hS hl next
      by_cases c23 : x = 23
      · refine lv_tableIn (tgt := 837) hx hb dL_law_32 (by rw [c23]; decide) (by rw [c23]; decide) (by rw [c23]; rfl) (by decide) ?_
        exact law_23 hL C1 hK hj hR hP hD hS hl next
      by_cases c24 : x = 24
      · refine lv_tableIn (tgt := 860) hx hb dL_law_32 (by rw [c24]; decide) (by rw [c24]; decide) (by rw [c24]; rfl) (by decide) ?_
        exact law_24 hL C1 hK hj hR hP hD hS hl next
      by_cases c25 : x = 25
      · refine lv_tableIn (tgt := 883) hx hb dL_law_32 (by rw [c25]; decide) (by rw [c25]; decide) (by rw [c25]; rfl) (by decide) ?_
        exact law_25 hL C1 hK hj hR hP hD hS hl next
      by_cases c26 : x = 26
      · refine lv_tableIn (tgt := 906) hx hb dL_law_32 (by rw [c26]; decide) (by rw [c26]; decide) (by rw [c26]; rfl) (by decide) ?_
        exact law_26 hL C1 hK hj hR hP hD hS hl next
      by_cases c27 : x = 27
      · refine lv_tableIn (tgt := 919) hx hb dL_law_32 (by rw [c27]; decide) (by rw [c27]; decide) (by rw [c27]; rfl) (by decide) ?_
        exact law_27 hL C1 hK hj hR hP hD hS hl next
      by_cases c28 : x = 28
      · refine lv_tableIn (tgt := 932) hx hb dL_law_32 (by rw [c28]; decide) (by rw [c28]; decide) (by rw [c28]; rfl) (by decide) ?_
        exact law_28 hL C1 hK hj hR hP hD hS hl next
      by_cases c29 : x = 29
      · refine lv_tableIn (tgt := 945) hx hb dL_law_32 (by rw [c29]; decide) (by rw [c29]; decide) (by rw [c29]; rfl) (by decide) ?_
        exact law_29 hL C1 hK hj hR hP hD hS hl next
      by_cases c30 : x = 30
      · refine lv_tableIn (tgt := 978) hx hb dL_law_32 (by rw [c30]; decide) (by rw [c30]; decide) (by rw [c30]; rfl) (by decide) ?_
        exact law_30 hL C1 hK hj hR hP hD hS hl next
      by_cases c31 : x = 31
      · refine lv_tableIn (tgt := 1011) hx hb dL_law_32 (by rw [c31]; decide) (by rw [c31]; decide) (by rw [c31]; rfl) (by decide) ?_
        exact law_31 hL C1 hK hj hR hP hD hS hl next
      by_cases c32 : x = 32
      · refine lv_tableIn (tgt := 1060) hx hb dL_law_32 (by rw [c32]; decide) (by rw [c32]; decide) (by rw [c32]; rfl) (by decide) ?_
        exact law_32 hL C1 hK hj hR hP hD hS hl next
      by_cases c33 : x = 33
      · refine lv_tableIn (tgt := 1073) hx hb dL_law_32 (by rw [c33]; decide) (by rw [c33]; decide) (by rw [c33]; rfl) (by decide) ?_
        exact law_33 hL C1 hK hj hR hP hD hS hl next
      by_cases c34 : x = 34
      · refine lv_tableIn (tgt := 1086) hx hb dL_law_32 (by rw [c34]; decide) (by rw [c34]; decide) (by rw [c34]; rfl) (by decide) ?_
        exact law_34 hL C1 hK hj hR hP hD hS hl next
      by_cases c35 : x = 35
      · refine lv_tableIn (tgt := 1119) hx hb dL_law_32 (by rw [c35]; decide) (by rw [c35]; decide) (by rw [c35]; rfl) (by decide) ?_
        exact law_35 hL C1 hK hj hR hP hD hS hl next
      by_cases c36 : x = 36
      · refine lv_tableIn (tgt := 1132) hx hb dL_law_32 (by rw [c36]; decide) (by rw [c36]; decide) (by rw [c36]; rfl) (by decide) ?_
        exact law_36 hL C1 hK hj hR hP hD hS hl next
      by_cases c37 : x = 37
      · refine lv_tableIn (tgt := 1145) hx hb dL_law_32 (by rw [c37]; decide) (by rw [c37]; decide) (by rw [c37]; rfl) (by decide) ?_
        exact law_37 hL C1 hK hj hR hP hD hS hl next
      by_cases c38 : x = 38
      · refine lv_tableIn (tgt := 1168) hx hb dL_law_32 (by rw [c38]; decide) (by rw [c38]; decide) (by rw [c38]; rfl) (by decide) ?_
        exact law_38 hL C1 hK hj hR hP hD hS hl next
      by_cases c39 : x = 39
      · refine lv_tableIn (tgt := 1191) hx hb dL_law_32 (by rw [c39]; decide) (by rw [c39]; decide) (by rw [c39]; rfl) (by decide) ?_
        exact law_39 hL C1 hK hj hR hP hD hS hl next
      refine lv_tableOut (tgt := 1214) hx hb dL_law_32 (sw_out 40 (fun k hk => by match k, hk with | 0, _ => exact c0 | 1, _ => exact c1 | 2, _ => exact c2 | 3, _ => exact c3 | 4, _ => exact c4 | 5, _ => exact c5 | 6, _ => exact c6 | 7, _ => exact c7 | 8, _ => exact c8 | 9, _ => exact c9 | 10, _ => exact c10 | 11, _ => exact c11 | 12, _ => exact c12 | 13, _ => exact c13 | 14, _ => exact c14 | 15, _ => exact c15 | 16, _ => exact c16 | 17, _ => exact c17 | 18, _ => exact c18 | 19, _ => exact c19 | 20, _ => exact c20 | 21, _ => exact c21 | 22, _ => exact c22 | 23, _ => exact c23 | 24, _ => exact c24 | 25, _ => exact c25 | 26, _ => exact c26 | 27, _ => exact c27 | 28, _ => exact c28 | 29, _ => exact c29 | 30, _ => exact c30 | 31, _ => exact c31 | 32, _ => exact c32 | 33, _ => exact c33 | 34, _ => exact c34 | 35, _ => exact c35 | 36, _ => exact c36 | 37, _ => exact c37 | 38, _ => exact c38 | 39, _ => exact c39 | k + 40, hk => exact absurd hk (by omega))) (by decide) ?_
      exact next cI cR mN mI mR hR H locs hP hD hS ls hl
theorem arr_of {s : State} {ty : FieldType} {args : Array Value} (h : (Cond.arrayClass ty).before args s = true) : ∃ cA : ClassId, s.vm.findClass ("[" ++ ty.toString) = some cA ∧ ArrOfT s cA ty := by
  obtain ⟨cA, kA, comp, h1, h2, h3⟩ := Cond.arrayClass_spec h
  exact ⟨cA, h1, fun n z => ⟨fun k h => (by cases h), kA, h2, comp, h3⟩⟩
set_option maxHeartbeats 8000000 in
set_option maxRecDepth 100000 in
theorem whole_start {p : Program} {e : Env} {s : State} {m : MethodId} {below : List Frame} {meth : Method} {c : Code} (l : Launch) (hflags : l.flags = flags0) {b L : Nat} {xs : Nat → Int32} (hL : L ≤ 2048) (C0 : lw_At p s m meth c b L xs) : W p l e room_1 s m #[Value.ref b] below meth c s.heap [] 0 0 (lw_Z below #[Value.ref b] s) (entryFrame m ([Value.ref b] : List Value).toArray 4) := by
  obtain ⟨hx, hb, hr, hml, hown, hts, hX, hbl, hlocks, hgv⟩ := id C0
  have ht : ∀ w ∈ wt, w.before #[Value.ref b] s = true := fun w hw => hts w (List.mem_filter.mp hw).1
  have hA : ∀ q : Nat, s.heap.size ≤ q → (fun q : Nat => s.heap.size ≤ q) q := fun _ h => h
  obtain ⟨cc0, is0, hKn0⟩ := u_known (C := RX0) (T := TX0) (N := 1) (n := 1) ht iX0 (ht _ w_1_201)
  obtain ⟨cc1, is1, hKn1⟩ := u_known (C := RX1) (T := TX1) (N := 10) (n := 10) ht iX1 (ht _ w_1_24)
  obtain ⟨cc2, is2, hKn2⟩ := u_known (C := RX2) (T := TX2) (N := 3) (n := 3) ht iX2 (ht _ w_1_212)
  obtain ⟨cc3, is3, hKn3⟩ := u_known (C := RX3) (T := TX3) (N := 6) (n := 6) ht iX3 (ht _ w_1_172)
  obtain ⟨cc4, is4, hKn4⟩ := u_known (C := RX4) (T := TX4) (N := 3) (n := 3) ht iX4 (ht _ w_1_153)
  obtain ⟨cc5, is5, hKn5⟩ := u_known (C := RX5) (T := TX5) (N := 7) (n := 7) ht iX5 (ht _ w_1_118)
  obtain ⟨cc6, is6, hKn6⟩ := u_known (C := RX6) (T := TX6) (N := 1) (n := 1) ht iX6 (ht _ w_1_30)
  obtain ⟨cc7, is7, hKn7⟩ := u_known (C := RX7) (T := TX7) (N := 1) (n := 1) ht iX7 (ht _ w_1_44)
  obtain ⟨cc8, is8, hKn8⟩ := u_known (C := RX8) (T := TX8) (N := 1) (n := 1) ht iX8 (ht _ w_1_108)
  obtain ⟨cc9, is9, hKn9⟩ := u_known (C := RX9) (T := TX9) (N := 7) (n := 7) ht iX9 (ht _ w_1_16)
  obtain ⟨cc10, is10, hKn10⟩ := u_known (C := RX10) (T := TX10) (N := 35) (n := 35) ht iX10 (ht _ w_4_198)
  obtain ⟨dC, dI, hKc⟩ : ∃ (dC : Nat → ClassId) (dI : Nat → Nat → Nat), ∀ (k : Nat) (q : vw_C), vwCl[k]? = some q → u_Kn s q.1 q.2.1 q.2.2 (dC k) (dI k) := by
    refine ⟨fun k => if k = 0 then cc0 else if k = 1 then cc1 else if k = 2 then cc2 else if k = 3 then cc3 else if k = 4 then cc4 else if k = 5 then cc5 else if k = 6 then cc6 else if k = 7 then cc7 else if k = 8 then cc8 else if k = 9 then cc9 else cc10, fun k => if k = 0 then is0 else if k = 1 then is1 else if k = 2 then is2 else if k = 3 then is3 else if k = 4 then is4 else if k = 5 then is5 else if k = 6 then is6 else if k = 7 then is7 else if k = 8 then is8 else if k = 9 then is9 else is10, ?_⟩
    intro k q hq
    match k, hq with
    | 0, hq => cases hq; exact hKn0
    | 1, hq => cases hq; exact hKn1
    | 2, hq => cases hq; exact hKn2
    | 3, hq => cases hq; exact hKn3
    | 4, hq => cases hq; exact hKn4
    | 5, hq => cases hq; exact hKn5
    | 6, hq => cases hq; exact hKn6
    | 7, hq => cases hq; exact hKn7
    | 8, hq => cases hq; exact hKn8
    | 9, hq => cases hq; exact hKn9
    | 10, hq => cases hq; exact hKn10
    | k + 11, hq => simp [vwCl] at hq
  obtain ⟨cA, ha1, ha2⟩ := arr_of (ht _ w_1_42)
  obtain ⟨cZ, hz1, hz2⟩ := arr_of (ht _ w_5_69)
  have hK : KK (dC, dI) [(cA, .int), (cZ, .boolean)] s := by
    refine ⟨⟨hKc, fun k q h => ?_⟩, fun q hq => va_Nw.of rfl (hts _ (nwl_tbl q hq))⟩
    match k, h with
    | 0, h => cases h; exact ⟨ha2, ha1⟩
    | 1, h => cases h; exact ⟨hz2, hz1⟩
    | k + 2, h => simp at h
  have hS : va_S (fun q : Nat => s.heap.size ≤ q) s.heap s.heap [] := va_S.rf
  have hP : va_P (dC, dI) vwCl [] s.heap := fun k q h => by simp at h
  have hD : va_D (fun q : Nat => s.heap.size ≤ q) [] := ⟨fun i j p q h => by simp at h, fun k q h => by simp at h⟩
  have hl := lv_entry ([.ref b]) (n := 4) (Nat.le_of_ble_eq_true rfl)
  rw [lg_entry_eq]
  generalize (lg_sl ([.ref b]) ++ List.replicate (4 - (lg_sl ([.ref b])).length) Slot.unset).toArray = ls at hl ⊢
  have hl : lv_has ls 4 [(0, .ref b)] := hl
  refine va_new (ci := 9) (fs := [.null, .null, .null, .null, .null, .null, .null]) (C := RX9) (T := TX9) (N := 7) hx hb ht iX9 tyX9 tyX9_ok hown (ht _ w_1_15) (ht _ w_1_16) (ht _ w_1_1) hK.1 hP hD hS hA rfl (fun j hj => by rcases (show j = 0 ∨ j = 1 ∨ j = 2 ∨ j = 3 ∨ j = 4 ∨ j = 5 ∨ j = 6 by omega) with rfl | rfl | rfl | rfl | rfl | rfl | rfl <;> rfl) (Nat.le_of_ble_eq_true rfl) (Nat.le_of_ble_eq_true rfl) dL_law_0 (fun q0 H hP hD hS => ?_)
  have hP : va_P (dC, dI) vwCl [(q0, .inr (9, [.null, .null, .null, .null, .null, .null, .null]))] H := hP
  have hD : va_D (fun q : Nat => s.heap.size ≤ q) [(q0, .inr (9, [.null, .null, .null, .null, .null, .null, .null]))] := hD
  refine W.widen (k := 1) (n := 7) (Nat.le_of_ble_eq_true rfl) (Nat.le_of_ble_eq_true rfl) ?_
  refine lv_dup hx hb dL_law_3 rfl ?_
  refine nw_call (wc := [(q0, .inr (9, [.null, .null, .null, .null, .null, .null, .null]))]) (wr := []) (w1 := fun (u : List Nat) => [(q0, .inr (9, [.ref (u.getD 0 0), .ref (u.getD 14 0), .ref (u.getD 15 0), .ref (u.getD 32 0), .ref (u.getD 35 0), .ref (u.getD 44 0), .ref (u.getD 45 0)])), ((u.getD 0 0), .inr (1, [.ref (u.getD 1 0), .ref (u.getD 3 0), .ref (u.getD 5 0), .ref (u.getD 7 0), .ref (u.getD 9 0), .ref (u.getD 11 0), .int 0, .int 0, .int 0, .int 0])), ((u.getD 1 0), .inr (6, [.ref (u.getD 2 0)])), ((u.getD 2 0), .inl (cA, 12, .inl (fun _ => 0))), ((u.getD 3 0), .inr (6, [.ref (u.getD 4 0)])), ((u.getD 4 0), .inl (cA, 10, .inl (fun _ => 0))), ((u.getD 5 0), .inr (6, [.ref (u.getD 6 0)])), ((u.getD 6 0), .inl (cA, 10, .inl (fun _ => 0))), ((u.getD 7 0), .inr (6, [.ref (u.getD 8 0)])), ((u.getD 8 0), .inl (cA, 10, .inl (fun _ => 0))), ((u.getD 9 0), .inr (6, [.ref (u.getD 10 0)])), ((u.getD 10 0), .inl (cA, 10, .inl (fun _ => 0))), ((u.getD 11 0), .inr (7, [.ref (u.getD 12 0)])), ((u.getD 12 0), .inr (6, [.ref (u.getD 13 0)])), ((u.getD 13 0), .inl (cA, 35, .inl (fun _ => 0))), ((u.getD 14 0), .inr (8, [.ref (u.getD 0 0)])), ((u.getD 15 0), .inr (5, [.ref (u.getD 16 0), .int 0, .int ((-1 : Int32)), .ref (u.getD 30 0), .int 0, .int 0, .int 0])), ((u.getD 16 0), .inr (1, [.ref (u.getD 17 0), .ref (u.getD 19 0), .ref (u.getD 21 0), .ref (u.getD 23 0), .ref (u.getD 25 0), .ref (u.getD 27 0), .int 0, .int 0, .int 0, .int 0])), ((u.getD 17 0), .inr (6, [.ref (u.getD 18 0)])), ((u.getD 18 0), .inl (cA, 12, .inl (fun _ => 0))), ((u.getD 19 0), .inr (6, [.ref (u.getD 20 0)])), ((u.getD 20 0), .inl (cA, 10, .inl (fun _ => 0))), ((u.getD 21 0), .inr (6, [.ref (u.getD 22 0)])), ((u.getD 22 0), .inl (cA, 10, .inl (fun _ => 0))), ((u.getD 23 0), .inr (6, [.ref (u.getD 24 0)])), ((u.getD 24 0), .inl (cA, 10, .inl (fun _ => 0))), ((u.getD 25 0), .inr (6, [.ref (u.getD 26 0)])), ((u.getD 26 0), .inl (cA, 10, .inl (fun _ => 0))), ((u.getD 27 0), .inr (7, [.ref (u.getD 28 0)])), ((u.getD 28 0), .inr (6, [.ref (u.getD 29 0)])), ((u.getD 29 0), .inl (cA, 35, .inl (fun _ => 0))), ((u.getD 30 0), .inr (6, [.ref (u.getD 31 0)])), ((u.getD 31 0), .inl (cA, 240, .inl (fun _ => 0))), ((u.getD 32 0), .inr (4, [.ref (u.getD 33 0), .int 0, .int 0])), ((u.getD 33 0), .inr (6, [.ref (u.getD 34 0)])), ((u.getD 34 0), .inl (cA, 1050, .inl (fun _ => 0))), ((u.getD 35 0), .inr (3, [.ref (u.getD 36 0), .ref (u.getD 38 0), .ref (u.getD 40 0), .ref (u.getD 42 0), .int 0, .int 0])), ((u.getD 36 0), .inr (6, [.ref (u.getD 37 0)])), ((u.getD 37 0), .inl (cA, 6, .inl (fun _ => 0))), ((u.getD 38 0), .inr (6, [.ref (u.getD 39 0)])), ((u.getD 39 0), .inl (cA, 6, .inl (fun _ => 0))), ((u.getD 40 0), .inr (6, [.ref (u.getD 41 0)])), ((u.getD 41 0), .inl (cA, 20, .inl (fun _ => 0))), ((u.getD 42 0), .inr (6, [.ref (u.getD 43 0)])), ((u.getD 43 0), .inl (cA, 20, .inl (fun _ => 0))), ((u.getD 44 0), .inr (0, [.int 0])), ((u.getD 45 0), .inr (2, [.ref (u.getD 46 0), .ref (u.getD 48 0), .ref (u.getD 50 0)])), ((u.getD 46 0), .inr (6, [.ref (u.getD 47 0)])), ((u.getD 47 0), .inl (cA, 70, .inl (fun _ => 0))), ((u.getD 48 0), .inr (6, [.ref (u.getD 49 0)])), ((u.getD 49 0), .inl (cA, 2, .inl (fun _ => 0))), ((u.getD 50 0), .inr (6, [.ref (u.getD 51 0)])), ((u.getD 51 0), .inl (cA, 2, .inl (fun _ => 0)))]) [0] [] hP hD hS hA rfl rfl (by decide) (by decide) (va_runI (As := []) (rest := [.ref q0]) ⟨hx, hb, hml, hown, ht⟩ (kX9_init l dC dI cA cZ q0 H.size) (cwI 0 ht (gi_code w_1_19) rfl rfl rfl (ht _ w_1_1) (ht _ w_1_17) (ht _ w_1_18) rfl h_X9_init ⟨Nat.le_of_ble_eq_true rfl, Nat.le_of_ble_eq_true rfl⟩) ⟨pm_blind, pm_use (pc_sub (wc := [(q0, .inr (9, [.null, .null, .null, .null, .null, .null, .null]))]) hP [0] rfl) hK (hD.sub (ws' := [(q0, .inr (9, [.null, .null, .null, .null, .null, .null, .null]))]) [0] (by decide) rfl)⟩ rfl rfl hl.1 rfl (lv_room (Nat.le_of_ble_eq_true rfl)) dL_law_4 ⟨Nat.le_of_ble_eq_true rfl, Nat.le_of_ble_eq_true rfl⟩) (fun u H locs hP hD hS => ?_)
  have hP : va_P (dC, dI) vwCl [(q0, .inr (9, [.ref (u.getD 0 0), .ref (u.getD 14 0), .ref (u.getD 15 0), .ref (u.getD 32 0), .ref (u.getD 35 0), .ref (u.getD 44 0), .ref (u.getD 45 0)])), ((u.getD 0 0), .inr (1, [.ref (u.getD 1 0), .ref (u.getD 3 0), .ref (u.getD 5 0), .ref (u.getD 7 0), .ref (u.getD 9 0), .ref (u.getD 11 0), .int 0, .int 0, .int 0, .int 0])), ((u.getD 1 0), .inr (6, [.ref (u.getD 2 0)])), ((u.getD 2 0), .inl (cA, 12, .inl (fun _ => 0))), ((u.getD 3 0), .inr (6, [.ref (u.getD 4 0)])), ((u.getD 4 0), .inl (cA, 10, .inl (fun _ => 0))), ((u.getD 5 0), .inr (6, [.ref (u.getD 6 0)])), ((u.getD 6 0), .inl (cA, 10, .inl (fun _ => 0))), ((u.getD 7 0), .inr (6, [.ref (u.getD 8 0)])), ((u.getD 8 0), .inl (cA, 10, .inl (fun _ => 0))), ((u.getD 9 0), .inr (6, [.ref (u.getD 10 0)])), ((u.getD 10 0), .inl (cA, 10, .inl (fun _ => 0))), ((u.getD 11 0), .inr (7, [.ref (u.getD 12 0)])), ((u.getD 12 0), .inr (6, [.ref (u.getD 13 0)])), ((u.getD 13 0), .inl (cA, 35, .inl (fun _ => 0))), ((u.getD 14 0), .inr (8, [.ref (u.getD 0 0)])), ((u.getD 15 0), .inr (5, [.ref (u.getD 16 0), .int 0, .int ((-1 : Int32)), .ref (u.getD 30 0), .int 0, .int 0, .int 0])), ((u.getD 16 0), .inr (1, [.ref (u.getD 17 0), .ref (u.getD 19 0), .ref (u.getD 21 0), .ref (u.getD 23 0), .ref (u.getD 25 0), .ref (u.getD 27 0), .int 0, .int 0, .int 0, .int 0])), ((u.getD 17 0), .inr (6, [.ref (u.getD 18 0)])), ((u.getD 18 0), .inl (cA, 12, .inl (fun _ => 0))), ((u.getD 19 0), .inr (6, [.ref (u.getD 20 0)])), ((u.getD 20 0), .inl (cA, 10, .inl (fun _ => 0))), ((u.getD 21 0), .inr (6, [.ref (u.getD 22 0)])), ((u.getD 22 0), .inl (cA, 10, .inl (fun _ => 0))), ((u.getD 23 0), .inr (6, [.ref (u.getD 24 0)])), ((u.getD 24 0), .inl (cA, 10, .inl (fun _ => 0))), ((u.getD 25 0), .inr (6, [.ref (u.getD 26 0)])), ((u.getD 26 0), .inl (cA, 10, .inl (fun _ => 0))), ((u.getD 27 0), .inr (7, [.ref (u.getD 28 0)])), ((u.getD 28 0), .inr (6, [.ref (u.getD 29 0)])), ((u.getD 29 0), .inl (cA, 35, .inl (fun _ => 0))), ((u.getD 30 0), .inr (6, [.ref (u.getD 31 0)])), ((u.getD 31 0), .inl (cA, 240, .inl (fun _ => 0))), ((u.getD 32 0), .inr (4, [.ref (u.getD 33 0), .int 0, .int 0])), ((u.getD 33 0), .inr (6, [.ref (u.getD 34 0)])), ((u.getD 34 0), .inl (cA, 1050, .inl (fun _ => 0))), ((u.getD 35 0), .inr (3, [.ref (u.getD 36 0), .ref (u.getD 38 0), .ref (u.getD 40 0), .ref (u.getD 42 0), .int 0, .int 0])), ((u.getD 36 0), .inr (6, [.ref (u.getD 37 0)])), ((u.getD 37 0), .inl (cA, 6, .inl (fun _ => 0))), ((u.getD 38 0), .inr (6, [.ref (u.getD 39 0)])), ((u.getD 39 0), .inl (cA, 6, .inl (fun _ => 0))), ((u.getD 40 0), .inr (6, [.ref (u.getD 41 0)])), ((u.getD 41 0), .inl (cA, 20, .inl (fun _ => 0))), ((u.getD 42 0), .inr (6, [.ref (u.getD 43 0)])), ((u.getD 43 0), .inl (cA, 20, .inl (fun _ => 0))), ((u.getD 44 0), .inr (0, [.int 0])), ((u.getD 45 0), .inr (2, [.ref (u.getD 46 0), .ref (u.getD 48 0), .ref (u.getD 50 0)])), ((u.getD 46 0), .inr (6, [.ref (u.getD 47 0)])), ((u.getD 47 0), .inl (cA, 70, .inl (fun _ => 0))), ((u.getD 48 0), .inr (6, [.ref (u.getD 49 0)])), ((u.getD 49 0), .inl (cA, 2, .inl (fun _ => 0))), ((u.getD 50 0), .inr (6, [.ref (u.getD 51 0)])), ((u.getD 51 0), .inl (cA, 2, .inl (fun _ => 0)))] H := hP
  have hD : va_D (fun q : Nat => s.heap.size ≤ q) [(q0, .inr (9, [.ref (u.getD 0 0), .ref (u.getD 14 0), .ref (u.getD 15 0), .ref (u.getD 32 0), .ref (u.getD 35 0), .ref (u.getD 44 0), .ref (u.getD 45 0)])), ((u.getD 0 0), .inr (1, [.ref (u.getD 1 0), .ref (u.getD 3 0), .ref (u.getD 5 0), .ref (u.getD 7 0), .ref (u.getD 9 0), .ref (u.getD 11 0), .int 0, .int 0, .int 0, .int 0])), ((u.getD 1 0), .inr (6, [.ref (u.getD 2 0)])), ((u.getD 2 0), .inl (cA, 12, .inl (fun _ => 0))), ((u.getD 3 0), .inr (6, [.ref (u.getD 4 0)])), ((u.getD 4 0), .inl (cA, 10, .inl (fun _ => 0))), ((u.getD 5 0), .inr (6, [.ref (u.getD 6 0)])), ((u.getD 6 0), .inl (cA, 10, .inl (fun _ => 0))), ((u.getD 7 0), .inr (6, [.ref (u.getD 8 0)])), ((u.getD 8 0), .inl (cA, 10, .inl (fun _ => 0))), ((u.getD 9 0), .inr (6, [.ref (u.getD 10 0)])), ((u.getD 10 0), .inl (cA, 10, .inl (fun _ => 0))), ((u.getD 11 0), .inr (7, [.ref (u.getD 12 0)])), ((u.getD 12 0), .inr (6, [.ref (u.getD 13 0)])), ((u.getD 13 0), .inl (cA, 35, .inl (fun _ => 0))), ((u.getD 14 0), .inr (8, [.ref (u.getD 0 0)])), ((u.getD 15 0), .inr (5, [.ref (u.getD 16 0), .int 0, .int ((-1 : Int32)), .ref (u.getD 30 0), .int 0, .int 0, .int 0])), ((u.getD 16 0), .inr (1, [.ref (u.getD 17 0), .ref (u.getD 19 0), .ref (u.getD 21 0), .ref (u.getD 23 0), .ref (u.getD 25 0), .ref (u.getD 27 0), .int 0, .int 0, .int 0, .int 0])), ((u.getD 17 0), .inr (6, [.ref (u.getD 18 0)])), ((u.getD 18 0), .inl (cA, 12, .inl (fun _ => 0))), ((u.getD 19 0), .inr (6, [.ref (u.getD 20 0)])), ((u.getD 20 0), .inl (cA, 10, .inl (fun _ => 0))), ((u.getD 21 0), .inr (6, [.ref (u.getD 22 0)])), ((u.getD 22 0), .inl (cA, 10, .inl (fun _ => 0))), ((u.getD 23 0), .inr (6, [.ref (u.getD 24 0)])), ((u.getD 24 0), .inl (cA, 10, .inl (fun _ => 0))), ((u.getD 25 0), .inr (6, [.ref (u.getD 26 0)])), ((u.getD 26 0), .inl (cA, 10, .inl (fun _ => 0))), ((u.getD 27 0), .inr (7, [.ref (u.getD 28 0)])), ((u.getD 28 0), .inr (6, [.ref (u.getD 29 0)])), ((u.getD 29 0), .inl (cA, 35, .inl (fun _ => 0))), ((u.getD 30 0), .inr (6, [.ref (u.getD 31 0)])), ((u.getD 31 0), .inl (cA, 240, .inl (fun _ => 0))), ((u.getD 32 0), .inr (4, [.ref (u.getD 33 0), .int 0, .int 0])), ((u.getD 33 0), .inr (6, [.ref (u.getD 34 0)])), ((u.getD 34 0), .inl (cA, 1050, .inl (fun _ => 0))), ((u.getD 35 0), .inr (3, [.ref (u.getD 36 0), .ref (u.getD 38 0), .ref (u.getD 40 0), .ref (u.getD 42 0), .int 0, .int 0])), ((u.getD 36 0), .inr (6, [.ref (u.getD 37 0)])), ((u.getD 37 0), .inl (cA, 6, .inl (fun _ => 0))), ((u.getD 38 0), .inr (6, [.ref (u.getD 39 0)])), ((u.getD 39 0), .inl (cA, 6, .inl (fun _ => 0))), ((u.getD 40 0), .inr (6, [.ref (u.getD 41 0)])), ((u.getD 41 0), .inl (cA, 20, .inl (fun _ => 0))), ((u.getD 42 0), .inr (6, [.ref (u.getD 43 0)])), ((u.getD 43 0), .inl (cA, 20, .inl (fun _ => 0))), ((u.getD 44 0), .inr (0, [.int 0])), ((u.getD 45 0), .inr (2, [.ref (u.getD 46 0), .ref (u.getD 48 0), .ref (u.getD 50 0)])), ((u.getD 46 0), .inr (6, [.ref (u.getD 47 0)])), ((u.getD 47 0), .inl (cA, 70, .inl (fun _ => 0))), ((u.getD 48 0), .inr (6, [.ref (u.getD 49 0)])), ((u.getD 49 0), .inl (cA, 2, .inl (fun _ => 0))), ((u.getD 50 0), .inr (6, [.ref (u.getD 51 0)])), ((u.getD 51 0), .inl (cA, 2, .inl (fun _ => 0)))] := hD
  refine W.widen (k := 53) (n := 1661) (Nat.le_of_ble_eq_true rfl) (Nat.le_of_ble_eq_true rfl) ?_
  refine lv_astore_n (lv' := [(1, .ref q0), (0, .ref b)]) hx hb dL_law_7 rfl hl (by decide) rfl (fun ls hl => ?_)
  refine va_new (ci := 10) (fs := [.int 0, .null, .int 0, .int 0, .int 0, .int 0, .int 0, .int 0, .int 0, .int 0, .int 0, .int 0, .int 0, .int 0, .null, .null, .null, .int 0, .int 0, .int 0, .int 0, .null, .null, .null, .null, .null, .int 0, .null, .null, .null, .int 0, .int 0, .null, .int 0, .null]) (C := RX10) (T := TX10) (N := 35) hx hb ht iX10 tyX10 tyX10_ok hown (ht _ w_4_197) (ht _ w_4_198) (ht _ w_1_12) hK.1 hP hD hS hA rfl (fun j hj => by rcases (show j = 0 ∨ j = 1 ∨ j = 2 ∨ j = 3 ∨ j = 4 ∨ j = 5 ∨ j = 6 ∨ j = 7 ∨ j = 8 ∨ j = 9 ∨ j = 10 ∨ j = 11 ∨ j = 12 ∨ j = 13 ∨ j = 14 ∨ j = 15 ∨ j = 16 ∨ j = 17 ∨ j = 18 ∨ j = 19 ∨ j = 20 ∨ j = 21 ∨ j = 22 ∨ j = 23 ∨ j = 24 ∨ j = 25 ∨ j = 26 ∨ j = 27 ∨ j = 28 ∨ j = 29 ∨ j = 30 ∨ j = 31 ∨ j = 32 ∨ j = 33 ∨ j = 34 by omega) with rfl | rfl | rfl | rfl | rfl | rfl | rfl | rfl | rfl | rfl | rfl | rfl | rfl | rfl | rfl | rfl | rfl | rfl | rfl | rfl | rfl | rfl | rfl | rfl | rfl | rfl | rfl | rfl | rfl | rfl | rfl | rfl | rfl | rfl | rfl <;> rfl) (Nat.le_of_ble_eq_true rfl) (Nat.le_of_ble_eq_true rfl) dL_law_8 (fun q1 H hP hD hS => ?_)
  have hP : va_P (dC, dI) vwCl [(q0, .inr (9, [.ref (u.getD 0 0), .ref (u.getD 14 0), .ref (u.getD 15 0), .ref (u.getD 32 0), .ref (u.getD 35 0), .ref (u.getD 44 0), .ref (u.getD 45 0)])), ((u.getD 0 0), .inr (1, [.ref (u.getD 1 0), .ref (u.getD 3 0), .ref (u.getD 5 0), .ref (u.getD 7 0), .ref (u.getD 9 0), .ref (u.getD 11 0), .int 0, .int 0, .int 0, .int 0])), ((u.getD 1 0), .inr (6, [.ref (u.getD 2 0)])), ((u.getD 2 0), .inl (cA, 12, .inl (fun _ => 0))), ((u.getD 3 0), .inr (6, [.ref (u.getD 4 0)])), ((u.getD 4 0), .inl (cA, 10, .inl (fun _ => 0))), ((u.getD 5 0), .inr (6, [.ref (u.getD 6 0)])), ((u.getD 6 0), .inl (cA, 10, .inl (fun _ => 0))), ((u.getD 7 0), .inr (6, [.ref (u.getD 8 0)])), ((u.getD 8 0), .inl (cA, 10, .inl (fun _ => 0))), ((u.getD 9 0), .inr (6, [.ref (u.getD 10 0)])), ((u.getD 10 0), .inl (cA, 10, .inl (fun _ => 0))), ((u.getD 11 0), .inr (7, [.ref (u.getD 12 0)])), ((u.getD 12 0), .inr (6, [.ref (u.getD 13 0)])), ((u.getD 13 0), .inl (cA, 35, .inl (fun _ => 0))), ((u.getD 14 0), .inr (8, [.ref (u.getD 0 0)])), ((u.getD 15 0), .inr (5, [.ref (u.getD 16 0), .int 0, .int ((-1 : Int32)), .ref (u.getD 30 0), .int 0, .int 0, .int 0])), ((u.getD 16 0), .inr (1, [.ref (u.getD 17 0), .ref (u.getD 19 0), .ref (u.getD 21 0), .ref (u.getD 23 0), .ref (u.getD 25 0), .ref (u.getD 27 0), .int 0, .int 0, .int 0, .int 0])), ((u.getD 17 0), .inr (6, [.ref (u.getD 18 0)])), ((u.getD 18 0), .inl (cA, 12, .inl (fun _ => 0))), ((u.getD 19 0), .inr (6, [.ref (u.getD 20 0)])), ((u.getD 20 0), .inl (cA, 10, .inl (fun _ => 0))), ((u.getD 21 0), .inr (6, [.ref (u.getD 22 0)])), ((u.getD 22 0), .inl (cA, 10, .inl (fun _ => 0))), ((u.getD 23 0), .inr (6, [.ref (u.getD 24 0)])), ((u.getD 24 0), .inl (cA, 10, .inl (fun _ => 0))), ((u.getD 25 0), .inr (6, [.ref (u.getD 26 0)])), ((u.getD 26 0), .inl (cA, 10, .inl (fun _ => 0))), ((u.getD 27 0), .inr (7, [.ref (u.getD 28 0)])), ((u.getD 28 0), .inr (6, [.ref (u.getD 29 0)])), ((u.getD 29 0), .inl (cA, 35, .inl (fun _ => 0))), ((u.getD 30 0), .inr (6, [.ref (u.getD 31 0)])), ((u.getD 31 0), .inl (cA, 240, .inl (fun _ => 0))), ((u.getD 32 0), .inr (4, [.ref (u.getD 33 0), .int 0, .int 0])), ((u.getD 33 0), .inr (6, [.ref (u.getD 34 0)])), ((u.getD 34 0), .inl (cA, 1050, .inl (fun _ => 0))), ((u.getD 35 0), .inr (3, [.ref (u.getD 36 0), .ref (u.getD 38 0), .ref (u.getD 40 0), .ref (u.getD 42 0), .int 0, .int 0])), ((u.getD 36 0), .inr (6, [.ref (u.getD 37 0)])), ((u.getD 37 0), .inl (cA, 6, .inl (fun _ => 0))), ((u.getD 38 0), .inr (6, [.ref (u.getD 39 0)])), ((u.getD 39 0), .inl (cA, 6, .inl (fun _ => 0))), ((u.getD 40 0), .inr (6, [.ref (u.getD 41 0)])), ((u.getD 41 0), .inl (cA, 20, .inl (fun _ => 0))), ((u.getD 42 0), .inr (6, [.ref (u.getD 43 0)])), ((u.getD 43 0), .inl (cA, 20, .inl (fun _ => 0))), ((u.getD 44 0), .inr (0, [.int 0])), ((u.getD 45 0), .inr (2, [.ref (u.getD 46 0), .ref (u.getD 48 0), .ref (u.getD 50 0)])), ((u.getD 46 0), .inr (6, [.ref (u.getD 47 0)])), ((u.getD 47 0), .inl (cA, 70, .inl (fun _ => 0))), ((u.getD 48 0), .inr (6, [.ref (u.getD 49 0)])), ((u.getD 49 0), .inl (cA, 2, .inl (fun _ => 0))), ((u.getD 50 0), .inr (6, [.ref (u.getD 51 0)])), ((u.getD 51 0), .inl (cA, 2, .inl (fun _ => 0))), (q1, .inr (10, [.int 0, .null, .int 0, .int 0, .int 0, .int 0, .int 0, .int 0, .int 0, .int 0, .int 0, .int 0, .int 0, .int 0, .null, .null, .null, .int 0, .int 0, .int 0, .int 0, .null, .null, .null, .null, .null, .int 0, .null, .null, .null, .int 0, .int 0, .null, .int 0, .null]))] H := hP
  have hD : va_D (fun q : Nat => s.heap.size ≤ q) [(q0, .inr (9, [.ref (u.getD 0 0), .ref (u.getD 14 0), .ref (u.getD 15 0), .ref (u.getD 32 0), .ref (u.getD 35 0), .ref (u.getD 44 0), .ref (u.getD 45 0)])), ((u.getD 0 0), .inr (1, [.ref (u.getD 1 0), .ref (u.getD 3 0), .ref (u.getD 5 0), .ref (u.getD 7 0), .ref (u.getD 9 0), .ref (u.getD 11 0), .int 0, .int 0, .int 0, .int 0])), ((u.getD 1 0), .inr (6, [.ref (u.getD 2 0)])), ((u.getD 2 0), .inl (cA, 12, .inl (fun _ => 0))), ((u.getD 3 0), .inr (6, [.ref (u.getD 4 0)])), ((u.getD 4 0), .inl (cA, 10, .inl (fun _ => 0))), ((u.getD 5 0), .inr (6, [.ref (u.getD 6 0)])), ((u.getD 6 0), .inl (cA, 10, .inl (fun _ => 0))), ((u.getD 7 0), .inr (6, [.ref (u.getD 8 0)])), ((u.getD 8 0), .inl (cA, 10, .inl (fun _ => 0))), ((u.getD 9 0), .inr (6, [.ref (u.getD 10 0)])), ((u.getD 10 0), .inl (cA, 10, .inl (fun _ => 0))), ((u.getD 11 0), .inr (7, [.ref (u.getD 12 0)])), ((u.getD 12 0), .inr (6, [.ref (u.getD 13 0)])), ((u.getD 13 0), .inl (cA, 35, .inl (fun _ => 0))), ((u.getD 14 0), .inr (8, [.ref (u.getD 0 0)])), ((u.getD 15 0), .inr (5, [.ref (u.getD 16 0), .int 0, .int ((-1 : Int32)), .ref (u.getD 30 0), .int 0, .int 0, .int 0])), ((u.getD 16 0), .inr (1, [.ref (u.getD 17 0), .ref (u.getD 19 0), .ref (u.getD 21 0), .ref (u.getD 23 0), .ref (u.getD 25 0), .ref (u.getD 27 0), .int 0, .int 0, .int 0, .int 0])), ((u.getD 17 0), .inr (6, [.ref (u.getD 18 0)])), ((u.getD 18 0), .inl (cA, 12, .inl (fun _ => 0))), ((u.getD 19 0), .inr (6, [.ref (u.getD 20 0)])), ((u.getD 20 0), .inl (cA, 10, .inl (fun _ => 0))), ((u.getD 21 0), .inr (6, [.ref (u.getD 22 0)])), ((u.getD 22 0), .inl (cA, 10, .inl (fun _ => 0))), ((u.getD 23 0), .inr (6, [.ref (u.getD 24 0)])), ((u.getD 24 0), .inl (cA, 10, .inl (fun _ => 0))), ((u.getD 25 0), .inr (6, [.ref (u.getD 26 0)])), ((u.getD 26 0), .inl (cA, 10, .inl (fun _ => 0))), ((u.getD 27 0), .inr (7, [.ref (u.getD 28 0)])), ((u.getD 28 0), .inr (6, [.ref (u.getD 29 0)])), ((u.getD 29 0), .inl (cA, 35, .inl (fun _ => 0))), ((u.getD 30 0), .inr (6, [.ref (u.getD 31 0)])), ((u.getD 31 0), .inl (cA, 240, .inl (fun _ => 0))), ((u.getD 32 0), .inr (4, [.ref (u.getD 33 0), .int 0, .int 0])), ((u.getD 33 0), .inr (6, [.ref (u.getD 34 0)])), ((u.getD 34 0), .inl (cA, 1050, .inl (fun _ => 0))), ((u.getD 35 0), .inr (3, [.ref (u.getD 36 0), .ref (u.getD 38 0), .ref (u.getD 40 0), .ref (u.getD 42 0), .int 0, .int 0])), ((u.getD 36 0), .inr (6, [.ref (u.getD 37 0)])), ((u.getD 37 0), .inl (cA, 6, .inl (fun _ => 0))), ((u.getD 38 0), .inr (6, [.ref (u.getD 39 0)])), ((u.getD 39 0), .inl (cA, 6, .inl (fun _ => 0))), ((u.getD 40 0), .inr (6, [.ref (u.getD 41 0)])), ((u.getD 41 0), .inl (cA, 20, .inl (fun _ => 0))), ((u.getD 42 0), .inr (6, [.ref (u.getD 43 0)])), ((u.getD 43 0), .inl (cA, 20, .inl (fun _ => 0))), ((u.getD 44 0), .inr (0, [.int 0])), ((u.getD 45 0), .inr (2, [.ref (u.getD 46 0), .ref (u.getD 48 0), .ref (u.getD 50 0)])), ((u.getD 46 0), .inr (6, [.ref (u.getD 47 0)])), ((u.getD 47 0), .inl (cA, 70, .inl (fun _ => 0))), ((u.getD 48 0), .inr (6, [.ref (u.getD 49 0)])), ((u.getD 49 0), .inl (cA, 2, .inl (fun _ => 0))), ((u.getD 50 0), .inr (6, [.ref (u.getD 51 0)])), ((u.getD 51 0), .inl (cA, 2, .inl (fun _ => 0))), (q1, .inr (10, [.int 0, .null, .int 0, .int 0, .int 0, .int 0, .int 0, .int 0, .int 0, .int 0, .int 0, .int 0, .int 0, .int 0, .null, .null, .null, .int 0, .int 0, .int 0, .int 0, .null, .null, .null, .null, .null, .int 0, .null, .null, .null, .int 0, .int 0, .null, .int 0, .null]))] := hD
  refine W.widen (k := 54) (n := 1696) (Nat.le_of_ble_eq_true rfl) (Nat.le_of_ble_eq_true rfl) ?_
  refine lv_dup hx hb dL_law_11 rfl ?_
  refine nw_call (wc := [(q1, .inr (10, [.int 0, .null, .int 0, .int 0, .int 0, .int 0, .int 0, .int 0, .int 0, .int 0, .int 0, .int 0, .int 0, .int 0, .null, .null, .null, .int 0, .int 0, .int 0, .int 0, .null, .null, .null, .null, .null, .int 0, .null, .null, .null, .int 0, .int 0, .null, .int 0, .null]))]) (wr := [(q0, .inr (9, [.ref (u.getD 0 0), .ref (u.getD 14 0), .ref (u.getD 15 0), .ref (u.getD 32 0), .ref (u.getD 35 0), .ref (u.getD 44 0), .ref (u.getD 45 0)])), ((u.getD 0 0), .inr (1, [.ref (u.getD 1 0), .ref (u.getD 3 0), .ref (u.getD 5 0), .ref (u.getD 7 0), .ref (u.getD 9 0), .ref (u.getD 11 0), .int 0, .int 0, .int 0, .int 0])), ((u.getD 1 0), .inr (6, [.ref (u.getD 2 0)])), ((u.getD 2 0), .inl (cA, 12, .inl (fun _ => 0))), ((u.getD 3 0), .inr (6, [.ref (u.getD 4 0)])), ((u.getD 4 0), .inl (cA, 10, .inl (fun _ => 0))), ((u.getD 5 0), .inr (6, [.ref (u.getD 6 0)])), ((u.getD 6 0), .inl (cA, 10, .inl (fun _ => 0))), ((u.getD 7 0), .inr (6, [.ref (u.getD 8 0)])), ((u.getD 8 0), .inl (cA, 10, .inl (fun _ => 0))), ((u.getD 9 0), .inr (6, [.ref (u.getD 10 0)])), ((u.getD 10 0), .inl (cA, 10, .inl (fun _ => 0))), ((u.getD 11 0), .inr (7, [.ref (u.getD 12 0)])), ((u.getD 12 0), .inr (6, [.ref (u.getD 13 0)])), ((u.getD 13 0), .inl (cA, 35, .inl (fun _ => 0))), ((u.getD 14 0), .inr (8, [.ref (u.getD 0 0)])), ((u.getD 15 0), .inr (5, [.ref (u.getD 16 0), .int 0, .int ((-1 : Int32)), .ref (u.getD 30 0), .int 0, .int 0, .int 0])), ((u.getD 16 0), .inr (1, [.ref (u.getD 17 0), .ref (u.getD 19 0), .ref (u.getD 21 0), .ref (u.getD 23 0), .ref (u.getD 25 0), .ref (u.getD 27 0), .int 0, .int 0, .int 0, .int 0])), ((u.getD 17 0), .inr (6, [.ref (u.getD 18 0)])), ((u.getD 18 0), .inl (cA, 12, .inl (fun _ => 0))), ((u.getD 19 0), .inr (6, [.ref (u.getD 20 0)])), ((u.getD 20 0), .inl (cA, 10, .inl (fun _ => 0))), ((u.getD 21 0), .inr (6, [.ref (u.getD 22 0)])), ((u.getD 22 0), .inl (cA, 10, .inl (fun _ => 0))), ((u.getD 23 0), .inr (6, [.ref (u.getD 24 0)])), ((u.getD 24 0), .inl (cA, 10, .inl (fun _ => 0))), ((u.getD 25 0), .inr (6, [.ref (u.getD 26 0)])), ((u.getD 26 0), .inl (cA, 10, .inl (fun _ => 0))), ((u.getD 27 0), .inr (7, [.ref (u.getD 28 0)])), ((u.getD 28 0), .inr (6, [.ref (u.getD 29 0)])), ((u.getD 29 0), .inl (cA, 35, .inl (fun _ => 0))), ((u.getD 30 0), .inr (6, [.ref (u.getD 31 0)])), ((u.getD 31 0), .inl (cA, 240, .inl (fun _ => 0))), ((u.getD 32 0), .inr (4, [.ref (u.getD 33 0), .int 0, .int 0])), ((u.getD 33 0), .inr (6, [.ref (u.getD 34 0)])), ((u.getD 34 0), .inl (cA, 1050, .inl (fun _ => 0))), ((u.getD 35 0), .inr (3, [.ref (u.getD 36 0), .ref (u.getD 38 0), .ref (u.getD 40 0), .ref (u.getD 42 0), .int 0, .int 0])), ((u.getD 36 0), .inr (6, [.ref (u.getD 37 0)])), ((u.getD 37 0), .inl (cA, 6, .inl (fun _ => 0))), ((u.getD 38 0), .inr (6, [.ref (u.getD 39 0)])), ((u.getD 39 0), .inl (cA, 6, .inl (fun _ => 0))), ((u.getD 40 0), .inr (6, [.ref (u.getD 41 0)])), ((u.getD 41 0), .inl (cA, 20, .inl (fun _ => 0))), ((u.getD 42 0), .inr (6, [.ref (u.getD 43 0)])), ((u.getD 43 0), .inl (cA, 20, .inl (fun _ => 0))), ((u.getD 44 0), .inr (0, [.int 0])), ((u.getD 45 0), .inr (2, [.ref (u.getD 46 0), .ref (u.getD 48 0), .ref (u.getD 50 0)])), ((u.getD 46 0), .inr (6, [.ref (u.getD 47 0)])), ((u.getD 47 0), .inl (cA, 70, .inl (fun _ => 0))), ((u.getD 48 0), .inr (6, [.ref (u.getD 49 0)])), ((u.getD 49 0), .inl (cA, 2, .inl (fun _ => 0))), ((u.getD 50 0), .inr (6, [.ref (u.getD 51 0)])), ((u.getD 51 0), .inl (cA, 2, .inl (fun _ => 0)))]) (w1 := fun (v : List Nat) => [(q1, .inr (10, [.int 0, .ref (v.getD 0 0), .int 0, .int 0, .int 0, .int 0, .int 0, .int ((-1 : Int32)), .int 0, .int 0, .int 0, .int 0, .int 0, .int 0, .ref (v.getD 1 0), .ref (v.getD 2 0), .ref (v.getD 3 0), .int 0, .int 0, .int 0, .int 0, .ref (v.getD 4 0), .ref (v.getD 5 0), .ref (v.getD 6 0), .ref (v.getD 7 0), .ref (v.getD 8 0), .int 0, .ref (v.getD 9 0), .ref (v.getD 10 0), .ref (v.getD 11 0), .int 0, .int 0, .ref (v.getD 12 0), .int 0, .ref (v.getD 13 0)])), ((v.getD 0 0), .inl (cA, 240, .inl (fun _ => 0))), ((v.getD 1 0), .inl (cA, 12, .inl (fun _ => 0))), ((v.getD 2 0), .inl (cA, 40, .inl (fun _ => 0))), ((v.getD 3 0), .inl (cA, 12, .inl (fun _ => 0))), ((v.getD 4 0), .inl (cA, 12, .inl (fun _ => 0))), ((v.getD 5 0), .inl (cA, 40, .inl (fun _ => 0))), ((v.getD 6 0), .inl (cA, 35, .inl (fun _ => 0))), ((v.getD 7 0), .inl (cA, 35, .inl (fun _ => 0))), ((v.getD 8 0), .inl (cA, 1050, .inl (fun _ => 0))), ((v.getD 9 0), .inl (cA, 70, .inl (fun _ => 0))), ((v.getD 10 0), .inl (cA, 2, .inl (fun _ => 0))), ((v.getD 11 0), .inl (cZ, 2, .inl (fun _ => 0))), ((v.getD 12 0), .inl (cA, 12, .inl (fun _ => 0))), ((v.getD 13 0), .inl (cA, 40, .inl (fun _ => 0)))]) [53] [0, 1, 2, 3, 4, 5, 6, 7, 8, 9, 10, 11, 12, 13, 14, 15, 16, 17, 18, 19, 20, 21, 22, 23, 24, 25, 26, 27, 28, 29, 30, 31, 32, 33, 34, 35, 36, 37, 38, 39, 40, 41, 42, 43, 44, 45, 46, 47, 48, 49, 50, 51, 52] hP hD hS hA rfl rfl (by decide) (by decide) (va_runI (As := []) (rest := [.ref q1]) ⟨hx, hb, hml, hown, ht⟩ (kX10_init l dC dI cA cZ q1 H.size) (cwI 0 ht (gi_code w_4_201) rfl rfl rfl (ht _ w_1_12) (ht _ w_4_199) (ht _ w_4_200) rfl h_X10_init ⟨Nat.le_of_ble_eq_true rfl, Nat.le_of_ble_eq_true rfl⟩) ⟨pm_blind, pm_use (pc_sub (wc := [(q1, .inr (10, [.int 0, .null, .int 0, .int 0, .int 0, .int 0, .int 0, .int 0, .int 0, .int 0, .int 0, .int 0, .int 0, .int 0, .null, .null, .null, .int 0, .int 0, .int 0, .int 0, .null, .null, .null, .null, .null, .int 0, .null, .null, .null, .int 0, .int 0, .null, .int 0, .null]))]) hP [53] rfl) hK (hD.sub (ws' := [(q1, .inr (10, [.int 0, .null, .int 0, .int 0, .int 0, .int 0, .int 0, .int 0, .int 0, .int 0, .int 0, .int 0, .int 0, .int 0, .null, .null, .null, .int 0, .int 0, .int 0, .int 0, .null, .null, .null, .null, .null, .int 0, .null, .null, .null, .int 0, .int 0, .null, .int 0, .null]))]) [53] (by decide) rfl)⟩ rfl rfl hl.1 rfl (lv_room (Nat.le_of_ble_eq_true rfl)) dL_law_12 ⟨Nat.le_of_ble_eq_true rfl, Nat.le_of_ble_eq_true rfl⟩) (fun v H locs hP hD hS => ?_)
  have hP : va_P (dC, dI) vwCl [(q0, .inr (9, [.ref (u.getD 0 0), .ref (u.getD 14 0), .ref (u.getD 15 0), .ref (u.getD 32 0), .ref (u.getD 35 0), .ref (u.getD 44 0), .ref (u.getD 45 0)])), ((u.getD 0 0), .inr (1, [.ref (u.getD 1 0), .ref (u.getD 3 0), .ref (u.getD 5 0), .ref (u.getD 7 0), .ref (u.getD 9 0), .ref (u.getD 11 0), .int 0, .int 0, .int 0, .int 0])), ((u.getD 1 0), .inr (6, [.ref (u.getD 2 0)])), ((u.getD 2 0), .inl (cA, 12, .inl (fun _ => 0))), ((u.getD 3 0), .inr (6, [.ref (u.getD 4 0)])), ((u.getD 4 0), .inl (cA, 10, .inl (fun _ => 0))), ((u.getD 5 0), .inr (6, [.ref (u.getD 6 0)])), ((u.getD 6 0), .inl (cA, 10, .inl (fun _ => 0))), ((u.getD 7 0), .inr (6, [.ref (u.getD 8 0)])), ((u.getD 8 0), .inl (cA, 10, .inl (fun _ => 0))), ((u.getD 9 0), .inr (6, [.ref (u.getD 10 0)])), ((u.getD 10 0), .inl (cA, 10, .inl (fun _ => 0))), ((u.getD 11 0), .inr (7, [.ref (u.getD 12 0)])), ((u.getD 12 0), .inr (6, [.ref (u.getD 13 0)])), ((u.getD 13 0), .inl (cA, 35, .inl (fun _ => 0))), ((u.getD 14 0), .inr (8, [.ref (u.getD 0 0)])), ((u.getD 15 0), .inr (5, [.ref (u.getD 16 0), .int 0, .int ((-1 : Int32)), .ref (u.getD 30 0), .int 0, .int 0, .int 0])), ((u.getD 16 0), .inr (1, [.ref (u.getD 17 0), .ref (u.getD 19 0), .ref (u.getD 21 0), .ref (u.getD 23 0), .ref (u.getD 25 0), .ref (u.getD 27 0), .int 0, .int 0, .int 0, .int 0])), ((u.getD 17 0), .inr (6, [.ref (u.getD 18 0)])), ((u.getD 18 0), .inl (cA, 12, .inl (fun _ => 0))), ((u.getD 19 0), .inr (6, [.ref (u.getD 20 0)])), ((u.getD 20 0), .inl (cA, 10, .inl (fun _ => 0))), ((u.getD 21 0), .inr (6, [.ref (u.getD 22 0)])), ((u.getD 22 0), .inl (cA, 10, .inl (fun _ => 0))), ((u.getD 23 0), .inr (6, [.ref (u.getD 24 0)])), ((u.getD 24 0), .inl (cA, 10, .inl (fun _ => 0))), ((u.getD 25 0), .inr (6, [.ref (u.getD 26 0)])), ((u.getD 26 0), .inl (cA, 10, .inl (fun _ => 0))), ((u.getD 27 0), .inr (7, [.ref (u.getD 28 0)])), ((u.getD 28 0), .inr (6, [.ref (u.getD 29 0)])), ((u.getD 29 0), .inl (cA, 35, .inl (fun _ => 0))), ((u.getD 30 0), .inr (6, [.ref (u.getD 31 0)])), ((u.getD 31 0), .inl (cA, 240, .inl (fun _ => 0))), ((u.getD 32 0), .inr (4, [.ref (u.getD 33 0), .int 0, .int 0])), ((u.getD 33 0), .inr (6, [.ref (u.getD 34 0)])), ((u.getD 34 0), .inl (cA, 1050, .inl (fun _ => 0))), ((u.getD 35 0), .inr (3, [.ref (u.getD 36 0), .ref (u.getD 38 0), .ref (u.getD 40 0), .ref (u.getD 42 0), .int 0, .int 0])), ((u.getD 36 0), .inr (6, [.ref (u.getD 37 0)])), ((u.getD 37 0), .inl (cA, 6, .inl (fun _ => 0))), ((u.getD 38 0), .inr (6, [.ref (u.getD 39 0)])), ((u.getD 39 0), .inl (cA, 6, .inl (fun _ => 0))), ((u.getD 40 0), .inr (6, [.ref (u.getD 41 0)])), ((u.getD 41 0), .inl (cA, 20, .inl (fun _ => 0))), ((u.getD 42 0), .inr (6, [.ref (u.getD 43 0)])), ((u.getD 43 0), .inl (cA, 20, .inl (fun _ => 0))), ((u.getD 44 0), .inr (0, [.int 0])), ((u.getD 45 0), .inr (2, [.ref (u.getD 46 0), .ref (u.getD 48 0), .ref (u.getD 50 0)])), ((u.getD 46 0), .inr (6, [.ref (u.getD 47 0)])), ((u.getD 47 0), .inl (cA, 70, .inl (fun _ => 0))), ((u.getD 48 0), .inr (6, [.ref (u.getD 49 0)])), ((u.getD 49 0), .inl (cA, 2, .inl (fun _ => 0))), ((u.getD 50 0), .inr (6, [.ref (u.getD 51 0)])), ((u.getD 51 0), .inl (cA, 2, .inl (fun _ => 0))), (q1, .inr (10, [.int 0, .ref (v.getD 0 0), .int 0, .int 0, .int 0, .int 0, .int 0, .int ((-1 : Int32)), .int 0, .int 0, .int 0, .int 0, .int 0, .int 0, .ref (v.getD 1 0), .ref (v.getD 2 0), .ref (v.getD 3 0), .int 0, .int 0, .int 0, .int 0, .ref (v.getD 4 0), .ref (v.getD 5 0), .ref (v.getD 6 0), .ref (v.getD 7 0), .ref (v.getD 8 0), .int 0, .ref (v.getD 9 0), .ref (v.getD 10 0), .ref (v.getD 11 0), .int 0, .int 0, .ref (v.getD 12 0), .int 0, .ref (v.getD 13 0)])), ((v.getD 0 0), .inl (cA, 240, .inl (fun _ => 0))), ((v.getD 1 0), .inl (cA, 12, .inl (fun _ => 0))), ((v.getD 2 0), .inl (cA, 40, .inl (fun _ => 0))), ((v.getD 3 0), .inl (cA, 12, .inl (fun _ => 0))), ((v.getD 4 0), .inl (cA, 12, .inl (fun _ => 0))), ((v.getD 5 0), .inl (cA, 40, .inl (fun _ => 0))), ((v.getD 6 0), .inl (cA, 35, .inl (fun _ => 0))), ((v.getD 7 0), .inl (cA, 35, .inl (fun _ => 0))), ((v.getD 8 0), .inl (cA, 1050, .inl (fun _ => 0))), ((v.getD 9 0), .inl (cA, 70, .inl (fun _ => 0))), ((v.getD 10 0), .inl (cA, 2, .inl (fun _ => 0))), ((v.getD 11 0), .inl (cZ, 2, .inl (fun _ => 0))), ((v.getD 12 0), .inl (cA, 12, .inl (fun _ => 0))), ((v.getD 13 0), .inl (cA, 40, .inl (fun _ => 0)))] H := hP
  have hD : va_D (fun q : Nat => s.heap.size ≤ q) [(q0, .inr (9, [.ref (u.getD 0 0), .ref (u.getD 14 0), .ref (u.getD 15 0), .ref (u.getD 32 0), .ref (u.getD 35 0), .ref (u.getD 44 0), .ref (u.getD 45 0)])), ((u.getD 0 0), .inr (1, [.ref (u.getD 1 0), .ref (u.getD 3 0), .ref (u.getD 5 0), .ref (u.getD 7 0), .ref (u.getD 9 0), .ref (u.getD 11 0), .int 0, .int 0, .int 0, .int 0])), ((u.getD 1 0), .inr (6, [.ref (u.getD 2 0)])), ((u.getD 2 0), .inl (cA, 12, .inl (fun _ => 0))), ((u.getD 3 0), .inr (6, [.ref (u.getD 4 0)])), ((u.getD 4 0), .inl (cA, 10, .inl (fun _ => 0))), ((u.getD 5 0), .inr (6, [.ref (u.getD 6 0)])), ((u.getD 6 0), .inl (cA, 10, .inl (fun _ => 0))), ((u.getD 7 0), .inr (6, [.ref (u.getD 8 0)])), ((u.getD 8 0), .inl (cA, 10, .inl (fun _ => 0))), ((u.getD 9 0), .inr (6, [.ref (u.getD 10 0)])), ((u.getD 10 0), .inl (cA, 10, .inl (fun _ => 0))), ((u.getD 11 0), .inr (7, [.ref (u.getD 12 0)])), ((u.getD 12 0), .inr (6, [.ref (u.getD 13 0)])), ((u.getD 13 0), .inl (cA, 35, .inl (fun _ => 0))), ((u.getD 14 0), .inr (8, [.ref (u.getD 0 0)])), ((u.getD 15 0), .inr (5, [.ref (u.getD 16 0), .int 0, .int ((-1 : Int32)), .ref (u.getD 30 0), .int 0, .int 0, .int 0])), ((u.getD 16 0), .inr (1, [.ref (u.getD 17 0), .ref (u.getD 19 0), .ref (u.getD 21 0), .ref (u.getD 23 0), .ref (u.getD 25 0), .ref (u.getD 27 0), .int 0, .int 0, .int 0, .int 0])), ((u.getD 17 0), .inr (6, [.ref (u.getD 18 0)])), ((u.getD 18 0), .inl (cA, 12, .inl (fun _ => 0))), ((u.getD 19 0), .inr (6, [.ref (u.getD 20 0)])), ((u.getD 20 0), .inl (cA, 10, .inl (fun _ => 0))), ((u.getD 21 0), .inr (6, [.ref (u.getD 22 0)])), ((u.getD 22 0), .inl (cA, 10, .inl (fun _ => 0))), ((u.getD 23 0), .inr (6, [.ref (u.getD 24 0)])), ((u.getD 24 0), .inl (cA, 10, .inl (fun _ => 0))), ((u.getD 25 0), .inr (6, [.ref (u.getD 26 0)])), ((u.getD 26 0), .inl (cA, 10, .inl (fun _ => 0))), ((u.getD 27 0), .inr (7, [.ref (u.getD 28 0)])), ((u.getD 28 0), .inr (6, [.ref (u.getD 29 0)])), ((u.getD 29 0), .inl (cA, 35, .inl (fun _ => 0))), ((u.getD 30 0), .inr (6, [.ref (u.getD 31 0)])), ((u.getD 31 0), .inl (cA, 240, .inl (fun _ => 0))), ((u.getD 32 0), .inr (4, [.ref (u.getD 33 0), .int 0, .int 0])), ((u.getD 33 0), .inr (6, [.ref (u.getD 34 0)])), ((u.getD 34 0), .inl (cA, 1050, .inl (fun _ => 0))), ((u.getD 35 0), .inr (3, [.ref (u.getD 36 0), .ref (u.getD 38 0), .ref (u.getD 40 0), .ref (u.getD 42 0), .int 0, .int 0])), ((u.getD 36 0), .inr (6, [.ref (u.getD 37 0)])), ((u.getD 37 0), .inl (cA, 6, .inl (fun _ => 0))), ((u.getD 38 0), .inr (6, [.ref (u.getD 39 0)])), ((u.getD 39 0), .inl (cA, 6, .inl (fun _ => 0))), ((u.getD 40 0), .inr (6, [.ref (u.getD 41 0)])), ((u.getD 41 0), .inl (cA, 20, .inl (fun _ => 0))), ((u.getD 42 0), .inr (6, [.ref (u.getD 43 0)])), ((u.getD 43 0), .inl (cA, 20, .inl (fun _ => 0))), ((u.getD 44 0), .inr (0, [.int 0])), ((u.getD 45 0), .inr (2, [.ref (u.getD 46 0), .ref (u.getD 48 0), .ref (u.getD 50 0)])), ((u.getD 46 0), .inr (6, [.ref (u.getD 47 0)])), ((u.getD 47 0), .inl (cA, 70, .inl (fun _ => 0))), ((u.getD 48 0), .inr (6, [.ref (u.getD 49 0)])), ((u.getD 49 0), .inl (cA, 2, .inl (fun _ => 0))), ((u.getD 50 0), .inr (6, [.ref (u.getD 51 0)])), ((u.getD 51 0), .inl (cA, 2, .inl (fun _ => 0))), (q1, .inr (10, [.int 0, .ref (v.getD 0 0), .int 0, .int 0, .int 0, .int 0, .int 0, .int ((-1 : Int32)), .int 0, .int 0, .int 0, .int 0, .int 0, .int 0, .ref (v.getD 1 0), .ref (v.getD 2 0), .ref (v.getD 3 0), .int 0, .int 0, .int 0, .int 0, .ref (v.getD 4 0), .ref (v.getD 5 0), .ref (v.getD 6 0), .ref (v.getD 7 0), .ref (v.getD 8 0), .int 0, .ref (v.getD 9 0), .ref (v.getD 10 0), .ref (v.getD 11 0), .int 0, .int 0, .ref (v.getD 12 0), .int 0, .ref (v.getD 13 0)])), ((v.getD 0 0), .inl (cA, 240, .inl (fun _ => 0))), ((v.getD 1 0), .inl (cA, 12, .inl (fun _ => 0))), ((v.getD 2 0), .inl (cA, 40, .inl (fun _ => 0))), ((v.getD 3 0), .inl (cA, 12, .inl (fun _ => 0))), ((v.getD 4 0), .inl (cA, 12, .inl (fun _ => 0))), ((v.getD 5 0), .inl (cA, 40, .inl (fun _ => 0))), ((v.getD 6 0), .inl (cA, 35, .inl (fun _ => 0))), ((v.getD 7 0), .inl (cA, 35, .inl (fun _ => 0))), ((v.getD 8 0), .inl (cA, 1050, .inl (fun _ => 0))), ((v.getD 9 0), .inl (cA, 70, .inl (fun _ => 0))), ((v.getD 10 0), .inl (cA, 2, .inl (fun _ => 0))), ((v.getD 11 0), .inl (cZ, 2, .inl (fun _ => 0))), ((v.getD 12 0), .inl (cA, 12, .inl (fun _ => 0))), ((v.getD 13 0), .inl (cA, 40, .inl (fun _ => 0)))] := hD
  refine W.widen (k := 68) (n := 3298) (Nat.le_of_ble_eq_true rfl) (Nat.le_of_ble_eq_true rfl) ?_
  refine lv_astore_n (lv' := [(2, .ref q1), (1, .ref q0), (0, .ref b)]) hx hb dL_law_15 rfl hl (by decide) rfl (fun ls hl => ?_)
  refine lv_iconst (v := nI 0) hx hb dL_law_16 (by decide) ?_
  refine lv_istore_n (lv' := [(3, .int (nI 0)), (2, .ref q1), (1, .ref q0), (0, .ref b)]) hx hb dL_law_17 rfl hl (by decide) rfl (fun ls hl => ?_)
  refine W.widen (k := 600000) (n := 7302250) (Nat.le_of_ble_eq_true rfl) (Nat.le_of_ble_eq_true rfl) ?_
  exact law_loop hL C0 hK (L + 1) 0 (by omega) (by omega) q0 u q1 v cI0 cR0 mN0 mI0 cR0 rel0 H locs hP hD hS ls (lv_sub hl [3, 2, 1, 0] rfl)
set_option maxHeartbeats 4000000 in
theorem lw_walk (l : Launch) (hflags : l.flags = flags0) (b : Addr) (xs : List Int32) : MetFree l x (headSpec (Jvm.Cond.code x code maxLocals ret :: tables_1) room_1) (lw_P b xs) (fun _ _ _ _ _ => True) lw_Q := by
  refine MetFree.of_bodyS (code := code) (maxLocals := maxLocals) (ret := ret) (by decide) ?_ ?_
  · intro args s m h hn
    obtain ⟨meth, c, h1, h2, h3, h4, h5, h6, -, -⟩ := Cond.code_spec hn (atoms_spec (ws := Jvm.Cond.code x code maxLocals ret :: tables_1) h _ List.mem_cons_self)
    exact ⟨meth, c, h1, h2, h3, h4, h5, h6⟩
  · intro p e s m args below meth c s₁ B hml0 hP _
    obtain ⟨rfl, hx, hbd, hgv⟩ := hP
    obtain ⟨scr, harrAt, hlist, hof, hsmall⟩ := hx
    obtain ⟨hcb, hkn, -, -⟩ := State.arrayAt?_spec harrAt
    have hown : s.vm.findClass R_law = some m.cls := findClass_of_methodNamed B.named
    have hts0 : ∀ c ∈ (Jvm.Cond.code x code maxLocals ret :: tables_1), c.before #[Value.ref b] s = true := atoms_spec (ws := Jvm.Cond.code x code maxLocals ret :: tables_1) B.pre
    have hts : ∀ w ∈ lw_tbl, w.before #[Value.ref b] s = true := k2_hts_sels lw_privs (fun w hw => hts0 w (List.mem_cons_of_mem _ hw)) lw_privs_ok
    have hml : c.maxLocals = 4 := B.maxLocals_eq (hts0 _ List.mem_cons_self)
    have X₀ : Stand p l e room_1 s m #[Value.ref b] below meth c s₁ [] 0 0 := Stand.of_body B
    have hh0 : s₁.heap = s.heap := by rw [B.state]; rfl
    have hsz : scr.slots.size = xs.length := by rw [← Array.length_toList, hlist, List.length_map]
    have hval : ∀ j : Nat, j < xs.length → scr.slots[j]? = some (.int (xs.getD j 0)) := fun j hj => by
      rw [← Array.getElem?_toList, hlist]
      simp [hj]
    have hbl : b < s.heap.size := (Array.getElem?_eq_some_iff.mp hcb).1
    have hX : va_X b xs.length (fun j => xs.getD j 0) s s.heap := ⟨scr, hcb, hof, hkn, hsz, hval⟩
    have K : W p l e room_1 s m #[Value.ref b] below meth c s₁.heap [] 0 0 (lw_Z below #[Value.ref b] s) (entryFrame m ([Value.ref b] : List Value).toArray 4) := by
      rw [hh0]
      exact whole_start l hflags hbd ⟨B.exec, B.bytes, B.returns, hml, hown, hts, hX, hbl, B.notSynchronized, hgv⟩
    obtain ⟨t, a1, o, b1, b2, b3⟩ := K s₁ rfl X₀
    exact ⟨t, o, a1, b1, b2, b3⟩
theorem lw_pre_spec {args : Array Value} {s : State} (h : (Jvm.Cond.and given_1 narrow_1).before args s = true) (hr : rest_1_c.before args s = true) : ∃ (b : Addr) (xs : List Int32), lw_P b xs args s := by
  have hs := flat_of_before _ h
  have hq := flat_of_before _ hr
  have hc : (Cond.count 1).before args s = true := hs _ (by decide +kernel)
  have harr : (Cond.arrayOf (.arg 0) .int).before args s = true := hs _ (by decide +kernel)
  have hle : (Cond.le (.length (.arg 0)) (.int 2048)).before args s = true := hs _ (by decide +kernel)
  have hlen : (Cond.isInt (.length (.arg 0))).before args s = true := hq _ (by decide +kernel)
  have hall : (Cond.all (.arg 0) (.isInt (.elem (.arg 0) (.index 0)))).before args s = true := hq _ (by decide +kernel)
  obtain ⟨b, xs, hb, hx⟩ := State.ints_of_pre rfl harr hlen hall
  have hsm : xs.length < 2 ^ 31 := hx.choose_spec.2.2.2
  have hev : (Term.length (.arg 0)).eval args s none [] s = some (.int xs.length.toInt32) := hx.length_eval hb
  have hv := Cond.le_ints hev (show (Term.int 2048).eval args s none [] s = some (.int 2048) from rfl)
  have hd : xs.length.toInt32 ≤ 2048 := by
    simpa [Cond.before, Cond.holds, hv] using hle
  have hN : xs.length ≤ 2048 := (Int32.ofNat_le_ofNat hsm (by decide)).mp (show Int32.ofNat xs.length ≤ Int32.ofNat 2048 from hd)
  exact ⟨b, xs, Cond.one_arg hc (show args[0]? = some (.ref b) from hb), hx, hN, h⟩
theorem lw_comes (l : Launch) (hflags : l.flags = flags0) : Comes l x (Jvm.Cond.code x code maxLocals ret :: tables_1) room_1 (fun tb e args s => Calls_1 tb e args s ∧ rest_1 tb e args s ∧ Pre_1 tb e args s)
    (fun _ _ args s o t => lw_Q args s o t) := by
  intro p e ha hc hk s m args below hf hfit hheap happ hpre
  obtain ⟨b, xs, hP⟩ := lw_pre_spec hpre.2.2 hpre.2.1
  obtain ⟨k, o, h1, h2, h3, hQ⟩ := lw_walk l hflags b xs p e ha hc hk s m args below hf ((Spec.applies_iff_loose hf).mp happ).1 hP trivial
  exact ⟨k, o, h1, h2, h3, hQ⟩
theorem lw_frame {s t : State} {o : Outcome} {args : Array Value} (h : Framed s o t [] 600000 7302250) :
    Framed s o t (fieldLocs frame_1_writes args s ++ arrayLocs frame_1_arrays args s ++ staticLocs frame_1_statics s) 600000 7302250 := h
theorem lw_limb (L : Cond) (hL : ∀ (args : Array Value) (s t : State), L.after args s (.returned (some (.int 1))) t = true) :
    ArmFor flags0 classFile x code maxLocals ret World_1 tables_1 room_1 Calls_1 rest_1 Pre_1
      (fun tb e a s o t => postC L tb e a s o t ∧ Framed s o t (fieldLocs frame_1_writes a s ++ arrayLocs frame_1_arrays a s ++ staticLocs frame_1_statics s) 600000 7302250) := by
  intro l hflags _ _ p e ha hc hk s m args below hf hfit hheap happ hpre
  obtain ⟨k, o, h1, h2, h3, rfl, hF⟩ := lw_comes l hflags p e ha hc hk s m args below hf hfit hheap happ hpre
  exact ⟨k, _, h1, h2, h3, hL args s _, lw_frame hF⟩
theorem i_vc : Claimed_1_1 ∧ Claimed_1_2 := ⟨lw_limb limb_1_1 (fun args s t => by simp [limb_1_1, Cond.after, Cond.holds, Cond.value]), lw_limb limb_1_2 (fun args s t => Cond.after_iff.mpr (by
  first | (rw [show limb_1_2 = Cond.eq .result (.int 1) from rfl, Cond.eq_ints (x := 1) (y := 1) rfl rfl]; simp; done) | (simp [limb_1_2, Cond.value, Term.eval]; done)))⟩
