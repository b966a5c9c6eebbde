
noncomputable def f_X8_isWithin (t : Sx) (a0 : Int32) (a1 : Int32) (a2 : Int32) : Option Int32 := if a0 < a1 then some 0 else if a2 < a0 then some 0 else some 1
set_option maxRecDepth 20000 in
set_option maxHeartbeats 4000000 in
theorem c_X8_isWithin (l : Launch) (K : Kx) (t : Sx) (a0 : Int32) (a1 : Int32) (a2 : Int32) : CT l K yX8_isWithin wsX8_isWithin ({ frames := 0, cells := 0, slots := 0, locals := 0 } : Room) [.int a0, .int a1, .int a2] t (f_X8_isWithin t a0 a1 a2) (kRI t) := by
  refine CT_of (cc := cX8_isWithin) (maxL := 3) (ret := (some .boolean)) (own := RX8) (by decide +kernel) rfl rfl (Nat.le_of_ble_eq_true rfl) ?_
  intro p e s m args below meth c hc
  refine V_sub (lv' := [(0, .int a0), (1, .int a1), (2, .int a2)]) [0, 1, 2] rfl ?_
  unfold f_X8_isWithin
  refine V_iload_n hc dX8_isWithin_0 rfl 0 rfl ?_
  refine V_iload_n hc dX8_isWithin_1 rfl 1 rfl ?_
  refine V_icmp_lt (tgt := 14) hc dX8_isWithin_2 (by decide) ?_ ?_
  · refine V_iconst (v := 0) hc dX8_isWithin_14 (by decide) ?_
    exact V_nret hc rfl rfl rfl dX8_isWithin_15
  · refine V_iload_n hc dX8_isWithin_5 rfl 0 rfl ?_
    refine V_iload_n hc dX8_isWithin_6 rfl 2 rfl ?_
    refine V_icmp_gt (tgt := 14) hc dX8_isWithin_7 (by decide) ?_ ?_
    · refine V_iconst (v := 0) hc dX8_isWithin_14 (by decide) ?_
      exact V_nret hc rfl rfl rfl dX8_isWithin_15
    · refine V_iconst (v := 1) hc dX8_isWithin_10 (by decide) ?_
      refine V_goto (tgt := 15) hc dX8_isWithin_11 (by decide) ?_
      exact V_nret hc rfl rfl rfl dX8_isWithin_15


noncomputable def f_X8_holds (t : Sx) (a0 : Int64) (a2 : Int32) : Option Int32 := if (lg_cmp ((ushL a0 a2) &&& 1) 1) = 0 then some 1 else some 0
set_option maxRecDepth 20000 in
set_option maxHeartbeats 4000000 in
theorem c_X8_holds (l : Launch) (K : Kx) (t : Sx) (a0 : Int64) (a2 : Int32) : CT l K yX8_holds wsX8_holds ({ frames := 0, cells := 0, slots := 0, locals := 0 } : Room) [.long a0, .int a2] t (f_X8_holds t a0 a2) (kRI t) := by
  refine CT_of (cc := cX8_holds) (maxL := 3) (ret := (some .boolean)) (own := RX8) (by decide +kernel) rfl rfl (Nat.le_of_ble_eq_true rfl) ?_
  intro p e s m args below meth c hc
  refine V_sub (lv' := [(0, .long a0), (2, .int a2)]) [0, 1] rfl ?_
  unfold f_X8_holds
  refine V_lload_n hc dX8_holds_0 rfl 0 rfl ?_
  refine V_iload_n hc dX8_holds_1 rfl 1 rfl ?_
  refine V_lushr hc dX8_holds_2 ?_
  refine V_lconst (v := 1) hc dX8_holds_3 (by decide) ?_
  refine V_land hc dX8_holds_4 ?_
  refine V_lconst (v := 1) hc dX8_holds_5 (by decide) ?_
  refine V_lcmp hc dX8_holds_6 ?_
  refine V_if_ne (tgt := 14) hc dX8_holds_7 (by decide) ?_ ?_
  · refine V_iconst (v := 0) hc dX8_holds_14 (by decide) ?_
    exact V_nret hc rfl rfl rfl dX8_holds_15
  · refine V_iconst (v := 1) hc dX8_holds_10 (by decide) ?_
    refine V_goto (tgt := 15) hc dX8_holds_11 (by decide) ?_
    exact V_nret hc rfl rfl rfl dX8_holds_15


noncomputable def f_X8_only (t : Sx) (a0 : Int32) : Option Int64 := some (shlL 1 a0)
set_option maxRecDepth 20000 in
set_option maxHeartbeats 4000000 in
theorem c_X8_only (l : Launch) (K : Kx) (t : Sx) (a0 : Int32) : CT l K yX8_only wsX8_only ({ frames := 0, cells := 0, slots := 0, locals := 0 } : Room) [.int a0] t (f_X8_only t a0) (kRL t) := by
  refine CT_of (cc := cX8_only) (maxL := 1) (ret := (some .long)) (own := RX8) (by decide +kernel) rfl rfl (Nat.le_of_ble_eq_true rfl) ?_
  intro p e s m args below meth c hc
  refine V_sub (lv' := [(0, .int a0)]) [0] rfl ?_
  unfold f_X8_only
  refine V_lconst (v := 1) hc dX8_only_0 (by decide) ?_
  refine V_iload_n hc dX8_only_1 rfl 0 rfl ?_
  refine V_lshl hc dX8_only_2 ?_
  exact V_lret hc rfl rfl dX8_only_3


noncomputable def f_J7_rangeCheck_23922 (t : Sx) (a0 : Int32) (a1 : Int32) (a2 : Int32) : Option Sx := if a1 ≤ a2 then if 0 ≤ a1 then if a2 ≤ a0 then some t else none else none else none
set_option maxRecDepth 20000 in
set_option maxHeartbeats 4000000 in
theorem c_J7_rangeCheck_23922 (l : Launch) (K : Kx) (t : Sx) (a0 : Int32) (a1 : Int32) (a2 : Int32) : CT l K yJ7_rangeCheck_23922 wsJ7_rangeCheck_23922 ({ frames := 0, cells := 0, slots := 0, locals := 0 } : Room) [.int a0, .int a1, .int a2] t (f_J7_rangeCheck_23922 t a0 a1 a2) kWV := by
  refine CT_of (cc := cJ7_rangeCheck_23922) (maxL := 3) (ret := none) (own := RJ7) (by decide +kernel) rfl rfl (Nat.le_of_ble_eq_true rfl) ?_
  intro p e s m args below meth c hc
  refine V_sub (lv' := [(0, .int a0), (1, .int a1), (2, .int a2)]) [0, 1, 2] rfl ?_
  unfold f_J7_rangeCheck_23922
  refine V_iload_n hc dJ7_rangeCheck_23922_0 rfl 1 rfl ?_
  refine V_iload_n hc dJ7_rangeCheck_23922_1 rfl 2 rfl ?_
  refine V_icmp_le (tgt := 46) hc dJ7_rangeCheck_23922_2 (by decide) ?_ ?_
  · refine V_iload_n hc dJ7_rangeCheck_23922_46 rfl 1 rfl ?_
    refine V_if_ge (tgt := 59) hc dJ7_rangeCheck_23922_47 (by decide) ?_ ?_
    · refine V_iload_n hc dJ7_rangeCheck_23922_59 rfl 2 rfl ?_
      refine V_iload_n hc dJ7_rangeCheck_23922_60 rfl 0 rfl ?_
      refine V_icmp_le (tgt := 73) hc dJ7_rangeCheck_23922_61 (by decide) ?_ ?_
      · exact V_vret hc rfl rfl dJ7_rangeCheck_23922_73
      · exact V_none
    · exact V_none
  · exact V_none


noncomputable def L_J7_fill_fda19_10 (b1 : Int32) (b2 : Int32) (b3 : Int32) (kont : Int32 → Sx → Option Sx) : Nat → Int32 → Sx → Option Sx
  | 0, _, _ => none
  | n + 1, x4, y => if b2 ≤ x4 then kont (x4) (y) else gd (vp_in x4 720) (bd (pA y 11 (ix x4) b3) fun t2 => L_J7_fill_fda19_10 b1 b2 b3 kont n ((x4 + 1)) (t2))
set_option maxRecDepth 20000 in
set_option maxHeartbeats 4000000 in
theorem L_J7_fill_fda19_10_ok {p : Program} {l : Launch} {K : Kx} {e : Env} {s : State} {m : MethodId} {args : Array Value} {below : List Frame} {meth : Method} {c : Code} (hc : Cx p ({ frames := 1, cells := 0, slots := 0, locals := 22 } : Room) s m args meth c cJ7_fill_fda19 5 wsJ7_fill_fda19 RJ7 K (aA K s.heap.size) none 0 0) (b1 : Int32) (b2 : Int32) (b3 : Int32) (kont : Int32 → Sx → Option Sx) (hk : ∀ x4 y, V p l e ({ frames := 1, cells := 0, slots := 0, locals := 22 } : Room) s m args below meth c K (aA K s.heap.size) 0 0 5 (QM below K args s kWV) 27 [(0, .ref (K.2.2 4)), (1, .int b1), (2, .int b2), (3, .int b3), (4, .int x4)] [] y (kont x4 y)) : ∀ (n : Nat) (x4 : Int32) (y : Sx), V p l e ({ frames := 1, cells := 0, slots := 0, locals := 22 } : Room) s m args below meth c K (aA K s.heap.size) 0 0 5 (QM below K args s kWV) 10 [(0, .ref (K.2.2 4)), (1, .int b1), (2, .int b2), (3, .int b3), (4, .int x4)] [] y (L_J7_fill_fda19_10 b1 b2 b3 kont n x4 y) := by
  intro n
  induction n with
  | zero => intro x4 y; exact V_none
  | succ n ih =>
    intro x4 y
    rw [L_J7_fill_fda19_10]
    refine V_iload hc dJ7_fill_fda19_10 4 rfl ?_
    refine V_iload_n hc dJ7_fill_fda19_12 rfl 2 rfl ?_
    refine V_icmp_ge (tgt := 27) hc dJ7_fill_fda19_13 (by decide) ?_ ?_
    · exact V_sub [0, 1, 2, 3, 4] rfl (hk _ _)
    · refine V_aload_n hc dJ7_fill_fda19_16 rfl 0 rfl ?_
      refine V_iload hc dJ7_fill_fda19_17 4 rfl ?_
      refine V_iload_n hc dJ7_fill_fda19_19 rfl 3 rfl ?_
      refine V_iast hc sP4 dJ7_fill_fda19_20 ?_
      refine V_bds (fun t2 => ?_)
      refine V_iinc (v := (x4 + 1)) (lv' := [(4, .int (x4 + 1)), (0, .ref (K.2.2 4)), (1, .int b1), (2, .int b2), (3, .int b3)]) hc dJ7_fill_fda19_21 4 rfl rfl (by decide) rfl ?_
      refine V_goto (tgt := 10) hc dJ7_fill_fda19_24 (by decide) ?_
      exact V_sub [1, 2, 3, 4, 0] rfl (ih _ _)
noncomputable def f_J7_fill_fda19 (t : Sx) (a1 : Int32) (a2 : Int32) (a3 : Int32) : Option Sx := (f_J7_rangeCheck_23922 t (720) (a1) (a2)).bind fun r1 => L_J7_fill_fda19_10 (a1) (a2) (a3) (fun z3 t4 => some t4) FU (a1) (r1)
set_option maxRecDepth 20000 in
set_option maxHeartbeats 4000000 in
theorem c_J7_fill_fda19 (l : Launch) (K : Kx) (t : Sx) (a1 : Int32) (a2 : Int32) (a3 : Int32) : CT l K yJ7_fill_fda19 wsJ7_fill_fda19 ({ frames := 1, cells := 0, slots := 0, locals := 22 } : Room) [.ref (K.2.2 4), .int a1, .int a2, .int a3] t (f_J7_fill_fda19 t a1 a2 a3) kWV := by
  refine CT_of (cc := cJ7_fill_fda19) (maxL := 5) (ret := none) (own := RJ7) (by decide +kernel) rfl rfl (Nat.le_of_ble_eq_true rfl) ?_
  intro p e s m args below meth c hc
  refine V_sub (lv' := [(0, .ref (K.2.2 4)), (1, .int a1), (2, .int a2), (3, .int a3)]) [0, 1, 2, 3] rfl ?_
  unfold f_J7_fill_fda19
  refine V_aload_n hc dJ7_fill_fda19_0 rfl 0 rfl ?_
  refine V_alen (fty := .int) hc sP4 rfl (v := 720) (by decide) dJ7_fill_fda19_1 ?_
  refine V_iload_n hc dJ7_fill_fda19_2 rfl 1 rfl ?_
  refine V_iload_n hc dJ7_fill_fda19_3 rfl 2 rfl ?_
  refine V_callS_WV hc (c_J7_rangeCheck_23922 l K t (720) (a1) (a2)) 3 gJ7_fill_fda19_J7_rangeCheck_23922 rfl ⟨rfl, rfl⟩ (by decide) ⟨Nat.le_of_ble_eq_true rfl, Nat.le_of_ble_eq_true rfl⟩ rfl rfl (Nat.le_of_ble_eq_true rfl) dJ7_fill_fda19_4 (fun r1 => ?_)
  refine V_iload_n hc dJ7_fill_fda19_7 rfl 1 rfl ?_
  refine V_istore (lv' := [(4, .int a1), (0, .ref (K.2.2 4)), (1, .int a1), (2, .int a2), (3, .int a3)]) hc dJ7_fill_fda19_8 (by decide) rfl ?_
  refine V_sub (lv' := [(0, .ref (K.2.2 4)), (1, .int a1), (2, .int a2), (3, .int a3), (4, .int a1)]) [1, 2, 3, 4, 0] rfl ?_
  refine L_J7_fill_fda19_10_ok hc (a1) (a2) (a3) _ (fun z3 t4 => ?_) FU _ _
  exact V_vret hc rfl rfl dJ7_fill_fda19_27

theorem wJ13_bitCount_95d88_c314 : Cond.constantLong RJ13 314 (6148914691236517205) ∈ wsJ13_bitCount_95d88 := by decide +kernel
theorem wJ13_bitCount_95d88_c316 : Cond.constantLong RJ13 316 (3689348814741910323) ∈ wsJ13_bitCount_95d88 := by decide +kernel
theorem wJ13_bitCount_95d88_c318 : Cond.constantLong RJ13 318 (1085102592571150095) ∈ wsJ13_bitCount_95d88 := by decide +kernel
noncomputable def f_J13_bitCount_95d88 (t : Sx) (a0 : Int64) : Option Int32 := bd (((a0 - ((ushL a0 1) &&& 6148914691236517205)) &&& 3689348814741910323)) fun v1 => bd ((ushL (a0 - ((ushL a0 1) &&& 6148914691236517205)) 2)) fun v2 => bd (((v1 + (v2 &&& 3689348814741910323)) + (ushL (v1 + (v2 &&& 3689348814741910323)) 4))) fun v3 => bd (((v3 &&& 1085102592571150095) + (ushL (v3 &&& 1085102592571150095) 8))) fun v4 => bd (((v4 + (ushL v4 16)) + (ushL (v4 + (ushL v4 16)) 32))) fun v5 => some ((Int64.toInt32 v5) &&& 127)
set_option maxRecDepth 20000 in
set_option maxHeartbeats 4000000 in
theorem c_J13_bitCount_95d88 (l : Launch) (K : Kx) (t : Sx) (a0 : Int64) : CT l K yJ13_bitCount_95d88 wsJ13_bitCount_95d88 ({ frames := 0, cells := 0, slots := 0, locals := 0 } : Room) [.long a0] t (f_J13_bitCount_95d88 t a0) (kRI t) := by
  refine CT_of (cc := cJ13_bitCount_95d88) (maxL := 2) (ret := (some .int)) (own := RJ13) (by decide +kernel) rfl rfl (Nat.le_of_ble_eq_true rfl) ?_
  intro p e s m args below meth c hc
  refine V_sub (lv' := [(0, .long a0)]) [0] rfl ?_
  unfold f_J13_bitCount_95d88
  refine V_lload_n hc dJ13_bitCount_95d88_0 rfl 0 rfl ?_
  refine V_lload_n hc dJ13_bitCount_95d88_1 rfl 0 rfl ?_
  refine V_iconst (v := 1) hc dJ13_bitCount_95d88_2 (by decide) ?_
  refine V_lushr hc dJ13_bitCount_95d88_3 ?_
  refine V_ldc2 (v := 6148914691236517205) hc wJ13_bitCount_95d88_c314 dJ13_bitCount_95d88_4 ?_
  refine V_land hc dJ13_bitCount_95d88_7 ?_
  refine V_lsub hc dJ13_bitCount_95d88_8 ?_
  refine V_lstore_n (lv' := [(0, .long (a0 - ((ushL a0 1) &&& 6148914691236517205)))]) hc dJ13_bitCount_95d88_9 rfl (by decide) rfl ?_
  refine V_lload_n hc dJ13_bitCount_95d88_10 rfl 0 rfl ?_
  refine V_ldc2 (v := 3689348814741910323) hc wJ13_bitCount_95d88_c316 dJ13_bitCount_95d88_11 ?_
  refine V_land hc dJ13_bitCount_95d88_14 ?_
  refine V_bdl (fun v1 => ?_)
  refine V_lload_n hc dJ13_bitCount_95d88_15 rfl 0 rfl ?_
  refine V_iconst (v := 2) hc dJ13_bitCount_95d88_16 (by decide) ?_
  refine V_lushr hc dJ13_bitCount_95d88_17 ?_
  refine V_bdl (fun v2 => ?_)
  refine V_ldc2 (v := 3689348814741910323) hc wJ13_bitCount_95d88_c316 dJ13_bitCount_95d88_18 ?_
  refine V_land hc dJ13_bitCount_95d88_21 ?_
  refine V_ladd hc dJ13_bitCount_95d88_22 ?_
  refine V_lstore_n (lv' := [(0, .long (v1 + (v2 &&& 3689348814741910323)))]) hc dJ13_bitCount_95d88_23 rfl (by decide) rfl ?_
  refine V_lload_n hc dJ13_bitCount_95d88_24 rfl 0 rfl ?_
  refine V_lload_n hc dJ13_bitCount_95d88_25 rfl 0 rfl ?_
  refine V_iconst (v := 4) hc dJ13_bitCount_95d88_26 (by decide) ?_
  refine V_lushr hc dJ13_bitCount_95d88_27 ?_
  refine V_ladd hc dJ13_bitCount_95d88_28 ?_
  refine V_bdl (fun v3 => ?_)
  refine V_ldc2 (v := 1085102592571150095) hc wJ13_bitCount_95d88_c318 dJ13_bitCount_95d88_29 ?_
  refine V_land hc dJ13_bitCount_95d88_32 ?_
  refine V_lstore_n (lv' := [(0, .long (v3 &&& 1085102592571150095))]) hc dJ13_bitCount_95d88_33 rfl (by decide) rfl ?_
  refine V_lload_n hc dJ13_bitCount_95d88_34 rfl 0 rfl ?_
  refine V_lload_n hc dJ13_bitCount_95d88_35 rfl 0 rfl ?_
  refine V_bipush (v := 8) hc dJ13_bitCount_95d88_36 (by decide) ?_
  refine V_lushr hc dJ13_bitCount_95d88_38 ?_
  refine V_ladd hc dJ13_bitCount_95d88_39 ?_
  refine V_bdl (fun v4 => ?_)
  refine V_lstore_n (lv' := [(0, .long v4)]) hc dJ13_bitCount_95d88_40 rfl (by decide) rfl ?_
  refine V_lload_n hc dJ13_bitCount_95d88_41 rfl 0 rfl ?_
  refine V_lload_n hc dJ13_bitCount_95d88_42 rfl 0 rfl ?_
  refine V_bipush (v := 16) hc dJ13_bitCount_95d88_43 (by decide) ?_
  refine V_lushr hc dJ13_bitCount_95d88_45 ?_
  refine V_ladd hc dJ13_bitCount_95d88_46 ?_
  refine V_lstore_n (lv' := [(0, .long (v4 + (ushL v4 16)))]) hc dJ13_bitCount_95d88_47 rfl (by decide) rfl ?_
  refine V_lload_n hc dJ13_bitCount_95d88_48 rfl 0 rfl ?_
  refine V_lload_n hc dJ13_bitCount_95d88_49 rfl 0 rfl ?_
  refine V_bipush (v := 32) hc dJ13_bitCount_95d88_50 (by decide) ?_
  refine V_lushr hc dJ13_bitCount_95d88_52 ?_
  refine V_ladd hc dJ13_bitCount_95d88_53 ?_
  refine V_bdl (fun v5 => ?_)
  refine V_lstore_n (lv' := [(0, .long v5)]) hc dJ13_bitCount_95d88_54 rfl (by decide) rfl ?_
  refine V_lload_n hc dJ13_bitCount_95d88_55 rfl 0 rfl ?_
  refine V_l2i hc dJ13_bitCount_95d88_56 ?_
  refine V_bipush (v := 127) hc dJ13_bitCount_95d88_57 (by decide) ?_
  refine V_iand hc dJ13_bitCount_95d88_59 ?_
  exact V_iret hc rfl rfl dJ13_bitCount_95d88_60

theorem kX5_length_15 : Cond.fieldLink RX5 15 RX5 (TX5 1).2.1 (TX5 1).2.2.1 ∈ wsX5_length := by decide +kernel
theorem qX5_length_RX5 : ∀ w ∈ u_ws RX5 TX5 2, w ∈ wsX5_length := by
  first
  | exact fun _ h => List.mem_cons_of_mem _ (List.mem_append_right _ h)
  | exact fun _ h => List.mem_cons_of_mem _ (List.mem_append_left _ (List.mem_append_right _ h))
  | exact fun _ h => List.mem_cons_of_mem _ (List.mem_append_left _ (List.mem_append_left _ (List.mem_append_right _ h)))
  | exact fun _ h => List.mem_cons_of_mem _ (List.mem_append_left _ (List.mem_append_left _ (List.mem_append_left _ (List.mem_append_right _ h))))
  | exact fun _ h => List.mem_cons_of_mem _ (List.mem_append_left _ (List.mem_append_left _ (List.mem_append_left _ (List.mem_append_left _ (List.mem_append_right _ h)))))
  | decide +kernel
noncomputable def f_X5_length (t : Sx) (k0 : Nat) : Option Int32 := some (gI t (150 + k0))
set_option maxRecDepth 20000 in
set_option maxHeartbeats 4000000 in
theorem c_X5_length (l : Launch) (K : Kx) (t : Sx) (k0 : Nat) (hk0 : k0 < 9) : CT l K yX5_length wsX5_length ({ frames := 0, cells := 0, slots := 0, locals := 0 } : Room) [.ref (K.2.2 (32 + k0))] t (f_X5_length t k0) (kRI t) := by
  refine CT_of (cc := cX5_length) (maxL := 1) (ret := (some .int)) (own := RX5) (by decide +kernel) rfl rfl (Nat.le_of_ble_eq_true rfl) ?_
  intro p e s m args below meth c hc
  refine V_sub (lv' := [(0, .ref (K.2.2 (32 + k0)))]) [0] rfl ?_
  unfold f_X5_length
  refine V_aload_n hc dX5_length_0 rfl 0 rfl ?_
  refine V_geti (C := RX5) (T := TX5) (N := 2) hc (sh_rtx hk0) rfl qX5_length_RX5 1 rfl (by decide) kX5_length_15 rfl dX5_length_1 ?_
  exact V_iret hc rfl rfl dX5_length_4

theorem kX5_at_15 : Cond.fieldLink RX5 15 RX5 (TX5 1).2.1 (TX5 1).2.2.1 ∈ wsX5_at := by decide +kernel
theorem qX5_at_RX5 : ∀ w ∈ u_ws RX5 TX5 2, w ∈ wsX5_at := by
  first
  | exact fun _ h => List.mem_cons_of_mem _ (List.mem_append_right _ h)
  | exact fun _ h => List.mem_cons_of_mem _ (List.mem_append_left _ (List.mem_append_right _ h))
  | exact fun _ h => List.mem_cons_of_mem _ (List.mem_append_left _ (List.mem_append_left _ (List.mem_append_right _ h)))
  | exact fun _ h => List.mem_cons_of_mem _ (List.mem_append_left _ (List.mem_append_left _ (List.mem_append_left _ (List.mem_append_right _ h))))
  | exact fun _ h => List.mem_cons_of_mem _ (List.mem_append_left _ (List.mem_append_left _ (List.mem_append_left _ (List.mem_append_left _ (List.mem_append_right _ h)))))
  | decide +kernel
theorem kX5_at_9 : Cond.fieldLink RX5 9 RX5 (TX5 0).2.1 (TX5 0).2.2.1 ∈ wsX5_at := by decide +kernel
noncomputable def f_X5_at (t : Sx) (k0 : Nat) (a1 : Int32) : Option Int32 := if a1 < 0 then some 0 else if (gI t (150 + k0)) ≤ a1 then some 0 else gd (vp_in a1 80) (gd (gch (gA t (100 + k0) (ix a1))) (some (gA t (100 + k0) (ix a1))))
set_option maxRecDepth 20000 in
set_option maxHeartbeats 4000000 in
theorem c_X5_at (l : Launch) (K : Kx) (t : Sx) (k0 : Nat) (a1 : Int32) (hk0 : k0 < 9) : CT l K yX5_at wsX5_at ({ frames := 0, cells := 0, slots := 0, locals := 0 } : Room) [.ref (K.2.2 (32 + k0)), .int a1] t (f_X5_at t k0 a1) (kRI t) := by
  refine CT_of (cc := cX5_at) (maxL := 2) (ret := (some .char)) (own := RX5) (by decide +kernel) rfl rfl (Nat.le_of_ble_eq_true rfl) ?_
  intro p e s m args below meth c hc
  refine V_sub (lv' := [(0, .ref (K.2.2 (32 + k0))), (1, .int a1)]) [0, 1] rfl ?_
  unfold f_X5_at
  refine V_iload_n hc dX5_at_0 rfl 1 rfl ?_
  refine V_if_lt (tgt := 21) hc dX5_at_1 (by decide) ?_ ?_
  · refine V_iconst (v := 0) hc dX5_at_21 (by decide) ?_
    exact V_nret hc rfl rfl rfl dX5_at_22
  · refine V_iload_n hc dX5_at_4 rfl 1 rfl ?_
    refine V_aload_n hc dX5_at_5 rfl 0 rfl ?_
    refine V_geti (C := RX5) (T := TX5) (N := 2) hc (sh_rtx hk0) rfl qX5_at_RX5 1 rfl (by decide) kX5_at_15 rfl dX5_at_6 ?_
    refine V_icmp_ge (tgt := 21) hc dX5_at_9 (by decide) ?_ ?_
    · refine V_iconst (v := 0) hc dX5_at_21 (by decide) ?_
      exact V_nret hc rfl rfl rfl dX5_at_22
    · refine V_aload_n hc dX5_at_12 rfl 0 rfl ?_
      refine V_getr (C := RX5) (T := TX5) (N := 2) hc (sh_rtx hk0) rfl qX5_at_RX5 0 rfl (by decide) kX5_at_9 rfl dX5_at_13 ?_
      refine V_iload_n hc dX5_at_16 rfl 1 rfl ?_
      refine V_cald hc (sh_rch hk0) dX5_at_17 ?_
      refine V_goto (tgt := 22) hc dX5_at_18 (by decide) ?_
      exact V_cret hc rfl rfl dX5_at_22


noncomputable def f_X5_isDigit (t : Sx) (a0 : Int32) : Option Int32 := if a0 < 48 then some 0 else if 57 < a0 then some 0 else some 1
set_option maxRecDepth 20000 in
set_option maxHeartbeats 4000000 in
theorem c_X5_isDigit (l : Launch) (K : Kx) (t : Sx) (a0 : Int32) : CT l K yX5_isDigit wsX5_isDigit ({ frames := 0, cells := 0, slots := 0, locals := 0 } : Room) [.int a0] t (f_X5_isDigit t a0) (kRI t) := by
  refine CT_of (cc := cX5_isDigit) (maxL := 1) (ret := (some .boolean)) (own := RX5) (by decide +kernel) rfl rfl (Nat.le_of_ble_eq_true rfl) ?_
  intro p e s m args below meth c hc
  refine V_sub (lv' := [(0, .int a0)]) [0] rfl ?_
  unfold f_X5_isDigit
  refine V_iload_n hc dX5_isDigit_0 rfl 0 rfl ?_
  refine V_bipush (v := 48) hc dX5_isDigit_1 (by decide) ?_
  refine V_icmp_lt (tgt := 16) hc dX5_isDigit_3 (by decide) ?_ ?_
  · refine V_iconst (v := 0) hc dX5_isDigit_16 (by decide) ?_
    exact V_nret hc rfl rfl rfl dX5_isDigit_17
  · refine V_iload_n hc dX5_isDigit_6 rfl 0 rfl ?_
    refine V_bipush (v := 57) hc dX5_isDigit_7 (by decide) ?_
    refine V_icmp_gt (tgt := 16) hc dX5_isDigit_9 (by decide) ?_ ?_
    · refine V_iconst (v := 0) hc dX5_isDigit_16 (by decide) ?_
      exact V_nret hc rfl rfl rfl dX5_isDigit_17
    · refine V_iconst (v := 1) hc dX5_isDigit_12 (by decide) ?_
      refine V_goto (tgt := 17) hc dX5_isDigit_13 (by decide) ?_
      exact V_nret hc rfl rfl rfl dX5_isDigit_17


noncomputable def L_X5_numberAt_4 (t0 : Sx) (b0 : Nat) (b1 : Int32) (kont : Int32 → Int32 → Option Int32) : Nat → Int32 → Int32 → Option Int32
  | 0, _, _ => none
  | n + 1, x2 , x3 => if (b1 + 5) ≤ x3 then kont (x2) (x3) else (f_X5_at t0 (b0) (x3)).bind fun r1 => (f_X5_isDigit t0 (r1)).bind fun r2 => if r2 = 0 then kont (x2) (x3) else (f_X5_at t0 (b0) (x3)).bind fun r3 => L_X5_numberAt_4 t0 b0 b1 kont n (((10 * x2) + (r3 - 48))) ((x3 + 1))
set_option maxRecDepth 20000 in
set_option maxHeartbeats 4000000 in
theorem L_X5_numberAt_4_ok {p : Program} {l : Launch} {K : Kx} {e : Env} {s : State} {m : MethodId} {args : Array Value} {below : List Frame} {meth : Method} {c : Code} (hc : Cx p ({ frames := 1, cells := 0, slots := 0, locals := 21 } : Room) s m args meth c cX5_numberAt 4 wsX5_numberAt RX5 K (aA K s.heap.size) (some .int) 0 0) (t0 : Sx) (b0 : Nat) (b1 : Int32) (hb0 : b0 < 9) (kont : Int32 → Int32 → Option Int32) (hk : ∀ x2 x3, V p l e ({ frames := 1, cells := 0, slots := 0, locals := 21 } : Room) s m args below meth c K (aA K s.heap.size) 0 0 4 (QM below K args s (kRI t0)) 42 [(0, .ref (K.2.2 (32 + b0))), (1, .int b1), (2, .int x2), (3, .int x3)] [] t0 (kont x2 x3)) : ∀ (n : Nat) (x2 : Int32) (x3 : Int32), V p l e ({ frames := 1, cells := 0, slots := 0, locals := 21 } : Room) s m args below meth c K (aA K s.heap.size) 0 0 4 (QM below K args s (kRI t0)) 4 [(0, .ref (K.2.2 (32 + b0))), (1, .int b1), (2, .int x2), (3, .int x3)] [] t0 (L_X5_numberAt_4 t0 b0 b1 kont n x2 x3) := by
  intro n
  induction n with
  | zero => intro x2 x3; exact V_none
  | succ n ih =>
    intro x2 x3
    rw [L_X5_numberAt_4]
    refine V_iload_n hc dX5_numberAt_4 rfl 3 rfl ?_
    refine V_iload_n hc dX5_numberAt_5 rfl 1 rfl ?_
    refine V_iconst (v := 5) hc dX5_numberAt_6 (by decide) ?_
    refine V_iadd hc dX5_numberAt_7 ?_
    refine V_icmp_ge (tgt := 42) hc dX5_numberAt_8 (by decide) ?_ ?_
    · exact V_sub [0, 1, 2, 3] rfl (hk _ _)
    · refine V_aload_n hc dX5_numberAt_11 rfl 0 rfl ?_
      refine V_iload_n hc dX5_numberAt_12 rfl 3 rfl ?_
      refine V_callV_RI (Cn := RX5) (T := TX5) (N := 2) hc (c_X5_at l K t0 (b0) (x3) hb0) (sh_rtx hb0) rfl 1 gX5_numberAt_X5_at rfl ⟨rfl, rfl⟩ (by decide) ⟨Nat.le_of_ble_eq_true rfl, Nat.le_of_ble_eq_true rfl⟩ rfl rfl (Nat.le_of_ble_eq_true rfl) dX5_numberAt_13 (fun r1 => ?_)
      refine V_callS_RI hc (c_X5_isDigit l K t0 (r1)) 1 gX5_numberAt_X5_isDigit rfl ⟨rfl, rfl⟩ (by decide) ⟨Nat.le_of_ble_eq_true rfl, Nat.le_of_ble_eq_true rfl⟩ rfl rfl (Nat.le_of_ble_eq_true rfl) dX5_numberAt_16 (fun r2 => ?_)
      refine V_if_eq (tgt := 42) hc dX5_numberAt_19 (by decide) ?_ ?_
      · exact V_sub [0, 1, 2, 3] rfl (hk _ _)
      · refine V_bipush (v := 10) hc dX5_numberAt_22 (by decide) ?_
        refine V_iload_n hc dX5_numberAt_24 rfl 2 rfl ?_
        refine V_imul hc dX5_numberAt_25 ?_
        refine V_aload_n hc dX5_numberAt_26 rfl 0 rfl ?_
        refine V_iload_n hc dX5_numberAt_27 rfl 3 rfl ?_
        refine V_callV_RI (Cn := RX5) (T := TX5) (N := 2) hc (c_X5_at l K t0 (b0) (x3) hb0) (sh_rtx hb0) rfl 1 gX5_numberAt_X5_at rfl ⟨rfl, rfl⟩ (by decide) ⟨Nat.le_of_ble_eq_true rfl, Nat.le_of_ble_eq_true rfl⟩ rfl rfl (Nat.le_of_ble_eq_true rfl) dX5_numberAt_28 (fun r3 => ?_)
        refine V_bipush (v := 48) hc dX5_numberAt_31 (by decide) ?_
        refine V_isub hc dX5_numberAt_33 ?_
        refine V_iadd hc dX5_numberAt_34 ?_
        refine V_istore_n (lv' := [(2, .int ((10 * x2) + (r3 - 48))), (0, .ref (K.2.2 (32 + b0))), (1, .int b1), (3, .int x3)]) hc dX5_numberAt_35 rfl (by decide) rfl ?_
        refine V_iinc (v := (x3 + 1)) (lv' := [(3, .int (x3 + 1)), (2, .int ((10 * x2) + (r3 - 48))), (0, .ref (K.2.2 (32 + b0))), (1, .int b1)]) hc dX5_numberAt_36 3 rfl rfl (by decide) rfl ?_
        refine V_goto (tgt := 4) hc dX5_numberAt_39 (by decide) ?_
        exact V_sub [2, 3, 1, 0] rfl (ih _ _)
noncomputable def f_X5_numberAt (t : Sx) (k0 : Nat) (a1 : Int32) : Option Int32 := L_X5_numberAt_4 t (k0) (a1) (fun z4 z5 => some z4) FU (0) (a1)
set_option maxRecDepth 20000 in
set_option maxHeartbeats 4000000 in
theorem c_X5_numberAt (l : Launch) (K : Kx) (t : Sx) (k0 : Nat) (a1 : Int32) (hk0 : k0 < 9) : CT l K yX5_numberAt wsX5_numberAt ({ frames := 1, cells := 0, slots := 0, locals := 21 } : Room) [.ref (K.2.2 (32 + k0)), .int a1] t (f_X5_numberAt t k0 a1) (kRI t) := by
  refine CT_of (cc := cX5_numberAt) (maxL := 4) (ret := (some .int)) (own := RX5) (by decide +kernel) rfl rfl (Nat.le_of_ble_eq_true rfl) ?_
  intro p e s m args below meth c hc
  refine V_sub (lv' := [(0, .ref (K.2.2 (32 + k0))), (1, .int a1)]) [0, 1] rfl ?_
  unfold f_X5_numberAt
  refine V_iconst (v := 0) hc dX5_numberAt_0 (by decide) ?_
  refine V_istore_n (lv' := [(2, .int 0), (0, .ref (K.2.2 (32 + k0))), (1, .int a1)]) hc dX5_numberAt_1 rfl (by decide) rfl ?_
  refine V_iload_n hc dX5_numberAt_2 rfl 2 rfl ?_
  refine V_istore_n (lv' := [(3, .int a1), (2, .int 0), (0, .ref (K.2.2 (32 + k0))), (1, .int a1)]) hc dX5_numberAt_3 rfl (by decide) rfl ?_
  refine V_sub (lv' := [(0, .ref (K.2.2 (32 + k0))), (1, .int a1), (2, .int 0), (3, .int a1)]) [2, 3, 1, 0] rfl ?_
  refine L_X5_numberAt_4_ok hc t (k0) (a1) hk0 _ (fun z4 z5 => ?_) FU _ _
  refine V_iload_n hc dX5_numberAt_42 rfl 2 rfl ?_
  exact V_iret hc rfl rfl dX5_numberAt_43


noncomputable def f_X5_fieldNamed (t : Sx) (a0 : Int32) : Option Int32 := if a0 = 99 then some 3 else if a0 = 100 then some 4 else if a0 = 107 then some 0 else if a0 = 114 then some 1 else if a0 = 121 then some 2 else some (-1)
set_option maxRecDepth 20000 in
set_option maxHeartbeats 4000000 in
theorem c_X5_fieldNamed (l : Launch) (K : Kx) (t : Sx) (a0 : Int32) : CT l K yX5_fieldNamed wsX5_fieldNamed ({ frames := 0, cells := 0, slots := 0, locals := 0 } : Room) [.int a0] t (f_X5_fieldNamed t a0) (kRI t) := by
  refine CT_of (cc := cX5_fieldNamed) (maxL := 1) (ret := (some .int)) (own := RX5) (by decide +kernel) rfl rfl (Nat.le_of_ble_eq_true rfl) ?_
  intro p e s m args below meth c hc
  refine V_sub (lv' := [(0, .int a0)]) [0] rfl ?_
  unfold f_X5_fieldNamed
  refine V_iload_n hc dX5_fieldNamed_0 rfl 0 rfl ?_
  refine V_ite (fun h1 => ?_) (fun h1 => ?_)
  · refine V_lks (tgt := 58) hc dX5_fieldNamed_1 (by decide) (by rw [h1] <;> rfl) (by decide) ?_
    refine V_iconst (v := 3) hc dX5_fieldNamed_58 (by decide) ?_
    exact V_iret hc rfl rfl dX5_fieldNamed_59
  · refine V_ite (fun h2 => ?_) (fun h2 => ?_)
    · refine V_lks (tgt := 60) hc dX5_fieldNamed_1 (by decide) (by rw [h2] <;> rfl) (by decide) ?_
      refine V_iconst (v := 4) hc dX5_fieldNamed_60 (by decide) ?_
      exact V_iret hc rfl rfl dX5_fieldNamed_61
    · refine V_ite (fun h3 => ?_) (fun h3 => ?_)
      · refine V_lks (tgt := 52) hc dX5_fieldNamed_1 (by decide) (by rw [h3] <;> rfl) (by decide) ?_
        refine V_iconst (v := 0) hc dX5_fieldNamed_52 (by decide) ?_
        exact V_iret hc rfl rfl dX5_fieldNamed_53
      · refine V_ite (fun h4 => ?_) (fun h4 => ?_)
        · refine V_lks (tgt := 54) hc dX5_fieldNamed_1 (by decide) (by rw [h4] <;> rfl) (by decide) ?_
          refine V_iconst (v := 1) hc dX5_fieldNamed_54 (by decide) ?_
          exact V_iret hc rfl rfl dX5_fieldNamed_55
        · refine V_ite (fun h5 => ?_) (fun h5 => ?_)
          · refine V_lks (tgt := 56) hc dX5_fieldNamed_1 (by decide) (by rw [h5] <;> rfl) (by decide) ?_
            refine V_iconst (v := 2) hc dX5_fieldNamed_56 (by decide) ?_
            exact V_iret hc rfl rfl dX5_fieldNamed_57
          · refine V_lks (tgt := 62) hc dX5_fieldNamed_1 (by decide) (lks_dflt (List.forall_mem_cons.mpr ⟨toInt_ne h1, (List.forall_mem_cons.mpr ⟨toInt_ne h2, (List.forall_mem_cons.mpr ⟨toInt_ne h3, (List.forall_mem_cons.mpr ⟨toInt_ne h4, (List.forall_mem_cons.mpr ⟨toInt_ne h5, (fun _ h => absurd h List.not_mem_nil)⟩)⟩)⟩)⟩)⟩)) (by decide) ?_
            refine V_iconst (v := (-1)) hc dX5_fieldNamed_62 (by decide) ?_
            exact V_iret hc rfl rfl dX5_fieldNamed_63

theorem kX3_note_26 : Cond.fieldLink RX3 26 RX3 (TX3 4).2.1 (TX3 4).2.2.1 ∈ wsX3_note := by decide +kernel
theorem qX3_note_RX3 : ∀ w ∈ u_ws RX3 TX3 5, w ∈ wsX3_note := by
  first
  | exact fun _ h => List.mem_cons_of_mem _ (List.mem_append_right _ h)
  | exact fun _ h => List.mem_cons_of_mem _ (List.mem_append_left _ (List.mem_append_right _ h))
  | exact fun _ h => List.mem_cons_of_mem _ (List.mem_append_left _ (List.mem_append_left _ (List.mem_append_right _ h)))
  | exact fun _ h => List.mem_cons_of_mem _ (List.mem_append_left _ (List.mem_append_left _ (List.mem_append_left _ (List.mem_append_right _ h))))
  | exact fun _ h => List.mem_cons_of_mem _ (List.mem_append_left _ (List.mem_append_left _ (List.mem_append_left _ (List.mem_append_left _ (List.mem_append_right _ h)))))
  | decide +kernel
theorem kX3_note_9 : Cond.fieldLink RX3 9 RX3 (TX3 0).2.1 (TX3 0).2.2.1 ∈ wsX3_note := by decide +kernel
theorem kX3_note_15 : Cond.fieldLink RX3 15 RX3 (TX3 1).2.1 (TX3 1).2.2.1 ∈ wsX3_note := by decide +kernel
theorem kX3_note_18 : Cond.fieldLink RX3 18 RX3 (TX3 2).2.1 (TX3 2).2.2.1 ∈ wsX3_note := by decide +kernel
theorem kX3_note_22 : Cond.fieldLink RX3 22 RX3 (TX3 3).2.1 (TX3 3).2.2.1 ∈ wsX3_note := by decide +kernel
theorem wX3_note_min0 : Cond.methodLink RX3 29 Lib.Math.min.name ∈ wsX3_note := by decide +kernel
theorem wX3_note_min1 : Cond.static Lib.Math.min.name ∈ wsX3_note := by decide +kernel
theorem wX3_note_min2 : Cond.initialized "java/lang/Math" ∈ wsX3_note := by decide +kernel
theorem wX3_note_min3 : Cond.code Lib.Math.min.name Lib.Math.min.code 2 (some .int) ∈ wsX3_note := by decide +kernel
noncomputable def f_X3_note (t : Sx) (a1 : Int32) (a2 : Int32) (a3 : Int32) : Option Sx := gd (¬ (24 : Int32) = 0) (bd (pI t 50 (((gI t 50) + 1) - ((gI t 50) + 1) / 24 * 24)) fun t1 => gd (vp_in (gI t1 50) 24) (bd (pA t1 20 (ix (gI t1 50)) a1) fun t2 => gd (vp_in (gI t2 50) 24) (bd (pA t2 21 (ix (gI t2 50)) a2) fun t3 => gd (gz a3) (gd (vp_in (gI t3 50) 24) (bd (pA t3 22 (ix (gI t3 50)) a3) fun t4 => bd (if 24 < ((gI t4 49) + 1) then 24 else ((gI t4 49) + 1)) fun v5 => bd (pI t4 49 v5) fun t6 => some t6)))))
set_option maxRecDepth 20000 in
set_option maxHeartbeats 4000000 in
theorem c_X3_note (l : Launch) (K : Kx) (t : Sx) (a1 : Int32) (a2 : Int32) (a3 : Int32) : CT l K yX3_note wsX3_note ({ frames := 1, cells := 0, slots := 0, locals := 21 } : Room) [.ref (K.2.2 20), .int a1, .int a2, .int a3] t (f_X3_note t a1 a2 a3) kWV := by
  refine CT_of (cc := cX3_note) (maxL := 4) (ret := none) (own := RX3) (by decide +kernel) rfl rfl (Nat.le_of_ble_eq_true rfl) ?_
  intro p e s m args below meth c hc
  refine V_sub (lv' := [(0, .ref (K.2.2 20)), (1, .int a1), (2, .int a2), (3, .int a3)]) [0, 1, 2, 3] rfl ?_
  unfold f_X3_note
  refine V_aload_n hc dX3_note_0 rfl 0 rfl ?_
  refine V_aload_n hc dX3_note_1 rfl 0 rfl ?_
  refine V_geti (C := RX3) (T := TX3) (N := 5) hc sP20 rfl qX3_note_RX3 4 rfl (by decide) kX3_note_26 rfl dX3_note_2 ?_
  refine V_iconst (v := 1) hc dX3_note_5 (by decide) ?_
  refine V_iadd hc dX3_note_6 ?_
  refine V_bipush (v := 24) hc dX3_note_7 (by decide) ?_
  refine V_irem hc dX3_note_9 ?_
  refine V_puti (C := RX3) (T := TX3) (N := 5) hc sP20 rfl qX3_note_RX3 4 rfl (by decide) kX3_note_26 rfl tyX3 tyX3_ok nmX3 rfl (tyX3_ok 4 (by decide)) dX3_note_10 ?_
  refine V_bds (fun t1 => ?_)
  refine V_aload_n hc dX3_note_13 rfl 0 rfl ?_
  refine V_getr (C := RX3) (T := TX3) (N := 5) hc sP20 rfl qX3_note_RX3 0 rfl (by decide) kX3_note_9 rfl dX3_note_14 ?_
  refine V_aload_n hc dX3_note_17 rfl 0 rfl ?_
  refine V_geti (C := RX3) (T := TX3) (N := 5) hc sP20 rfl qX3_note_RX3 4 rfl (by decide) kX3_note_26 rfl dX3_note_18 ?_
  refine V_iload_n hc dX3_note_21 rfl 1 rfl ?_
  refine V_iast hc sP21 dX3_note_22 ?_
  refine V_bds (fun t2 => ?_)
  refine V_aload_n hc dX3_note_23 rfl 0 rfl ?_
  refine V_getr (C := RX3) (T := TX3) (N := 5) hc sP20 rfl qX3_note_RX3 1 rfl (by decide) kX3_note_15 rfl dX3_note_24 ?_
  refine V_aload_n hc dX3_note_27 rfl 0 rfl ?_
  refine V_geti (C := RX3) (T := TX3) (N := 5) hc sP20 rfl qX3_note_RX3 4 rfl (by decide) kX3_note_26 rfl dX3_note_28 ?_
  refine V_iload_n hc dX3_note_31 rfl 2 rfl ?_
  refine V_iast hc sP22 dX3_note_32 ?_
  refine V_bds (fun t3 => ?_)
  refine V_aload_n hc dX3_note_33 rfl 0 rfl ?_
  refine V_getr (C := RX3) (T := TX3) (N := 5) hc sP20 rfl qX3_note_RX3 2 rfl (by decide) kX3_note_18 rfl dX3_note_34 ?_
  refine V_aload_n hc dX3_note_37 rfl 0 rfl ?_
  refine V_geti (C := RX3) (T := TX3) (N := 5) hc sP20 rfl qX3_note_RX3 4 rfl (by decide) kX3_note_26 rfl dX3_note_38 ?_
  refine V_iload_n hc dX3_note_41 rfl 3 rfl ?_
  refine V_zast hc sP23 dX3_note_42 ?_
  refine V_bds (fun t4 => ?_)
  refine V_aload_n hc dX3_note_43 rfl 0 rfl ?_
  refine V_aload_n hc dX3_note_44 rfl 0 rfl ?_
  refine V_geti (C := RX3) (T := TX3) (N := 5) hc sP20 rfl qX3_note_RX3 3 rfl (by decide) kX3_note_22 rfl dX3_note_45 ?_
  refine V_iconst (v := 1) hc dX3_note_48 (by decide) ?_
  refine V_iadd hc dX3_note_49 ?_
  refine V_bipush (v := 24) hc dX3_note_50 (by decide) ?_
  refine V_mmin hc wX3_note_min0 wX3_note_min1 wX3_note_min2 wX3_note_min3 (by decide) (Nat.le_of_ble_eq_true rfl) dX3_note_52 ?_
  refine V_bdi (fun v5 => ?_)
  refine V_puti (C := RX3) (T := TX3) (N := 5) hc sP20 rfl qX3_note_RX3 3 rfl (by decide) kX3_note_22 rfl tyX3 tyX3_ok nmX3 rfl (tyX3_ok 3 (by decide)) dX3_note_55 ?_
  refine V_bds (fun t6 => ?_)
  exact V_vret hc rfl rfl dX3_note_58


noncomputable def f_X8_isSource (t : Sx) (a0 : Int32) : Option Int32 := (f_X8_isWithin t (a0) (0) (2)).bind fun r1 => gd (gz r1) (some r1)
set_option maxRecDepth 20000 in
set_option maxHeartbeats 4000000 in
theorem c_X8_isSource (l : Launch) (K : Kx) (t : Sx) (a0 : Int32) : CT l K yX8_isSource wsX8_isSource ({ frames := 1, cells := 0, slots := 0, locals := 22 } : Room) [.int a0] t (f_X8_isSource t a0) (kRI t) := by
  refine CT_of (cc := cX8_isSource) (maxL := 1) (ret := (some .boolean)) (own := RX8) (by decide +kernel) rfl rfl (Nat.le_of_ble_eq_true rfl) ?_
  intro p e s m args below meth c hc
  refine V_sub (lv' := [(0, .int a0)]) [0] rfl ?_
  unfold f_X8_isSource
  refine V_iload_n hc dX8_isSource_0 rfl 0 rfl ?_
  refine V_iconst (v := 0) hc dX8_isSource_1 (by decide) ?_
  refine V_iconst (v := 2) hc dX8_isSource_2 (by decide) ?_
  refine V_callS_RI hc (c_X8_isWithin l K t (a0) (0) (2)) 3 gX8_isSource_X8_isWithin rfl ⟨rfl, rfl⟩ (by decide) ⟨Nat.le_of_ble_eq_true rfl, Nat.le_of_ble_eq_true rfl⟩ rfl rfl (Nat.le_of_ble_eq_true rfl) dX8_isSource_3 (fun r1 => ?_)
  exact V_zret hc rfl rfl dX8_isSource_6


noncomputable def f_X8_orNotFound (t : Sx) (a0 : Int32) : Option Int32 := if a0 = (-1) then some (-4) else some a0
set_option maxRecDepth 20000 in
set_option maxHeartbeats 4000000 in
theorem c_X8_orNotFound (l : Launch) (K : Kx) (t : Sx) (a0 : Int32) : CT l K yX8_orNotFound wsX8_orNotFound ({ frames := 0, cells := 0, slots := 0, locals := 0 } : Room) [.int a0] t (f_X8_orNotFound t a0) (kRI t) := by
  refine CT_of (cc := cX8_orNotFound) (maxL := 1) (ret := (some .int)) (own := RX8) (by decide +kernel) rfl rfl (Nat.le_of_ble_eq_true rfl) ?_
  intro p e s m args below meth c hc
  refine V_sub (lv' := [(0, .int a0)]) [0] rfl ?_
  unfold f_X8_orNotFound
  refine V_iload_n hc dX8_orNotFound_0 rfl 0 rfl ?_
  refine V_iconst (v := (-1)) hc dX8_orNotFound_1 (by decide) ?_
  refine V_icmp_ne (tgt := 10) hc dX8_orNotFound_2 (by decide) ?_ ?_
  · refine V_iload_n hc dX8_orNotFound_10 rfl 0 rfl ?_
    exact V_iret hc rfl rfl dX8_orNotFound_11
  · refine V_bipush (v := (-4)) hc dX8_orNotFound_5 (by decide) ?_
    refine V_goto (tgt := 11) hc dX8_orNotFound_7 (by decide) ?_
    exact V_iret hc rfl rfl dX8_orNotFound_11

theorem kX5_append_15 : Cond.fieldLink RX5 15 RX5 (TX5 1).2.1 (TX5 1).2.2.1 ∈ wsX5_append := by decide +kernel
theorem qX5_append_RX5 : ∀ w ∈ u_ws RX5 TX5 2, w ∈ wsX5_append := by
  first
  | exact fun _ h => List.mem_cons_of_mem _ (List.mem_append_right _ h)
  | exact fun _ h => List.mem_cons_of_mem _ (List.mem_append_left _ (List.mem_append_right _ h))
  | exact fun _ h => List.mem_cons_of_mem _ (List.mem_append_left _ (List.mem_append_left _ (List.mem_append_right _ h)))
  | exact fun _ h => List.mem_cons_of_mem _ (List.mem_append_left _ (List.mem_append_left _ (List.mem_append_left _ (List.mem_append_right _ h))))
  | exact fun _ h => List.mem_cons_of_mem _ (List.mem_append_left _ (List.mem_append_left _ (List.mem_append_left _ (List.mem_append_left _ (List.mem_append_right _ h)))))
  | decide +kernel
theorem kX5_append_9 : Cond.fieldLink RX5 9 RX5 (TX5 0).2.1 (TX5 0).2.2.1 ∈ wsX5_append := by decide +kernel
noncomputable def f_X5_append (t : Sx) (k0 : Nat) (a1 : Int32) : Option Sx := if 80 ≤ (gI t (150 + k0)) then some t else gd (gch a1) (gd (vp_in (gI t (150 + k0)) 80) (bd (pA t (100 + k0) (ix (gI t (150 + k0))) a1) fun t1 => bd (pI t1 (150 + k0) ((gI t1 (150 + k0)) + 1)) fun t2 => some t2))
set_option maxRecDepth 20000 in
set_option maxHeartbeats 4000000 in
theorem c_X5_append (l : Launch) (K : Kx) (t : Sx) (k0 : Nat) (a1 : Int32) (hk0 : k0 < 9) : CT l K yX5_append wsX5_append ({ frames := 0, cells := 0, slots := 0, locals := 0 } : Room) [.ref (K.2.2 (32 + k0)), .int a1] t (f_X5_append t k0 a1) kWV := by
  refine CT_of (cc := cX5_append) (maxL := 2) (ret := none) (own := RX5) (by decide +kernel) rfl rfl (Nat.le_of_ble_eq_true rfl) ?_
  intro p e s m args below meth c hc
  refine V_sub (lv' := [(0, .ref (K.2.2 (32 + k0))), (1, .int a1)]) [0, 1] rfl ?_
  unfold f_X5_append
  refine V_aload_n hc dX5_append_0 rfl 0 rfl ?_
  refine V_geti (C := RX5) (T := TX5) (N := 2) hc (sh_rtx hk0) rfl qX5_append_RX5 1 rfl (by decide) kX5_append_15 rfl dX5_append_1 ?_
  refine V_bipush (v := 80) hc dX5_append_4 (by decide) ?_
  refine V_icmp_ge (tgt := 29) hc dX5_append_6 (by decide) ?_ ?_
  · exact V_vret hc rfl rfl dX5_append_29
  · refine V_aload_n hc dX5_append_9 rfl 0 rfl ?_
    refine V_getr (C := RX5) (T := TX5) (N := 2) hc (sh_rtx hk0) rfl qX5_append_RX5 0 rfl (by decide) kX5_append_9 rfl dX5_append_10 ?_
    refine V_aload_n hc dX5_append_13 rfl 0 rfl ?_
    refine V_geti (C := RX5) (T := TX5) (N := 2) hc (sh_rtx hk0) rfl qX5_append_RX5 1 rfl (by decide) kX5_append_15 rfl dX5_append_14 ?_
    refine V_iload_n hc dX5_append_17 rfl 1 rfl ?_
    refine V_cast hc (sh_rch hk0) dX5_append_18 ?_
    refine V_bds (fun t1 => ?_)
    refine V_aload_n hc dX5_append_19 rfl 0 rfl ?_
    refine V_dup hc dX5_append_20 rfl ?_
    refine V_geti (C := RX5) (T := TX5) (N := 2) hc (sh_rtx hk0) rfl qX5_append_RX5 1 rfl (by decide) kX5_append_15 rfl dX5_append_21 ?_
    refine V_iconst (v := 1) hc dX5_append_24 (by decide) ?_
    refine V_iadd hc dX5_append_25 ?_
    refine V_puti (C := RX5) (T := TX5) (N := 2) hc (sh_rtx hk0) rfl qX5_append_RX5 1 rfl (by decide) kX5_append_15 rfl tyX5 tyX5_ok nmX5 rfl (tyX5_ok 1 (by decide)) dX5_append_26 ?_
    refine V_bds (fun t2 => ?_)
    exact V_vret hc rfl rfl dX5_append_29

theorem kX5_empty_15 : Cond.fieldLink RX5 15 RX5 (TX5 1).2.1 (TX5 1).2.2.1 ∈ wsX5_empty := by decide +kernel
theorem qX5_empty_RX5 : ∀ w ∈ u_ws RX5 TX5 2, w ∈ wsX5_empty := by
  first
  | exact fun _ h => List.mem_cons_of_mem _ (List.mem_append_right _ h)
  | exact fun _ h => List.mem_cons_of_mem _ (List.mem_append_left _ (List.mem_append_right _ h))
  | exact fun _ h => List.mem_cons_of_mem _ (List.mem_append_left _ (List.mem_append_left _ (List.mem_append_right _ h)))
  | exact fun _ h => List.mem_cons_of_mem _ (List.mem_append_left _ (List.mem_append_left _ (List.mem_append_left _ (List.mem_append_right _ h))))
  | exact fun _ h => List.mem_cons_of_mem _ (List.mem_append_left _ (List.mem_append_left _ (List.mem_append_left _ (List.mem_append_left _ (List.mem_append_right _ h)))))
  | decide +kernel
noncomputable def f_X5_empty (t : Sx) (k0 : Nat) : Option Sx := bd (pI t (150 + k0) 0) fun t1 => some t1
set_option maxRecDepth 20000 in
set_option maxHeartbeats 4000000 in
theorem c_X5_empty (l : Launch) (K : Kx) (t : Sx) (k0 : Nat) (hk0 : k0 < 9) : CT l K yX5_empty wsX5_empty ({ frames := 0, cells := 0, slots := 0, locals := 0 } : Room) [.ref (K.2.2 (32 + k0))] t (f_X5_empty t k0) kWV := by
  refine CT_of (cc := cX5_empty) (maxL := 1) (ret := none) (own := RX5) (by decide +kernel) rfl rfl (Nat.le_of_ble_eq_true rfl) ?_
  intro p e s m args below meth c hc
  refine V_sub (lv' := [(0, .ref (K.2.2 (32 + k0)))]) [0] rfl ?_
  unfold f_X5_empty
  refine V_aload_n hc dX5_empty_0 rfl 0 rfl ?_
  refine V_iconst (v := 0) hc dX5_empty_1 (by decide) ?_
  refine V_puti (C := RX5) (T := TX5) (N := 2) hc (sh_rtx hk0) rfl qX5_empty_RX5 1 rfl (by decide) kX5_empty_15 rfl tyX5 tyX5_ok nmX5 rfl (tyX5_ok 1 (by decide)) dX5_empty_2 ?_
  refine V_bds (fun t1 => ?_)
  exact V_vret hc rfl rfl dX5_empty_5


noncomputable def f_X5_inItem (t : Sx) (a0 : Int32) (a1 : Int32) : Option Int32 := if a0 = 33 then some 0 else if a0 = 40 then if 10 ≤ a1 then (f_X5_fieldNamed t (a0)).bind fun r8 => if r8 = (-1) then if a0 = 97 then some 2 else if a0 = 98 then some 3 else if a0 = 115 then some 3 else if a0 = 116 then some 2 else if a0 = 117 then some 3 else if a0 = 118 then some 3 else some (-1) else some 1 else some 0 else (f_X5_fieldNamed t (a0)).bind fun r1 => if r1 = (-1) then if a0 = 97 then some 2 else if a0 = 98 then some 3 else if a0 = 115 then some 3 else if a0 = 116 then some 2 else if a0 = 117 then some 3 else if a0 = 118 then some 3 else some (-1) else some 1
set_option maxRecDepth 20000 in
set_option maxHeartbeats 4000000 in
theorem c_X5_inItem (l : Launch) (K : Kx) (t : Sx) (a0 : Int32) (a1 : Int32) : CT l K yX5_inItem wsX5_inItem ({ frames := 1, cells := 0, slots := 0, locals := 20 } : Room) [.int a0, .int a1] t (f_X5_inItem t a0 a1) (kRI t) := by
  refine CT_of (cc := cX5_inItem) (maxL := 2) (ret := (some .int)) (own := RX5) (by decide +kernel) rfl rfl (Nat.le_of_ble_eq_true rfl) ?_
  intro p e s m args below meth c hc
  refine V_sub (lv' := [(0, .int a0), (1, .int a1)]) [0, 1] rfl ?_
  unfold f_X5_inItem
  refine V_iload_n hc dX5_inItem_0 rfl 0 rfl ?_
  refine V_bipush (v := 33) hc dX5_inItem_1 (by decide) ?_
  refine V_icmp_eq (tgt := 18) hc dX5_inItem_3 (by decide) ?_ ?_
  · refine V_iconst (v := 0) hc dX5_inItem_18 (by decide) ?_
    exact V_iret hc rfl rfl dX5_inItem_19
  · refine V_iload_n hc dX5_inItem_6 rfl 0 rfl ?_
    refine V_bipush (v := 40) hc dX5_inItem_7 (by decide) ?_
    refine V_icmp_ne (tgt := 20) hc dX5_inItem_9 (by decide) ?_ ?_
    · refine V_iload_n hc dX5_inItem_20 rfl 0 rfl ?_
      refine V_callS_RI hc (c_X5_fieldNamed l K t (a0)) 1 gX5_inItem_X5_fieldNamed rfl ⟨rfl, rfl⟩ (by decide) ⟨Nat.le_of_ble_eq_true rfl, Nat.le_of_ble_eq_true rfl⟩ rfl rfl (Nat.le_of_ble_eq_true rfl) dX5_inItem_21 (fun r1 => ?_)
      refine V_iconst (v := (-1)) hc dX5_inItem_24 (by decide) ?_
      refine V_icmp_eq (tgt := 30) hc dX5_inItem_25 (by decide) ?_ ?_
      · refine V_iload_n hc dX5_inItem_30 rfl 0 rfl ?_
        refine V_ite (fun h2 => ?_) (fun h2 => ?_)
        · refine V_lks (tgt := 88) hc dX5_inItem_31 (by decide) (by rw [h2] <;> rfl) (by decide) ?_
          refine V_iconst (v := 2) hc dX5_inItem_88 (by decide) ?_
          exact V_iret hc rfl rfl dX5_inItem_89
        · refine V_ite (fun h3 => ?_) (fun h3 => ?_)
          · refine V_lks (tgt := 90) hc dX5_inItem_31 (by decide) (by rw [h3] <;> rfl) (by decide) ?_
            refine V_iconst (v := 3) hc dX5_inItem_90 (by decide) ?_
            exact V_iret hc rfl rfl dX5_inItem_91
          · refine V_ite (fun h4 => ?_) (fun h4 => ?_)
            · refine V_lks (tgt := 90) hc dX5_inItem_31 (by decide) (by rw [h4] <;> rfl) (by decide) ?_
              refine V_iconst (v := 3) hc dX5_inItem_90 (by decide) ?_
              exact V_iret hc rfl rfl dX5_inItem_91
            · refine V_ite (fun h5 => ?_) (fun h5 => ?_)
              · refine V_lks (tgt := 88) hc dX5_inItem_31 (by decide) (by rw [h5] <;> rfl) (by decide) ?_
                refine V_iconst (v := 2) hc dX5_inItem_88 (by decide) ?_
                exact V_iret hc rfl rfl dX5_inItem_89
              · refine V_ite (fun h6 => ?_) (fun h6 => ?_)
                · refine V_lks (tgt := 90) hc dX5_inItem_31 (by decide) (by rw [h6] <;> rfl) (by decide) ?_
                  refine V_iconst (v := 3) hc dX5_inItem_90 (by decide) ?_
                  exact V_iret hc rfl rfl dX5_inItem_91
                · refine V_ite (fun h7 => ?_) (fun h7 => ?_)
                  · refine V_lks (tgt := 90) hc dX5_inItem_31 (by decide) (by rw [h7] <;> rfl) (by decide) ?_
                    refine V_iconst (v := 3) hc dX5_inItem_90 (by decide) ?_
                    exact V_iret hc rfl rfl dX5_inItem_91
                  · refine V_lks (tgt := 92) hc dX5_inItem_31 (by decide) (lks_dflt (List.forall_mem_cons.mpr ⟨toInt_ne h2, (List.forall_mem_cons.mpr ⟨toInt_ne h3, (List.forall_mem_cons.mpr ⟨toInt_ne h4, (List.forall_mem_cons.mpr ⟨toInt_ne h5, (List.forall_mem_cons.mpr ⟨toInt_ne h6, (List.forall_mem_cons.mpr ⟨toInt_ne h7, (fun _ h => absurd h List.not_mem_nil)⟩)⟩)⟩)⟩)⟩)⟩)) (by decide) ?_
                    refine V_iconst (v := (-1)) hc dX5_inItem_92 (by decide) ?_
                    exact V_iret hc rfl rfl dX5_inItem_93
      · refine V_iconst (v := 1) hc dX5_inItem_28 (by decide) ?_
        exact V_iret hc rfl rfl dX5_inItem_29
    · refine V_iload_n hc dX5_inItem_12 rfl 1 rfl ?_
      refine V_bipush (v := 10) hc dX5_inItem_13 (by decide) ?_
      refine V_icmp_ge (tgt := 20) hc dX5_inItem_15 (by decide) ?_ ?_
      · refine V_iload_n hc dX5_inItem_20 rfl 0 rfl ?_
        refine V_callS_RI hc (c_X5_fieldNamed l K t (a0)) 1 gX5_inItem_X5_fieldNamed rfl ⟨rfl, rfl⟩ (by decide) ⟨Nat.le_of_ble_eq_true rfl, Nat.le_of_ble_eq_true rfl⟩ rfl rfl (Nat.le_of_ble_eq_true rfl) dX5_inItem_21 (fun r8 => ?_)
        refine V_iconst (v := (-1)) hc dX5_inItem_24 (by decide) ?_
        refine V_icmp_eq (tgt := 30) hc dX5_inItem_25 (by decide) ?_ ?_
        · refine V_iload_n hc dX5_inItem_30 rfl 0 rfl ?_
          refine V_ite (fun h9 => ?_) (fun h9 => ?_)
          · refine V_lks (tgt := 88) hc dX5_inItem_31 (by decide) (by rw [h9] <;> rfl) (by decide) ?_
            refine V_iconst (v := 2) hc dX5_inItem_88 (by decide) ?_
            exact V_iret hc rfl rfl dX5_inItem_89
          · refine V_ite (fun h10 => ?_) (fun h10 => ?_)
            · refine V_lks (tgt := 90) hc dX5_inItem_31 (by decide) (by rw [h10] <;> rfl) (by decide) ?_
              refine V_iconst (v := 3) hc dX5_inItem_90 (by decide) ?_
              exact V_iret hc rfl rfl dX5_inItem_91
            · refine V_ite (fun h11 => ?_) (fun h11 => ?_)
              · refine V_lks (tgt := 90) hc dX5_inItem_31 (by decide) (by rw [h11] <;> rfl) (by decide) ?_
                refine V_iconst (v := 3) hc dX5_inItem_90 (by decide) ?_
                exact V_iret hc rfl rfl dX5_inItem_91
              · refine V_ite (fun h12 => ?_) (fun h12 => ?_)
                · refine V_lks (tgt := 88) hc dX5_inItem_31 (by decide) (by rw [h12] <;> rfl) (by decide) ?_
                  refine V_iconst (v := 2) hc dX5_inItem_88 (by decide) ?_
                  exact V_iret hc rfl rfl dX5_inItem_89
                · refine V_ite (fun h13 => ?_) (fun h13 => ?_)
                  · refine V_lks (tgt := 90) hc dX5_inItem_31 (by decide) (by rw [h13] <;> rfl) (by decide) ?_
                    refine V_iconst (v := 3) hc dX5_inItem_90 (by decide) ?_
                    exact V_iret hc rfl rfl dX5_inItem_91
                  · refine V_ite (fun h14 => ?_) (fun h14 => ?_)
                    · refine V_lks (tgt := 90) hc dX5_inItem_31 (by decide) (by rw [h14] <;> rfl) (by decide) ?_
                      refine V_iconst (v := 3) hc dX5_inItem_90 (by decide) ?_
                      exact V_iret hc rfl rfl dX5_inItem_91
                    · refine V_lks (tgt := 92) hc dX5_inItem_31 (by decide) (lks_dflt (List.forall_mem_cons.mpr ⟨toInt_ne h9, (List.forall_mem_cons.mpr ⟨toInt_ne h10, (List.forall_mem_cons.mpr ⟨toInt_ne h11, (List.forall_mem_cons.mpr ⟨toInt_ne h12, (List.forall_mem_cons.mpr ⟨toInt_ne h13, (List.forall_mem_cons.mpr ⟨toInt_ne h14, (fun _ h => absurd h List.not_mem_nil)⟩)⟩)⟩)⟩)⟩)⟩)) (by decide) ?_
                      refine V_iconst (v := (-1)) hc dX5_inItem_92 (by decide) ?_
                      exact V_iret hc rfl rfl dX5_inItem_93
        · refine V_iconst (v := 1) hc dX5_inItem_28 (by decide) ?_
          exact V_iret hc rfl rfl dX5_inItem_29
      · refine V_iconst (v := 0) hc dX5_inItem_18 (by decide) ?_
        exact V_iret hc rfl rfl dX5_inItem_19


noncomputable def f_X5_afterField (t : Sx) (a0 : Int32) : Option Int32 := if a0 = 60 then some 4 else if a0 = 61 then some 4 else if a0 = 62 then some 4 else if a0 = 63 then some 3 else some (-1)
set_option maxRecDepth 20000 in
set_option maxHeartbeats 4000000 in
theorem c_X5_afterField (l : Launch) (K : Kx) (t : Sx) (a0 : Int32) : CT l K yX5_afterField wsX5_afterField ({ frames := 0, cells := 0, slots := 0, locals := 0 } : Room) [.int a0] t (f_X5_afterField t a0) (kRI t) := by
  refine CT_of (cc := cX5_afterField) (maxL := 1) (ret := (some .int)) (own := RX5) (by decide +kernel) rfl rfl (Nat.le_of_ble_eq_true rfl) ?_
  intro p e s m args below meth c hc
  refine V_sub (lv' := [(0, .int a0)]) [0] rfl ?_
  unfold f_X5_afterField
  refine V_iload_n hc dX5_afterField_0 rfl 0 rfl ?_
  refine V_ite (fun h1 => ?_) (fun h1 => ?_)
  · refine V_tsIn (tgt := 32) hc dX5_afterField_1 (by rw [h1] <;> decide) (by rw [h1] <;> decide) (by rw [h1] <;> rfl) (by decide) ?_
    refine V_iconst (v := 4) hc dX5_afterField_32 (by decide) ?_
    exact V_iret hc rfl rfl dX5_afterField_33
  · refine V_ite (fun h2 => ?_) (fun h2 => ?_)
    · refine V_tsIn (tgt := 32) hc dX5_afterField_1 (by rw [h2] <;> decide) (by rw [h2] <;> decide) (by rw [h2] <;> rfl) (by decide) ?_
      refine V_iconst (v := 4) hc dX5_afterField_32 (by decide) ?_
      exact V_iret hc rfl rfl dX5_afterField_33
    · refine V_ite (fun h3 => ?_) (fun h3 => ?_)
      · refine V_tsIn (tgt := 32) hc dX5_afterField_1 (by rw [h3] <;> decide) (by rw [h3] <;> decide) (by rw [h3] <;> rfl) (by decide) ?_
        refine V_iconst (v := 4) hc dX5_afterField_32 (by decide) ?_
        exact V_iret hc rfl rfl dX5_afterField_33
      · refine V_ite (fun h4 => ?_) (fun h4 => ?_)
        · refine V_tsIn (tgt := 34) hc dX5_afterField_1 (by rw [h4] <;> decide) (by rw [h4] <;> decide) (by rw [h4] <;> rfl) (by decide) ?_
          refine V_iconst (v := 3) hc dX5_afterField_34 (by decide) ?_
          exact V_iret hc rfl rfl dX5_afterField_35
        · refine V_tsOut (tgt := 36) hc dX5_afterField_1 (ts_out (lo := 60) (n := 4) (fun i hi => match i, hi with | 0, _ => h1 | 1, _ => h2 | 2, _ => h3 | 3, _ => h4 | _ + 4, hi => absurd hi (by omega))) (by decide) ?_
          refine V_iconst (v := (-1)) hc dX5_afterField_36 (by decide) ?_
          exact V_iret hc rfl rfl dX5_afterField_37


noncomputable def f_X5_afterItem (t : Sx) (a0 : Int32) (a1 : Int32) : Option Int32 := if a0 = 38 then some 0 else if a0 = 124 then some 0 else if a0 = 41 then if a1 ≤ 0 then some (-1) else some 3 else some (-1)
set_option maxRecDepth 20000 in
set_option maxHeartbeats 4000000 in
theorem c_X5_afterItem (l : Launch) (K : Kx) (t : Sx) (a0 : Int32) (a1 : Int32) : CT l K yX5_afterItem wsX5_afterItem ({ frames := 0, cells := 0, slots := 0, locals := 0 } : Room) [.int a0, .int a1] t (f_X5_afterItem t a0 a1) (kRI t) := by
  refine CT_of (cc := cX5_afterItem) (maxL := 2) (ret := (some .int)) (own := RX5) (by decide +kernel) rfl rfl (Nat.le_of_ble_eq_true rfl) ?_
  intro p e s m args below meth c hc
  refine V_sub (lv' := [(0, .int a0), (1, .int a1)]) [0, 1] rfl ?_
  unfold f_X5_afterItem
  refine V_iload_n hc dX5_afterItem_0 rfl 0 rfl ?_
  refine V_bipush (v := 38) hc dX5_afterItem_1 (by decide) ?_
  refine V_icmp_eq (tgt := 12) hc dX5_afterItem_3 (by decide) ?_ ?_
  · refine V_iconst (v := 0) hc dX5_afterItem_12 (by decide) ?_
    exact V_iret hc rfl rfl dX5_afterItem_13
  · refine V_iload_n hc dX5_afterItem_6 rfl 0 rfl ?_
    refine V_bipush (v := 124) hc dX5_afterItem_7 (by decide) ?_
    refine V_icmp_ne (tgt := 14) hc dX5_afterItem_9 (by decide) ?_ ?_
    · refine V_iload_n hc dX5_afterItem_14 rfl 0 rfl ?_
      refine V_bipush (v := 41) hc dX5_afterItem_15 (by decide) ?_
      refine V_icmp_ne (tgt := 28) hc dX5_afterItem_17 (by decide) ?_ ?_
      · refine V_iconst (v := (-1)) hc dX5_afterItem_28 (by decide) ?_
        exact V_iret hc rfl rfl dX5_afterItem_29
      · refine V_iload_n hc dX5_afterItem_20 rfl 1 rfl ?_
        refine V_if_le (tgt := 28) hc dX5_afterItem_21 (by decide) ?_ ?_
        · refine V_iconst (v := (-1)) hc dX5_afterItem_28 (by decide) ?_
          exact V_iret hc rfl rfl dX5_afterItem_29
        · refine V_iconst (v := 3) hc dX5_afterItem_24 (by decide) ?_
          refine V_goto (tgt := 29) hc dX5_afterItem_25 (by decide) ?_
          exact V_iret hc rfl rfl dX5_afterItem_29
    · refine V_iconst (v := 0) hc dX5_afterItem_12 (by decide) ?_
      exact V_iret hc rfl rfl dX5_afterItem_13


noncomputable def f_X5_inNumber (t : Sx) (a0 : Int32) (a1 : Int32) (a2 : Int32) : Option Int32 := (f_X5_isDigit t (a1)).bind fun r1 => if r1 = 0 then if (a0 - 4) ≤ 0 then some (-1) else (f_X5_afterItem t (a1) (a2)).bind fun r2 => some r2 else if 5 ≤ (a0 - 4) then some (-1) else some (a0 + 1)
set_option maxRecDepth 20000 in
set_option maxHeartbeats 4000000 in
theorem c_X5_inNumber (l : Launch) (K : Kx) (t : Sx) (a0 : Int32) (a1 : Int32) (a2 : Int32) : CT l K yX5_inNumber wsX5_inNumber ({ frames := 1, cells := 0, slots := 0, locals := 21 } : Room) [.int a0, .int a1, .int a2] t (f_X5_inNumber t a0 a1 a2) (kRI t) := by
  refine CT_of (cc := cX5_inNumber) (maxL := 4) (ret := (some .int)) (own := RX5) (by decide +kernel) rfl rfl (Nat.le_of_ble_eq_true rfl) ?_
  intro p e s m args below meth c hc
  refine V_sub (lv' := [(0, .int a0), (1, .int a1), (2, .int a2)]) [0, 1, 2] rfl ?_
  unfold f_X5_inNumber
  refine V_iload_n hc dX5_inNumber_0 rfl 0 rfl ?_
  refine V_iconst (v := 4) hc dX5_inNumber_1 (by decide) ?_
  refine V_isub hc dX5_inNumber_2 ?_
  refine V_istore_n (lv' := [(3, .int (a0 - 4)), (0, .int a0), (1, .int a1), (2, .int a2)]) hc dX5_inNumber_3 rfl (by decide) rfl ?_
  refine V_iload_n hc dX5_inNumber_4 rfl 2 rfl ?_
  refine V_callS_RI hc (c_X5_isDigit l K t (a1)) 1 gX5_inNumber_X5_isDigit rfl ⟨rfl, rfl⟩ (by decide) ⟨Nat.le_of_ble_eq_true rfl, Nat.le_of_ble_eq_true rfl⟩ rfl rfl (Nat.le_of_ble_eq_true rfl) dX5_inNumber_5 (fun r1 => ?_)
  refine V_if_eq (tgt := 24) hc dX5_inNumber_8 (by decide) ?_ ?_
  · refine V_iload_n hc dX5_inNumber_24 rfl 0 rfl ?_
    refine V_if_le (tgt := 36) hc dX5_inNumber_25 (by decide) ?_ ?_
    · refine V_iconst (v := (-1)) hc dX5_inNumber_36 (by decide) ?_
      exact V_iret hc rfl rfl dX5_inNumber_37
    · refine V_iload_n hc dX5_inNumber_28 rfl 2 rfl ?_
      refine V_iload_n hc dX5_inNumber_29 rfl 3 rfl ?_
      refine V_callS_RI hc (c_X5_afterItem l K t (a1) (a2)) 2 gX5_inNumber_X5_afterItem rfl ⟨rfl, rfl⟩ (by decide) ⟨Nat.le_of_ble_eq_true rfl, Nat.le_of_ble_eq_true rfl⟩ rfl rfl (Nat.le_of_ble_eq_true rfl) dX5_inNumber_30 (fun r2 => ?_)
      refine V_goto (tgt := 37) hc dX5_inNumber_33 (by decide) ?_
      exact V_iret hc rfl rfl dX5_inNumber_37
  · refine V_iload_n hc dX5_inNumber_11 rfl 0 rfl ?_
    refine V_iconst (v := 5) hc dX5_inNumber_12 (by decide) ?_
    refine V_icmp_ge (tgt := 22) hc dX5_inNumber_13 (by decide) ?_ ?_
    · refine V_iconst (v := (-1)) hc dX5_inNumber_22 (by decide) ?_
      exact V_iret hc rfl rfl dX5_inNumber_23
    · refine V_iload_n hc dX5_inNumber_16 rfl 1 rfl ?_
      refine V_iconst (v := 1) hc dX5_inNumber_17 (by decide) ?_
      refine V_iadd hc dX5_inNumber_18 ?_
      refine V_goto (tgt := 23) hc dX5_inNumber_19 (by decide) ?_
      exact V_iret hc rfl rfl dX5_inNumber_23


noncomputable def f_X5_next (t : Sx) (a0 : Int32) (a1 : Int32) (a2 : Int32) : Option Int32 := if a0 = 0 then (f_X5_inItem t (a1) (a2)).bind fun r2 => some r2 else if a0 = 1 then (f_X5_afterField t (a1)).bind fun r4 => some r4 else if a0 = 2 then (f_X5_isDigit t (a1)).bind fun r6 => if r6 = 0 then some (-1) else some 3 else if a0 = 3 then (f_X5_afterItem t (a1) (a2)).bind fun r8 => some r8 else (f_X5_inNumber t (a0) (a1) (a2)).bind fun r9 => some r9
set_option maxRecDepth 20000 in
set_option maxHeartbeats 4000000 in
theorem c_X5_next (l : Launch) (K : Kx) (t : Sx) (a0 : Int32) (a1 : Int32) (a2 : Int32) : CT l K yX5_next wsX5_next ({ frames := 2, cells := 0, slots := 0, locals := 44 } : Room) [.int a0, .int a1, .int a2] t (f_X5_next t a0 a1 a2) (kRI t) := by
  refine CT_of (cc := cX5_next) (maxL := 3) (ret := (some .int)) (own := RX5) (by decide +kernel) rfl rfl (Nat.le_of_ble_eq_true rfl) ?_
  intro p e s m args below meth c hc
  refine V_sub (lv' := [(0, .int a0), (1, .int a1), (2, .int a2)]) [0, 1, 2] rfl ?_
  unfold f_X5_next
  refine V_iload_n hc dX5_next_0 rfl 0 rfl ?_
  refine V_ite (fun h1 => ?_) (fun h1 => ?_)
  · refine V_tsIn (tgt := 32) hc dX5_next_1 (by rw [h1] <;> decide) (by rw [h1] <;> decide) (by rw [h1] <;> rfl) (by decide) ?_
    refine V_iload_n hc dX5_next_32 rfl 1 rfl ?_
    refine V_iload_n hc dX5_next_33 rfl 2 rfl ?_
    refine V_callS_RI hc (c_X5_inItem l K t (a1) (a2)) 2 gX5_next_X5_inItem rfl ⟨rfl, rfl⟩ (by decide) ⟨Nat.le_of_ble_eq_true rfl, Nat.le_of_ble_eq_true rfl⟩ rfl rfl (Nat.le_of_ble_eq_true rfl) dX5_next_34 (fun r2 => ?_)
    exact V_iret hc rfl rfl dX5_next_37
  · refine V_ite (fun h3 => ?_) (fun h3 => ?_)
    · refine V_tsIn (tgt := 38) hc dX5_next_1 (by rw [h3] <;> decide) (by rw [h3] <;> decide) (by rw [h3] <;> rfl) (by decide) ?_
      refine V_iload_n hc dX5_next_38 rfl 1 rfl ?_
      refine V_callS_RI hc (c_X5_afterField l K t (a1)) 1 gX5_next_X5_afterField rfl ⟨rfl, rfl⟩ (by decide) ⟨Nat.le_of_ble_eq_true rfl, Nat.le_of_ble_eq_true rfl⟩ rfl rfl (Nat.le_of_ble_eq_true rfl) dX5_next_39 (fun r4 => ?_)
      exact V_iret hc rfl rfl dX5_next_42
    · refine V_ite (fun h5 => ?_) (fun h5 => ?_)
      · refine V_tsIn (tgt := 43) hc dX5_next_1 (by rw [h5] <;> decide) (by rw [h5] <;> decide) (by rw [h5] <;> rfl) (by decide) ?_
        refine V_iload_n hc dX5_next_43 rfl 1 rfl ?_
        refine V_callS_RI hc (c_X5_isDigit l K t (a1)) 1 gX5_next_X5_isDigit rfl ⟨rfl, rfl⟩ (by decide) ⟨Nat.le_of_ble_eq_true rfl, Nat.le_of_ble_eq_true rfl⟩ rfl rfl (Nat.le_of_ble_eq_true rfl) dX5_next_44 (fun r6 => ?_)
        refine V_if_eq (tgt := 54) hc dX5_next_47 (by decide) ?_ ?_
        · refine V_iconst (v := (-1)) hc dX5_next_54 (by decide) ?_
          exact V_iret hc rfl rfl dX5_next_55
        · refine V_iconst (v := 3) hc dX5_next_50 (by decide) ?_
          refine V_goto (tgt := 55) hc dX5_next_51 (by decide) ?_
          exact V_iret hc rfl rfl dX5_next_55
      · refine V_ite (fun h7 => ?_) (fun h7 => ?_)
        · refine V_tsIn (tgt := 56) hc dX5_next_1 (by rw [h7] <;> decide) (by rw [h7] <;> decide) (by rw [h7] <;> rfl) (by decide) ?_
          refine V_iload_n hc dX5_next_56 rfl 1 rfl ?_
          refine V_iload_n hc dX5_next_57 rfl 2 rfl ?_
          refine V_callS_RI hc (c_X5_afterItem l K t (a1) (a2)) 2 gX5_next_X5_afterItem rfl ⟨rfl, rfl⟩ (by decide) ⟨Nat.le_of_ble_eq_true rfl, Nat.le_of_ble_eq_true rfl⟩ rfl rfl (Nat.le_of_ble_eq_true rfl) dX5_next_58 (fun r8 => ?_)
          exact V_iret hc rfl rfl dX5_next_61
        · refine V_tsOut (tgt := 62) hc dX5_next_1 (ts_out (lo := 0) (n := 4) (fun i hi => match i, hi with | 0, _ => h1 | 1, _ => h3 | 2, _ => h5 | 3, _ => h7 | _ + 4, hi => absurd hi (by omega))) (by decide) ?_
          refine V_iload_n hc dX5_next_62 rfl 0 rfl ?_
          refine V_iload_n hc dX5_next_63 rfl 1 rfl ?_
          refine V_iload_n hc dX5_next_64 rfl 2 rfl ?_
          refine V_callS_RI hc (c_X5_inNumber l K t (a0) (a1) (a2)) 3 gX5_next_X5_inNumber rfl ⟨rfl, rfl⟩ (by decide) ⟨Nat.le_of_ble_eq_true rfl, Nat.le_of_ble_eq_true rfl⟩ rfl rfl (Nat.le_of_ble_eq_true rfl) dX5_next_65 (fun r9 => ?_)
          exact V_iret hc rfl rfl dX5_next_68

theorem kX5_firstFault_15 : Cond.fieldLink RX5 15 RX5 (TX5 1).2.1 (TX5 1).2.2.1 ∈ wsX5_firstFault := by decide +kernel
theorem qX5_firstFault_RX5 : ∀ w ∈ u_ws RX5 TX5 2, w ∈ wsX5_firstFault := by
  first
  | exact fun _ h => List.mem_cons_of_mem _ (List.mem_append_right _ h)
  | exact fun _ h => List.mem_cons_of_mem _ (List.mem_append_left _ (List.mem_append_right _ h))
  | exact fun _ h => List.mem_cons_of_mem _ (List.mem_append_left _ (List.mem_append_left _ (List.mem_append_right _ h)))
  | exact fun _ h => List.mem_cons_of_mem _ (List.mem_append_left _ (List.mem_append_left _ (List.mem_append_left _ (List.mem_append_right _ h))))
  | exact fun _ h => List.mem_cons_of_mem _ (List.mem_append_left _ (List.mem_append_left _ (List.mem_append_left _ (List.mem_append_left _ (List.mem_append_right _ h)))))
  | decide +kernel
theorem kX5_firstFault_9 : Cond.fieldLink RX5 9 RX5 (TX5 0).2.1 (TX5 0).2.2.1 ∈ wsX5_firstFault := by decide +kernel
noncomputable def L_X5_firstFault_6 (t0 : Sx) (b0 : Nat) (kont : Int32 → Int32 → Int32 → Option Int32) : Nat → Int32 → Int32 → Int32 → Option Int32
  | 0, _, _, _ => none
  | n + 1, x1 , x2 , x3 => if (gI t0 (150 + b0)) ≤ x3 then kont (x1) (x2) (x3) else gd (vp_in x3 80) ((f_X5_next t0 (x1) (gA t0 (100 + b0) (ix x3)) (x2)).bind fun r1 => if r1 = (-1) then some x3 else if (gA t0 (100 + b0) (ix x3)) = 40 then L_X5_firstFault_6 t0 b0 kont n (r1) ((x2 + 1)) ((x3 + 1)) else if (gA t0 (100 + b0) (ix x3)) = 41 then L_X5_firstFault_6 t0 b0 kont n (r1) ((x2 + (-1))) ((x3 + 1)) else L_X5_firstFault_6 t0 b0 kont n (r1) (x2) ((x3 + 1)))
set_option maxRecDepth 20000 in
set_option maxHeartbeats 4000000 in
theorem L_X5_firstFault_6_ok {p : Program} {l : Launch} {K : Kx} {e : Env} {s : State} {m : MethodId} {args : Array Value} {below : List Frame} {meth : Method} {c : Code} (hc : Cx p ({ frames := 3, cells := 0, slots := 0, locals := 66 } : Room) s m args meth c cX5_firstFault 5 wsX5_firstFault RX5 K (aA K s.heap.size) (some .int) 0 0) (t0 : Sx) (b0 : Nat) (hb0 : b0 < 9) (kont : Int32 → Int32 → Int32 → Option Int32) (hk : ∀ x1 x2 x3, V p l e ({ frames := 3, cells := 0, slots := 0, locals := 66 } : Room) s m args below meth c K (aA K s.heap.size) 0 0 5 (QM below K args s (kRI t0)) 66 [(0, .ref (K.2.2 (32 + b0))), (1, .int x1), (2, .int x2), (3, .int x3)] [] t0 (kont x1 x2 x3)) : ∀ (n : Nat) (x1 : Int32) (x2 : Int32) (x3 : Int32), V p l e ({ frames := 3, cells := 0, slots := 0, locals := 66 } : Room) s m args below meth c K (aA K s.heap.size) 0 0 5 (QM below K args s (kRI t0)) 6 [(0, .ref (K.2.2 (32 + b0))), (1, .int x1), (2, .int x2), (3, .int x3)] [] t0 (L_X5_firstFault_6 t0 b0 kont n x1 x2 x3) := by
  intro n
  induction n with
  | zero => intro x1 x2 x3; exact V_none
  | succ n ih =>
    intro x1 x2 x3
    rw [L_X5_firstFault_6]
    refine V_iload_n hc dX5_firstFault_6 rfl 3 rfl ?_
    refine V_aload_n hc dX5_firstFault_7 rfl 0 rfl ?_
    refine V_geti (C := RX5) (T := TX5) (N := 2) hc (sh_rtx hb0) rfl qX5_firstFault_RX5 1 rfl (by decide) kX5_firstFault_15 rfl dX5_firstFault_8 ?_
    refine V_icmp_ge (tgt := 66) hc dX5_firstFault_11 (by decide) ?_ ?_
    · exact V_sub [0, 1, 2, 3] rfl (hk _ _ _)
    · refine V_aload_n hc dX5_firstFault_14 rfl 0 rfl ?_
      refine V_getr (C := RX5) (T := TX5) (N := 2) hc (sh_rtx hb0) rfl qX5_firstFault_RX5 0 rfl (by decide) kX5_firstFault_9 rfl dX5_firstFault_15 ?_
      refine V_iload_n hc dX5_firstFault_18 rfl 3 rfl ?_
      refine V_cald hc (sh_rch hb0) dX5_firstFault_19 ?_
      refine V_istore (lv' := [(4, .int (gA t0 (100 + b0) (ix x3))), (0, .ref (K.2.2 (32 + b0))), (1, .int x1), (2, .int x2), (3, .int x3)]) hc dX5_firstFault_20 (by decide) rfl ?_
      refine V_iload_n hc dX5_firstFault_22 rfl 2 rfl ?_
      refine V_iload hc dX5_firstFault_23 0 rfl ?_
      refine V_iload_n hc dX5_firstFault_25 rfl 3 rfl ?_
      refine V_callS_RI hc (c_X5_next l K t0 (x1) (gA t0 (100 + b0) (ix x3)) (x2)) 3 gX5_firstFault_X5_next rfl ⟨rfl, rfl⟩ (by decide) ⟨Nat.le_of_ble_eq_true rfl, Nat.le_of_ble_eq_true rfl⟩ rfl rfl (Nat.le_of_ble_eq_true rfl) dX5_firstFault_26 (fun r1 => ?_)
      refine V_istore_n (lv' := [(1, .int r1), (4, .int (gA t0 (100 + b0) (ix x3))), (0, .ref (K.2.2 (32 + b0))), (2, .int x2), (3, .int x3)]) hc dX5_firstFault_29 rfl (by decide) rfl ?_
      refine V_iload_n hc dX5_firstFault_30 rfl 0 rfl ?_
      refine V_iconst (v := (-1)) hc dX5_firstFault_31 (by decide) ?_
      refine V_icmp_ne (tgt := 37) hc dX5_firstFault_32 (by decide) ?_ ?_
      · refine V_iload hc dX5_firstFault_37 1 rfl ?_
        refine V_bipush (v := 40) hc dX5_firstFault_39 (by decide) ?_
        refine V_icmp_ne (tgt := 50) hc dX5_firstFault_41 (by decide) ?_ ?_
        · refine V_iload hc dX5_firstFault_50 1 rfl ?_
          refine V_bipush (v := 41) hc dX5_firstFault_52 (by decide) ?_
          refine V_icmp_ne (tgt := 60) hc dX5_firstFault_54 (by decide) ?_ ?_
          · refine V_iinc (v := (x3 + 1)) (lv' := [(3, .int (x3 + 1)), (1, .int r1), (4, .int (gA t0 (100 + b0) (ix x3))), (0, .ref (K.2.2 (32 + b0))), (2, .int x2)]) hc dX5_firstFault_60 4 rfl rfl (by decide) rfl ?_
            refine V_goto (tgt := 6) hc dX5_firstFault_63 (by decide) ?_
            exact V_sub [3, 1, 4, 0] rfl (ih _ _ _)
          · refine V_iinc (v := (x2 + (-1))) (lv' := [(2, .int (x2 + (-1))), (1, .int r1), (4, .int (gA t0 (100 + b0) (ix x3))), (0, .ref (K.2.2 (32 + b0))), (3, .int x3)]) hc dX5_firstFault_57 3 rfl rfl (by decide) rfl ?_
            refine V_iinc (v := (x3 + 1)) (lv' := [(3, .int (x3 + 1)), (2, .int (x2 + (-1))), (1, .int r1), (4, .int (gA t0 (100 + b0) (ix x3))), (0, .ref (K.2.2 (32 + b0)))]) hc dX5_firstFault_60 4 rfl rfl (by decide) rfl ?_
            refine V_goto (tgt := 6) hc dX5_firstFault_63 (by decide) ?_
            exact V_sub [4, 2, 1, 0] rfl (ih _ _ _)
        · refine V_iinc (v := (x2 + 1)) (lv' := [(2, .int (x2 + 1)), (1, .int r1), (4, .int (gA t0 (100 + b0) (ix x3))), (0, .ref (K.2.2 (32 + b0))), (3, .int x3)]) hc dX5_firstFault_44 3 rfl rfl (by decide) rfl ?_
          refine V_goto (tgt := 60) hc dX5_firstFault_47 (by decide) ?_
          refine V_iinc (v := (x3 + 1)) (lv' := [(3, .int (x3 + 1)), (2, .int (x2 + 1)), (1, .int r1), (4, .int (gA t0 (100 + b0) (ix x3))), (0, .ref (K.2.2 (32 + b0)))]) hc dX5_firstFault_60 4 rfl rfl (by decide) rfl ?_
          refine V_goto (tgt := 6) hc dX5_firstFault_63 (by decide) ?_
          exact V_sub [4, 2, 1, 0] rfl (ih _ _ _)
      · refine V_iload_n hc dX5_firstFault_35 rfl 4 rfl ?_
        exact V_iret hc rfl rfl dX5_firstFault_36
noncomputable def f_X5_firstFault (t : Sx) (k0 : Nat) : Option Int32 := L_X5_firstFault_6 t (k0) (fun z2 z3 z4 => if z2 < 3 then some (gI t (150 + k0)) else if z2 = 4 then some (gI t (150 + k0)) else if z3 = 0 then some (-1) else some (gI t (150 + k0))) FU (0) (0) (0)
set_option maxRecDepth 20000 in
set_option maxHeartbeats 4000000 in
theorem c_X5_firstFault (l : Launch) (K : Kx) (t : Sx) (k0 : Nat) (hk0 : k0 < 9) : CT l K yX5_firstFault wsX5_firstFault ({ frames := 3, cells := 0, slots := 0, locals := 66 } : Room) [.ref (K.2.2 (32 + k0))] t (f_X5_firstFault t k0) (kRI t) := by
  refine CT_of (cc := cX5_firstFault) (maxL := 5) (ret := (some .int)) (own := RX5) (by decide +kernel) rfl rfl (Nat.le_of_ble_eq_true rfl) ?_
  intro p e s m args below meth c hc
  refine V_sub (lv' := [(0, .ref (K.2.2 (32 + k0)))]) [0] rfl ?_
  unfold f_X5_firstFault
  refine V_iconst (v := 0) hc dX5_firstFault_0 (by decide) ?_
  refine V_istore_n (lv' := [(1, .int 0), (0, .ref (K.2.2 (32 + k0)))]) hc dX5_firstFault_1 rfl (by decide) rfl ?_
  refine V_iconst (v := 0) hc dX5_firstFault_2 (by decide) ?_
  refine V_istore_n (lv' := [(2, .int 0), (1, .int 0), (0, .ref (K.2.2 (32 + k0)))]) hc dX5_firstFault_3 rfl (by decide) rfl ?_
  refine V_iconst (v := 0) hc dX5_firstFault_4 (by decide) ?_
  refine V_istore_n (lv' := [(3, .int 0), (2, .int 0), (1, .int 0), (0, .ref (K.2.2 (32 + k0)))]) hc dX5_firstFault_5 rfl (by decide) rfl ?_
  refine V_sub (lv' := [(0, .ref (K.2.2 (32 + k0))), (1, .int 0), (2, .int 0), (3, .int 0)]) [3, 2, 1, 0] rfl ?_
  refine L_X5_firstFault_6_ok hc t (k0) hk0 _ (fun z2 z3 z4 => ?_) FU _ _ _
  refine V_iload_n hc dX5_firstFault_66 rfl 1 rfl ?_
  refine V_iconst (v := 3) hc dX5_firstFault_67 (by decide) ?_
  refine V_icmp_lt (tgt := 84) hc dX5_firstFault_68 (by decide) ?_ ?_
  · refine V_aload_n hc dX5_firstFault_84 rfl 0 rfl ?_
    refine V_geti (C := RX5) (T := TX5) (N := 2) hc (sh_rtx hk0) rfl qX5_firstFault_RX5 1 rfl (by decide) kX5_firstFault_15 rfl dX5_firstFault_85 ?_
    exact V_iret hc rfl rfl dX5_firstFault_88
  · refine V_iload_n hc dX5_firstFault_71 rfl 1 rfl ?_
    refine V_iconst (v := 4) hc dX5_firstFault_72 (by decide) ?_
    refine V_icmp_eq (tgt := 84) hc dX5_firstFault_73 (by decide) ?_ ?_
    · refine V_aload_n hc dX5_firstFault_84 rfl 0 rfl ?_
      refine V_geti (C := RX5) (T := TX5) (N := 2) hc (sh_rtx hk0) rfl qX5_firstFault_RX5 1 rfl (by decide) kX5_firstFault_15 rfl dX5_firstFault_85 ?_
      exact V_iret hc rfl rfl dX5_firstFault_88
    · refine V_iload_n hc dX5_firstFault_76 rfl 2 rfl ?_
      refine V_if_ne (tgt := 84) hc dX5_firstFault_77 (by decide) ?_ ?_
      · refine V_aload_n hc dX5_firstFault_84 rfl 0 rfl ?_
        refine V_geti (C := RX5) (T := TX5) (N := 2) hc (sh_rtx hk0) rfl qX5_firstFault_RX5 1 rfl (by decide) kX5_firstFault_15 rfl dX5_firstFault_85 ?_
        exact V_iret hc rfl rfl dX5_firstFault_88
      · refine V_iconst (v := (-1)) hc dX5_firstFault_80 (by decide) ?_
        refine V_goto (tgt := 88) hc dX5_firstFault_81 (by decide) ?_
        exact V_iret hc rfl rfl dX5_firstFault_88

theorem kX5_names_15 : Cond.fieldLink RX5 15 RX5 (TX5 1).2.1 (TX5 1).2.2.1 ∈ wsX5_names := by decide +kernel
theorem qX5_names_RX5 : ∀ w ∈ u_ws RX5 TX5 2, w ∈ wsX5_names := by
  first
  | exact fun _ h => List.mem_cons_of_mem _ (List.mem_append_right _ h)
  | exact fun _ h => List.mem_cons_of_mem _ (List.mem_append_left _ (List.mem_append_right _ h))
  | exact fun _ h => List.mem_cons_of_mem _ (List.mem_append_left _ (List.mem_append_left _ (List.mem_append_right _ h)))
  | exact fun _ h => List.mem_cons_of_mem _ (List.mem_append_left _ (List.mem_append_left _ (List.mem_append_left _ (List.mem_append_right _ h))))
  | exact fun _ h => List.mem_cons_of_mem _ (List.mem_append_left _ (List.mem_append_left _ (List.mem_append_left _ (List.mem_append_left _ (List.mem_append_right _ h)))))
  | decide +kernel
noncomputable def L_X5_names_2 (t0 : Sx) (b0 : Nat) (b1 : Int32) (kont : Int32 → Option Int32) : Nat → Int32 → Option Int32
  | 0, _ => none
  | n + 1, x2 => if (gI t0 (150 + b0)) ≤ x2 then kont (x2) else (f_X5_at t0 (b0) (x2)).bind fun r1 => if r1 = 97 then (f_X5_at t0 (b0) (x2 + 1)).bind fun r2 => if (r2 - 48) = b1 then some 1 else L_X5_names_2 t0 b0 b1 kont n ((x2 + 1)) else L_X5_names_2 t0 b0 b1 kont n ((x2 + 1))
set_option maxRecDepth 20000 in
set_option maxHeartbeats 4000000 in
theorem L_X5_names_2_ok {p : Program} {l : Launch} {K : Kx} {e : Env} {s : State} {m : MethodId} {args : Array Value} {below : List Frame} {meth : Method} {c : Code} (hc : Cx p ({ frames := 1, cells := 0, slots := 0, locals := 21 } : Room) s m args meth c cX5_names 3 wsX5_names RX5 K (aA K s.heap.size) (some .boolean) 0 0) (t0 : Sx) (b0 : Nat) (b1 : Int32) (hb0 : b0 < 9) (kont : Int32 → Option Int32) (hk : ∀ x2, V p l e ({ frames := 1, cells := 0, slots := 0, locals := 21 } : Room) s m args below meth c K (aA K s.heap.size) 0 0 3 (QM below K args s (kRI t0)) 42 [(0, .ref (K.2.2 (32 + b0))), (1, .int b1), (2, .int x2)] [] t0 (kont x2)) : ∀ (n : Nat) (x2 : Int32), V p l e ({ frames := 1, cells := 0, slots := 0, locals := 21 } : Room) s m args below meth c K (aA K s.heap.size) 0 0 3 (QM below K args s (kRI t0)) 2 [(0, .ref (K.2.2 (32 + b0))), (1, .int b1), (2, .int x2)] [] t0 (L_X5_names_2 t0 b0 b1 kont n x2) := by
  intro n
  induction n with
  | zero => intro x2; exact V_none
  | succ n ih =>
    intro x2
    rw [L_X5_names_2]
    refine V_iload_n hc dX5_names_2 rfl 2 rfl ?_
    refine V_aload_n hc dX5_names_3 rfl 0 rfl ?_
    refine V_geti (C := RX5) (T := TX5) (N := 2) hc (sh_rtx hb0) rfl qX5_names_RX5 1 rfl (by decide) kX5_names_15 rfl dX5_names_4 ?_
    refine V_icmp_ge (tgt := 42) hc dX5_names_7 (by decide) ?_ ?_
    · exact V_sub [0, 1, 2] rfl (hk _)
    · refine V_aload_n hc dX5_names_10 rfl 0 rfl ?_
      refine V_iload_n hc dX5_names_11 rfl 2 rfl ?_
      refine V_callV_RI (Cn := RX5) (T := TX5) (N := 2) hc (c_X5_at l K t0 (b0) (x2) hb0) (sh_rtx hb0) rfl 1 gX5_names_X5_at rfl ⟨rfl, rfl⟩ (by decide) ⟨Nat.le_of_ble_eq_true rfl, Nat.le_of_ble_eq_true rfl⟩ rfl rfl (Nat.le_of_ble_eq_true rfl) dX5_names_12 (fun r1 => ?_)
      refine V_bipush (v := 97) hc dX5_names_15 (by decide) ?_
      refine V_icmp_ne (tgt := 36) hc dX5_names_17 (by decide) ?_ ?_
      · refine V_iinc (v := (x2 + 1)) (lv' := [(2, .int (x2 + 1)), (0, .ref (K.2.2 (32 + b0))), (1, .int b1)]) hc dX5_names_36 2 rfl rfl (by decide) rfl ?_
        refine V_goto (tgt := 2) hc dX5_names_39 (by decide) ?_
        exact V_sub [1, 2, 0] rfl (ih _)
      · refine V_aload_n hc dX5_names_20 rfl 0 rfl ?_
        refine V_iload_n hc dX5_names_21 rfl 2 rfl ?_
        refine V_iconst (v := 1) hc dX5_names_22 (by decide) ?_
        refine V_iadd hc dX5_names_23 ?_
        refine V_callV_RI (Cn := RX5) (T := TX5) (N := 2) hc (c_X5_at l K t0 (b0) (x2 + 1) hb0) (sh_rtx hb0) rfl 1 gX5_names_X5_at rfl ⟨rfl, rfl⟩ (by decide) ⟨Nat.le_of_ble_eq_true rfl, Nat.le_of_ble_eq_true rfl⟩ rfl rfl (Nat.le_of_ble_eq_true rfl) dX5_names_24 (fun r2 => ?_)
        refine V_bipush (v := 48) hc dX5_names_27 (by decide) ?_
        refine V_isub hc dX5_names_29 ?_
        refine V_iload_n hc dX5_names_30 rfl 1 rfl ?_
        refine V_icmp_ne (tgt := 36) hc dX5_names_31 (by decide) ?_ ?_
        · refine V_iinc (v := (x2 + 1)) (lv' := [(2, .int (x2 + 1)), (0, .ref (K.2.2 (32 + b0))), (1, .int b1)]) hc dX5_names_36 2 rfl rfl (by decide) rfl ?_
          refine V_goto (tgt := 2) hc dX5_names_39 (by decide) ?_
          exact V_sub [1, 2, 0] rfl (ih _)
        · refine V_iconst (v := 1) hc dX5_names_34 (by decide) ?_
          exact V_nret hc rfl rfl rfl dX5_names_35
noncomputable def f_X5_names (t : Sx) (k0 : Nat) (a1 : Int32) : Option Int32 := L_X5_names_2 t (k0) (a1) (fun z3 => some 0) FU (0)
set_option maxRecDepth 20000 in
set_option maxHeartbeats 4000000 in
theorem c_X5_names (l : Launch) (K : Kx) (t : Sx) (k0 : Nat) (a1 : Int32) (hk0 : k0 < 9) : CT l K yX5_names wsX5_names ({ frames := 1, cells := 0, slots := 0, locals := 21 } : Room) [.ref (K.2.2 (32 + k0)), .int a1] t (f_X5_names t k0 a1) (kRI t) := by
  refine CT_of (cc := cX5_names) (maxL := 3) (ret := (some .boolean)) (own := RX5) (by decide +kernel) rfl rfl (Nat.le_of_ble_eq_true rfl) ?_
  intro p e s m args below meth c hc
  refine V_sub (lv' := [(0, .ref (K.2.2 (32 + k0))), (1, .int a1)]) [0, 1] rfl ?_
  unfold f_X5_names
  refine V_iconst (v := 0) hc dX5_names_0 (by decide) ?_
  refine V_istore_n (lv' := [(2, .int 0), (0, .ref (K.2.2 (32 + k0))), (1, .int a1)]) hc dX5_names_1 rfl (by decide) rfl ?_
  refine V_sub (lv' := [(0, .ref (K.2.2 (32 + k0))), (1, .int a1), (2, .int 0)]) [1, 2, 0] rfl ?_
  refine L_X5_names_2_ok hc t (k0) (a1) hk0 _ (fun z3 => ?_) FU _
  refine V_iconst (v := 0) hc dX5_names_42 (by decide) ?_
  exact V_nret hc rfl rfl rfl dX5_names_43

theorem kX5_copy_9 : Cond.fieldLink RX5 9 RX5 (TX5 0).2.1 (TX5 0).2.2.1 ∈ wsX5_copy := by decide +kernel
theorem qX5_copy_RX5 : ∀ w ∈ u_ws RX5 TX5 2, w ∈ wsX5_copy := by
  first
  | exact fun _ h => List.mem_cons_of_mem _ (List.mem_append_right _ h)
  | exact fun _ h => List.mem_cons_of_mem _ (List.mem_append_left _ (List.mem_append_right _ h))
  | exact fun _ h => List.mem_cons_of_mem _ (List.mem_append_left _ (List.mem_append_left _ (List.mem_append_right _ h)))
  | exact fun _ h => List.mem_cons_of_mem _ (List.mem_append_left _ (List.mem_append_left _ (List.mem_append_left _ (List.mem_append_right _ h))))
  | exact fun _ h => List.mem_cons_of_mem _ (List.mem_append_left _ (List.mem_append_left _ (List.mem_append_left _ (List.mem_append_left _ (List.mem_append_right _ h)))))
  | decide +kernel
theorem kX5_copy_15 : Cond.fieldLink RX5 15 RX5 (TX5 1).2.1 (TX5 1).2.2.1 ∈ wsX5_copy := by decide +kernel
theorem wX5_copy_cp0 : Cond.methodLink RX5 19 arraycopyName ∈ wsX5_copy := by decide +kernel
theorem wX5_copy_cp1 : Cond.native arraycopyName ∈ wsX5_copy := by decide +kernel
theorem wX5_copy_cp2 : Cond.static arraycopyName ∈ wsX5_copy := by decide +kernel
theorem wX5_copy_cp3 : Cond.initialized "java/lang/System" ∈ wsX5_copy := by decide +kernel
noncomputable def f_X5_copy (t : Sx) (k0 : Nat) (k1 : Nat) : Option Sx := gd ((¬ (0 : Int32) < 0 ∧ ¬ (0 : Int32) < 0 ∧ ¬ (gI t (150 + k1)) < 0 ∧ ix 0 + ix (gI t (150 + k1)) ≤ 80 ∧ ix 0 + ix (gI t (150 + k1)) ≤ 80) ∧ ∀ i, i < ix (gI t (150 + k1)) → fits .char (.int (gA t (100 + k1) (ix 0 + i))) = true) (bd (pW t (100 + k0) (va_cpy (gA t (100 + k1)) (gA t (100 + k0)) (ix 0) (ix 0) (ix (gI t (150 + k1))))) fun t1 => bd (pI t1 (150 + k0) (gI t1 (150 + k1))) fun t2 => some t2)
set_option maxRecDepth 20000 in
set_option maxHeartbeats 4000000 in
theorem c_X5_copy (l : Launch) (K : Kx) (t : Sx) (k0 : Nat) (k1 : Nat) (hk0 : k0 < 9) (hk1 : k1 < 9) : CT l K yX5_copy wsX5_copy ({ frames := 1, cells := 0, slots := 0, locals := 48 } : Room) [.ref (K.2.2 (32 + k0)), .ref (K.2.2 (32 + k1))] t (f_X5_copy t k0 k1) kWV := by
  refine CT_of (cc := cX5_copy) (maxL := 2) (ret := none) (own := RX5) (by decide +kernel) rfl rfl (Nat.le_of_ble_eq_true rfl) ?_
  intro p e s m args below meth c hc
  refine V_sub (lv' := [(0, .ref (K.2.2 (32 + k0))), (1, .ref (K.2.2 (32 + k1)))]) [0, 1] rfl ?_
  unfold f_X5_copy
  refine V_aload_n hc dX5_copy_0 rfl 1 rfl ?_
  refine V_getr (C := RX5) (T := TX5) (N := 2) hc (sh_rtx hk1) rfl qX5_copy_RX5 0 rfl (by decide) kX5_copy_9 rfl dX5_copy_1 ?_
  refine V_iconst (v := 0) hc dX5_copy_4 (by decide) ?_
  refine V_aload_n hc dX5_copy_5 rfl 0 rfl ?_
  refine V_getr (C := RX5) (T := TX5) (N := 2) hc (sh_rtx hk0) rfl qX5_copy_RX5 0 rfl (by decide) kX5_copy_9 rfl dX5_copy_6 ?_
  refine V_iconst (v := 0) hc dX5_copy_9 (by decide) ?_
  refine V_aload_n hc dX5_copy_10 rfl 1 rfl ?_
  refine V_geti (C := RX5) (T := TX5) (N := 2) hc (sh_rtx hk1) rfl qX5_copy_RX5 1 rfl (by decide) kX5_copy_15 rfl dX5_copy_11 ?_
  refine V_copyc hc (sh_rch hk1) (sh_rch hk0) wX5_copy_cp0 wX5_copy_cp1 wX5_copy_cp2 wX5_copy_cp3 (by decide) (by decide +kernel) dX5_copy_14 ?_
  refine V_bds (fun t1 => ?_)
  refine V_aload_n hc dX5_copy_17 rfl 0 rfl ?_
  refine V_aload_n hc dX5_copy_18 rfl 1 rfl ?_
  refine V_geti (C := RX5) (T := TX5) (N := 2) hc (sh_rtx hk1) rfl qX5_copy_RX5 1 rfl (by decide) kX5_copy_15 rfl dX5_copy_19 ?_
  refine V_puti (C := RX5) (T := TX5) (N := 2) hc (sh_rtx hk0) rfl qX5_copy_RX5 1 rfl (by decide) kX5_copy_15 rfl tyX5 tyX5_ok nmX5 rfl (tyX5_ok 1 (by decide)) dX5_copy_22 ?_
  refine V_bds (fun t2 => ?_)
  exact V_vret hc rfl rfl dX5_copy_25

theorem kX3_length_22 : Cond.fieldLink RX3 22 RX3 (TX3 3).2.1 (TX3 3).2.2.1 ∈ wsX3_length := by decide +kernel
theorem qX3_length_RX3 : ∀ w ∈ u_ws RX3 TX3 5, w ∈ wsX3_length := by
  first
  | exact fun _ h => List.mem_cons_of_mem _ (List.mem_append_right _ h)
  | exact fun _ h => List.mem_cons_of_mem _ (List.mem_append_left _ (List.mem_append_right _ h))
  | exact fun _ h => List.mem_cons_of_mem _ (List.mem_append_left _ (List.mem_append_left _ (List.mem_append_right _ h)))
  | exact fun _ h => List.mem_cons_of_mem _ (List.mem_append_left _ (List.mem_append_left _ (List.mem_append_left _ (List.mem_append_right _ h))))
  | exact fun _ h => List.mem_cons_of_mem _ (List.mem_append_left _ (List.mem_append_left _ (List.mem_append_left _ (List.mem_append_left _ (List.mem_append_right _ h)))))
  | decide +kernel
noncomputable def f_X3_length (t : Sx)  : Option Int32 := some (gI t 49)
set_option maxRecDepth 20000 in
set_option maxHeartbeats 4000000 in
theorem c_X3_length (l : Launch) (K : Kx) (t : Sx)  : CT l K yX3_length wsX3_length ({ frames := 0, cells := 0, slots := 0, locals := 0 } : Room) [.ref (K.2.2 20)] t (f_X3_length t ) (kRI t) := by
  refine CT_of (cc := cX3_length) (maxL := 1) (ret := (some .int)) (own := RX3) (by decide +kernel) rfl rfl (Nat.le_of_ble_eq_true rfl) ?_
  intro p e s m args below meth c hc
  refine V_sub (lv' := [(0, .ref (K.2.2 20))]) [0] rfl ?_
  unfold f_X3_length
  refine V_aload_n hc dX3_length_0 rfl 0 rfl ?_
  refine V_geti (C := RX3) (T := TX3) (N := 5) hc sP20 rfl qX3_length_RX3 3 rfl (by decide) kX3_length_22 rfl dX3_length_1 ?_
  exact V_iret hc rfl rfl dX3_length_4
