theorem kX2_yearOf_9 : Cond.fieldLink RX2 9 RX2 (TX2 0).2.1 (TX2 0).2.2.1 ∈ wsX2_yearOf := by decide +kernel
theorem qX2_yearOf_RX2 : ∀ w ∈ u_ws RX2 TX2 3, w ∈ wsX2_yearOf := by
  first
  | exact fun _ h => List.mem_cons_of_mem _ (List.mem_append_right _ h)
  | exact fun _ h => List.mem_cons_of_mem _ (List.mem_append_left _ (List.mem_append_right _ h))
  | exact fun _ h => List.mem_cons_of_mem _ (List.mem_append_left _ (List.mem_append_left _ (List.mem_append_right _ h)))
  | exact fun _ h => List.mem_cons_of_mem _ (List.mem_append_left _ (List.mem_append_left _ (List.mem_append_left _ (List.mem_append_right _ h))))
  | exact fun _ h => List.mem_cons_of_mem _ (List.mem_append_left _ (List.mem_append_left _ (List.mem_append_left _ (List.mem_append_left _ (List.mem_append_right _ h)))))
  | decide +kernel
noncomputable def f_X2_yearOf (t : Sx) (a1 : Int32) : Option Int32 := (f_X1_settledValue t (a1) (2)).bind fun r1 => if r1 = (-1) then some 9999 else some r1
set_option maxRecDepth 20000 in
set_option maxHeartbeats 4000000 in
theorem c_X2_yearOf (l : Launch) (K : Kx) (t : Sx) (a1 : Int32) : CT l K yX2_yearOf wsX2_yearOf ({ frames := 1, cells := 0, slots := 0, locals := 22 } : Room) [.ref (K.2.2 7), .int a1] t (f_X2_yearOf t a1) (kRI t) := by
  refine CT_of (cc := cX2_yearOf) (maxL := 3) (ret := (some .int)) (own := RX2) (by decide +kernel) rfl rfl (Nat.le_of_ble_eq_true rfl) ?_
  intro p e s m args below meth c hc
  refine V_sub (lv' := [(0, .ref (K.2.2 7)), (1, .int a1)]) [0, 1] rfl ?_
  unfold f_X2_yearOf
  refine V_aload_n hc dX2_yearOf_0 rfl 0 rfl ?_
  refine V_getr (C := RX2) (T := TX2) (N := 3) hc sP7 rfl qX2_yearOf_RX2 0 rfl (by decide) kX2_yearOf_9 rfl dX2_yearOf_1 ?_
  refine V_iload_n hc dX2_yearOf_4 rfl 1 rfl ?_
  refine V_iconst (v := 2) hc dX2_yearOf_5 (by decide) ?_
  refine V_callV_RI (Cn := RX1) (T := TX1) (N := 6) hc (c_X1_settledValue l K t (a1) (2)) sP1 rfl 2 gX2_yearOf_X1_settledValue rfl ⟨rfl, rfl⟩ (by decide) ⟨Nat.le_of_ble_eq_true rfl, Nat.le_of_ble_eq_true rfl⟩ rfl rfl (Nat.le_of_ble_eq_true rfl) dX2_yearOf_6 (fun r1 => ?_)
  refine V_istore_n (lv' := [(2, .int r1), (0, .ref (K.2.2 7)), (1, .int a1)]) hc dX2_yearOf_9 rfl (by decide) rfl ?_
  refine V_iload_n hc dX2_yearOf_10 rfl 0 rfl ?_
  refine V_iconst (v := (-1)) hc dX2_yearOf_11 (by decide) ?_
  refine V_icmp_ne (tgt := 21) hc dX2_yearOf_12 (by decide) ?_ ?_
  · refine V_iload_n hc dX2_yearOf_21 rfl 0 rfl ?_
    exact V_iret hc rfl rfl dX2_yearOf_22
  · refine V_sipush (v := 9999) hc dX2_yearOf_15 (by decide) ?_
    refine V_goto (tgt := 22) hc dX2_yearOf_18 (by decide) ?_
    exact V_iret hc rfl rfl dX2_yearOf_22

theorem kX2_beats_9 : Cond.fieldLink RX2 9 RX2 (TX2 0).2.1 (TX2 0).2.2.1 ∈ wsX2_beats := by decide +kernel
theorem qX2_beats_RX2 : ∀ w ∈ u_ws RX2 TX2 3, w ∈ wsX2_beats := by
  first
  | exact fun _ h => List.mem_cons_of_mem _ (List.mem_append_right _ h)
  | exact fun _ h => List.mem_cons_of_mem _ (List.mem_append_left _ (List.mem_append_right _ h))
  | exact fun _ h => List.mem_cons_of_mem _ (List.mem_append_left _ (List.mem_append_left _ (List.mem_append_right _ h)))
  | exact fun _ h => List.mem_cons_of_mem _ (List.mem_append_left _ (List.mem_append_left _ (List.mem_append_left _ (List.mem_append_right _ h))))
  | exact fun _ h => List.mem_cons_of_mem _ (List.mem_append_left _ (List.mem_append_left _ (List.mem_append_left _ (List.mem_append_left _ (List.mem_append_right _ h)))))
  | decide +kernel
noncomputable def f_X2_beats (t : Sx) (a1 : Int32) (a2 : Int32) : Option Int32 := (f_X1_settledValue t (a1) (1)).bind fun r1 => (f_X1_settledValue t (a2) (1)).bind fun r2 => if r1 = r2 then (f_X2_yearOf t (a1)).bind fun r3 => (f_X2_yearOf t (a2)).bind fun r4 => if r4 ≤ r3 then some 0 else some 1 else if r1 ≤ r2 then some 0 else some 1
set_option maxRecDepth 20000 in
set_option maxHeartbeats 4000000 in
theorem c_X2_beats (l : Launch) (K : Kx) (t : Sx) (a1 : Int32) (a2 : Int32) : CT l K yX2_beats wsX2_beats ({ frames := 2, cells := 0, slots := 0, locals := 44 } : Room) [.ref (K.2.2 7), .int a1, .int a2] t (f_X2_beats t a1 a2) (kRI t) := by
  refine CT_of (cc := cX2_beats) (maxL := 5) (ret := (some .boolean)) (own := RX2) (by decide +kernel) rfl rfl (Nat.le_of_ble_eq_true rfl) ?_
  intro p e s m args below meth c hc
  refine V_sub (lv' := [(0, .ref (K.2.2 7)), (1, .int a1), (2, .int a2)]) [0, 1, 2] rfl ?_
  unfold f_X2_beats
  refine V_aload_n hc dX2_beats_0 rfl 0 rfl ?_
  refine V_getr (C := RX2) (T := TX2) (N := 3) hc sP7 rfl qX2_beats_RX2 0 rfl (by decide) kX2_beats_9 rfl dX2_beats_1 ?_
  refine V_iload_n hc dX2_beats_4 rfl 1 rfl ?_
  refine V_iconst (v := 1) hc dX2_beats_5 (by decide) ?_
  refine V_callV_RI (Cn := RX1) (T := TX1) (N := 6) hc (c_X1_settledValue l K t (a1) (1)) sP1 rfl 2 gX2_beats_X1_settledValue rfl ⟨rfl, rfl⟩ (by decide) ⟨Nat.le_of_ble_eq_true rfl, Nat.le_of_ble_eq_true rfl⟩ rfl rfl (Nat.le_of_ble_eq_true rfl) dX2_beats_6 (fun r1 => ?_)
  refine V_istore_n (lv' := [(3, .int r1), (0, .ref (K.2.2 7)), (1, .int a1), (2, .int a2)]) hc dX2_beats_9 rfl (by decide) rfl ?_
  refine V_aload_n hc dX2_beats_10 rfl 1 rfl ?_
  refine V_getr (C := RX2) (T := TX2) (N := 3) hc sP7 rfl qX2_beats_RX2 0 rfl (by decide) kX2_beats_9 rfl dX2_beats_11 ?_
  refine V_iload_n hc dX2_beats_14 rfl 3 rfl ?_
  refine V_iconst (v := 1) hc dX2_beats_15 (by decide) ?_
  refine V_callV_RI (Cn := RX1) (T := TX1) (N := 6) hc (c_X1_settledValue l K t (a2) (1)) sP1 rfl 2 gX2_beats_X1_settledValue rfl ⟨rfl, rfl⟩ (by decide) ⟨Nat.le_of_ble_eq_true rfl, Nat.le_of_ble_eq_true rfl⟩ rfl rfl (Nat.le_of_ble_eq_true rfl) dX2_beats_16 (fun r2 => ?_)
  refine V_istore (lv' := [(4, .int r2), (3, .int r1), (0, .ref (K.2.2 7)), (1, .int a1), (2, .int a2)]) hc dX2_beats_19 (by decide) rfl ?_
  refine V_iload_n hc dX2_beats_21 rfl 1 rfl ?_
  refine V_iload hc dX2_beats_22 0 rfl ?_
  refine V_icmp_eq (tgt := 39) hc dX2_beats_24 (by decide) ?_ ?_
  · refine V_aload_n hc dX2_beats_39 rfl 2 rfl ?_
    refine V_iload_n hc dX2_beats_40 rfl 3 rfl ?_
    refine V_callV_RI (Cn := RX2) (T := TX2) (N := 3) hc (c_X2_yearOf l K t (a1)) sP7 rfl 1 gX2_beats_X2_yearOf rfl ⟨rfl, rfl⟩ (by decide) ⟨Nat.le_of_ble_eq_true rfl, Nat.le_of_ble_eq_true rfl⟩ rfl rfl (Nat.le_of_ble_eq_true rfl) dX2_beats_41 (fun r3 => ?_)
    refine V_aload_n hc dX2_beats_44 rfl 2 rfl ?_
    refine V_iload_n hc dX2_beats_45 rfl 4 rfl ?_
    refine V_callV_RI (Cn := RX2) (T := TX2) (N := 3) hc (c_X2_yearOf l K t (a2)) sP7 rfl 1 gX2_beats_X2_yearOf rfl ⟨rfl, rfl⟩ (by decide) ⟨Nat.le_of_ble_eq_true rfl, Nat.le_of_ble_eq_true rfl⟩ rfl rfl (Nat.le_of_ble_eq_true rfl) dX2_beats_46 (fun r4 => ?_)
    refine V_icmp_ge (tgt := 56) hc dX2_beats_49 (by decide) ?_ ?_
    · refine V_iconst (v := 0) hc dX2_beats_56 (by decide) ?_
      exact V_nret hc rfl rfl rfl dX2_beats_57
    · refine V_iconst (v := 1) hc dX2_beats_52 (by decide) ?_
      refine V_goto (tgt := 57) hc dX2_beats_53 (by decide) ?_
      exact V_nret hc rfl rfl rfl dX2_beats_57
  · refine V_iload_n hc dX2_beats_27 rfl 1 rfl ?_
    refine V_iload hc dX2_beats_28 0 rfl ?_
    refine V_icmp_le (tgt := 37) hc dX2_beats_30 (by decide) ?_ ?_
    · refine V_iconst (v := 0) hc dX2_beats_37 (by decide) ?_
      exact V_nret hc rfl rfl rfl dX2_beats_38
    · refine V_iconst (v := 1) hc dX2_beats_33 (by decide) ?_
      refine V_goto (tgt := 38) hc dX2_beats_34 (by decide) ?_
      exact V_nret hc rfl rfl rfl dX2_beats_38

theorem wX2_preferred_in36 : Cond.initialized yX8_holds.cls ∈ wsX2_preferred := by decide +kernel
theorem wX2_preferred_st36 : Cond.static yX8_holds ∈ wsX2_preferred := by decide +kernel
noncomputable def L_X2_preferred_5 (t0 : Sx) (b1 : Int64) (kont : Int32 → Int32 → Option Int32) : Nat → Int32 → Int32 → Option Int32
  | 0, _, _ => none
  | n + 1, x3 , x4 => if 40 ≤ x4 then kont (x3) (x4) else (f_X8_holds t0 (b1) (x4)).bind fun r1 => if r1 = 0 then L_X2_preferred_5 t0 b1 kont n (x3) ((x4 + 1)) else if x3 = (-1) then L_X2_preferred_5 t0 b1 kont n (x4) ((x4 + 1)) else (f_X2_beats t0 (x4) (x3)).bind fun r2 => if r2 = 0 then L_X2_preferred_5 t0 b1 kont n (x3) ((x4 + 1)) else L_X2_preferred_5 t0 b1 kont n (x4) ((x4 + 1))
set_option maxRecDepth 20000 in
set_option maxHeartbeats 4000000 in
theorem L_X2_preferred_5_ok {p : Program} {l : Launch} {K : Kx} {e : Env} {s : State} {m : MethodId} {args : Array Value} {below : List Frame} {meth : Method} {c : Code} (hc : Cx p ({ frames := 3, cells := 0, slots := 0, locals := 68 } : Room) s m args meth c cX2_preferred 5 wsX2_preferred RX2 K (aA K s.heap.size) (some .int) 0 0) (t0 : Sx) (b1 : Int64) (kont : Int32 → Int32 → Option Int32) (hk : ∀ x3 x4, V p l e ({ frames := 3, cells := 0, slots := 0, locals := 68 } : Room) s m args below meth c K (aA K s.heap.size) 0 0 5 (QM below K args s (kRI t0)) 45 [(0, .ref (K.2.2 7)), (1, .long b1), (3, .int x3), (4, .int x4)] [] t0 (kont x3 x4)) : ∀ (n : Nat) (x3 : Int32) (x4 : Int32), V p l e ({ frames := 3, cells := 0, slots := 0, locals := 68 } : Room) s m args below meth c K (aA K s.heap.size) 0 0 5 (QM below K args s (kRI t0)) 5 [(0, .ref (K.2.2 7)), (1, .long b1), (3, .int x3), (4, .int x4)] [] t0 (L_X2_preferred_5 t0 b1 kont n x3 x4) := by
  intro n
  induction n with
  | zero => intro x3 x4; exact V_none
  | succ n ih =>
    intro x3 x4
    rw [L_X2_preferred_5]
    refine V_iload hc dX2_preferred_5 3 rfl ?_
    refine V_bipush (v := 40) hc dX2_preferred_7 (by decide) ?_
    refine V_icmp_ge (tgt := 45) hc dX2_preferred_9 (by decide) ?_ ?_
    · exact V_sub [0, 1, 2, 3] rfl (hk _ _)
    · refine V_lload_n hc dX2_preferred_12 rfl 1 rfl ?_
      refine V_iload hc dX2_preferred_13 3 rfl ?_
      refine V_callN_RI hc (c_X8_holds l K t0 (b1) (x4)) 2 gX2_preferred_X8_holds_n36 rfl ⟨rfl, rfl⟩ (List.mem_of_getElem? (i := 2) rfl) wX2_preferred_in36 wX2_preferred_st36 (by decide) ⟨Nat.le_of_ble_eq_true rfl, Nat.le_of_ble_eq_true rfl⟩ rfl rfl (Nat.le_of_ble_eq_true rfl) dX2_preferred_15 (fun r1 => ?_)
      refine V_if_eq (tgt := 39) hc dX2_preferred_18 (by decide) ?_ ?_
      · refine V_iinc (v := (x4 + 1)) (lv' := [(4, .int (x4 + 1)), (0, .ref (K.2.2 7)), (1, .long b1), (3, .int x3)]) hc dX2_preferred_39 3 rfl rfl (by decide) rfl ?_
        refine V_goto (tgt := 5) hc dX2_preferred_42 (by decide) ?_
        exact V_sub [1, 2, 3, 0] rfl (ih _ _)
      · refine V_iload_n hc dX2_preferred_21 rfl 2 rfl ?_
        refine V_iconst (v := (-1)) hc dX2_preferred_22 (by decide) ?_
        refine V_icmp_eq (tgt := 36) hc dX2_preferred_23 (by decide) ?_ ?_
        · refine V_iload hc dX2_preferred_36 3 rfl ?_
          refine V_istore_n (lv' := [(3, .int x4), (0, .ref (K.2.2 7)), (1, .long b1), (4, .int x4)]) hc dX2_preferred_38 rfl (by decide) rfl ?_
          refine V_iinc (v := (x4 + 1)) (lv' := [(4, .int (x4 + 1)), (3, .int x4), (0, .ref (K.2.2 7)), (1, .long b1)]) hc dX2_preferred_39 3 rfl rfl (by decide) rfl ?_
          refine V_goto (tgt := 5) hc dX2_preferred_42 (by decide) ?_
          exact V_sub [2, 3, 1, 0] rfl (ih _ _)
        · refine V_aload_n hc dX2_preferred_26 rfl 0 rfl ?_
          refine V_iload hc dX2_preferred_27 3 rfl ?_
          refine V_iload_n hc dX2_preferred_29 rfl 2 rfl ?_
          refine V_callV_RI (Cn := RX2) (T := TX2) (N := 3) hc (c_X2_beats l K t0 (x4) (x3)) sP7 rfl 2 gX2_preferred_X2_beats rfl ⟨rfl, rfl⟩ (by decide) ⟨Nat.le_of_ble_eq_true rfl, Nat.le_of_ble_eq_true rfl⟩ rfl rfl (Nat.le_of_ble_eq_true rfl) dX2_preferred_30 (fun r2 => ?_)
          refine V_if_eq (tgt := 39) hc dX2_preferred_33 (by decide) ?_ ?_
          · refine V_iinc (v := (x4 + 1)) (lv' := [(4, .int (x4 + 1)), (0, .ref (K.2.2 7)), (1, .long b1), (3, .int x3)]) hc dX2_preferred_39 3 rfl rfl (by decide) rfl ?_
            refine V_goto (tgt := 5) hc dX2_preferred_42 (by decide) ?_
            exact V_sub [1, 2, 3, 0] rfl (ih _ _)
          · refine V_iload hc dX2_preferred_36 3 rfl ?_
            refine V_istore_n (lv' := [(3, .int x4), (0, .ref (K.2.2 7)), (1, .long b1), (4, .int x4)]) hc dX2_preferred_38 rfl (by decide) rfl ?_
            refine V_iinc (v := (x4 + 1)) (lv' := [(4, .int (x4 + 1)), (3, .int x4), (0, .ref (K.2.2 7)), (1, .long b1)]) hc dX2_preferred_39 3 rfl rfl (by decide) rfl ?_
            refine V_goto (tgt := 5) hc dX2_preferred_42 (by decide) ?_
            exact V_sub [2, 3, 1, 0] rfl (ih _ _)
noncomputable def f_X2_preferred (t : Sx) (a1 : Int64) : Option Int32 := L_X2_preferred_5 t (a1) (fun z3 z4 => some z3) FU ((-1)) (0)
set_option maxRecDepth 20000 in
set_option maxHeartbeats 4000000 in
theorem c_X2_preferred (l : Launch) (K : Kx) (t : Sx) (a1 : Int64) : CT l K yX2_preferred wsX2_preferred ({ frames := 3, cells := 0, slots := 0, locals := 68 } : Room) [.ref (K.2.2 7), .long a1] t (f_X2_preferred t a1) (kRI t) := by
  refine CT_of (cc := cX2_preferred) (maxL := 5) (ret := (some .int)) (own := RX2) (by decide +kernel) rfl rfl (Nat.le_of_ble_eq_true rfl) ?_
  intro p e s m args below meth c hc
  refine V_sub (lv' := [(0, .ref (K.2.2 7)), (1, .long a1)]) [0, 1] rfl ?_
  unfold f_X2_preferred
  refine V_iconst (v := (-1)) hc dX2_preferred_0 (by decide) ?_
  refine V_istore_n (lv' := [(3, .int (-1)), (0, .ref (K.2.2 7)), (1, .long a1)]) hc dX2_preferred_1 rfl (by decide) rfl ?_
  refine V_iconst (v := 0) hc dX2_preferred_2 (by decide) ?_
  refine V_istore (lv' := [(4, .int 0), (3, .int (-1)), (0, .ref (K.2.2 7)), (1, .long a1)]) hc dX2_preferred_3 (by decide) rfl ?_
  refine V_sub (lv' := [(0, .ref (K.2.2 7)), (1, .long a1), (3, .int (-1)), (4, .int 0)]) [2, 3, 1, 0] rfl ?_
  refine L_X2_preferred_5_ok hc t (a1) _ (fun z3 z4 => ?_) FU _ _
  refine V_iload_n hc dX2_preferred_45 rfl 2 rfl ?_
  exact V_iret hc rfl rfl dX2_preferred_46

theorem kX2_regroup_15 : Cond.fieldLink RX2 15 RX2 (TX2 1).2.1 (TX2 1).2.2.1 ∈ wsX2_regroup := by decide +kernel
theorem qX2_regroup_RX2 : ∀ w ∈ u_ws RX2 TX2 3, w ∈ wsX2_regroup := by
  first
  | exact fun _ h => List.mem_cons_of_mem _ (List.mem_append_right _ h)
  | exact fun _ h => List.mem_cons_of_mem _ (List.mem_append_left _ (List.mem_append_right _ h))
  | exact fun _ h => List.mem_cons_of_mem _ (List.mem_append_left _ (List.mem_append_left _ (List.mem_append_right _ h)))
  | exact fun _ h => List.mem_cons_of_mem _ (List.mem_append_left _ (List.mem_append_left _ (List.mem_append_left _ (List.mem_append_right _ h))))
  | exact fun _ h => List.mem_cons_of_mem _ (List.mem_append_left _ (List.mem_append_left _ (List.mem_append_left _ (List.mem_append_left _ (List.mem_append_right _ h)))))
  | decide +kernel
theorem kX2_regroup_19 : Cond.fieldLink RX2 19 RX2 (TX2 2).2.1 (TX2 2).2.2.1 ∈ wsX2_regroup := by decide +kernel
theorem kX2_regroup_9 : Cond.fieldLink RX2 9 RX2 (TX2 0).2.1 (TX2 0).2.2.1 ∈ wsX2_regroup := by decide +kernel
theorem wX2_regroup_in36 : Cond.initialized yX8_holds.cls ∈ wsX2_regroup := by decide +kernel
theorem wX2_regroup_st36 : Cond.static yX8_holds ∈ wsX2_regroup := by decide +kernel
theorem wX2_regroup_in40 : Cond.initialized yX8_only.cls ∈ wsX2_regroup := by decide +kernel
theorem wX2_regroup_st40 : Cond.static yX8_only ∈ wsX2_regroup := by decide +kernel
theorem wX2_regroup_c48 : Cond.constantLong RX2 48 (-1) ∈ wsX2_regroup := by decide +kernel
noncomputable def L_X2_regroup_20  (kont : Int64 → Int32 → Sx → Option Sx) : Nat → Int64 → Int32 → Sx → Option Sx
  | 0, _, _, _ => none
  | n + 1, x1 , x3, y => if 40 ≤ x3 then kont (x1) (x3) (y) else (f_X8_holds y (x1) (x3)).bind fun r4 => if r4 = 0 then L_X2_regroup_20  kont n (x1) ((x3 + 1)) (y) else (f_X1_alike y (x3)).bind fun r5 => (f_X2_preferred y (r5)).bind fun r6 => (f_X8_only y (r6)).bind fun r7 => bd (pL y 9 ((gL y 9) ||| r7)) fun t8 => (f_J13_bitCount_95d88 t8 (r5)).bind fun r9 => if r9 ≤ 1 then L_X2_regroup_20  kont n ((x1 &&& (r5 ^^^ -1))) ((x3 + 1)) (t8) else bd (pL t8 10 ((gL t8 10) ||| r5)) fun t10 => L_X2_regroup_20  kont n ((x1 &&& (r5 ^^^ -1))) ((x3 + 1)) (t10)
set_option maxRecDepth 20000 in
set_option maxHeartbeats 4000000 in
theorem L_X2_regroup_20_ok {p : Program} {l : Launch} {K : Kx} {e : Env} {s : State} {m : MethodId} {args : Array Value} {below : List Frame} {meth : Method} {c : Code} (hc : Cx p ({ frames := 4, cells := 0, slots := 0, locals := 92 } : Room) s m args meth c cX2_regroup 6 wsX2_regroup RX2 K (aA K s.heap.size) none 0 0)  (kont : Int64 → Int32 → Sx → Option Sx) (hk : ∀ x1 x3 y, V p l e ({ frames := 4, cells := 0, slots := 0, locals := 92 } : Room) s m args below meth c K (aA K s.heap.size) 0 0 6 (QM below K args s kWV) 97 [(0, .ref (K.2.2 7)), (1, .long x1), (3, .int x3)] [] y (kont x1 x3 y)) : ∀ (n : Nat) (x1 : Int64) (x3 : Int32) (y : Sx), V p l e ({ frames := 4, cells := 0, slots := 0, locals := 92 } : Room) s m args below meth c K (aA K s.heap.size) 0 0 6 (QM below K args s kWV) 20 [(0, .ref (K.2.2 7)), (1, .long x1), (3, .int x3)] [] y (L_X2_regroup_20  kont n x1 x3 y) := by
  intro n
  induction n with
  | zero => intro x1 x3 y; exact V_none
  | succ n ih =>
    intro x1 x3 y
    rw [L_X2_regroup_20]
    refine V_iload_n hc dX2_regroup_20 rfl 2 rfl ?_
    refine V_bipush (v := 40) hc dX2_regroup_21 (by decide) ?_
    refine V_icmp_ge (tgt := 97) hc dX2_regroup_23 (by decide) ?_ ?_
    · exact V_sub [0, 1, 2] rfl (hk _ _ _)
    · refine V_lload_n hc dX2_regroup_26 rfl 1 rfl ?_
      refine V_iload_n hc dX2_regroup_27 rfl 2 rfl ?_
      refine V_callN_RI hc (c_X8_holds l K y (x1) (x3)) 2 gX2_regroup_X8_holds_n36 rfl ⟨rfl, rfl⟩ (List.mem_of_getElem? (i := 2) rfl) wX2_regroup_in36 wX2_regroup_st36 (by decide) ⟨Nat.le_of_ble_eq_true rfl, Nat.le_of_ble_eq_true rfl⟩ rfl rfl (Nat.le_of_ble_eq_true rfl) dX2_regroup_28 (fun r4 => ?_)
      refine V_if_eq (tgt := 91) hc dX2_regroup_31 (by decide) ?_ ?_
      · refine V_iinc (v := (x3 + 1)) (lv' := [(3, .int (x3 + 1)), (0, .ref (K.2.2 7)), (1, .long x1)]) hc dX2_regroup_91 2 rfl rfl (by decide) rfl ?_
        refine V_goto (tgt := 20) hc dX2_regroup_94 (by decide) ?_
        exact V_sub [1, 2, 0] rfl (ih _ _ _)
      · refine V_aload_n hc dX2_regroup_34 rfl 0 rfl ?_
        refine V_getr (C := RX2) (T := TX2) (N := 3) hc sP7 rfl qX2_regroup_RX2 0 rfl (by decide) kX2_regroup_9 rfl dX2_regroup_35 ?_
        refine V_iload_n hc dX2_regroup_38 rfl 2 rfl ?_
        refine V_callV_RL (Cn := RX1) (T := TX1) (N := 6) hc (c_X1_alike l K y (x3)) sP1 rfl 1 gX2_regroup_X1_alike rfl ⟨rfl, rfl⟩ (by decide) ⟨Nat.le_of_ble_eq_true rfl, Nat.le_of_ble_eq_true rfl⟩ rfl rfl (Nat.le_of_ble_eq_true rfl) dX2_regroup_39 (fun r5 => ?_)
        refine V_lstore (lv' := [(4, .long r5), (0, .ref (K.2.2 7)), (1, .long x1), (3, .int x3)]) hc dX2_regroup_42 (by decide) rfl ?_
        refine V_aload_n hc dX2_regroup_44 rfl 1 rfl ?_
        refine V_dup hc dX2_regroup_45 rfl ?_
        refine V_getl (C := RX2) (T := TX2) (N := 3) hc sP7 rfl qX2_regroup_RX2 1 rfl (by decide) kX2_regroup_15 rfl dX2_regroup_46 ?_
        refine V_aload_n hc dX2_regroup_49 rfl 1 rfl ?_
        refine V_lload hc dX2_regroup_50 0 rfl ?_
        refine V_callV_RI (Cn := RX2) (T := TX2) (N := 3) hc (c_X2_preferred l K y (r5)) sP7 rfl 1 gX2_regroup_X2_preferred rfl ⟨rfl, rfl⟩ (by decide) ⟨Nat.le_of_ble_eq_true rfl, Nat.le_of_ble_eq_true rfl⟩ rfl rfl (Nat.le_of_ble_eq_true rfl) dX2_regroup_52 (fun r6 => ?_)
        refine V_callN_RL hc (c_X8_only l K y (r6)) 1 gX2_regroup_X8_only_n40 rfl ⟨rfl, rfl⟩ (List.mem_of_getElem? (i := 3) rfl) wX2_regroup_in40 wX2_regroup_st40 (by decide) ⟨Nat.le_of_ble_eq_true rfl, Nat.le_of_ble_eq_true rfl⟩ rfl rfl (Nat.le_of_ble_eq_true rfl) dX2_regroup_55 (fun r7 => ?_)
        refine V_lor hc dX2_regroup_58 ?_
        refine V_putl (C := RX2) (T := TX2) (N := 3) hc sP7 rfl qX2_regroup_RX2 1 rfl (by decide) kX2_regroup_15 rfl tyX2 tyX2_ok nmX2 rfl (tyX2_ok 1 (by decide)) dX2_regroup_59 ?_
        refine V_bds (fun t8 => ?_)
        refine V_lload hc dX2_regroup_62 0 rfl ?_
        refine V_callS_RI hc (c_J13_bitCount_95d88 l K t8 (r5)) 1 gX2_regroup_J13_bitCount_95d88 rfl ⟨rfl, rfl⟩ (by decide) ⟨Nat.le_of_ble_eq_true rfl, Nat.le_of_ble_eq_true rfl⟩ rfl rfl (Nat.le_of_ble_eq_true rfl) dX2_regroup_64 (fun r9 => ?_)
        refine V_iconst (v := 1) hc dX2_regroup_67 (by decide) ?_
        refine V_icmp_le (tgt := 82) hc dX2_regroup_68 (by decide) ?_ ?_
        · refine V_lload_n hc dX2_regroup_82 rfl 2 rfl ?_
          refine V_lload hc dX2_regroup_83 0 rfl ?_
          refine V_ldc2 (v := -1) hc wX2_regroup_c48 dX2_regroup_85 ?_
          refine V_lxor hc dX2_regroup_88 ?_
          refine V_land hc dX2_regroup_89 ?_
          refine V_lstore_n (lv' := [(1, .long (x1 &&& (r5 ^^^ -1))), (4, .long r5), (0, .ref (K.2.2 7)), (3, .int x3)]) hc dX2_regroup_90 rfl (by decide) rfl ?_
          refine V_iinc (v := (x3 + 1)) (lv' := [(3, .int (x3 + 1)), (1, .long (x1 &&& (r5 ^^^ -1))), (4, .long r5), (0, .ref (K.2.2 7))]) hc dX2_regroup_91 3 rfl rfl (by decide) rfl ?_
          refine V_goto (tgt := 20) hc dX2_regroup_94 (by decide) ?_
          exact V_sub [3, 1, 0] rfl (ih _ _ _)
        · refine V_aload_n hc dX2_regroup_71 rfl 1 rfl ?_
          refine V_dup hc dX2_regroup_72 rfl ?_
          refine V_getl (C := RX2) (T := TX2) (N := 3) hc sP7 rfl qX2_regroup_RX2 2 rfl (by decide) kX2_regroup_19 rfl dX2_regroup_73 ?_
          refine V_lload hc dX2_regroup_76 0 rfl ?_
          refine V_lor hc dX2_regroup_78 ?_
          refine V_putl (C := RX2) (T := TX2) (N := 3) hc sP7 rfl qX2_regroup_RX2 2 rfl (by decide) kX2_regroup_19 rfl tyX2 tyX2_ok nmX2 rfl (tyX2_ok 2 (by decide)) dX2_regroup_79 ?_
          refine V_bds (fun t10 => ?_)
          refine V_lload_n hc dX2_regroup_82 rfl 2 rfl ?_
          refine V_lload hc dX2_regroup_83 0 rfl ?_
          refine V_ldc2 (v := -1) hc wX2_regroup_c48 dX2_regroup_85 ?_
          refine V_lxor hc dX2_regroup_88 ?_
          refine V_land hc dX2_regroup_89 ?_
          refine V_lstore_n (lv' := [(1, .long (x1 &&& (r5 ^^^ -1))), (4, .long r5), (0, .ref (K.2.2 7)), (3, .int x3)]) hc dX2_regroup_90 rfl (by decide) rfl ?_
          refine V_iinc (v := (x3 + 1)) (lv' := [(3, .int (x3 + 1)), (1, .long (x1 &&& (r5 ^^^ -1))), (4, .long r5), (0, .ref (K.2.2 7))]) hc dX2_regroup_91 3 rfl rfl (by decide) rfl ?_
          refine V_goto (tgt := 20) hc dX2_regroup_94 (by decide) ?_
          exact V_sub [3, 1, 0] rfl (ih _ _ _)
noncomputable def f_X2_regroup (t : Sx)  : Option Sx := bd (pL t 9 0) fun t1 => bd (pL t1 10 0) fun t2 => (f_X1_all t2 ).bind fun r3 => L_X2_regroup_20  (fun z11 z12 t13 => some t13) FU (r3) (0) (t2)
set_option maxRecDepth 20000 in
set_option maxHeartbeats 4000000 in
theorem c_X2_regroup (l : Launch) (K : Kx) (t : Sx)  : CT l K yX2_regroup wsX2_regroup ({ frames := 4, cells := 0, slots := 0, locals := 92 } : Room) [.ref (K.2.2 7)] t (f_X2_regroup t ) kWV := by
  refine CT_of (cc := cX2_regroup) (maxL := 6) (ret := none) (own := RX2) (by decide +kernel) rfl rfl (Nat.le_of_ble_eq_true rfl) ?_
  intro p e s m args below meth c hc
  refine V_sub (lv' := [(0, .ref (K.2.2 7))]) [0] rfl ?_
  unfold f_X2_regroup
  refine V_aload_n hc dX2_regroup_0 rfl 0 rfl ?_
  refine V_lconst (v := 0) hc dX2_regroup_1 (by decide) ?_
  refine V_putl (C := RX2) (T := TX2) (N := 3) hc sP7 rfl qX2_regroup_RX2 1 rfl (by decide) kX2_regroup_15 rfl tyX2 tyX2_ok nmX2 rfl (tyX2_ok 1 (by decide)) dX2_regroup_2 ?_
  refine V_bds (fun t1 => ?_)
  refine V_aload_n hc dX2_regroup_5 rfl 0 rfl ?_
  refine V_lconst (v := 0) hc dX2_regroup_6 (by decide) ?_
  refine V_putl (C := RX2) (T := TX2) (N := 3) hc sP7 rfl qX2_regroup_RX2 2 rfl (by decide) kX2_regroup_19 rfl tyX2 tyX2_ok nmX2 rfl (tyX2_ok 2 (by decide)) dX2_regroup_7 ?_
  refine V_bds (fun t2 => ?_)
  refine V_aload_n hc dX2_regroup_10 rfl 0 rfl ?_
  refine V_getr (C := RX2) (T := TX2) (N := 3) hc sP7 rfl qX2_regroup_RX2 0 rfl (by decide) kX2_regroup_9 rfl dX2_regroup_11 ?_
  refine V_callV_RL (Cn := RX1) (T := TX1) (N := 6) hc (c_X1_all l K t2 ) sP1 rfl 0 gX2_regroup_X1_all rfl ⟨rfl, rfl⟩ (by decide) ⟨Nat.le_of_ble_eq_true rfl, Nat.le_of_ble_eq_true rfl⟩ rfl rfl (Nat.le_of_ble_eq_true rfl) dX2_regroup_14 (fun r3 => ?_)
  refine V_lstore_n (lv' := [(1, .long r3), (0, .ref (K.2.2 7))]) hc dX2_regroup_17 rfl (by decide) rfl ?_
  refine V_iconst (v := 0) hc dX2_regroup_18 (by decide) ?_
  refine V_istore_n (lv' := [(3, .int 0), (1, .long r3), (0, .ref (K.2.2 7))]) hc dX2_regroup_19 rfl (by decide) rfl ?_
  refine V_sub (lv' := [(0, .ref (K.2.2 7)), (1, .long r3), (3, .int 0)]) [2, 1, 0] rfl ?_
  refine L_X2_regroup_20_ok hc  _ (fun z11 z12 t13 => ?_) FU _ _ _
  exact V_vret hc rfl rfl dX2_regroup_97

theorem wX6_has_in38 : Cond.initialized yX8_isWithin.cls ∈ wsX6_has := by decide +kernel
theorem wX6_has_st38 : Cond.static yX8_isWithin ∈ wsX6_has := by decide +kernel
theorem kX6_has_19 : Cond.fieldLink RX6 19 RX6 (TX6 2).2.1 (TX6 2).2.2.1 ∈ wsX6_has := by decide +kernel
theorem qX6_has_RX6 : ∀ w ∈ u_ws RX6 TX6 8, w ∈ wsX6_has := by
  first
  | exact fun _ h => List.mem_cons_of_mem _ (List.mem_append_right _ h)
  | exact fun _ h => List.mem_cons_of_mem _ (List.mem_append_left _ (List.mem_append_right _ h))
  | exact fun _ h => List.mem_cons_of_mem _ (List.mem_append_left _ (List.mem_append_left _ (List.mem_append_right _ h)))
  | exact fun _ h => List.mem_cons_of_mem _ (List.mem_append_left _ (List.mem_append_left _ (List.mem_append_left _ (List.mem_append_right _ h))))
  | exact fun _ h => List.mem_cons_of_mem _ (List.mem_append_left _ (List.mem_append_left _ (List.mem_append_left _ (List.mem_append_left _ (List.mem_append_right _ h)))))
  | decide +kernel
noncomputable def f_X6_has (t : Sx) (a1 : Int32) : Option Int32 := (f_X8_isWithin t (a1) (0) (9)).bind fun r1 => if r1 = 0 then some 0 else gd (vp_in a1 10) (if (gA t 15 (ix a1)) ≤ 0 then some 0 else some 1)
set_option maxRecDepth 20000 in
set_option maxHeartbeats 4000000 in
theorem c_X6_has (l : Launch) (K : Kx) (t : Sx) (a1 : Int32) : CT l K yX6_has wsX6_has ({ frames := 1, cells := 0, slots := 0, locals := 22 } : Room) [.ref (K.2.2 8), .int a1] t (f_X6_has t a1) (kRI t) := by
  refine CT_of (cc := cX6_has) (maxL := 2) (ret := (some .boolean)) (own := RX6) (by decide +kernel) rfl rfl (Nat.le_of_ble_eq_true rfl) ?_
  intro p e s m args below meth c hc
  refine V_sub (lv' := [(0, .ref (K.2.2 8)), (1, .int a1)]) [0, 1] rfl ?_
  unfold f_X6_has
  refine V_iload_n hc dX6_has_0 rfl 1 rfl ?_
  refine V_iconst (v := 0) hc dX6_has_1 (by decide) ?_
  refine V_bipush (v := 9) hc dX6_has_2 (by decide) ?_
  refine V_callN_RI hc (c_X8_isWithin l K t (a1) (0) (9)) 3 gX6_has_X8_isWithin_n38 rfl ⟨rfl, rfl⟩ (List.mem_of_getElem? (i := 4) rfl) wX6_has_in38 wX6_has_st38 (by decide) ⟨Nat.le_of_ble_eq_true rfl, Nat.le_of_ble_eq_true rfl⟩ rfl rfl (Nat.le_of_ble_eq_true rfl) dX6_has_4 (fun r1 => ?_)
  refine V_if_eq (tgt := 23) hc dX6_has_7 (by decide) ?_ ?_
  · refine V_iconst (v := 0) hc dX6_has_23 (by decide) ?_
    exact V_nret hc rfl rfl rfl dX6_has_24
  · refine V_aload_n hc dX6_has_10 rfl 0 rfl ?_
    refine V_getr (C := RX6) (T := TX6) (N := 8) hc sP8 rfl qX6_has_RX6 2 rfl (by decide) kX6_has_19 rfl dX6_has_11 ?_
    refine V_iload_n hc dX6_has_14 rfl 1 rfl ?_
    refine V_iald hc sP10 dX6_has_15 ?_
    refine V_if_le (tgt := 23) hc dX6_has_16 (by decide) ?_ ?_
    · refine V_iconst (v := 0) hc dX6_has_23 (by decide) ?_
      exact V_nret hc rfl rfl rfl dX6_has_24
    · refine V_iconst (v := 1) hc dX6_has_19 (by decide) ?_
      refine V_goto (tgt := 24) hc dX6_has_20 (by decide) ?_
      exact V_nret hc rfl rfl rfl dX6_has_24


noncomputable def f_X6_spot (t : Sx) (a0 : Int32) (a1 : Int32) : Option Int32 := some ((a0 * 8) + a1)
set_option maxRecDepth 20000 in
set_option maxHeartbeats 4000000 in
theorem c_X6_spot (l : Launch) (K : Kx) (t : Sx) (a0 : Int32) (a1 : Int32) : CT l K yX6_spot wsX6_spot ({ frames := 0, cells := 0, slots := 0, locals := 0 } : Room) [.int a0, .int a1] t (f_X6_spot t a0 a1) (kRI t) := by
  refine CT_of (cc := cX6_spot) (maxL := 2) (ret := (some .int)) (own := RX6) (by decide +kernel) rfl rfl (Nat.le_of_ble_eq_true rfl) ?_
  intro p e s m args below meth c hc
  refine V_sub (lv' := [(0, .int a0), (1, .int a1)]) [0, 1] rfl ?_
  unfold f_X6_spot
  refine V_iload_n hc dX6_spot_0 rfl 0 rfl ?_
  refine V_bipush (v := 8) hc dX6_spot_1 (by decide) ?_
  refine V_imul hc dX6_spot_3 ?_
  refine V_iload_n hc dX6_spot_4 rfl 1 rfl ?_
  refine V_iadd hc dX6_spot_5 ?_
  exact V_iret hc rfl rfl dX6_spot_6

theorem kX6_cover_22 : Cond.fieldLink RX6 22 RX6 (TX6 3).2.1 (TX6 3).2.2.1 ∈ wsX6_cover := by decide +kernel
theorem qX6_cover_RX6 : ∀ w ∈ u_ws RX6 TX6 8, w ∈ wsX6_cover := by
  first
  | exact fun _ h => List.mem_cons_of_mem _ (List.mem_append_right _ h)
  | exact fun _ h => List.mem_cons_of_mem _ (List.mem_append_left _ (List.mem_append_right _ h))
  | exact fun _ h => List.mem_cons_of_mem _ (List.mem_append_left _ (List.mem_append_left _ (List.mem_append_right _ h)))
  | exact fun _ h => List.mem_cons_of_mem _ (List.mem_append_left _ (List.mem_append_left _ (List.mem_append_left _ (List.mem_append_right _ h))))
  | exact fun _ h => List.mem_cons_of_mem _ (List.mem_append_left _ (List.mem_append_left _ (List.mem_append_left _ (List.mem_append_left _ (List.mem_append_right _ h)))))
  | decide +kernel
theorem kX6_cover_15 : Cond.fieldLink RX6 15 RX6 (TX6 1).2.1 (TX6 1).2.2.1 ∈ wsX6_cover := by decide +kernel
theorem kX6_cover_19 : Cond.fieldLink RX6 19 RX6 (TX6 2).2.1 (TX6 2).2.2.1 ∈ wsX6_cover := by decide +kernel
theorem kX6_cover_9 : Cond.fieldLink RX6 9 RX6 (TX6 0).2.1 (TX6 0).2.2.1 ∈ wsX6_cover := by decide +kernel
noncomputable def L_X6_cover_30 (t0 : Sx) (b1 : Int32) (kont : Int32 → Int32 → Option Int32) : Nat → Int32 → Int32 → Option Int32
  | 0, _, _ => none
  | n + 1, x2 , x3 => gd (vp_in b1 10) (if (gA t0 15 (ix b1)) ≤ x3 then kont (x2) (x3) else (f_X6_spot t0 (b1) (x3)).bind fun r2 => gd (vp_in r2 80) ((f_X1_settledValue t0 (gA t0 14 (ix r2)) (1)).bind fun r3 => (f_X1_settledValue t0 (x2) (1)).bind fun r4 => if r3 ≤ r4 then L_X6_cover_30 t0 b1 kont n (x2) ((x3 + 1)) else L_X6_cover_30 t0 b1 kont n ((gA t0 14 (ix r2))) ((x3 + 1))))
set_option maxRecDepth 20000 in
set_option maxHeartbeats 4000000 in
theorem L_X6_cover_30_ok {p : Program} {l : Launch} {K : Kx} {e : Env} {s : State} {m : MethodId} {args : Array Value} {below : List Frame} {meth : Method} {c : Code} (hc : Cx p ({ frames := 1, cells := 0, slots := 0, locals := 22 } : Room) s m args meth c cX6_cover 5 wsX6_cover RX6 K (aA K s.heap.size) (some .int) 0 0) (t0 : Sx) (b1 : Int32) (kont : Int32 → Int32 → Option Int32) (hk : ∀ x2 x3, V p l e ({ frames := 1, cells := 0, slots := 0, locals := 22 } : Room) s m args below meth c K (aA K s.heap.size) 0 0 5 (QM below K args s (kRI t0)) 83 [(0, .ref (K.2.2 8)), (1, .int b1), (2, .int x2), (3, .int x3)] [] t0 (kont x2 x3)) : ∀ (n : Nat) (x2 : Int32) (x3 : Int32), V p l e ({ frames := 1, cells := 0, slots := 0, locals := 22 } : Room) s m args below meth c K (aA K s.heap.size) 0 0 5 (QM below K args s (kRI t0)) 30 [(0, .ref (K.2.2 8)), (1, .int b1), (2, .int x2), (3, .int x3)] [] t0 (L_X6_cover_30 t0 b1 kont n x2 x3) := by
  intro n
  induction n with
  | zero => intro x2 x3; exact V_none
  | succ n ih =>
    intro x2 x3
    rw [L_X6_cover_30]
    refine V_iload_n hc dX6_cover_30 rfl 3 rfl ?_
    refine V_aload_n hc dX6_cover_31 rfl 0 rfl ?_
    refine V_getr (C := RX6) (T := TX6) (N := 8) hc sP8 rfl qX6_cover_RX6 2 rfl (by decide) kX6_cover_19 rfl dX6_cover_32 ?_
    refine V_iload_n hc dX6_cover_35 rfl 1 rfl ?_
    refine V_iald hc sP10 dX6_cover_36 ?_
    refine V_icmp_ge (tgt := 83) hc dX6_cover_37 (by decide) ?_ ?_
    · exact V_sub [0, 1, 2, 3] rfl (hk _ _)
    · refine V_aload_n hc dX6_cover_40 rfl 0 rfl ?_
      refine V_getr (C := RX6) (T := TX6) (N := 8) hc sP8 rfl qX6_cover_RX6 1 rfl (by decide) kX6_cover_15 rfl dX6_cover_41 ?_
      refine V_iload_n hc dX6_cover_44 rfl 1 rfl ?_
      refine V_iload_n hc dX6_cover_45 rfl 3 rfl ?_
      refine V_callS_RI hc (c_X6_spot l K t0 (b1) (x3)) 2 gX6_cover_X6_spot rfl ⟨rfl, rfl⟩ (by decide) ⟨Nat.le_of_ble_eq_true rfl, Nat.le_of_ble_eq_true rfl⟩ rfl rfl (Nat.le_of_ble_eq_true rfl) dX6_cover_46 (fun r2 => ?_)
      refine V_iald hc sP9 dX6_cover_49 ?_
      refine V_istore (lv' := [(4, .int (gA t0 14 (ix r2))), (0, .ref (K.2.2 8)), (1, .int b1), (2, .int x2), (3, .int x3)]) hc dX6_cover_50 (by decide) rfl ?_
      refine V_aload_n hc dX6_cover_52 rfl 1 rfl ?_
      refine V_getr (C := RX6) (T := TX6) (N := 8) hc sP8 rfl qX6_cover_RX6 0 rfl (by decide) kX6_cover_9 rfl dX6_cover_53 ?_
      refine V_iload hc dX6_cover_56 0 rfl ?_
      refine V_iconst (v := 1) hc dX6_cover_58 (by decide) ?_
      refine V_callV_RI (Cn := RX1) (T := TX1) (N := 6) hc (c_X1_settledValue l K t0 (gA t0 14 (ix r2)) (1)) sP1 rfl 2 gX6_cover_X1_settledValue rfl ⟨rfl, rfl⟩ (by decide) ⟨Nat.le_of_ble_eq_true rfl, Nat.le_of_ble_eq_true rfl⟩ rfl rfl (Nat.le_of_ble_eq_true rfl) dX6_cover_59 (fun r3 => ?_)
      refine V_aload_n hc dX6_cover_62 rfl 1 rfl ?_
      refine V_getr (C := RX6) (T := TX6) (N := 8) hc sP8 rfl qX6_cover_RX6 0 rfl (by decide) kX6_cover_9 rfl dX6_cover_63 ?_
      refine V_iload_n hc dX6_cover_66 rfl 3 rfl ?_
      refine V_iconst (v := 1) hc dX6_cover_67 (by decide) ?_
      refine V_callV_RI (Cn := RX1) (T := TX1) (N := 6) hc (c_X1_settledValue l K t0 (x2) (1)) sP1 rfl 2 gX6_cover_X1_settledValue rfl ⟨rfl, rfl⟩ (by decide) ⟨Nat.le_of_ble_eq_true rfl, Nat.le_of_ble_eq_true rfl⟩ rfl rfl (Nat.le_of_ble_eq_true rfl) dX6_cover_68 (fun r4 => ?_)
      refine V_icmp_le (tgt := 77) hc dX6_cover_71 (by decide) ?_ ?_
      · refine V_iinc (v := (x3 + 1)) (lv' := [(3, .int (x3 + 1)), (4, .int (gA t0 14 (ix r2))), (0, .ref (K.2.2 8)), (1, .int b1), (2, .int x2)]) hc dX6_cover_77 4 rfl rfl (by decide) rfl ?_
        refine V_goto (tgt := 30) hc dX6_cover_80 (by decide) ?_
        exact V_sub [2, 3, 4, 0] rfl (ih _ _)
      · refine V_iload hc dX6_cover_74 0 rfl ?_
        refine V_istore_n (lv' := [(2, .int (gA t0 14 (ix r2))), (4, .int (gA t0 14 (ix r2))), (0, .ref (K.2.2 8)), (1, .int b1), (3, .int x3)]) hc dX6_cover_76 rfl (by decide) rfl ?_
        refine V_iinc (v := (x3 + 1)) (lv' := [(3, .int (x3 + 1)), (2, .int (gA t0 14 (ix r2))), (4, .int (gA t0 14 (ix r2))), (0, .ref (K.2.2 8)), (1, .int b1)]) hc dX6_cover_77 4 rfl rfl (by decide) rfl ?_
        refine V_goto (tgt := 30) hc dX6_cover_80 (by decide) ?_
        exact V_sub [3, 4, 1, 0] rfl (ih _ _)
noncomputable def f_X6_cover (t : Sx) (a1 : Int32) : Option Int32 := gd (vp_in a1 10) (if (gA t 16 (ix a1)) = (-1) then (f_X6_spot t (a1) (0)).bind fun r1 => gd (vp_in r1 80) (L_X6_cover_30 t (a1) (fun z5 z6 => some z5) FU ((gA t 14 (ix r1))) (1)) else gd (vp_in a1 10) (some (gA t 16 (ix a1))))
set_option maxRecDepth 20000 in
set_option maxHeartbeats 4000000 in
theorem c_X6_cover (l : Launch) (K : Kx) (t : Sx) (a1 : Int32) : CT l K yX6_cover wsX6_cover ({ frames := 1, cells := 0, slots := 0, locals := 22 } : Room) [.ref (K.2.2 8), .int a1] t (f_X6_cover t a1) (kRI t) := by
  refine CT_of (cc := cX6_cover) (maxL := 5) (ret := (some .int)) (own := RX6) (by decide +kernel) rfl rfl (Nat.le_of_ble_eq_true rfl) ?_
  intro p e s m args below meth c hc
  refine V_sub (lv' := [(0, .ref (K.2.2 8)), (1, .int a1)]) [0, 1] rfl ?_
  unfold f_X6_cover
  refine V_aload_n hc dX6_cover_0 rfl 0 rfl ?_
  refine V_getr (C := RX6) (T := TX6) (N := 8) hc sP8 rfl qX6_cover_RX6 3 rfl (by decide) kX6_cover_22 rfl dX6_cover_1 ?_
  refine V_iload_n hc dX6_cover_4 rfl 1 rfl ?_
  refine V_iald hc sP11 dX6_cover_5 ?_
  refine V_iconst (v := (-1)) hc dX6_cover_6 (by decide) ?_
  refine V_icmp_eq (tgt := 17) hc dX6_cover_7 (by decide) ?_ ?_
  · refine V_aload_n hc dX6_cover_17 rfl 0 rfl ?_
    refine V_getr (C := RX6) (T := TX6) (N := 8) hc sP8 rfl qX6_cover_RX6 1 rfl (by decide) kX6_cover_15 rfl dX6_cover_18 ?_
    refine V_iload_n hc dX6_cover_21 rfl 1 rfl ?_
    refine V_iconst (v := 0) hc dX6_cover_22 (by decide) ?_
    refine V_callS_RI hc (c_X6_spot l K t (a1) (0)) 2 gX6_cover_X6_spot rfl ⟨rfl, rfl⟩ (by decide) ⟨Nat.le_of_ble_eq_true rfl, Nat.le_of_ble_eq_true rfl⟩ rfl rfl (Nat.le_of_ble_eq_true rfl) dX6_cover_23 (fun r1 => ?_)
    refine V_iald hc sP9 dX6_cover_26 ?_
    refine V_istore_n (lv' := [(2, .int (gA t 14 (ix r1))), (0, .ref (K.2.2 8)), (1, .int a1)]) hc dX6_cover_27 rfl (by decide) rfl ?_
    refine V_iconst (v := 1) hc dX6_cover_28 (by decide) ?_
    refine V_istore_n (lv' := [(3, .int 1), (2, .int (gA t 14 (ix r1))), (0, .ref (K.2.2 8)), (1, .int a1)]) hc dX6_cover_29 rfl (by decide) rfl ?_
    refine V_sub (lv' := [(0, .ref (K.2.2 8)), (1, .int a1), (2, .int (gA t 14 (ix r1))), (3, .int 1)]) [2, 3, 1, 0] rfl ?_
    refine L_X6_cover_30_ok hc t (a1) _ (fun z5 z6 => ?_) FU _ _
    refine V_iload_n hc dX6_cover_83 rfl 2 rfl ?_
    exact V_iret hc rfl rfl dX6_cover_84
  · refine V_aload_n hc dX6_cover_10 rfl 0 rfl ?_
    refine V_getr (C := RX6) (T := TX6) (N := 8) hc sP8 rfl qX6_cover_RX6 3 rfl (by decide) kX6_cover_22 rfl dX6_cover_11 ?_
    refine V_iload_n hc dX6_cover_14 rfl 1 rfl ?_
    refine V_iald hc sP11 dX6_cover_15 ?_
    exact V_iret hc rfl rfl dX6_cover_16

theorem kX6_findCovers_50 : Cond.fieldLink RX6 50 RX6 (TX6 7).2.1 (TX6 7).2.2.1 ∈ wsX6_findCovers := by decide +kernel
theorem qX6_findCovers_RX6 : ∀ w ∈ u_ws RX6 TX6 8, w ∈ wsX6_findCovers := by
  first
  | exact fun _ h => List.mem_cons_of_mem _ (List.mem_append_right _ h)
  | exact fun _ h => List.mem_cons_of_mem _ (List.mem_append_left _ (List.mem_append_right _ h))
  | exact fun _ h => List.mem_cons_of_mem _ (List.mem_append_left _ (List.mem_append_left _ (List.mem_append_right _ h)))
  | exact fun _ h => List.mem_cons_of_mem _ (List.mem_append_left _ (List.mem_append_left _ (List.mem_append_left _ (List.mem_append_right _ h))))
  | exact fun _ h => List.mem_cons_of_mem _ (List.mem_append_left _ (List.mem_append_left _ (List.mem_append_left _ (List.mem_append_left _ (List.mem_append_right _ h)))))
  | decide +kernel
theorem wX6_findCovers_in61 : Cond.initialized yX8_only.cls ∈ wsX6_findCovers := by decide +kernel
theorem wX6_findCovers_st61 : Cond.static yX8_only ∈ wsX6_findCovers := by decide +kernel
noncomputable def L_X6_findCovers_7  (kont : Int32 → Sx → Option Sx) : Nat → Int32 → Sx → Option Sx
  | 0, _, _ => none
  | n + 1, x1, y => if 10 ≤ x1 then kont (x1) (y) else (f_X6_has y (x1)).bind fun r2 => if r2 = 0 then L_X6_findCovers_7  kont n ((x1 + 1)) (y) else (f_X6_cover y (x1)).bind fun r3 => (f_X8_only y (r3)).bind fun r4 => bd (pL y 12 ((gL y 12) ||| r4)) fun t5 => L_X6_findCovers_7  kont n ((x1 + 1)) (t5)
set_option maxRecDepth 20000 in
set_option maxHeartbeats 4000000 in
theorem L_X6_findCovers_7_ok {p : Program} {l : Launch} {K : Kx} {e : Env} {s : State} {m : MethodId} {args : Array Value} {below : List Frame} {meth : Method} {c : Code} (hc : Cx p ({ frames := 2, cells := 0, slots := 0, locals := 46 } : Room) s m args meth c cX6_findCovers 2 wsX6_findCovers RX6 K (aA K s.heap.size) none 0 0)  (kont : Int32 → Sx → Option Sx) (hk : ∀ x1 y, V p l e ({ frames := 2, cells := 0, slots := 0, locals := 46 } : Room) s m args below meth c K (aA K s.heap.size) 0 0 2 (QM below K args s kWV) 44 [(0, .ref (K.2.2 8)), (1, .int x1)] [] y (kont x1 y)) : ∀ (n : Nat) (x1 : Int32) (y : Sx), V p l e ({ frames := 2, cells := 0, slots := 0, locals := 46 } : Room) s m args below meth c K (aA K s.heap.size) 0 0 2 (QM below K args s kWV) 7 [(0, .ref (K.2.2 8)), (1, .int x1)] [] y (L_X6_findCovers_7  kont n x1 y) := by
  intro n
  induction n with
  | zero => intro x1 y; exact V_none
  | succ n ih =>
    intro x1 y
    rw [L_X6_findCovers_7]
    refine V_iload_n hc dX6_findCovers_7 rfl 1 rfl ?_
    refine V_bipush (v := 10) hc dX6_findCovers_8 (by decide) ?_
    refine V_icmp_ge (tgt := 44) hc dX6_findCovers_10 (by decide) ?_ ?_
    · exact V_sub [0, 1] rfl (hk _ _)
    · refine V_aload_n hc dX6_findCovers_13 rfl 0 rfl ?_
      refine V_iload_n hc dX6_findCovers_14 rfl 1 rfl ?_
      refine V_callV_RI (Cn := RX6) (T := TX6) (N := 8) hc (c_X6_has l K y (x1)) sP8 rfl 1 gX6_findCovers_X6_has rfl ⟨rfl, rfl⟩ (by decide) ⟨Nat.le_of_ble_eq_true rfl, Nat.le_of_ble_eq_true rfl⟩ rfl rfl (Nat.le_of_ble_eq_true rfl) dX6_findCovers_15 (fun r2 => ?_)
      refine V_if_eq (tgt := 38) hc dX6_findCovers_18 (by decide) ?_ ?_
      · refine V_iinc (v := (x1 + 1)) (lv' := [(1, .int (x1 + 1)), (0, .ref (K.2.2 8))]) hc dX6_findCovers_38 1 rfl rfl (by decide) rfl ?_
        refine V_goto (tgt := 7) hc dX6_findCovers_41 (by decide) ?_
        exact V_sub [1, 0] rfl (ih _ _)
      · refine V_aload_n hc dX6_findCovers_21 rfl 0 rfl ?_
        refine V_dup hc dX6_findCovers_22 rfl ?_
        refine V_getl (C := RX6) (T := TX6) (N := 8) hc sP8 rfl qX6_findCovers_RX6 7 rfl (by decide) kX6_findCovers_50 rfl dX6_findCovers_23 ?_
        refine V_aload_n hc dX6_findCovers_26 rfl 0 rfl ?_
        refine V_iload_n hc dX6_findCovers_27 rfl 1 rfl ?_
        refine V_callV_RI (Cn := RX6) (T := TX6) (N := 8) hc (c_X6_cover l K y (x1)) sP8 rfl 1 gX6_findCovers_X6_cover rfl ⟨rfl, rfl⟩ (by decide) ⟨Nat.le_of_ble_eq_true rfl, Nat.le_of_ble_eq_true rfl⟩ rfl rfl (Nat.le_of_ble_eq_true rfl) dX6_findCovers_28 (fun r3 => ?_)
        refine V_callN_RL hc (c_X8_only l K y (r3)) 1 gX6_findCovers_X8_only_n61 rfl ⟨rfl, rfl⟩ (List.mem_of_getElem? (i := 5) rfl) wX6_findCovers_in61 wX6_findCovers_st61 (by decide) ⟨Nat.le_of_ble_eq_true rfl, Nat.le_of_ble_eq_true rfl⟩ rfl rfl (Nat.le_of_ble_eq_true rfl) dX6_findCovers_31 (fun r4 => ?_)
        refine V_lor hc dX6_findCovers_34 ?_
        refine V_putl (C := RX6) (T := TX6) (N := 8) hc sP8 rfl qX6_findCovers_RX6 7 rfl (by decide) kX6_findCovers_50 rfl tyX6 tyX6_ok nmX6 rfl (tyX6_ok 7 (by decide)) dX6_findCovers_35 ?_
        refine V_bds (fun t5 => ?_)
        refine V_iinc (v := (x1 + 1)) (lv' := [(1, .int (x1 + 1)), (0, .ref (K.2.2 8))]) hc dX6_findCovers_38 1 rfl rfl (by decide) rfl ?_
        refine V_goto (tgt := 7) hc dX6_findCovers_41 (by decide) ?_
        exact V_sub [1, 0] rfl (ih _ _)
noncomputable def f_X6_findCovers (t : Sx)  : Option Sx := bd (pL t 12 0) fun t1 => L_X6_findCovers_7  (fun z6 t7 => some t7) FU (0) (t1)
set_option maxRecDepth 20000 in
set_option maxHeartbeats 4000000 in
theorem c_X6_findCovers (l : Launch) (K : Kx) (t : Sx)  : CT l K yX6_findCovers wsX6_findCovers ({ frames := 2, cells := 0, slots := 0, locals := 46 } : Room) [.ref (K.2.2 8)] t (f_X6_findCovers t ) kWV := by
  refine CT_of (cc := cX6_findCovers) (maxL := 2) (ret := none) (own := RX6) (by decide +kernel) rfl rfl (Nat.le_of_ble_eq_true rfl) ?_
  intro p e s m args below meth c hc
  refine V_sub (lv' := [(0, .ref (K.2.2 8))]) [0] rfl ?_
  unfold f_X6_findCovers
  refine V_aload_n hc dX6_findCovers_0 rfl 0 rfl ?_
  refine V_lconst (v := 0) hc dX6_findCovers_1 (by decide) ?_
  refine V_putl (C := RX6) (T := TX6) (N := 8) hc sP8 rfl qX6_findCovers_RX6 7 rfl (by decide) kX6_findCovers_50 rfl tyX6 tyX6_ok nmX6 rfl (tyX6_ok 7 (by decide)) dX6_findCovers_2 ?_
  refine V_bds (fun t1 => ?_)
  refine V_iconst (v := 0) hc dX6_findCovers_5 (by decide) ?_
  refine V_istore_n (lv' := [(1, .int 0), (0, .ref (K.2.2 8))]) hc dX6_findCovers_6 rfl (by decide) rfl ?_
  refine V_sub (lv' := [(0, .ref (K.2.2 8)), (1, .int 0)]) [1, 0] rfl ?_
  refine L_X6_findCovers_7_ok hc  _ (fun z6 t7 => ?_) FU _ _
  exact V_vret hc rfl rfl dX6_findCovers_44

theorem kX6_stacked_46 : Cond.fieldLink RX6 46 RX6 (TX6 6).2.1 (TX6 6).2.2.1 ∈ wsX6_stacked := by decide +kernel
theorem qX6_stacked_RX6 : ∀ w ∈ u_ws RX6 TX6 8, w ∈ wsX6_stacked := by
  first
  | exact fun _ h => List.mem_cons_of_mem _ (List.mem_append_right _ h)
  | exact fun _ h => List.mem_cons_of_mem _ (List.mem_append_left _ (List.mem_append_right _ h))
  | exact fun _ h => List.mem_cons_of_mem _ (List.mem_append_left _ (List.mem_append_left _ (List.mem_append_right _ h)))
  | exact fun _ h => List.mem_cons_of_mem _ (List.mem_append_left _ (List.mem_append_left _ (List.mem_append_left _ (List.mem_append_right _ h))))
  | exact fun _ h => List.mem_cons_of_mem _ (List.mem_append_left _ (List.mem_append_left _ (List.mem_append_left _ (List.mem_append_left _ (List.mem_append_right _ h)))))
  | decide +kernel
noncomputable def f_X6_stacked (t : Sx)  : Option Int64 := some (gL t 11)
set_option maxRecDepth 20000 in
set_option maxHeartbeats 4000000 in
theorem c_X6_stacked (l : Launch) (K : Kx) (t : Sx)  : CT l K yX6_stacked wsX6_stacked ({ frames := 0, cells := 0, slots := 0, locals := 0 } : Room) [.ref (K.2.2 8)] t (f_X6_stacked t ) (kRL t) := by
  refine CT_of (cc := cX6_stacked) (maxL := 1) (ret := (some .long)) (own := RX6) (by decide +kernel) rfl rfl (Nat.le_of_ble_eq_true rfl) ?_
  intro p e s m args below meth c hc
  refine V_sub (lv' := [(0, .ref (K.2.2 8))]) [0] rfl ?_
  unfold f_X6_stacked
  refine V_aload_n hc dX6_stacked_0 rfl 0 rfl ?_
  refine V_getl (C := RX6) (T := TX6) (N := 8) hc sP8 rfl qX6_stacked_RX6 6 rfl (by decide) kX6_stacked_46 rfl dX6_stacked_1 ?_
  exact V_lret hc rfl rfl dX6_stacked_4

theorem kX6_covers_50 : Cond.fieldLink RX6 50 RX6 (TX6 7).2.1 (TX6 7).2.2.1 ∈ wsX6_covers := by decide +kernel
theorem qX6_covers_RX6 : ∀ w ∈ u_ws RX6 TX6 8, w ∈ wsX6_covers := by
  first
  | exact fun _ h => List.mem_cons_of_mem _ (List.mem_append_right _ h)
  | exact fun _ h => List.mem_cons_of_mem _ (List.mem_append_left _ (List.mem_append_right _ h))
  | exact fun _ h => List.mem_cons_of_mem _ (List.mem_append_left _ (List.mem_append_left _ (List.mem_append_right _ h)))
  | exact fun _ h => List.mem_cons_of_mem _ (List.mem_append_left _ (List.mem_append_left _ (List.mem_append_left _ (List.mem_append_right _ h))))
  | exact fun _ h => List.mem_cons_of_mem _ (List.mem_append_left _ (List.mem_append_left _ (List.mem_append_left _ (List.mem_append_left _ (List.mem_append_right _ h)))))
  | decide +kernel
noncomputable def f_X6_covers (t : Sx)  : Option Int64 := some (gL t 12)
set_option maxRecDepth 20000 in
set_option maxHeartbeats 4000000 in
theorem c_X6_covers (l : Launch) (K : Kx) (t : Sx)  : CT l K yX6_covers wsX6_covers ({ frames := 0, cells := 0, slots := 0, locals := 0 } : Room) [.ref (K.2.2 8)] t (f_X6_covers t ) (kRL t) := by
  refine CT_of (cc := cX6_covers) (maxL := 1) (ret := (some .long)) (own := RX6) (by decide +kernel) rfl rfl (Nat.le_of_ble_eq_true rfl) ?_
  intro p e s m args below meth c hc
  refine V_sub (lv' := [(0, .ref (K.2.2 8))]) [0] rfl ?_
  unfold f_X6_covers
  refine V_aload_n hc dX6_covers_0 rfl 0 rfl ?_
  refine V_getl (C := RX6) (T := TX6) (N := 8) hc sP8 rfl qX6_covers_RX6 7 rfl (by decide) kX6_covers_50 rfl dX6_covers_1 ?_
  exact V_lret hc rfl rfl dX6_covers_4

theorem kX2_duplicates_19 : Cond.fieldLink RX2 19 RX2 (TX2 2).2.1 (TX2 2).2.2.1 ∈ wsX2_duplicates := by decide +kernel
theorem qX2_duplicates_RX2 : ∀ w ∈ u_ws RX2 TX2 3, w ∈ wsX2_duplicates := by
  first
  | exact fun _ h => List.mem_cons_of_mem _ (List.mem_append_right _ h)
  | exact fun _ h => List.mem_cons_of_mem _ (List.mem_append_left _ (List.mem_append_right _ h))
  | exact fun _ h => List.mem_cons_of_mem _ (List.mem_append_left _ (List.mem_append_left _ (List.mem_append_right _ h)))
  | exact fun _ h => List.mem_cons_of_mem _ (List.mem_append_left _ (List.mem_append_left _ (List.mem_append_left _ (List.mem_append_right _ h))))
  | exact fun _ h => List.mem_cons_of_mem _ (List.mem_append_left _ (List.mem_append_left _ (List.mem_append_left _ (List.mem_append_left _ (List.mem_append_right _ h)))))
  | decide +kernel
noncomputable def f_X2_duplicates (t : Sx)  : Option Int64 := some (gL t 10)
set_option maxRecDepth 20000 in
set_option maxHeartbeats 4000000 in
theorem c_X2_duplicates (l : Launch) (K : Kx) (t : Sx)  : CT l K yX2_duplicates wsX2_duplicates ({ frames := 0, cells := 0, slots := 0, locals := 0 } : Room) [.ref (K.2.2 7)] t (f_X2_duplicates t ) (kRL t) := by
  refine CT_of (cc := cX2_duplicates) (maxL := 1) (ret := (some .long)) (own := RX2) (by decide +kernel) rfl rfl (Nat.le_of_ble_eq_true rfl) ?_
  intro p e s m args below meth c hc
  refine V_sub (lv' := [(0, .ref (K.2.2 7))]) [0] rfl ?_
  unfold f_X2_duplicates
  refine V_aload_n hc dX2_duplicates_0 rfl 0 rfl ?_
  refine V_getl (C := RX2) (T := TX2) (N := 3) hc sP7 rfl qX2_duplicates_RX2 2 rfl (by decide) kX2_duplicates_19 rfl dX2_duplicates_1 ?_
  exact V_lret hc rfl rfl dX2_duplicates_4

theorem kX2_keepers_15 : Cond.fieldLink RX2 15 RX2 (TX2 1).2.1 (TX2 1).2.2.1 ∈ wsX2_keepers := by decide +kernel
theorem qX2_keepers_RX2 : ∀ w ∈ u_ws RX2 TX2 3, w ∈ wsX2_keepers := by
  first
  | exact fun _ h => List.mem_cons_of_mem _ (List.mem_append_right _ h)
  | exact fun _ h => List.mem_cons_of_mem _ (List.mem_append_left _ (List.mem_append_right _ h))
  | exact fun _ h => List.mem_cons_of_mem _ (List.mem_append_left _ (List.mem_append_left _ (List.mem_append_right _ h)))
  | exact fun _ h => List.mem_cons_of_mem _ (List.mem_append_left _ (List.mem_append_left _ (List.mem_append_left _ (List.mem_append_right _ h))))
  | exact fun _ h => List.mem_cons_of_mem _ (List.mem_append_left _ (List.mem_append_left _ (List.mem_append_left _ (List.mem_append_left _ (List.mem_append_right _ h)))))
  | decide +kernel
noncomputable def f_X2_keepers (t : Sx)  : Option Int64 := some (gL t 9)
set_option maxRecDepth 20000 in
set_option maxHeartbeats 4000000 in
theorem c_X2_keepers (l : Launch) (K : Kx) (t : Sx)  : CT l K yX2_keepers wsX2_keepers ({ frames := 0, cells := 0, slots := 0, locals := 0 } : Room) [.ref (K.2.2 7)] t (f_X2_keepers t ) (kRL t) := by
  refine CT_of (cc := cX2_keepers) (maxL := 1) (ret := (some .long)) (own := RX2) (by decide +kernel) rfl rfl (Nat.le_of_ble_eq_true rfl) ?_
  intro p e s m args below meth c hc
  refine V_sub (lv' := [(0, .ref (K.2.2 7))]) [0] rfl ?_
  unfold f_X2_keepers
  refine V_aload_n hc dX2_keepers_0 rfl 0 rfl ?_
  refine V_getl (C := RX2) (T := TX2) (N := 3) hc sP7 rfl qX2_keepers_RX2 1 rfl (by decide) kX2_keepers_15 rfl dX2_keepers_1 ?_
  exact V_lret hc rfl rfl dX2_keepers_4

theorem kX6_closeGap_19 : Cond.fieldLink RX6 19 RX6 (TX6 2).2.1 (TX6 2).2.2.1 ∈ wsX6_closeGap := by decide +kernel
theorem qX6_closeGap_RX6 : ∀ w ∈ u_ws RX6 TX6 8, w ∈ wsX6_closeGap := by
  first
  | exact fun _ h => List.mem_cons_of_mem _ (List.mem_append_right _ h)
  | exact fun _ h => List.mem_cons_of_mem _ (List.mem_append_left _ (List.mem_append_right _ h))
  | exact fun _ h => List.mem_cons_of_mem _ (List.mem_append_left _ (List.mem_append_left _ (List.mem_append_right _ h)))
  | exact fun _ h => List.mem_cons_of_mem _ (List.mem_append_left _ (List.mem_append_left _ (List.mem_append_left _ (List.mem_append_right _ h))))
  | exact fun _ h => List.mem_cons_of_mem _ (List.mem_append_left _ (List.mem_append_left _ (List.mem_append_left _ (List.mem_append_left _ (List.mem_append_right _ h)))))
  | decide +kernel
theorem kX6_closeGap_15 : Cond.fieldLink RX6 15 RX6 (TX6 1).2.1 (TX6 1).2.2.1 ∈ wsX6_closeGap := by decide +kernel
noncomputable def L_X6_closeGap_5 (b1 : Int32) (b2 : Int32) (kont : Int32 → Int32 → Sx → Option Sx) : Nat → Int32 → Int32 → Sx → Option Sx
  | 0, _, _, _ => none
  | n + 1, x3 , x4, y => gd (vp_in b1 10) (if (gA y 15 (ix b1)) ≤ x4 then kont (x3) (x4) (y) else (f_X6_spot y (b1) (x4)).bind fun r1 => gd (vp_in r1 80) (if (gA y 14 (ix r1)) = b2 then L_X6_closeGap_5 b1 b2 kont n (x3) ((x4 + 1)) (y) else (f_X6_spot y (b1) (x3)).bind fun r2 => gd (vp_in r2 80) (bd (pA y 14 (ix r2) (gA y 14 (ix r1))) fun t3 => L_X6_closeGap_5 b1 b2 kont n ((x3 + 1)) ((x4 + 1)) (t3))))
set_option maxRecDepth 20000 in
set_option maxHeartbeats 4000000 in
theorem L_X6_closeGap_5_ok {p : Program} {l : Launch} {K : Kx} {e : Env} {s : State} {m : MethodId} {args : Array Value} {below : List Frame} {meth : Method} {c : Code} (hc : Cx p ({ frames := 1, cells := 0, slots := 0, locals := 21 } : Room) s m args meth c cX6_closeGap 6 wsX6_closeGap RX6 K (aA K s.heap.size) none 0 0) (b1 : Int32) (b2 : Int32) (kont : Int32 → Int32 → Sx → Option Sx) (hk : ∀ x3 x4 y, V p l e ({ frames := 1, cells := 0, slots := 0, locals := 21 } : Room) s m args below meth c K (aA K s.heap.size) 0 0 6 (QM below K args s kWV) 56 [(0, .ref (K.2.2 8)), (1, .int b1), (2, .int b2), (3, .int x3), (4, .int x4)] [] y (kont x3 x4 y)) : ∀ (n : Nat) (x3 : Int32) (x4 : Int32) (y : Sx), V p l e ({ frames := 1, cells := 0, slots := 0, locals := 21 } : Room) s m args below meth c K (aA K s.heap.size) 0 0 6 (QM below K args s kWV) 5 [(0, .ref (K.2.2 8)), (1, .int b1), (2, .int b2), (3, .int x3), (4, .int x4)] [] y (L_X6_closeGap_5 b1 b2 kont n x3 x4 y) := by
  intro n
  induction n with
  | zero => intro x3 x4 y; exact V_none
  | succ n ih =>
    intro x3 x4 y
    rw [L_X6_closeGap_5]
    refine V_iload hc dX6_closeGap_5 4 rfl ?_
    refine V_aload_n hc dX6_closeGap_7 rfl 0 rfl ?_
    refine V_getr (C := RX6) (T := TX6) (N := 8) hc sP8 rfl qX6_closeGap_RX6 2 rfl (by decide) kX6_closeGap_19 rfl dX6_closeGap_8 ?_
    refine V_iload_n hc dX6_closeGap_11 rfl 1 rfl ?_
    refine V_iald hc sP10 dX6_closeGap_12 ?_
    refine V_icmp_ge (tgt := 56) hc dX6_closeGap_13 (by decide) ?_ ?_
    · exact V_sub [0, 1, 2, 3, 4] rfl (hk _ _ _)
    · refine V_aload_n hc dX6_closeGap_16 rfl 0 rfl ?_
      refine V_getr (C := RX6) (T := TX6) (N := 8) hc sP8 rfl qX6_closeGap_RX6 1 rfl (by decide) kX6_closeGap_15 rfl dX6_closeGap_17 ?_
      refine V_iload_n hc dX6_closeGap_20 rfl 1 rfl ?_
      refine V_iload hc dX6_closeGap_21 4 rfl ?_
      refine V_callS_RI hc (c_X6_spot l K y (b1) (x4)) 2 gX6_closeGap_X6_spot rfl ⟨rfl, rfl⟩ (by decide) ⟨Nat.le_of_ble_eq_true rfl, Nat.le_of_ble_eq_true rfl⟩ rfl rfl (Nat.le_of_ble_eq_true rfl) dX6_closeGap_23 (fun r1 => ?_)
      refine V_iald hc sP9 dX6_closeGap_26 ?_
      refine V_istore (lv' := [(5, .int (gA y 14 (ix r1))), (0, .ref (K.2.2 8)), (1, .int b1), (2, .int b2), (3, .int x3), (4, .int x4)]) hc dX6_closeGap_27 (by decide) rfl ?_
      refine V_iload hc dX6_closeGap_29 0 rfl ?_
      refine V_iload_n hc dX6_closeGap_31 rfl 3 rfl ?_
      refine V_icmp_eq (tgt := 50) hc dX6_closeGap_32 (by decide) ?_ ?_
      · refine V_iinc (v := (x4 + 1)) (lv' := [(4, .int (x4 + 1)), (5, .int (gA y 14 (ix r1))), (0, .ref (K.2.2 8)), (1, .int b1), (2, .int b2), (3, .int x3)]) hc dX6_closeGap_50 5 rfl rfl (by decide) rfl ?_
        refine V_goto (tgt := 5) hc dX6_closeGap_53 (by decide) ?_
        exact V_sub [2, 3, 4, 5, 0] rfl (ih _ _ _)
      · refine V_aload_n hc dX6_closeGap_35 rfl 1 rfl ?_
        refine V_getr (C := RX6) (T := TX6) (N := 8) hc sP8 rfl qX6_closeGap_RX6 1 rfl (by decide) kX6_closeGap_15 rfl dX6_closeGap_36 ?_
        refine V_iload_n hc dX6_closeGap_39 rfl 2 rfl ?_
        refine V_iload_n hc dX6_closeGap_40 rfl 4 rfl ?_
        refine V_callS_RI hc (c_X6_spot l K y (b1) (x3)) 2 gX6_closeGap_X6_spot rfl ⟨rfl, rfl⟩ (by decide) ⟨Nat.le_of_ble_eq_true rfl, Nat.le_of_ble_eq_true rfl⟩ rfl rfl (Nat.le_of_ble_eq_true rfl) dX6_closeGap_41 (fun r2 => ?_)
        refine V_iload hc dX6_closeGap_44 0 rfl ?_
        refine V_iast hc sP9 dX6_closeGap_46 ?_
        refine V_bds (fun t3 => ?_)
        refine V_iinc (v := (x3 + 1)) (lv' := [(3, .int (x3 + 1)), (5, .int (gA y 14 (ix r1))), (0, .ref (K.2.2 8)), (1, .int b1), (2, .int b2), (4, .int x4)]) hc dX6_closeGap_47 4 rfl rfl (by decide) rfl ?_
        refine V_iinc (v := (x4 + 1)) (lv' := [(4, .int (x4 + 1)), (3, .int (x3 + 1)), (5, .int (gA y 14 (ix r1))), (0, .ref (K.2.2 8)), (1, .int b1), (2, .int b2)]) hc dX6_closeGap_50 5 rfl rfl (by decide) rfl ?_
        refine V_goto (tgt := 5) hc dX6_closeGap_53 (by decide) ?_
        exact V_sub [3, 4, 5, 1, 0] rfl (ih _ _ _)
noncomputable def f_X6_closeGap (t : Sx) (a1 : Int32) (a2 : Int32) : Option Sx := L_X6_closeGap_5 (a1) (a2) (fun z4 z5 t6 => gd (vp_in a1 10) (bd (pA t6 15 (ix a1) z4) fun t7 => some t7)) FU (0) (0) (t)
set_option maxRecDepth 20000 in
set_option maxHeartbeats 4000000 in
theorem c_X6_closeGap (l : Launch) (K : Kx) (t : Sx) (a1 : Int32) (a2 : Int32) : CT l K yX6_closeGap wsX6_closeGap ({ frames := 1, cells := 0, slots := 0, locals := 21 } : Room) [.ref (K.2.2 8), .int a1, .int a2] t (f_X6_closeGap t a1 a2) kWV := by
  refine CT_of (cc := cX6_closeGap) (maxL := 6) (ret := none) (own := RX6) (by decide +kernel) rfl rfl (Nat.le_of_ble_eq_true rfl) ?_
  intro p e s m args below meth c hc
  refine V_sub (lv' := [(0, .ref (K.2.2 8)), (1, .int a1), (2, .int a2)]) [0, 1, 2] rfl ?_
  unfold f_X6_closeGap
  refine V_iconst (v := 0) hc dX6_closeGap_0 (by decide) ?_
  refine V_istore_n (lv' := [(3, .int 0), (0, .ref (K.2.2 8)), (1, .int a1), (2, .int a2)]) hc dX6_closeGap_1 rfl (by decide) rfl ?_
  refine V_iconst (v := 0) hc dX6_closeGap_2 (by decide) ?_
  refine V_istore (lv' := [(4, .int 0), (3, .int 0), (0, .ref (K.2.2 8)), (1, .int a1), (2, .int a2)]) hc dX6_closeGap_3 (by decide) rfl ?_
  refine V_sub (lv' := [(0, .ref (K.2.2 8)), (1, .int a1), (2, .int a2), (3, .int 0), (4, .int 0)]) [2, 3, 4, 1, 0] rfl ?_
  refine L_X6_closeGap_5_ok hc (a1) (a2) _ (fun z4 z5 t6 => ?_) FU _ _ _
  refine V_aload_n hc dX6_closeGap_56 rfl 0 rfl ?_
  refine V_getr (C := RX6) (T := TX6) (N := 8) hc sP8 rfl qX6_closeGap_RX6 2 rfl (by decide) kX6_closeGap_19 rfl dX6_closeGap_57 ?_
  refine V_iload_n hc dX6_closeGap_60 rfl 1 rfl ?_
  refine V_iload_n hc dX6_closeGap_61 rfl 3 rfl ?_
  refine V_iast hc sP10 dX6_closeGap_62 ?_
  refine V_bds (fun t7 => ?_)
  exact V_vret hc rfl rfl dX6_closeGap_63

theorem kX6_leave_29 : Cond.fieldLink RX6 29 RX6 (TX6 5).2.1 (TX6 5).2.2.1 ∈ wsX6_leave := by decide +kernel
theorem qX6_leave_RX6 : ∀ w ∈ u_ws RX6 TX6 8, w ∈ wsX6_leave := by
  first
  | exact fun _ h => List.mem_cons_of_mem _ (List.mem_append_right _ h)
  | exact fun _ h => List.mem_cons_of_mem _ (List.mem_append_left _ (List.mem_append_right _ h))
  | exact fun _ h => List.mem_cons_of_mem _ (List.mem_append_left _ (List.mem_append_left _ (List.mem_append_right _ h)))
  | exact fun _ h => List.mem_cons_of_mem _ (List.mem_append_left _ (List.mem_append_left _ (List.mem_append_left _ (List.mem_append_right _ h))))
  | exact fun _ h => List.mem_cons_of_mem _ (List.mem_append_left _ (List.mem_append_left _ (List.mem_append_left _ (List.mem_append_left _ (List.mem_append_right _ h)))))
  | decide +kernel
theorem kX6_leave_46 : Cond.fieldLink RX6 46 RX6 (TX6 6).2.1 (TX6 6).2.2.1 ∈ wsX6_leave := by decide +kernel
theorem wX6_leave_in61 : Cond.initialized yX8_only.cls ∈ wsX6_leave := by decide +kernel
theorem wX6_leave_st61 : Cond.static yX8_only ∈ wsX6_leave := by decide +kernel
theorem wX6_leave_c73 : Cond.constantLong RX6 73 (-1) ∈ wsX6_leave := by decide +kernel
noncomputable def f_X6_leave (t : Sx) (a1 : Int32) : Option Sx := gd (vp_in a1 40) (bd (pA t 18 (ix a1) (-1)) fun t1 => (f_X8_only t1 (a1)).bind fun r2 => bd (pL t1 11 ((gL t1 11) &&& (r2 ^^^ -1))) fun t3 => some t3)
set_option maxRecDepth 20000 in
set_option maxHeartbeats 4000000 in
theorem c_X6_leave (l : Launch) (K : Kx) (t : Sx) (a1 : Int32) : CT l K yX6_leave wsX6_leave ({ frames := 1, cells := 0, slots := 0, locals := 20 } : Room) [.ref (K.2.2 8), .int a1] t (f_X6_leave t a1) kWV := by
  refine CT_of (cc := cX6_leave) (maxL := 2) (ret := none) (own := RX6) (by decide +kernel) rfl rfl (Nat.le_of_ble_eq_true rfl) ?_
  intro p e s m args below meth c hc
  refine V_sub (lv' := [(0, .ref (K.2.2 8)), (1, .int a1)]) [0, 1] rfl ?_
  unfold f_X6_leave
  refine V_aload_n hc dX6_leave_0 rfl 0 rfl ?_
  refine V_getr (C := RX6) (T := TX6) (N := 8) hc sP8 rfl qX6_leave_RX6 5 rfl (by decide) kX6_leave_29 rfl dX6_leave_1 ?_
  refine V_iload_n hc dX6_leave_4 rfl 1 rfl ?_
  refine V_iconst (v := (-1)) hc dX6_leave_5 (by decide) ?_
  refine V_iast hc sP13 dX6_leave_6 ?_
  refine V_bds (fun t1 => ?_)
  refine V_aload_n hc dX6_leave_7 rfl 0 rfl ?_
  refine V_dup hc dX6_leave_8 rfl ?_
  refine V_getl (C := RX6) (T := TX6) (N := 8) hc sP8 rfl qX6_leave_RX6 6 rfl (by decide) kX6_leave_46 rfl dX6_leave_9 ?_
  refine V_iload_n hc dX6_leave_12 rfl 1 rfl ?_
  refine V_callN_RL hc (c_X8_only l K t1 (a1)) 1 gX6_leave_X8_only_n61 rfl ⟨rfl, rfl⟩ (List.mem_of_getElem? (i := 5) rfl) wX6_leave_in61 wX6_leave_st61 (by decide) ⟨Nat.le_of_ble_eq_true rfl, Nat.le_of_ble_eq_true rfl⟩ rfl rfl (Nat.le_of_ble_eq_true rfl) dX6_leave_13 (fun r2 => ?_)
  refine V_ldc2 (v := -1) hc wX6_leave_c73 dX6_leave_16 ?_
  refine V_lxor hc dX6_leave_19 ?_
  refine V_land hc dX6_leave_20 ?_
  refine V_putl (C := RX6) (T := TX6) (N := 8) hc sP8 rfl qX6_leave_RX6 6 rfl (by decide) kX6_leave_46 rfl tyX6 tyX6_ok nmX6 rfl (tyX6_ok 6 (by decide)) dX6_leave_21 ?_
  refine V_bds (fun t3 => ?_)
  exact V_vret hc rfl rfl dX6_leave_24

theorem kX6_release_29 : Cond.fieldLink RX6 29 RX6 (TX6 5).2.1 (TX6 5).2.2.1 ∈ wsX6_release := by decide +kernel
theorem qX6_release_RX6 : ∀ w ∈ u_ws RX6 TX6 8, w ∈ wsX6_release := by
  first
  | exact fun _ h => List.mem_cons_of_mem _ (List.mem_append_right _ h)
  | exact fun _ h => List.mem_cons_of_mem _ (List.mem_append_left _ (List.mem_append_right _ h))
  | exact fun _ h => List.mem_cons_of_mem _ (List.mem_append_left _ (List.mem_append_left _ (List.mem_append_right _ h)))
  | exact fun _ h => List.mem_cons_of_mem _ (List.mem_append_left _ (List.mem_append_left _ (List.mem_append_left _ (List.mem_append_right _ h))))
  | exact fun _ h => List.mem_cons_of_mem _ (List.mem_append_left _ (List.mem_append_left _ (List.mem_append_left _ (List.mem_append_left _ (List.mem_append_right _ h)))))
  | decide +kernel
theorem kX6_release_22 : Cond.fieldLink RX6 22 RX6 (TX6 3).2.1 (TX6 3).2.2.1 ∈ wsX6_release := by decide +kernel
theorem kX6_release_19 : Cond.fieldLink RX6 19 RX6 (TX6 2).2.1 (TX6 2).2.2.1 ∈ wsX6_release := by decide +kernel
theorem kX6_release_15 : Cond.fieldLink RX6 15 RX6 (TX6 1).2.1 (TX6 1).2.2.1 ∈ wsX6_release := by decide +kernel
noncomputable def f_X6_release (t : Sx) (a1 : Int32) : Option Sx := gd (vp_in a1 40) (if (gA t 18 (ix a1)) = (-1) then some t else (f_X6_closeGap t (gA t 18 (ix a1)) (a1)).bind fun r1 => (f_X6_leave r1 (a1)).bind fun r2 => gd (vp_in (gA t 18 (ix a1)) 10) (if (gA r2 16 (ix (gA t 18 (ix a1)))) = a1 then gd (vp_in (gA t 18 (ix a1)) 10) (bd (pA r2 16 (ix (gA t 18 (ix a1))) (-1)) fun t6 => gd (vp_in (gA t 18 (ix a1)) 10) (if (gA t6 15 (ix (gA t 18 (ix a1)))) = 1 then (f_X6_spot t6 (gA t 18 (ix a1)) (0)).bind fun r7 => gd (vp_in r7 80) ((f_X6_leave t6 (gA t6 14 (ix r7))).bind fun r8 => gd (vp_in (gA t 18 (ix a1)) 10) (bd (pA r8 15 (ix (gA t 18 (ix a1))) 0) fun t9 => some t9)) else some t6)) else gd (vp_in (gA t 18 (ix a1)) 10) (if (gA r2 15 (ix (gA t 18 (ix a1)))) = 1 then (f_X6_spot r2 (gA t 18 (ix a1)) (0)).bind fun r3 => gd (vp_in r3 80) ((f_X6_leave r2 (gA r2 14 (ix r3))).bind fun r4 => gd (vp_in (gA t 18 (ix a1)) 10) (bd (pA r4 15 (ix (gA t 18 (ix a1))) 0) fun t5 => some t5)) else some r2)))
set_option maxRecDepth 20000 in
set_option maxHeartbeats 4000000 in
theorem c_X6_release (l : Launch) (K : Kx) (t : Sx) (a1 : Int32) : CT l K yX6_release wsX6_release ({ frames := 2, cells := 0, slots := 0, locals := 46 } : Room) [.ref (K.2.2 8), .int a1] t (f_X6_release t a1) kWV := by
  refine CT_of (cc := cX6_release) (maxL := 3) (ret := none) (own := RX6) (by decide +kernel) rfl rfl (Nat.le_of_ble_eq_true rfl) ?_
  intro p e s m args below meth c hc
  refine V_sub (lv' := [(0, .ref (K.2.2 8)), (1, .int a1)]) [0, 1] rfl ?_
  unfold f_X6_release
  refine V_aload_n hc dX6_release_0 rfl 0 rfl ?_
  refine V_getr (C := RX6) (T := TX6) (N := 8) hc sP8 rfl qX6_release_RX6 5 rfl (by decide) kX6_release_29 rfl dX6_release_1 ?_
  refine V_iload_n hc dX6_release_4 rfl 1 rfl ?_
  refine V_iald hc sP13 dX6_release_5 ?_
  refine V_istore_n (lv' := [(2, .int (gA t 18 (ix a1))), (0, .ref (K.2.2 8)), (1, .int a1)]) hc dX6_release_6 rfl (by decide) rfl ?_
  refine V_iload_n hc dX6_release_7 rfl 0 rfl ?_
  refine V_iconst (v := (-1)) hc dX6_release_8 (by decide) ?_
  refine V_icmp_ne (tgt := 13) hc dX6_release_9 (by decide) ?_ ?_
  · refine V_aload_n hc dX6_release_13 rfl 1 rfl ?_
    refine V_iload_n hc dX6_release_14 rfl 0 rfl ?_
    refine V_iload_n hc dX6_release_15 rfl 2 rfl ?_
    refine V_callV_WV (Cn := RX6) (T := TX6) (N := 8) hc (c_X6_closeGap l K t (gA t 18 (ix a1)) (a1)) sP8 rfl 2 gX6_release_X6_closeGap rfl ⟨rfl, rfl⟩ (by decide) ⟨Nat.le_of_ble_eq_true rfl, Nat.le_of_ble_eq_true rfl⟩ rfl rfl (Nat.le_of_ble_eq_true rfl) dX6_release_16 (fun r1 => ?_)
    refine V_aload_n hc dX6_release_19 rfl 1 rfl ?_
    refine V_iload_n hc dX6_release_20 rfl 2 rfl ?_
    refine V_callV_WV (Cn := RX6) (T := TX6) (N := 8) hc (c_X6_leave l K r1 (a1)) sP8 rfl 1 gX6_release_X6_leave rfl ⟨rfl, rfl⟩ (by decide) ⟨Nat.le_of_ble_eq_true rfl, Nat.le_of_ble_eq_true rfl⟩ rfl rfl (Nat.le_of_ble_eq_true rfl) dX6_release_21 (fun r2 => ?_)
    refine V_aload_n hc dX6_release_24 rfl 1 rfl ?_
    refine V_getr (C := RX6) (T := TX6) (N := 8) hc sP8 rfl qX6_release_RX6 3 rfl (by decide) kX6_release_22 rfl dX6_release_25 ?_
    refine V_iload_n hc dX6_release_28 rfl 0 rfl ?_
    refine V_iald hc sP11 dX6_release_29 ?_
    refine V_iload_n hc dX6_release_30 rfl 2 rfl ?_
    refine V_icmp_ne (tgt := 41) hc dX6_release_31 (by decide) ?_ ?_
    · refine V_aload_n hc dX6_release_41 rfl 1 rfl ?_
      refine V_getr (C := RX6) (T := TX6) (N := 8) hc sP8 rfl qX6_release_RX6 2 rfl (by decide) kX6_release_19 rfl dX6_release_42 ?_
      refine V_iload_n hc dX6_release_45 rfl 0 rfl ?_
      refine V_iald hc sP10 dX6_release_46 ?_
      refine V_iconst (v := 1) hc dX6_release_47 (by decide) ?_
      refine V_icmp_ne (tgt := 72) hc dX6_release_48 (by decide) ?_ ?_
      · exact V_vret hc rfl rfl dX6_release_72
      · refine V_aload_n hc dX6_release_51 rfl 1 rfl ?_
        refine V_aload_n hc dX6_release_52 rfl 1 rfl ?_
        refine V_getr (C := RX6) (T := TX6) (N := 8) hc sP8 rfl qX6_release_RX6 1 rfl (by decide) kX6_release_15 rfl dX6_release_53 ?_
        refine V_iload_n hc dX6_release_56 rfl 0 rfl ?_
        refine V_iconst (v := 0) hc dX6_release_57 (by decide) ?_
        refine V_callS_RI hc (c_X6_spot l K r2 (gA t 18 (ix a1)) (0)) 2 gX6_release_X6_spot rfl ⟨rfl, rfl⟩ (by decide) ⟨Nat.le_of_ble_eq_true rfl, Nat.le_of_ble_eq_true rfl⟩ rfl rfl (Nat.le_of_ble_eq_true rfl) dX6_release_58 (fun r3 => ?_)
        refine V_iald hc sP9 dX6_release_61 ?_
        refine V_callV_WV (Cn := RX6) (T := TX6) (N := 8) hc (c_X6_leave l K r2 (gA r2 14 (ix r3))) sP8 rfl 1 gX6_release_X6_leave rfl ⟨rfl, rfl⟩ (by decide) ⟨Nat.le_of_ble_eq_true rfl, Nat.le_of_ble_eq_true rfl⟩ rfl rfl (Nat.le_of_ble_eq_true rfl) dX6_release_62 (fun r4 => ?_)
        refine V_aload_n hc dX6_release_65 rfl 1 rfl ?_
        refine V_getr (C := RX6) (T := TX6) (N := 8) hc sP8 rfl qX6_release_RX6 2 rfl (by decide) kX6_release_19 rfl dX6_release_66 ?_
        refine V_iload_n hc dX6_release_69 rfl 0 rfl ?_
        refine V_iconst (v := 0) hc dX6_release_70 (by decide) ?_
        refine V_iast hc sP10 dX6_release_71 ?_
        refine V_bds (fun t5 => ?_)
        exact V_vret hc rfl rfl dX6_release_72
    · refine V_aload_n hc dX6_release_34 rfl 1 rfl ?_
      refine V_getr (C := RX6) (T := TX6) (N := 8) hc sP8 rfl qX6_release_RX6 3 rfl (by decide) kX6_release_22 rfl dX6_release_35 ?_
      refine V_iload_n hc dX6_release_38 rfl 0 rfl ?_
      refine V_iconst (v := (-1)) hc dX6_release_39 (by decide) ?_
      refine V_iast hc sP11 dX6_release_40 ?_
      refine V_bds (fun t6 => ?_)
      refine V_aload_n hc dX6_release_41 rfl 1 rfl ?_
      refine V_getr (C := RX6) (T := TX6) (N := 8) hc sP8 rfl qX6_release_RX6 2 rfl (by decide) kX6_release_19 rfl dX6_release_42 ?_
      refine V_iload_n hc dX6_release_45 rfl 0 rfl ?_
      refine V_iald hc sP10 dX6_release_46 ?_
      refine V_iconst (v := 1) hc dX6_release_47 (by decide) ?_
      refine V_icmp_ne (tgt := 72) hc dX6_release_48 (by decide) ?_ ?_
      · exact V_vret hc rfl rfl dX6_release_72
      · refine V_aload_n hc dX6_release_51 rfl 1 rfl ?_
        refine V_aload_n hc dX6_release_52 rfl 1 rfl ?_
        refine V_getr (C := RX6) (T := TX6) (N := 8) hc sP8 rfl qX6_release_RX6 1 rfl (by decide) kX6_release_15 rfl dX6_release_53 ?_
        refine V_iload_n hc dX6_release_56 rfl 0 rfl ?_
        refine V_iconst (v := 0) hc dX6_release_57 (by decide) ?_
        refine V_callS_RI hc (c_X6_spot l K t6 (gA t 18 (ix a1)) (0)) 2 gX6_release_X6_spot rfl ⟨rfl, rfl⟩ (by decide) ⟨Nat.le_of_ble_eq_true rfl, Nat.le_of_ble_eq_true rfl⟩ rfl rfl (Nat.le_of_ble_eq_true rfl) dX6_release_58 (fun r7 => ?_)
        refine V_iald hc sP9 dX6_release_61 ?_
        refine V_callV_WV (Cn := RX6) (T := TX6) (N := 8) hc (c_X6_leave l K t6 (gA t6 14 (ix r7))) sP8 rfl 1 gX6_release_X6_leave rfl ⟨rfl, rfl⟩ (by decide) ⟨Nat.le_of_ble_eq_true rfl, Nat.le_of_ble_eq_true rfl⟩ rfl rfl (Nat.le_of_ble_eq_true rfl) dX6_release_62 (fun r8 => ?_)
        refine V_aload_n hc dX6_release_65 rfl 1 rfl ?_
        refine V_getr (C := RX6) (T := TX6) (N := 8) hc sP8 rfl qX6_release_RX6 2 rfl (by decide) kX6_release_19 rfl dX6_release_66 ?_
        refine V_iload_n hc dX6_release_69 rfl 0 rfl ?_
        refine V_iconst (v := 0) hc dX6_release_70 (by decide) ?_
        refine V_iast hc sP10 dX6_release_71 ?_
        refine V_bds (fun t9 => ?_)
        exact V_vret hc rfl rfl dX6_release_72
  · exact V_vret hc rfl rfl dX6_release_12

theorem kX2_keeper_9 : Cond.fieldLink RX2 9 RX2 (TX2 0).2.1 (TX2 0).2.2.1 ∈ wsX2_keeper := by decide +kernel
theorem qX2_keeper_RX2 : ∀ w ∈ u_ws RX2 TX2 3, w ∈ wsX2_keeper := by
  first
  | exact fun _ h => List.mem_cons_of_mem _ (List.mem_append_right _ h)
  | exact fun _ h => List.mem_cons_of_mem _ (List.mem_append_left _ (List.mem_append_right _ h))
  | exact fun _ h => List.mem_cons_of_mem _ (List.mem_append_left _ (List.mem_append_left _ (List.mem_append_right _ h)))
  | exact fun _ h => List.mem_cons_of_mem _ (List.mem_append_left _ (List.mem_append_left _ (List.mem_append_left _ (List.mem_append_right _ h))))
  | exact fun _ h => List.mem_cons_of_mem _ (List.mem_append_left _ (List.mem_append_left _ (List.mem_append_left _ (List.mem_append_left _ (List.mem_append_right _ h)))))
  | decide +kernel
noncomputable def f_X2_keeper (t : Sx) (a1 : Int32) : Option Int32 := (f_X1_alike t (a1)).bind fun r1 => (f_X2_preferred t (r1)).bind fun r2 => some r2
set_option maxRecDepth 20000 in
set_option maxHeartbeats 4000000 in
theorem c_X2_keeper (l : Launch) (K : Kx) (t : Sx) (a1 : Int32) : CT l K yX2_keeper wsX2_keeper ({ frames := 4, cells := 0, slots := 0, locals := 92 } : Room) [.ref (K.2.2 7), .int a1] t (f_X2_keeper t a1) (kRI t) := by
  refine CT_of (cc := cX2_keeper) (maxL := 2) (ret := (some .int)) (own := RX2) (by decide +kernel) rfl rfl (Nat.le_of_ble_eq_true rfl) ?_
  intro p e s m args below meth c hc
  refine V_sub (lv' := [(0, .ref (K.2.2 7)), (1, .int a1)]) [0, 1] rfl ?_
  unfold f_X2_keeper
  refine V_aload_n hc dX2_keeper_0 rfl 0 rfl ?_
  refine V_aload_n hc dX2_keeper_1 rfl 0 rfl ?_
  refine V_getr (C := RX2) (T := TX2) (N := 3) hc sP7 rfl qX2_keeper_RX2 0 rfl (by decide) kX2_keeper_9 rfl dX2_keeper_2 ?_
  refine V_iload_n hc dX2_keeper_5 rfl 1 rfl ?_
  refine V_callV_RL (Cn := RX1) (T := TX1) (N := 6) hc (c_X1_alike l K t (a1)) sP1 rfl 1 gX2_keeper_X1_alike rfl ⟨rfl, rfl⟩ (by decide) ⟨Nat.le_of_ble_eq_true rfl, Nat.le_of_ble_eq_true rfl⟩ rfl rfl (Nat.le_of_ble_eq_true rfl) dX2_keeper_6 (fun r1 => ?_)
  refine V_callV_RI (Cn := RX2) (T := TX2) (N := 3) hc (c_X2_preferred l K t (r1)) sP7 rfl 1 gX2_keeper_X2_preferred rfl ⟨rfl, rfl⟩ (by decide) ⟨Nat.le_of_ble_eq_true rfl, Nat.le_of_ble_eq_true rfl⟩ rfl rfl (Nat.le_of_ble_eq_true rfl) dX2_keeper_9 (fun r2 => ?_)
  exact V_iret hc rfl rfl dX2_keeper_12

theorem kX6_home_29 : Cond.fieldLink RX6 29 RX6 (TX6 5).2.1 (TX6 5).2.2.1 ∈ wsX6_home := by decide +kernel
theorem qX6_home_RX6 : ∀ w ∈ u_ws RX6 TX6 8, w ∈ wsX6_home := by
  first
  | exact fun _ h => List.mem_cons_of_mem _ (List.mem_append_right _ h)
  | exact fun _ h => List.mem_cons_of_mem _ (List.mem_append_left _ (List.mem_append_right _ h))
  | exact fun _ h => List.mem_cons_of_mem _ (List.mem_append_left _ (List.mem_append_left _ (List.mem_append_right _ h)))
  | exact fun _ h => List.mem_cons_of_mem _ (List.mem_append_left _ (List.mem_append_left _ (List.mem_append_left _ (List.mem_append_right _ h))))
  | exact fun _ h => List.mem_cons_of_mem _ (List.mem_append_left _ (List.mem_append_left _ (List.mem_append_left _ (List.mem_append_left _ (List.mem_append_right _ h)))))
  | decide +kernel
noncomputable def f_X6_home (t : Sx) (a1 : Int32) : Option Int32 := gd (vp_in a1 40) (some (gA t 18 (ix a1)))
set_option maxRecDepth 20000 in
set_option maxHeartbeats 4000000 in
theorem c_X6_home (l : Launch) (K : Kx) (t : Sx) (a1 : Int32) : CT l K yX6_home wsX6_home ({ frames := 0, cells := 0, slots := 0, locals := 0 } : Room) [.ref (K.2.2 8), .int a1] t (f_X6_home t a1) (kRI t) := by
  refine CT_of (cc := cX6_home) (maxL := 2) (ret := (some .int)) (own := RX6) (by decide +kernel) rfl rfl (Nat.le_of_ble_eq_true rfl) ?_
  intro p e s m args below meth c hc
  refine V_sub (lv' := [(0, .ref (K.2.2 8)), (1, .int a1)]) [0, 1] rfl ?_
  unfold f_X6_home
  refine V_aload_n hc dX6_home_0 rfl 0 rfl ?_
  refine V_getr (C := RX6) (T := TX6) (N := 8) hc sP8 rfl qX6_home_RX6 5 rfl (by decide) kX6_home_29 rfl dX6_home_1 ?_
  refine V_iload_n hc dX6_home_4 rfl 1 rfl ?_
  refine V_iald hc sP13 dX6_home_5 ?_
  exact V_iret hc rfl rfl dX6_home_6


noncomputable def L_X6_freeNumber_2 (t0 : Sx) (kont : Int32 → Option Int32) : Nat → Int32 → Option Int32
  | 0, _ => none
  | n + 1, x1 => if 10 ≤ x1 then kont (x1) else (f_X6_has t0 (x1)).bind fun r1 => if r1 = 0 then some x1 else L_X6_freeNumber_2 t0 kont n ((x1 + 1))
set_option maxRecDepth 20000 in
set_option maxHeartbeats 4000000 in
theorem L_X6_freeNumber_2_ok {p : Program} {l : Launch} {K : Kx} {e : Env} {s : State} {m : MethodId} {args : Array Value} {below : List Frame} {meth : Method} {c : Code} (hc : Cx p ({ frames := 2, cells := 0, slots := 0, locals := 43 } : Room) s m args meth c cX6_freeNumber 2 wsX6_freeNumber RX6 K (aA K s.heap.size) (some .int) 0 0) (t0 : Sx) (kont : Int32 → Option Int32) (hk : ∀ x1, V p l e ({ frames := 2, cells := 0, slots := 0, locals := 43 } : Room) s m args below meth c K (aA K s.heap.size) 0 0 2 (QM below K args s (kRI t0)) 24 [(0, .ref (K.2.2 8)), (1, .int x1)] [] t0 (kont x1)) : ∀ (n : Nat) (x1 : Int32), V p l e ({ frames := 2, cells := 0, slots := 0, locals := 43 } : Room) s m args below meth c K (aA K s.heap.size) 0 0 2 (QM below K args s (kRI t0)) 2 [(0, .ref (K.2.2 8)), (1, .int x1)] [] t0 (L_X6_freeNumber_2 t0 kont n x1) := by
  intro n
  induction n with
  | zero => intro x1; exact V_none
  | succ n ih =>
    intro x1
    rw [L_X6_freeNumber_2]
    refine V_iload_n hc dX6_freeNumber_2 rfl 1 rfl ?_
    refine V_bipush (v := 10) hc dX6_freeNumber_3 (by decide) ?_
    refine V_icmp_ge (tgt := 24) hc dX6_freeNumber_5 (by decide) ?_ ?_
    · exact V_sub [0, 1] rfl (hk _)
    · refine V_aload_n hc dX6_freeNumber_8 rfl 0 rfl ?_
      refine V_iload_n hc dX6_freeNumber_9 rfl 1 rfl ?_
      refine V_callV_RI (Cn := RX6) (T := TX6) (N := 8) hc (c_X6_has l K t0 (x1)) sP8 rfl 1 gX6_freeNumber_X6_has rfl ⟨rfl, rfl⟩ (by decide) ⟨Nat.le_of_ble_eq_true rfl, Nat.le_of_ble_eq_true rfl⟩ rfl rfl (Nat.le_of_ble_eq_true rfl) dX6_freeNumber_10 (fun r1 => ?_)
      refine V_if_ne (tgt := 18) hc dX6_freeNumber_13 (by decide) ?_ ?_
      · refine V_iinc (v := (x1 + 1)) (lv' := [(1, .int (x1 + 1)), (0, .ref (K.2.2 8))]) hc dX6_freeNumber_18 1 rfl rfl (by decide) rfl ?_
        refine V_goto (tgt := 2) hc dX6_freeNumber_21 (by decide) ?_
        exact V_sub [1, 0] rfl (ih _)
      · refine V_iload_n hc dX6_freeNumber_16 rfl 1 rfl ?_
        exact V_iret hc rfl rfl dX6_freeNumber_17
noncomputable def f_X6_freeNumber (t : Sx)  : Option Int32 := L_X6_freeNumber_2 t (fun z2 => some (-1)) FU (0)
set_option maxRecDepth 20000 in
set_option maxHeartbeats 4000000 in
theorem c_X6_freeNumber (l : Launch) (K : Kx) (t : Sx)  : CT l K yX6_freeNumber wsX6_freeNumber ({ frames := 2, cells := 0, slots := 0, locals := 43 } : Room) [.ref (K.2.2 8)] t (f_X6_freeNumber t ) (kRI t) := by
  refine CT_of (cc := cX6_freeNumber) (maxL := 2) (ret := (some .int)) (own := RX6) (by decide +kernel) rfl rfl (Nat.le_of_ble_eq_true rfl) ?_
  intro p e s m args below meth c hc
  refine V_sub (lv' := [(0, .ref (K.2.2 8))]) [0] rfl ?_
  unfold f_X6_freeNumber
  refine V_iconst (v := 0) hc dX6_freeNumber_0 (by decide) ?_
  refine V_istore_n (lv' := [(1, .int 0), (0, .ref (K.2.2 8))]) hc dX6_freeNumber_1 rfl (by decide) rfl ?_
  refine V_sub (lv' := [(0, .ref (K.2.2 8)), (1, .int 0)]) [1, 0] rfl ?_
  refine L_X6_freeNumber_2_ok hc t _ (fun z2 => ?_) FU _
  refine V_iconst (v := (-1)) hc dX6_freeNumber_24 (by decide) ?_
  exact V_iret hc rfl rfl dX6_freeNumber_25

theorem kX6_insert_19 : Cond.fieldLink RX6 19 RX6 (TX6 2).2.1 (TX6 2).2.2.1 ∈ wsX6_insert := by decide +kernel
theorem qX6_insert_RX6 : ∀ w ∈ u_ws RX6 TX6 8, w ∈ wsX6_insert := by
  first
  | exact fun _ h => List.mem_cons_of_mem _ (List.mem_append_right _ h)
  | exact fun _ h => List.mem_cons_of_mem _ (List.mem_append_left _ (List.mem_append_right _ h))
  | exact fun _ h => List.mem_cons_of_mem _ (List.mem_append_left _ (List.mem_append_left _ (List.mem_append_right _ h)))
  | exact fun _ h => List.mem_cons_of_mem _ (List.mem_append_left _ (List.mem_append_left _ (List.mem_append_left _ (List.mem_append_right _ h))))
  | exact fun _ h => List.mem_cons_of_mem _ (List.mem_append_left _ (List.mem_append_left _ (List.mem_append_left _ (List.mem_append_left _ (List.mem_append_right _ h)))))
  | decide +kernel
theorem kX6_insert_15 : Cond.fieldLink RX6 15 RX6 (TX6 1).2.1 (TX6 1).2.2.1 ∈ wsX6_insert := by decide +kernel
theorem kX6_insert_29 : Cond.fieldLink RX6 29 RX6 (TX6 5).2.1 (TX6 5).2.2.1 ∈ wsX6_insert := by decide +kernel
theorem kX6_insert_46 : Cond.fieldLink RX6 46 RX6 (TX6 6).2.1 (TX6 6).2.2.1 ∈ wsX6_insert := by decide +kernel
theorem wX6_insert_in61 : Cond.initialized yX8_only.cls ∈ wsX6_insert := by decide +kernel
theorem wX6_insert_st61 : Cond.static yX8_only ∈ wsX6_insert := by decide +kernel
noncomputable def L_X6_insert_8 (b1 : Int32) (b2 : Int32) (b3 : Int32) (kont : Int32 → Sx → Option Sx) : Nat → Int32 → Sx → Option Sx
  | 0, _, _ => none
  | n + 1, x4, y => if x4 ≤ b3 then kont (x4) (y) else (f_X6_spot y (b1) (x4)).bind fun r1 => (f_X6_spot y (b1) (x4 - 1)).bind fun r2 => gd (vp_in r2 80) (gd (vp_in r1 80) (bd (pA y 14 (ix r1) (gA y 14 (ix r2))) fun t3 => L_X6_insert_8 b1 b2 b3 kont n ((x4 + (-1))) (t3)))
set_option maxRecDepth 20000 in
set_option maxHeartbeats 4000000 in
theorem L_X6_insert_8_ok {p : Program} {l : Launch} {K : Kx} {e : Env} {s : State} {m : MethodId} {args : Array Value} {below : List Frame} {meth : Method} {c : Code} (hc : Cx p ({ frames := 1, cells := 0, slots := 0, locals := 21 } : Room) s m args meth c cX6_insert 5 wsX6_insert RX6 K (aA K s.heap.size) none 0 0) (b1 : Int32) (b2 : Int32) (b3 : Int32) (kont : Int32 → Sx → Option Sx) (hk : ∀ x4 y, V p l e ({ frames := 1, cells := 0, slots := 0, locals := 21 } : Room) s m args below meth c K (aA K s.heap.size) 0 0 5 (QM below K args s kWV) 44 [(0, .ref (K.2.2 8)), (1, .int b1), (2, .int b2), (3, .int b3), (4, .int x4)] [] y (kont x4 y)) : ∀ (n : Nat) (x4 : Int32) (y : Sx), V p l e ({ frames := 1, cells := 0, slots := 0, locals := 21 } : Room) s m args below meth c K (aA K s.heap.size) 0 0 5 (QM below K args s kWV) 8 [(0, .ref (K.2.2 8)), (1, .int b1), (2, .int b2), (3, .int b3), (4, .int x4)] [] y (L_X6_insert_8 b1 b2 b3 kont n x4 y) := by
  intro n
  induction n with
  | zero => intro x4 y; exact V_none
  | succ n ih =>
    intro x4 y
    rw [L_X6_insert_8]
    refine V_iload hc dX6_insert_8 4 rfl ?_
    refine V_iload_n hc dX6_insert_10 rfl 3 rfl ?_
    refine V_icmp_le (tgt := 44) hc dX6_insert_11 (by decide) ?_ ?_
    · exact V_sub [0, 1, 2, 3, 4] rfl (hk _ _)
    · refine V_aload_n hc dX6_insert_14 rfl 0 rfl ?_
      refine V_getr (C := RX6) (T := TX6) (N := 8) hc sP8 rfl qX6_insert_RX6 1 rfl (by decide) kX6_insert_15 rfl dX6_insert_15 ?_
      refine V_iload_n hc dX6_insert_18 rfl 1 rfl ?_
      refine V_iload hc dX6_insert_19 4 rfl ?_
      refine V_callS_RI hc (c_X6_spot l K y (b1) (x4)) 2 gX6_insert_X6_spot rfl ⟨rfl, rfl⟩ (by decide) ⟨Nat.le_of_ble_eq_true rfl, Nat.le_of_ble_eq_true rfl⟩ rfl rfl (Nat.le_of_ble_eq_true rfl) dX6_insert_21 (fun r1 => ?_)
      refine V_aload_n hc dX6_insert_24 rfl 0 rfl ?_
      refine V_getr (C := RX6) (T := TX6) (N := 8) hc sP8 rfl qX6_insert_RX6 1 rfl (by decide) kX6_insert_15 rfl dX6_insert_25 ?_
      refine V_iload_n hc dX6_insert_28 rfl 1 rfl ?_
      refine V_iload hc dX6_insert_29 4 rfl ?_
      refine V_iconst (v := 1) hc dX6_insert_31 (by decide) ?_
      refine V_isub hc dX6_insert_32 ?_
      refine V_callS_RI hc (c_X6_spot l K y (b1) (x4 - 1)) 2 gX6_insert_X6_spot rfl ⟨rfl, rfl⟩ (by decide) ⟨Nat.le_of_ble_eq_true rfl, Nat.le_of_ble_eq_true rfl⟩ rfl rfl (Nat.le_of_ble_eq_true rfl) dX6_insert_33 (fun r2 => ?_)
      refine V_iald hc sP9 dX6_insert_36 ?_
      refine V_iast hc sP9 dX6_insert_37 ?_
      refine V_bds (fun t3 => ?_)
      refine V_iinc (v := (x4 + (-1))) (lv' := [(4, .int (x4 + (-1))), (0, .ref (K.2.2 8)), (1, .int b1), (2, .int b2), (3, .int b3)]) hc dX6_insert_38 4 rfl rfl (by decide) rfl ?_
      refine V_goto (tgt := 8) hc dX6_insert_41 (by decide) ?_
      exact V_sub [1, 2, 3, 4, 0] rfl (ih _ _)
noncomputable def f_X6_insert (t : Sx) (a1 : Int32) (a2 : Int32) (a3 : Int32) : Option Sx := gd (vp_in a1 10) (L_X6_insert_8 (a1) (a2) (a3) (fun z4 t5 => (f_X6_spot t5 (a1) (a3)).bind fun r6 => gd (vp_in r6 80) (bd (pA t5 14 (ix r6) a2) fun t7 => gd (vp_in a1 10) (gd (vp_in a1 10) (bd (pA t7 15 (ix a1) ((gA t7 15 (ix a1)) + 1)) fun t8 => gd (vp_in a2 40) (bd (pA t8 18 (ix a2) a1) fun t9 => (f_X8_only t9 (a2)).bind fun r10 => bd (pL t9 11 ((gL t9 11) ||| r10)) fun t11 => some t11))))) FU ((gA t 15 (ix a1))) (t))
set_option maxRecDepth 20000 in
set_option maxHeartbeats 4000000 in
theorem c_X6_insert (l : Launch) (K : Kx) (t : Sx) (a1 : Int32) (a2 : Int32) (a3 : Int32) : CT l K yX6_insert wsX6_insert ({ frames := 1, cells := 0, slots := 0, locals := 21 } : Room) [.ref (K.2.2 8), .int a1, .int a2, .int a3] t (f_X6_insert t a1 a2 a3) kWV := by
  refine CT_of (cc := cX6_insert) (maxL := 5) (ret := none) (own := RX6) (by decide +kernel) rfl rfl (Nat.le_of_ble_eq_true rfl) ?_
  intro p e s m args below meth c hc
  refine V_sub (lv' := [(0, .ref (K.2.2 8)), (1, .int a1), (2, .int a2), (3, .int a3)]) [0, 1, 2, 3] rfl ?_
  unfold f_X6_insert
  refine V_aload_n hc dX6_insert_0 rfl 0 rfl ?_
  refine V_getr (C := RX6) (T := TX6) (N := 8) hc sP8 rfl qX6_insert_RX6 2 rfl (by decide) kX6_insert_19 rfl dX6_insert_1 ?_
  refine V_iload_n hc dX6_insert_4 rfl 1 rfl ?_
  refine V_iald hc sP10 dX6_insert_5 ?_
  refine V_istore (lv' := [(4, .int (gA t 15 (ix a1))), (0, .ref (K.2.2 8)), (1, .int a1), (2, .int a2), (3, .int a3)]) hc dX6_insert_6 (by decide) rfl ?_
  refine V_sub (lv' := [(0, .ref (K.2.2 8)), (1, .int a1), (2, .int a2), (3, .int a3), (4, .int (gA t 15 (ix a1)))]) [1, 2, 3, 4, 0] rfl ?_
  refine L_X6_insert_8_ok hc (a1) (a2) (a3) _ (fun z4 t5 => ?_) FU _ _
  refine V_aload_n hc dX6_insert_44 rfl 0 rfl ?_
  refine V_getr (C := RX6) (T := TX6) (N := 8) hc sP8 rfl qX6_insert_RX6 1 rfl (by decide) kX6_insert_15 rfl dX6_insert_45 ?_
  refine V_iload_n hc dX6_insert_48 rfl 1 rfl ?_
  refine V_iload_n hc dX6_insert_49 rfl 3 rfl ?_
  refine V_callS_RI hc (c_X6_spot l K t5 (a1) (a3)) 2 gX6_insert_X6_spot rfl ⟨rfl, rfl⟩ (by decide) ⟨Nat.le_of_ble_eq_true rfl, Nat.le_of_ble_eq_true rfl⟩ rfl rfl (Nat.le_of_ble_eq_true rfl) dX6_insert_50 (fun r6 => ?_)
  refine V_iload_n hc dX6_insert_53 rfl 2 rfl ?_
  refine V_iast hc sP9 dX6_insert_54 ?_
  refine V_bds (fun t7 => ?_)
  refine V_aload_n hc dX6_insert_55 rfl 0 rfl ?_
  refine V_getr (C := RX6) (T := TX6) (N := 8) hc sP8 rfl qX6_insert_RX6 2 rfl (by decide) kX6_insert_19 rfl dX6_insert_56 ?_
  refine V_iload_n hc dX6_insert_59 rfl 1 rfl ?_
  refine V_dup2_11 hc dX6_insert_60 rfl rfl ?_
  refine V_iald hc sP10 dX6_insert_61 ?_
  refine V_iconst (v := 1) hc dX6_insert_62 (by decide) ?_
  refine V_iadd hc dX6_insert_63 ?_
  refine V_iast hc sP10 dX6_insert_64 ?_
  refine V_bds (fun t8 => ?_)
  refine V_aload_n hc dX6_insert_65 rfl 0 rfl ?_
  refine V_getr (C := RX6) (T := TX6) (N := 8) hc sP8 rfl qX6_insert_RX6 5 rfl (by decide) kX6_insert_29 rfl dX6_insert_66 ?_
  refine V_iload_n hc dX6_insert_69 rfl 2 rfl ?_
  refine V_iload_n hc dX6_insert_70 rfl 1 rfl ?_
  refine V_iast hc sP13 dX6_insert_71 ?_
  refine V_bds (fun t9 => ?_)
  refine V_aload_n hc dX6_insert_72 rfl 0 rfl ?_
  refine V_dup hc dX6_insert_73 rfl ?_
  refine V_getl (C := RX6) (T := TX6) (N := 8) hc sP8 rfl qX6_insert_RX6 6 rfl (by decide) kX6_insert_46 rfl dX6_insert_74 ?_
  refine V_iload_n hc dX6_insert_77 rfl 2 rfl ?_
  refine V_callN_RL hc (c_X8_only l K t9 (a2)) 1 gX6_insert_X8_only_n61 rfl ⟨rfl, rfl⟩ (List.mem_of_getElem? (i := 5) rfl) wX6_insert_in61 wX6_insert_st61 (by decide) ⟨Nat.le_of_ble_eq_true rfl, Nat.le_of_ble_eq_true rfl⟩ rfl rfl (Nat.le_of_ble_eq_true rfl) dX6_insert_78 (fun r10 => ?_)
  refine V_lor hc dX6_insert_81 ?_
  refine V_putl (C := RX6) (T := TX6) (N := 8) hc sP8 rfl qX6_insert_RX6 6 rfl (by decide) kX6_insert_46 rfl tyX6 tyX6_ok nmX6 rfl (tyX6_ok 6 (by decide)) dX6_insert_82 ?_
  refine V_bds (fun t11 => ?_)
  exact V_vret hc rfl rfl dX6_insert_85

theorem kX6_begin_22 : Cond.fieldLink RX6 22 RX6 (TX6 3).2.1 (TX6 3).2.2.1 ∈ wsX6_begin := by decide +kernel
theorem qX6_begin_RX6 : ∀ w ∈ u_ws RX6 TX6 8, w ∈ wsX6_begin := by
  first
  | exact fun _ h => List.mem_cons_of_mem _ (List.mem_append_right _ h)
  | exact fun _ h => List.mem_cons_of_mem _ (List.mem_append_left _ (List.mem_append_right _ h))
  | exact fun _ h => List.mem_cons_of_mem _ (List.mem_append_left _ (List.mem_append_left _ (List.mem_append_right _ h)))
  | exact fun _ h => List.mem_cons_of_mem _ (List.mem_append_left _ (List.mem_append_left _ (List.mem_append_left _ (List.mem_append_right _ h))))
  | exact fun _ h => List.mem_cons_of_mem _ (List.mem_append_left _ (List.mem_append_left _ (List.mem_append_left _ (List.mem_append_left _ (List.mem_append_right _ h)))))
  | decide +kernel
theorem kX6_begin_25 : Cond.fieldLink RX6 25 RX6 (TX6 4).2.1 (TX6 4).2.2.1 ∈ wsX6_begin := by decide +kernel
noncomputable def f_X6_begin (t : Sx) (a1 : Int32) (a2 : Int32) (a3 : Int32) : Option Sx := gd (vp_in a1 10) (bd (pA t 16 (ix a1) (-1)) fun t1 => gd (vp_in a1 10) (bd (pA t1 17 (ix a1) 0) fun t2 => (f_X6_insert t2 (a1) (a2) (0)).bind fun r3 => (f_X6_insert r3 (a1) (a3) (1)).bind fun r4 => some r4))
set_option maxRecDepth 20000 in
set_option maxHeartbeats 4000000 in
theorem c_X6_begin (l : Launch) (K : Kx) (t : Sx) (a1 : Int32) (a2 : Int32) (a3 : Int32) : CT l K yX6_begin wsX6_begin ({ frames := 2, cells := 0, slots := 0, locals := 45 } : Room) [.ref (K.2.2 8), .int a1, .int a2, .int a3] t (f_X6_begin t a1 a2 a3) kWV := by
  refine CT_of (cc := cX6_begin) (maxL := 4) (ret := none) (own := RX6) (by decide +kernel) rfl rfl (Nat.le_of_ble_eq_true rfl) ?_
  intro p e s m args below meth c hc
  refine V_sub (lv' := [(0, .ref (K.2.2 8)), (1, .int a1), (2, .int a2), (3, .int a3)]) [0, 1, 2, 3] rfl ?_
  unfold f_X6_begin
  refine V_aload_n hc dX6_begin_0 rfl 0 rfl ?_
  refine V_getr (C := RX6) (T := TX6) (N := 8) hc sP8 rfl qX6_begin_RX6 3 rfl (by decide) kX6_begin_22 rfl dX6_begin_1 ?_
  refine V_iload_n hc dX6_begin_4 rfl 1 rfl ?_
  refine V_iconst (v := (-1)) hc dX6_begin_5 (by decide) ?_
  refine V_iast hc sP11 dX6_begin_6 ?_
  refine V_bds (fun t1 => ?_)
  refine V_aload_n hc dX6_begin_7 rfl 0 rfl ?_
  refine V_getr (C := RX6) (T := TX6) (N := 8) hc sP8 rfl qX6_begin_RX6 4 rfl (by decide) kX6_begin_25 rfl dX6_begin_8 ?_
  refine V_iload_n hc dX6_begin_11 rfl 1 rfl ?_
  refine V_iconst (v := 0) hc dX6_begin_12 (by decide) ?_
  refine V_zastc hc sP12 (Or.inl rfl) dX6_begin_13 ?_
  refine V_bds (fun t2 => ?_)
  refine V_aload_n hc dX6_begin_14 rfl 0 rfl ?_
  refine V_iload_n hc dX6_begin_15 rfl 1 rfl ?_
  refine V_iload_n hc dX6_begin_16 rfl 2 rfl ?_
  refine V_iconst (v := 0) hc dX6_begin_17 (by decide) ?_
  refine V_callV_WV (Cn := RX6) (T := TX6) (N := 8) hc (c_X6_insert l K t2 (a1) (a2) (0)) sP8 rfl 3 gX6_begin_X6_insert rfl ⟨rfl, rfl⟩ (by decide) ⟨Nat.le_of_ble_eq_true rfl, Nat.le_of_ble_eq_true rfl⟩ rfl rfl (Nat.le_of_ble_eq_true rfl) dX6_begin_18 (fun r3 => ?_)
  refine V_aload_n hc dX6_begin_21 rfl 0 rfl ?_
  refine V_iload_n hc dX6_begin_22 rfl 1 rfl ?_
  refine V_iload_n hc dX6_begin_23 rfl 3 rfl ?_
  refine V_iconst (v := 1) hc dX6_begin_24 (by decide) ?_
  refine V_callV_WV (Cn := RX6) (T := TX6) (N := 8) hc (c_X6_insert l K r3 (a1) (a3) (1)) sP8 rfl 3 gX6_begin_X6_insert rfl ⟨rfl, rfl⟩ (by decide) ⟨Nat.le_of_ble_eq_true rfl, Nat.le_of_ble_eq_true rfl⟩ rfl rfl (Nat.le_of_ble_eq_true rfl) dX6_begin_25 (fun r4 => ?_)
  exact V_vret hc rfl rfl dX6_begin_28

theorem kX6_height_19 : Cond.fieldLink RX6 19 RX6 (TX6 2).2.1 (TX6 2).2.2.1 ∈ wsX6_height := by decide +kernel
theorem qX6_height_RX6 : ∀ w ∈ u_ws RX6 TX6 8, w ∈ wsX6_height := by
  first
  | exact fun _ h => List.mem_cons_of_mem _ (List.mem_append_right _ h)
  | exact fun _ h => List.mem_cons_of_mem _ (List.mem_append_left _ (List.mem_append_right _ h))
  | exact fun _ h => List.mem_cons_of_mem _ (List.mem_append_left _ (List.mem_append_left _ (List.mem_append_right _ h)))
  | exact fun _ h => List.mem_cons_of_mem _ (List.mem_append_left _ (List.mem_append_left _ (List.mem_append_left _ (List.mem_append_right _ h))))
  | exact fun _ h => List.mem_cons_of_mem _ (List.mem_append_left _ (List.mem_append_left _ (List.mem_append_left _ (List.mem_append_left _ (List.mem_append_right _ h)))))
  | decide +kernel
noncomputable def f_X6_height (t : Sx) (a1 : Int32) : Option Int32 := gd (vp_in a1 10) (some (gA t 15 (ix a1)))
set_option maxRecDepth 20000 in
set_option maxHeartbeats 4000000 in
theorem c_X6_height (l : Launch) (K : Kx) (t : Sx) (a1 : Int32) : CT l K yX6_height wsX6_height ({ frames := 0, cells := 0, slots := 0, locals := 0 } : Room) [.ref (K.2.2 8), .int a1] t (f_X6_height t a1) (kRI t) := by
  refine CT_of (cc := cX6_height) (maxL := 2) (ret := (some .int)) (own := RX6) (by decide +kernel) rfl rfl (Nat.le_of_ble_eq_true rfl) ?_
  intro p e s m args below meth c hc
  refine V_sub (lv' := [(0, .ref (K.2.2 8)), (1, .int a1)]) [0, 1] rfl ?_
  unfold f_X6_height
  refine V_aload_n hc dX6_height_0 rfl 0 rfl ?_
  refine V_getr (C := RX6) (T := TX6) (N := 8) hc sP8 rfl qX6_height_RX6 2 rfl (by decide) kX6_height_19 rfl dX6_height_1 ?_
  refine V_iload_n hc dX6_height_4 rfl 1 rfl ?_
  refine V_iald hc sP10 dX6_height_5 ?_
  exact V_iret hc rfl rfl dX6_height_6

theorem kX6_choose_22 : Cond.fieldLink RX6 22 RX6 (TX6 3).2.1 (TX6 3).2.2.1 ∈ wsX6_choose := by decide +kernel
theorem qX6_choose_RX6 : ∀ w ∈ u_ws RX6 TX6 8, w ∈ wsX6_choose := by
  first
  | exact fun _ h => List.mem_cons_of_mem _ (List.mem_append_right _ h)
  | exact fun _ h => List.mem_cons_of_mem _ (List.mem_append_left _ (List.mem_append_right _ h))
  | exact fun _ h => List.mem_cons_of_mem _ (List.mem_append_left _ (List.mem_append_left _ (List.mem_append_right _ h)))
  | exact fun _ h => List.mem_cons_of_mem _ (List.mem_append_left _ (List.mem_append_left _ (List.mem_append_left _ (List.mem_append_right _ h))))
  | exact fun _ h => List.mem_cons_of_mem _ (List.mem_append_left _ (List.mem_append_left _ (List.mem_append_left _ (List.mem_append_left _ (List.mem_append_right _ h)))))
  | decide +kernel
noncomputable def f_X6_choose (t : Sx) (a1 : Int32) (a2 : Int32) : Option Sx := gd (vp_in a1 10) (bd (pA t 16 (ix a1) a2) fun t1 => some t1)
set_option maxRecDepth 20000 in
set_option maxHeartbeats 4000000 in
theorem c_X6_choose (l : Launch) (K : Kx) (t : Sx) (a1 : Int32) (a2 : Int32) : CT l K yX6_choose wsX6_choose ({ frames := 0, cells := 0, slots := 0, locals := 0 } : Room) [.ref (K.2.2 8), .int a1, .int a2] t (f_X6_choose t a1 a2) kWV := by
  refine CT_of (cc := cX6_choose) (maxL := 3) (ret := none) (own := RX6) (by decide +kernel) rfl rfl (Nat.le_of_ble_eq_true rfl) ?_
  intro p e s m args below meth c hc
  refine V_sub (lv' := [(0, .ref (K.2.2 8)), (1, .int a1), (2, .int a2)]) [0, 1, 2] rfl ?_
  unfold f_X6_choose
  refine V_aload_n hc dX6_choose_0 rfl 0 rfl ?_
  refine V_getr (C := RX6) (T := TX6) (N := 8) hc sP8 rfl qX6_choose_RX6 3 rfl (by decide) kX6_choose_22 rfl dX6_choose_1 ?_
  refine V_iload_n hc dX6_choose_4 rfl 1 rfl ?_
  refine V_iload_n hc dX6_choose_5 rfl 2 rfl ?_
  refine V_iast hc sP11 dX6_choose_6 ?_
  refine V_bds (fun t1 => ?_)
  exact V_vret hc rfl rfl dX6_choose_7

theorem kX6_isCollapsed_25 : Cond.fieldLink RX6 25 RX6 (TX6 4).2.1 (TX6 4).2.2.1 ∈ wsX6_isCollapsed := by decide +kernel
theorem qX6_isCollapsed_RX6 : ∀ w ∈ u_ws RX6 TX6 8, w ∈ wsX6_isCollapsed := by
  first
  | exact fun _ h => List.mem_cons_of_mem _ (List.mem_append_right _ h)
  | exact fun _ h => List.mem_cons_of_mem _ (List.mem_append_left _ (List.mem_append_right _ h))
  | exact fun _ h => List.mem_cons_of_mem _ (List.mem_append_left _ (List.mem_append_left _ (List.mem_append_right _ h)))
  | exact fun _ h => List.mem_cons_of_mem _ (List.mem_append_left _ (List.mem_append_left _ (List.mem_append_left _ (List.mem_append_right _ h))))
  | exact fun _ h => List.mem_cons_of_mem _ (List.mem_append_left _ (List.mem_append_left _ (List.mem_append_left _ (List.mem_append_left _ (List.mem_append_right _ h)))))
  | decide +kernel
noncomputable def f_X6_isCollapsed (t : Sx) (a1 : Int32) : Option Int32 := gd (vp_in a1 10) (gd (gz (gA t 17 (ix a1))) (some (gA t 17 (ix a1))))
set_option maxRecDepth 20000 in
set_option maxHeartbeats 4000000 in
theorem c_X6_isCollapsed (l : Launch) (K : Kx) (t : Sx) (a1 : Int32) : CT l K yX6_isCollapsed wsX6_isCollapsed ({ frames := 0, cells := 0, slots := 0, locals := 0 } : Room) [.ref (K.2.2 8), .int a1] t (f_X6_isCollapsed t a1) (kRI t) := by
  refine CT_of (cc := cX6_isCollapsed) (maxL := 2) (ret := (some .boolean)) (own := RX6) (by decide +kernel) rfl rfl (Nat.le_of_ble_eq_true rfl) ?_
  intro p e s m args below meth c hc
  refine V_sub (lv' := [(0, .ref (K.2.2 8)), (1, .int a1)]) [0, 1] rfl ?_
  unfold f_X6_isCollapsed
  refine V_aload_n hc dX6_isCollapsed_0 rfl 0 rfl ?_
  refine V_getr (C := RX6) (T := TX6) (N := 8) hc sP8 rfl qX6_isCollapsed_RX6 4 rfl (by decide) kX6_isCollapsed_25 rfl dX6_isCollapsed_1 ?_
  refine V_iload_n hc dX6_isCollapsed_4 rfl 1 rfl ?_
  refine V_zald hc sP12 dX6_isCollapsed_5 ?_
  exact V_zret hc rfl rfl dX6_isCollapsed_6

theorem kX6_fold_25 : Cond.fieldLink RX6 25 RX6 (TX6 4).2.1 (TX6 4).2.2.1 ∈ wsX6_fold := by decide +kernel
theorem qX6_fold_RX6 : ∀ w ∈ u_ws RX6 TX6 8, w ∈ wsX6_fold := by
  first
  | exact fun _ h => List.mem_cons_of_mem _ (List.mem_append_right _ h)
  | exact fun _ h => List.mem_cons_of_mem _ (List.mem_append_left _ (List.mem_append_right _ h))
  | exact fun _ h => List.mem_cons_of_mem _ (List.mem_append_left _ (List.mem_append_left _ (List.mem_append_right _ h)))
  | exact fun _ h => List.mem_cons_of_mem _ (List.mem_append_left _ (List.mem_append_left _ (List.mem_append_left _ (List.mem_append_right _ h))))
  | exact fun _ h => List.mem_cons_of_mem _ (List.mem_append_left _ (List.mem_append_left _ (List.mem_append_left _ (List.mem_append_left _ (List.mem_append_right _ h)))))
  | decide +kernel
noncomputable def f_X6_fold (t : Sx) (a1 : Int32) (a2 : Int32) : Option Sx := gd (gz a2) (gd (vp_in a1 10) (bd (pA t 17 (ix a1) a2) fun t1 => some t1))
set_option maxRecDepth 20000 in
set_option maxHeartbeats 4000000 in
theorem c_X6_fold (l : Launch) (K : Kx) (t : Sx) (a1 : Int32) (a2 : Int32) : CT l K yX6_fold wsX6_fold ({ frames := 0, cells := 0, slots := 0, locals := 0 } : Room) [.ref (K.2.2 8), .int a1, .int a2] t (f_X6_fold t a1 a2) kWV := by
  refine CT_of (cc := cX6_fold) (maxL := 3) (ret := none) (own := RX6) (by decide +kernel) rfl rfl (Nat.le_of_ble_eq_true rfl) ?_
  intro p e s m args below meth c hc
  refine V_sub (lv' := [(0, .ref (K.2.2 8)), (1, .int a1), (2, .int a2)]) [0, 1, 2] rfl ?_
  unfold f_X6_fold
  refine V_aload_n hc dX6_fold_0 rfl 0 rfl ?_
  refine V_getr (C := RX6) (T := TX6) (N := 8) hc sP8 rfl qX6_fold_RX6 4 rfl (by decide) kX6_fold_25 rfl dX6_fold_1 ?_
  refine V_iload_n hc dX6_fold_4 rfl 1 rfl ?_
  refine V_iload_n hc dX6_fold_5 rfl 2 rfl ?_
  refine V_zast hc sP12 dX6_fold_6 ?_
  refine V_bds (fun t1 => ?_)
  exact V_vret hc rfl rfl dX6_fold_7

theorem kX6_fileAt_19 : Cond.fieldLink RX6 19 RX6 (TX6 2).2.1 (TX6 2).2.2.1 ∈ wsX6_fileAt := by decide +kernel
theorem qX6_fileAt_RX6 : ∀ w ∈ u_ws RX6 TX6 8, w ∈ wsX6_fileAt := by
  first
  | exact fun _ h => List.mem_cons_of_mem _ (List.mem_append_right _ h)
  | exact fun _ h => List.mem_cons_of_mem _ (List.mem_append_left _ (List.mem_append_right _ h))
  | exact fun _ h => List.mem_cons_of_mem _ (List.mem_append_left _ (List.mem_append_left _ (List.mem_append_right _ h)))
  | exact fun _ h => List.mem_cons_of_mem _ (List.mem_append_left _ (List.mem_append_left _ (List.mem_append_left _ (List.mem_append_right _ h))))
  | exact fun _ h => List.mem_cons_of_mem _ (List.mem_append_left _ (List.mem_append_left _ (List.mem_append_left _ (List.mem_append_left _ (List.mem_append_right _ h)))))
  | decide +kernel
theorem kX6_fileAt_15 : Cond.fieldLink RX6 15 RX6 (TX6 1).2.1 (TX6 1).2.2.1 ∈ wsX6_fileAt := by decide +kernel
noncomputable def f_X6_fileAt (t : Sx) (a1 : Int32) (a2 : Int32) : Option Int32 := gd (vp_in a1 10) (if (gA t 15 (ix a1)) ≤ a2 then some (-1) else (f_X6_spot t (a1) (a2)).bind fun r1 => gd (vp_in r1 80) (some (gA t 14 (ix r1))))
set_option maxRecDepth 20000 in
set_option maxHeartbeats 4000000 in
theorem c_X6_fileAt (l : Launch) (K : Kx) (t : Sx) (a1 : Int32) (a2 : Int32) : CT l K yX6_fileAt wsX6_fileAt ({ frames := 1, cells := 0, slots := 0, locals := 21 } : Room) [.ref (K.2.2 8), .int a1, .int a2] t (f_X6_fileAt t a1 a2) (kRI t) := by
  refine CT_of (cc := cX6_fileAt) (maxL := 3) (ret := (some .int)) (own := RX6) (by decide +kernel) rfl rfl (Nat.le_of_ble_eq_true rfl) ?_
  intro p e s m args below meth c hc
  refine V_sub (lv' := [(0, .ref (K.2.2 8)), (1, .int a1), (2, .int a2)]) [0, 1, 2] rfl ?_
  unfold f_X6_fileAt
  refine V_iload_n hc dX6_fileAt_0 rfl 2 rfl ?_
  refine V_aload_n hc dX6_fileAt_1 rfl 0 rfl ?_
  refine V_getr (C := RX6) (T := TX6) (N := 8) hc sP8 rfl qX6_fileAt_RX6 2 rfl (by decide) kX6_fileAt_19 rfl dX6_fileAt_2 ?_
  refine V_iload_n hc dX6_fileAt_5 rfl 1 rfl ?_
  refine V_iald hc sP10 dX6_fileAt_6 ?_
  refine V_icmp_ge (tgt := 23) hc dX6_fileAt_7 (by decide) ?_ ?_
  · refine V_iconst (v := (-1)) hc dX6_fileAt_23 (by decide) ?_
    exact V_iret hc rfl rfl dX6_fileAt_24
  · refine V_aload_n hc dX6_fileAt_10 rfl 0 rfl ?_
    refine V_getr (C := RX6) (T := TX6) (N := 8) hc sP8 rfl qX6_fileAt_RX6 1 rfl (by decide) kX6_fileAt_15 rfl dX6_fileAt_11 ?_
    refine V_iload_n hc dX6_fileAt_14 rfl 1 rfl ?_
    refine V_iload_n hc dX6_fileAt_15 rfl 2 rfl ?_
    refine V_callS_RI hc (c_X6_spot l K t (a1) (a2)) 2 gX6_fileAt_X6_spot rfl ⟨rfl, rfl⟩ (by decide) ⟨Nat.le_of_ble_eq_true rfl, Nat.le_of_ble_eq_true rfl⟩ rfl rfl (Nat.le_of_ble_eq_true rfl) dX6_fileAt_16 (fun r1 => ?_)
    refine V_iald hc sP9 dX6_fileAt_19 ?_
    refine V_goto (tgt := 24) hc dX6_fileAt_20 (by decide) ?_
    exact V_iret hc rfl rfl dX6_fileAt_24

theorem kX6_withoutHidden_19 : Cond.fieldLink RX6 19 RX6 (TX6 2).2.1 (TX6 2).2.2.1 ∈ wsX6_withoutHidden := by decide +kernel
theorem qX6_withoutHidden_RX6 : ∀ w ∈ u_ws RX6 TX6 8, w ∈ wsX6_withoutHidden := by
  first
  | exact fun _ h => List.mem_cons_of_mem _ (List.mem_append_right _ h)
  | exact fun _ h => List.mem_cons_of_mem _ (List.mem_append_left _ (List.mem_append_right _ h))
  | exact fun _ h => List.mem_cons_of_mem _ (List.mem_append_left _ (List.mem_append_left _ (List.mem_append_right _ h)))
  | exact fun _ h => List.mem_cons_of_mem _ (List.mem_append_left _ (List.mem_append_left _ (List.mem_append_left _ (List.mem_append_right _ h))))
  | exact fun _ h => List.mem_cons_of_mem _ (List.mem_append_left _ (List.mem_append_left _ (List.mem_append_left _ (List.mem_append_left _ (List.mem_append_right _ h)))))
  | decide +kernel
theorem kX6_withoutHidden_15 : Cond.fieldLink RX6 15 RX6 (TX6 1).2.1 (TX6 1).2.2.1 ∈ wsX6_withoutHidden := by decide +kernel
theorem wX6_withoutHidden_in61 : Cond.initialized yX8_only.cls ∈ wsX6_withoutHidden := by decide +kernel
theorem wX6_withoutHidden_st61 : Cond.static yX8_only ∈ wsX6_withoutHidden := by decide +kernel
theorem wX6_withoutHidden_c73 : Cond.constantLong RX6 73 (-1) ∈ wsX6_withoutHidden := by decide +kernel
theorem wX6_withoutHidden_in84 : Cond.initialized yX8_holds.cls ∈ wsX6_withoutHidden := by decide +kernel
theorem wX6_withoutHidden_st84 : Cond.static yX8_holds ∈ wsX6_withoutHidden := by decide +kernel
noncomputable def L_X6_withoutHidden_9 (t0 : Sx) (b1 : Int32) (b2 : Int64) (kont : Int64 → Int32 → Int32 → Option Int64) : Nat → Int64 → Int32 → Int32 → Option Int64
  | 0, _, _, _ => none
  | n + 1, x4 , x6 , x7 => gd (vp_in b1 10) (if (gA t0 15 (ix b1)) ≤ x7 then kont (x4) (x6) (x7) else (f_X6_spot t0 (b1) (x7)).bind fun r1 => gd (vp_in r1 80) (if x6 = (-1) then (f_X8_holds t0 (b2) (gA t0 14 (ix r1))).bind fun r3 => if r3 = 0 then (f_X8_only t0 (gA t0 14 (ix r1))).bind fun r4 => L_X6_withoutHidden_9 t0 b1 b2 kont n ((x4 &&& (r4 ^^^ -1))) (x6) ((x7 + 1)) else (f_X8_only t0 (gA t0 14 (ix r1))).bind fun r5 => L_X6_withoutHidden_9 t0 b1 b2 kont n ((x4 &&& (r5 ^^^ -1))) ((gA t0 14 (ix r1))) ((x7 + 1)) else (f_X8_only t0 (gA t0 14 (ix r1))).bind fun r2 => L_X6_withoutHidden_9 t0 b1 b2 kont n ((x4 &&& (r2 ^^^ -1))) (x6) ((x7 + 1))))
set_option maxRecDepth 20000 in
set_option maxHeartbeats 4000000 in
theorem L_X6_withoutHidden_9_ok {p : Program} {l : Launch} {K : Kx} {e : Env} {s : State} {m : MethodId} {args : Array Value} {below : List Frame} {meth : Method} {c : Code} (hc : Cx p ({ frames := 2, cells := 0, slots := 0, locals := 46 } : Room) s m args meth c cX6_withoutHidden 9 wsX6_withoutHidden RX6 K (aA K s.heap.size) (some .long) 0 0) (t0 : Sx) (b1 : Int32) (b2 : Int64) (kont : Int64 → Int32 → Int32 → Option Int64) (hk : ∀ x4 x6 x7, V p l e ({ frames := 2, cells := 0, slots := 0, locals := 46 } : Room) s m args below meth c K (aA K s.heap.size) 0 0 9 (QM below K args s (kRL t0)) 72 [(0, .ref (K.2.2 8)), (1, .int b1), (2, .long b2), (4, .long x4), (6, .int x6), (7, .int x7)] [] t0 (kont x4 x6 x7)) : ∀ (n : Nat) (x4 : Int64) (x6 : Int32) (x7 : Int32), V p l e ({ frames := 2, cells := 0, slots := 0, locals := 46 } : Room) s m args below meth c K (aA K s.heap.size) 0 0 9 (QM below K args s (kRL t0)) 9 [(0, .ref (K.2.2 8)), (1, .int b1), (2, .long b2), (4, .long x4), (6, .int x6), (7, .int x7)] [] t0 (L_X6_withoutHidden_9 t0 b1 b2 kont n x4 x6 x7) := by
  intro n
  induction n with
  | zero => intro x4 x6 x7; exact V_none
  | succ n ih =>
    intro x4 x6 x7
    rw [L_X6_withoutHidden_9]
    refine V_iload hc dX6_withoutHidden_9 5 rfl ?_
    refine V_aload_n hc dX6_withoutHidden_11 rfl 0 rfl ?_
    refine V_getr (C := RX6) (T := TX6) (N := 8) hc sP8 rfl qX6_withoutHidden_RX6 2 rfl (by decide) kX6_withoutHidden_19 rfl dX6_withoutHidden_12 ?_
    refine V_iload_n hc dX6_withoutHidden_15 rfl 1 rfl ?_
    refine V_iald hc sP10 dX6_withoutHidden_16 ?_
    refine V_icmp_ge (tgt := 72) hc dX6_withoutHidden_17 (by decide) ?_ ?_
    · exact V_sub [0, 1, 2, 3, 4, 5] rfl (hk _ _ _)
    · refine V_aload_n hc dX6_withoutHidden_20 rfl 0 rfl ?_
      refine V_getr (C := RX6) (T := TX6) (N := 8) hc sP8 rfl qX6_withoutHidden_RX6 1 rfl (by decide) kX6_withoutHidden_15 rfl dX6_withoutHidden_21 ?_
      refine V_iload_n hc dX6_withoutHidden_24 rfl 1 rfl ?_
      refine V_iload hc dX6_withoutHidden_25 5 rfl ?_
      refine V_callS_RI hc (c_X6_spot l K t0 (b1) (x7)) 2 gX6_withoutHidden_X6_spot rfl ⟨rfl, rfl⟩ (by decide) ⟨Nat.le_of_ble_eq_true rfl, Nat.le_of_ble_eq_true rfl⟩ rfl rfl (Nat.le_of_ble_eq_true rfl) dX6_withoutHidden_27 (fun r1 => ?_)
      refine V_iald hc sP9 dX6_withoutHidden_30 ?_
      refine V_istore (lv' := [(8, .int (gA t0 14 (ix r1))), (0, .ref (K.2.2 8)), (1, .int b1), (2, .long b2), (4, .long x4), (6, .int x6), (7, .int x7)]) hc dX6_withoutHidden_31 (by decide) rfl ?_
      refine V_iload hc dX6_withoutHidden_33 5 rfl ?_
      refine V_iconst (v := (-1)) hc dX6_withoutHidden_35 (by decide) ?_
      refine V_icmp_ne (tgt := 52) hc dX6_withoutHidden_36 (by decide) ?_ ?_
      · refine V_lload hc dX6_withoutHidden_52 4 rfl ?_
        refine V_iload hc dX6_withoutHidden_54 0 rfl ?_
        refine V_callN_RL hc (c_X8_only l K t0 (gA t0 14 (ix r1))) 1 gX6_withoutHidden_X8_only_n61 rfl ⟨rfl, rfl⟩ (List.mem_of_getElem? (i := 5) rfl) wX6_withoutHidden_in61 wX6_withoutHidden_st61 (by decide) ⟨Nat.le_of_ble_eq_true rfl, Nat.le_of_ble_eq_true rfl⟩ rfl rfl (Nat.le_of_ble_eq_true rfl) dX6_withoutHidden_56 (fun r2 => ?_)
        refine V_ldc2 (v := -1) hc wX6_withoutHidden_c73 dX6_withoutHidden_59 ?_
        refine V_lxor hc dX6_withoutHidden_62 ?_
        refine V_land hc dX6_withoutHidden_63 ?_
        refine V_lstore (lv' := [(4, .long (x4 &&& (r2 ^^^ -1))), (8, .int (gA t0 14 (ix r1))), (0, .ref (K.2.2 8)), (1, .int b1), (2, .long b2), (6, .int x6), (7, .int x7)]) hc dX6_withoutHidden_64 (by decide) rfl ?_
        refine V_iinc (v := (x7 + 1)) (lv' := [(7, .int (x7 + 1)), (4, .long (x4 &&& (r2 ^^^ -1))), (8, .int (gA t0 14 (ix r1))), (0, .ref (K.2.2 8)), (1, .int b1), (2, .long b2), (6, .int x6)]) hc dX6_withoutHidden_66 6 rfl rfl (by decide) rfl ?_
        refine V_goto (tgt := 9) hc dX6_withoutHidden_69 (by decide) ?_
        exact V_sub [3, 4, 5, 1, 6, 0] rfl (ih _ _ _)
      · refine V_lload_n hc dX6_withoutHidden_39 rfl 3 rfl ?_
        refine V_iload hc dX6_withoutHidden_40 0 rfl ?_
        refine V_callN_RI hc (c_X8_holds l K t0 (b2) (gA t0 14 (ix r1))) 2 gX6_withoutHidden_X8_holds_n84 rfl ⟨rfl, rfl⟩ (List.mem_of_getElem? (i := 11) rfl) wX6_withoutHidden_in84 wX6_withoutHidden_st84 (by decide) ⟨Nat.le_of_ble_eq_true rfl, Nat.le_of_ble_eq_true rfl⟩ rfl rfl (Nat.le_of_ble_eq_true rfl) dX6_withoutHidden_42 (fun r3 => ?_)
        refine V_if_eq (tgt := 52) hc dX6_withoutHidden_45 (by decide) ?_ ?_
        · refine V_lload hc dX6_withoutHidden_52 4 rfl ?_
          refine V_iload hc dX6_withoutHidden_54 0 rfl ?_
          refine V_callN_RL hc (c_X8_only l K t0 (gA t0 14 (ix r1))) 1 gX6_withoutHidden_X8_only_n61 rfl ⟨rfl, rfl⟩ (List.mem_of_getElem? (i := 5) rfl) wX6_withoutHidden_in61 wX6_withoutHidden_st61 (by decide) ⟨Nat.le_of_ble_eq_true rfl, Nat.le_of_ble_eq_true rfl⟩ rfl rfl (Nat.le_of_ble_eq_true rfl) dX6_withoutHidden_56 (fun r4 => ?_)
          refine V_ldc2 (v := -1) hc wX6_withoutHidden_c73 dX6_withoutHidden_59 ?_
          refine V_lxor hc dX6_withoutHidden_62 ?_
          refine V_land hc dX6_withoutHidden_63 ?_
          refine V_lstore (lv' := [(4, .long (x4 &&& (r4 ^^^ -1))), (8, .int (gA t0 14 (ix r1))), (0, .ref (K.2.2 8)), (1, .int b1), (2, .long b2), (6, .int x6), (7, .int x7)]) hc dX6_withoutHidden_64 (by decide) rfl ?_
          refine V_iinc (v := (x7 + 1)) (lv' := [(7, .int (x7 + 1)), (4, .long (x4 &&& (r4 ^^^ -1))), (8, .int (gA t0 14 (ix r1))), (0, .ref (K.2.2 8)), (1, .int b1), (2, .long b2), (6, .int x6)]) hc dX6_withoutHidden_66 6 rfl rfl (by decide) rfl ?_
          refine V_goto (tgt := 9) hc dX6_withoutHidden_69 (by decide) ?_
          exact V_sub [3, 4, 5, 1, 6, 0] rfl (ih _ _ _)
        · refine V_iload hc dX6_withoutHidden_48 0 rfl ?_
          refine V_istore (lv' := [(6, .int (gA t0 14 (ix r1))), (8, .int (gA t0 14 (ix r1))), (0, .ref (K.2.2 8)), (1, .int b1), (2, .long b2), (4, .long x4), (7, .int x7)]) hc dX6_withoutHidden_50 (by decide) rfl ?_
          refine V_lload hc dX6_withoutHidden_52 5 rfl ?_
          refine V_iload hc dX6_withoutHidden_54 1 rfl ?_
          refine V_callN_RL hc (c_X8_only l K t0 (gA t0 14 (ix r1))) 1 gX6_withoutHidden_X8_only_n61 rfl ⟨rfl, rfl⟩ (List.mem_of_getElem? (i := 5) rfl) wX6_withoutHidden_in61 wX6_withoutHidden_st61 (by decide) ⟨Nat.le_of_ble_eq_true rfl, Nat.le_of_ble_eq_true rfl⟩ rfl rfl (Nat.le_of_ble_eq_true rfl) dX6_withoutHidden_56 (fun r5 => ?_)
          refine V_ldc2 (v := -1) hc wX6_withoutHidden_c73 dX6_withoutHidden_59 ?_
          refine V_lxor hc dX6_withoutHidden_62 ?_
          refine V_land hc dX6_withoutHidden_63 ?_
          refine V_lstore (lv' := [(4, .long (x4 &&& (r5 ^^^ -1))), (6, .int (gA t0 14 (ix r1))), (8, .int (gA t0 14 (ix r1))), (0, .ref (K.2.2 8)), (1, .int b1), (2, .long b2), (7, .int x7)]) hc dX6_withoutHidden_64 (by decide) rfl ?_
          refine V_iinc (v := (x7 + 1)) (lv' := [(7, .int (x7 + 1)), (4, .long (x4 &&& (r5 ^^^ -1))), (6, .int (gA t0 14 (ix r1))), (8, .int (gA t0 14 (ix r1))), (0, .ref (K.2.2 8)), (1, .int b1), (2, .long b2)]) hc dX6_withoutHidden_66 6 rfl rfl (by decide) rfl ?_
          refine V_goto (tgt := 9) hc dX6_withoutHidden_69 (by decide) ?_
          exact V_sub [4, 5, 6, 1, 2, 0] rfl (ih _ _ _)
noncomputable def f_X6_withoutHidden (t : Sx) (a1 : Int32) (a2 : Int64) : Option Int64 := L_X6_withoutHidden_9 t (a1) (a2) (fun z6 z7 z8 => if z7 = (-1) then some a2 else (f_X6_cover t (a1)).bind fun r9 => (f_X8_holds t (a2) (r9)).bind fun r10 => if r10 = 0 then (f_X8_only t (z7)).bind fun r11 => some (z6 ||| r11) else (f_X8_only t (r9)).bind fun r12 => some (z6 ||| r12)) FU (a2) ((-1)) (0)
set_option maxRecDepth 20000 in
set_option maxHeartbeats 4000000 in
theorem c_X6_withoutHidden (l : Launch) (K : Kx) (t : Sx) (a1 : Int32) (a2 : Int64) : CT l K yX6_withoutHidden wsX6_withoutHidden ({ frames := 2, cells := 0, slots := 0, locals := 46 } : Room) [.ref (K.2.2 8), .int a1, .long a2] t (f_X6_withoutHidden t a1 a2) (kRL t) := by
  refine CT_of (cc := cX6_withoutHidden) (maxL := 9) (ret := (some .long)) (own := RX6) (by decide +kernel) rfl rfl (Nat.le_of_ble_eq_true rfl) ?_
  intro p e s m args below meth c hc
  refine V_sub (lv' := [(0, .ref (K.2.2 8)), (1, .int a1), (2, .long a2)]) [0, 1, 2] rfl ?_
  unfold f_X6_withoutHidden
  refine V_lload_n hc dX6_withoutHidden_0 rfl 2 rfl ?_
  refine V_lstore (lv' := [(4, .long a2), (0, .ref (K.2.2 8)), (1, .int a1), (2, .long a2)]) hc dX6_withoutHidden_1 (by decide) rfl ?_
  refine V_iconst (v := (-1)) hc dX6_withoutHidden_3 (by decide) ?_
  refine V_istore (lv' := [(6, .int (-1)), (4, .long a2), (0, .ref (K.2.2 8)), (1, .int a1), (2, .long a2)]) hc dX6_withoutHidden_4 (by decide) rfl ?_
  refine V_iconst (v := 0) hc dX6_withoutHidden_6 (by decide) ?_
  refine V_istore (lv' := [(7, .int 0), (6, .int (-1)), (4, .long a2), (0, .ref (K.2.2 8)), (1, .int a1), (2, .long a2)]) hc dX6_withoutHidden_7 (by decide) rfl ?_
  refine V_sub (lv' := [(0, .ref (K.2.2 8)), (1, .int a1), (2, .long a2), (4, .long a2), (6, .int (-1)), (7, .int 0)]) [3, 4, 5, 2, 1, 0] rfl ?_
  refine L_X6_withoutHidden_9_ok hc t (a1) (a2) _ (fun z6 z7 z8 => ?_) FU _ _ _
  refine V_iload hc dX6_withoutHidden_72 4 rfl ?_
  refine V_iconst (v := (-1)) hc dX6_withoutHidden_74 (by decide) ?_
  refine V_icmp_ne (tgt := 80) hc dX6_withoutHidden_75 (by decide) ?_ ?_
  · refine V_aload_n hc dX6_withoutHidden_80 rfl 0 rfl ?_
    refine V_iload_n hc dX6_withoutHidden_81 rfl 1 rfl ?_
    refine V_callV_RI (Cn := RX6) (T := TX6) (N := 8) hc (c_X6_cover l K t (a1)) sP8 rfl 1 gX6_withoutHidden_X6_cover rfl ⟨rfl, rfl⟩ (by decide) ⟨Nat.le_of_ble_eq_true rfl, Nat.le_of_ble_eq_true rfl⟩ rfl rfl (Nat.le_of_ble_eq_true rfl) dX6_withoutHidden_82 (fun r9 => ?_)
    refine V_istore (lv' := [(7, .int r9), (0, .ref (K.2.2 8)), (1, .int a1), (2, .long a2), (4, .long z6), (6, .int z7)]) hc dX6_withoutHidden_85 (by decide) rfl ?_
    refine V_lload hc dX6_withoutHidden_87 4 rfl ?_
    refine V_lload_n hc dX6_withoutHidden_89 rfl 3 rfl ?_
    refine V_iload hc dX6_withoutHidden_90 0 rfl ?_
    refine V_callN_RI hc (c_X8_holds l K t (a2) (r9)) 2 gX6_withoutHidden_X8_holds_n84 rfl ⟨rfl, rfl⟩ (List.mem_of_getElem? (i := 11) rfl) wX6_withoutHidden_in84 wX6_withoutHidden_st84 (by decide) ⟨Nat.le_of_ble_eq_true rfl, Nat.le_of_ble_eq_true rfl⟩ rfl rfl (Nat.le_of_ble_eq_true rfl) dX6_withoutHidden_92 (fun r10 => ?_)
    refine V_if_eq (tgt := 103) hc dX6_withoutHidden_95 (by decide) ?_ ?_
    · refine V_iload hc dX6_withoutHidden_103 5 rfl ?_
      refine V_callN_RL hc (c_X8_only l K t (z7)) 1 gX6_withoutHidden_X8_only_n61 rfl ⟨rfl, rfl⟩ (List.mem_of_getElem? (i := 5) rfl) wX6_withoutHidden_in61 wX6_withoutHidden_st61 (by decide) ⟨Nat.le_of_ble_eq_true rfl, Nat.le_of_ble_eq_true rfl⟩ rfl rfl (Nat.le_of_ble_eq_true rfl) dX6_withoutHidden_105 (fun r11 => ?_)
      refine V_lor hc dX6_withoutHidden_108 ?_
      exact V_lret hc rfl rfl dX6_withoutHidden_109
    · refine V_iload hc dX6_withoutHidden_98 0 rfl ?_
      refine V_goto (tgt := 105) hc dX6_withoutHidden_100 (by decide) ?_
      refine V_callN_RL hc (c_X8_only l K t (r9)) 1 gX6_withoutHidden_X8_only_n61 rfl ⟨rfl, rfl⟩ (List.mem_of_getElem? (i := 5) rfl) wX6_withoutHidden_in61 wX6_withoutHidden_st61 (by decide) ⟨Nat.le_of_ble_eq_true rfl, Nat.le_of_ble_eq_true rfl⟩ rfl rfl (Nat.le_of_ble_eq_true rfl) dX6_withoutHidden_105 (fun r12 => ?_)
      refine V_lor hc dX6_withoutHidden_108 ?_
      exact V_lret hc rfl rfl dX6_withoutHidden_109
  · refine V_lload_n hc dX6_withoutHidden_78 rfl 2 rfl ?_
    exact V_lret hc rfl rfl dX6_withoutHidden_79


noncomputable def L_X6_howMany_4 (t0 : Sx) (kont : Int32 → Int32 → Option Int32) : Nat → Int32 → Int32 → Option Int32
  | 0, _, _ => none
  | n + 1, x1 , x2 => if 10 ≤ x2 then kont (x1) (x2) else (f_X6_has t0 (x2)).bind fun r1 => if r1 = 0 then L_X6_howMany_4 t0 kont n (x1) ((x2 + 1)) else L_X6_howMany_4 t0 kont n ((x1 + 1)) ((x2 + 1))
set_option maxRecDepth 20000 in
set_option maxHeartbeats 4000000 in
theorem L_X6_howMany_4_ok {p : Program} {l : Launch} {K : Kx} {e : Env} {s : State} {m : MethodId} {args : Array Value} {below : List Frame} {meth : Method} {c : Code} (hc : Cx p ({ frames := 2, cells := 0, slots := 0, locals := 43 } : Room) s m args meth c cX6_howMany 3 wsX6_howMany RX6 K (aA K s.heap.size) (some .int) 0 0) (t0 : Sx) (kont : Int32 → Int32 → Option Int32) (hk : ∀ x1 x2, V p l e ({ frames := 2, cells := 0, slots := 0, locals := 43 } : Room) s m args below meth c K (aA K s.heap.size) 0 0 3 (QM below K args s (kRI t0)) 27 [(0, .ref (K.2.2 8)), (1, .int x1), (2, .int x2)] [] t0 (kont x1 x2)) : ∀ (n : Nat) (x1 : Int32) (x2 : Int32), V p l e ({ frames := 2, cells := 0, slots := 0, locals := 43 } : Room) s m args below meth c K (aA K s.heap.size) 0 0 3 (QM below K args s (kRI t0)) 4 [(0, .ref (K.2.2 8)), (1, .int x1), (2, .int x2)] [] t0 (L_X6_howMany_4 t0 kont n x1 x2) := by
  intro n
  induction n with
  | zero => intro x1 x2; exact V_none
  | succ n ih =>
    intro x1 x2
    rw [L_X6_howMany_4]
    refine V_iload_n hc dX6_howMany_4 rfl 2 rfl ?_
    refine V_bipush (v := 10) hc dX6_howMany_5 (by decide) ?_
    refine V_icmp_ge (tgt := 27) hc dX6_howMany_7 (by decide) ?_ ?_
    · exact V_sub [0, 1, 2] rfl (hk _ _)
    · refine V_aload_n hc dX6_howMany_10 rfl 0 rfl ?_
      refine V_iload_n hc dX6_howMany_11 rfl 2 rfl ?_
      refine V_callV_RI (Cn := RX6) (T := TX6) (N := 8) hc (c_X6_has l K t0 (x2)) sP8 rfl 1 gX6_howMany_X6_has rfl ⟨rfl, rfl⟩ (by decide) ⟨Nat.le_of_ble_eq_true rfl, Nat.le_of_ble_eq_true rfl⟩ rfl rfl (Nat.le_of_ble_eq_true rfl) dX6_howMany_12 (fun r1 => ?_)
      refine V_if_eq (tgt := 21) hc dX6_howMany_15 (by decide) ?_ ?_
      · refine V_iinc (v := (x2 + 1)) (lv' := [(2, .int (x2 + 1)), (0, .ref (K.2.2 8)), (1, .int x1)]) hc dX6_howMany_21 2 rfl rfl (by decide) rfl ?_
        refine V_goto (tgt := 4) hc dX6_howMany_24 (by decide) ?_
        exact V_sub [1, 2, 0] rfl (ih _ _)
      · refine V_iinc (v := (x1 + 1)) (lv' := [(1, .int (x1 + 1)), (0, .ref (K.2.2 8)), (2, .int x2)]) hc dX6_howMany_18 1 rfl rfl (by decide) rfl ?_
        refine V_iinc (v := (x2 + 1)) (lv' := [(2, .int (x2 + 1)), (1, .int (x1 + 1)), (0, .ref (K.2.2 8))]) hc dX6_howMany_21 2 rfl rfl (by decide) rfl ?_
        refine V_goto (tgt := 4) hc dX6_howMany_24 (by decide) ?_
        exact V_sub [2, 1, 0] rfl (ih _ _)
noncomputable def f_X6_howMany (t : Sx)  : Option Int32 := L_X6_howMany_4 t (fun z2 z3 => some z2) FU (0) (0)
set_option maxRecDepth 20000 in
set_option maxHeartbeats 4000000 in
theorem c_X6_howMany (l : Launch) (K : Kx) (t : Sx)  : CT l K yX6_howMany wsX6_howMany ({ frames := 2, cells := 0, slots := 0, locals := 43 } : Room) [.ref (K.2.2 8)] t (f_X6_howMany t ) (kRI t) := by
  refine CT_of (cc := cX6_howMany) (maxL := 3) (ret := (some .int)) (own := RX6) (by decide +kernel) rfl rfl (Nat.le_of_ble_eq_true rfl) ?_
  intro p e s m args below meth c hc
  refine V_sub (lv' := [(0, .ref (K.2.2 8))]) [0] rfl ?_
  unfold f_X6_howMany
  refine V_iconst (v := 0) hc dX6_howMany_0 (by decide) ?_
  refine V_istore_n (lv' := [(1, .int 0), (0, .ref (K.2.2 8))]) hc dX6_howMany_1 rfl (by decide) rfl ?_
  refine V_iconst (v := 0) hc dX6_howMany_2 (by decide) ?_
  refine V_istore_n (lv' := [(2, .int 0), (1, .int 0), (0, .ref (K.2.2 8))]) hc dX6_howMany_3 rfl (by decide) rfl ?_
  refine V_sub (lv' := [(0, .ref (K.2.2 8)), (1, .int 0), (2, .int 0)]) [2, 1, 0] rfl ?_
  refine L_X6_howMany_4_ok hc t _ (fun z2 z3 => ?_) FU _ _
  refine V_iload_n hc dX6_howMany_27 rfl 1 rfl ?_
  exact V_iret hc rfl rfl dX6_howMany_28
