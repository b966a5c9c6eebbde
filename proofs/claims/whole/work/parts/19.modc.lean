theorem kX9_stackOf_29 : Cond.fieldLink RX9 29 RX9 (TX9 6).2.1 (TX9 6).2.2.1 ∈ wsX9_stackOf := by decide +kernel
theorem qX9_stackOf_RX9 : ∀ w ∈ u_ws RX9 TX9 28, w ∈ wsX9_stackOf := by
  first
  | exact fun _ h => List.mem_cons_of_mem _ (List.mem_append_right _ h)
  | exact fun _ h => List.mem_cons_of_mem _ (List.mem_append_left _ (List.mem_append_right _ h))
  | exact fun _ h => List.mem_cons_of_mem _ (List.mem_append_left _ (List.mem_append_left _ (List.mem_append_right _ h)))
  | exact fun _ h => List.mem_cons_of_mem _ (List.mem_append_left _ (List.mem_append_left _ (List.mem_append_left _ (List.mem_append_right _ h))))
  | exact fun _ h => List.mem_cons_of_mem _ (List.mem_append_left _ (List.mem_append_left _ (List.mem_append_left _ (List.mem_append_left _ (List.mem_append_right _ h)))))
  | decide +kernel
noncomputable def f_X9_stackOf (t : Sx) (a1 : Int32) : Option Int32 := (f_X9_there t (a1)).bind fun r1 => if r1 = 0 then some (-1) else gd (vp_in a1 40) (if 0 ≤ (gA t 29 (ix a1)) then gd (vp_in a1 40) (some (gA t 29 (ix a1))) else some (-4))
set_option maxRecDepth 20000 in
set_option maxHeartbeats 4000000 in
theorem c_X9_stackOf (l : Launch) (K : Kx) (t : Sx) (a1 : Int32) : CT l K yX9_stackOf wsX9_stackOf ({ frames := 2, cells := 0, slots := 0, locals := 43 } : Room) [.ref (K.2.2 24), .int a1] t (f_X9_stackOf t a1) (kRI t) := by
  refine CT_of (cc := cX9_stackOf) (maxL := 2) (ret := (some .int)) (own := RX9) (by decide +kernel) rfl rfl (Nat.le_of_ble_eq_true rfl) ?_
  intro p e s m args below meth c hc
  refine V_sub (lv' := [(0, .ref (K.2.2 24)), (1, .int a1)]) [0, 1] rfl ?_
  unfold f_X9_stackOf
  refine V_aload_n hc dX9_stackOf_0 rfl 0 rfl ?_
  refine V_iload_n hc dX9_stackOf_1 rfl 1 rfl ?_
  refine V_callV_RI (Cn := RX9) (T := TX9) (N := 28) hc (c_X9_there l K t (a1)) sP24 rfl 1 gX9_stackOf_X9_there rfl ⟨rfl, rfl⟩ (by decide) ⟨Nat.le_of_ble_eq_true rfl, Nat.le_of_ble_eq_true rfl⟩ rfl rfl (Nat.le_of_ble_eq_true rfl) dX9_stackOf_2 (fun r1 => ?_)
  refine V_if_ne (tgt := 12) hc dX9_stackOf_5 (by decide) ?_ ?_
  · refine V_aload_n hc dX9_stackOf_12 rfl 0 rfl ?_
    refine V_getr (C := RX9) (T := TX9) (N := 28) hc sP24 rfl qX9_stackOf_RX9 6 rfl (by decide) kX9_stackOf_29 rfl dX9_stackOf_13 ?_
    refine V_iload_n hc dX9_stackOf_16 rfl 1 rfl ?_
    refine V_iald hc sP31 dX9_stackOf_17 ?_
    refine V_if_ge (tgt := 26) hc dX9_stackOf_18 (by decide) ?_ ?_
    · refine V_aload_n hc dX9_stackOf_26 rfl 0 rfl ?_
      refine V_getr (C := RX9) (T := TX9) (N := 28) hc sP24 rfl qX9_stackOf_RX9 6 rfl (by decide) kX9_stackOf_29 rfl dX9_stackOf_27 ?_
      refine V_iload_n hc dX9_stackOf_30 rfl 1 rfl ?_
      refine V_iald hc sP31 dX9_stackOf_31 ?_
      exact V_iret hc rfl rfl dX9_stackOf_32
    · refine V_bipush (v := (-4)) hc dX9_stackOf_21 (by decide) ?_
      refine V_goto (tgt := 32) hc dX9_stackOf_23 (by decide) ?_
      exact V_iret hc rfl rfl dX9_stackOf_32
  · refine V_iconst (v := (-1)) hc dX9_stackOf_8 (by decide) ?_
    refine V_goto (tgt := 32) hc dX9_stackOf_9 (by decide) ?_
    exact V_iret hc rfl rfl dX9_stackOf_32


noncomputable def f_X9_coverOf (t : Sx) (a1 : Int32) : Option Int32 := (f_X9_isStack t (a1)).bind fun r1 => if r1 = 0 then some (-1) else (f_X9_cover t (a1)).bind fun r2 => some r2
set_option maxRecDepth 20000 in
set_option maxHeartbeats 4000000 in
theorem c_X9_coverOf (l : Launch) (K : Kx) (t : Sx) (a1 : Int32) : CT l K yX9_coverOf wsX9_coverOf ({ frames := 3, cells := 0, slots := 0, locals := 71 } : Room) [.ref (K.2.2 24), .int a1] t (f_X9_coverOf t a1) (kRI t) := by
  refine CT_of (cc := cX9_coverOf) (maxL := 2) (ret := (some .int)) (own := RX9) (by decide +kernel) rfl rfl (Nat.le_of_ble_eq_true rfl) ?_
  intro p e s m args below meth c hc
  refine V_sub (lv' := [(0, .ref (K.2.2 24)), (1, .int a1)]) [0, 1] rfl ?_
  unfold f_X9_coverOf
  refine V_aload_n hc dX9_coverOf_0 rfl 0 rfl ?_
  refine V_iload_n hc dX9_coverOf_1 rfl 1 rfl ?_
  refine V_callV_RI (Cn := RX9) (T := TX9) (N := 28) hc (c_X9_isStack l K t (a1)) sP24 rfl 1 gX9_coverOf_X9_isStack rfl ⟨rfl, rfl⟩ (by decide) ⟨Nat.le_of_ble_eq_true rfl, Nat.le_of_ble_eq_true rfl⟩ rfl rfl (Nat.le_of_ble_eq_true rfl) dX9_coverOf_2 (fun r1 => ?_)
  refine V_if_eq (tgt := 16) hc dX9_coverOf_5 (by decide) ?_ ?_
  · refine V_iconst (v := (-1)) hc dX9_coverOf_16 (by decide) ?_
    exact V_iret hc rfl rfl dX9_coverOf_17
  · refine V_aload_n hc dX9_coverOf_8 rfl 0 rfl ?_
    refine V_iload_n hc dX9_coverOf_9 rfl 1 rfl ?_
    refine V_callV_RI (Cn := RX9) (T := TX9) (N := 28) hc (c_X9_cover l K t (a1)) sP24 rfl 1 gX9_coverOf_X9_cover rfl ⟨rfl, rfl⟩ (by decide) ⟨Nat.le_of_ble_eq_true rfl, Nat.le_of_ble_eq_true rfl⟩ rfl rfl (Nat.le_of_ble_eq_true rfl) dX9_coverOf_10 (fun r2 => ?_)
    refine V_goto (tgt := 17) hc dX9_coverOf_13 (by decide) ?_
    exact V_iret hc rfl rfl dX9_coverOf_17

theorem kX9_stackAt_32 : Cond.fieldLink RX9 32 RX9 (TX9 7).2.1 (TX9 7).2.2.1 ∈ wsX9_stackAt := by decide +kernel
theorem qX9_stackAt_RX9 : ∀ w ∈ u_ws RX9 TX9 28, w ∈ wsX9_stackAt := by
  first
  | exact fun _ h => List.mem_cons_of_mem _ (List.mem_append_right _ h)
  | exact fun _ h => List.mem_cons_of_mem _ (List.mem_append_left _ (List.mem_append_right _ h))
  | exact fun _ h => List.mem_cons_of_mem _ (List.mem_append_left _ (List.mem_append_left _ (List.mem_append_right _ h)))
  | exact fun _ h => List.mem_cons_of_mem _ (List.mem_append_left _ (List.mem_append_left _ (List.mem_append_left _ (List.mem_append_right _ h))))
  | exact fun _ h => List.mem_cons_of_mem _ (List.mem_append_left _ (List.mem_append_left _ (List.mem_append_left _ (List.mem_append_left _ (List.mem_append_right _ h)))))
  | decide +kernel
theorem kX9_stackAt_35 : Cond.fieldLink RX9 35 RX9 (TX9 8).2.1 (TX9 8).2.2.1 ∈ wsX9_stackAt := by decide +kernel
noncomputable def f_X9_stackAt (t : Sx) (a1 : Int32) (a2 : Int32) : Option Int32 := (f_X9_isStack t (a1)).bind fun r1 => if r1 = 0 then some (-1) else if 0 ≤ a2 then gd (vp_in a1 10) (if (gA t 30 (ix a1)) ≤ a2 then some (-4) else gd (vp_in ((8 * a1) + a2) 80) (some (gA t 31 (ix ((8 * a1) + a2))))) else some (-1)
set_option maxRecDepth 20000 in
set_option maxHeartbeats 4000000 in
theorem c_X9_stackAt (l : Launch) (K : Kx) (t : Sx) (a1 : Int32) (a2 : Int32) : CT l K yX9_stackAt wsX9_stackAt ({ frames := 2, cells := 0, slots := 0, locals := 43 } : Room) [.ref (K.2.2 24), .int a1, .int a2] t (f_X9_stackAt t a1 a2) (kRI t) := by
  refine CT_of (cc := cX9_stackAt) (maxL := 3) (ret := (some .int)) (own := RX9) (by decide +kernel) rfl rfl (Nat.le_of_ble_eq_true rfl) ?_
  intro p e s m args below meth c hc
  refine V_sub (lv' := [(0, .ref (K.2.2 24)), (1, .int a1), (2, .int a2)]) [0, 1, 2] rfl ?_
  unfold f_X9_stackAt
  refine V_aload_n hc dX9_stackAt_0 rfl 0 rfl ?_
  refine V_iload_n hc dX9_stackAt_1 rfl 1 rfl ?_
  refine V_callV_RI (Cn := RX9) (T := TX9) (N := 28) hc (c_X9_isStack l K t (a1)) sP24 rfl 1 gX9_stackAt_X9_isStack rfl ⟨rfl, rfl⟩ (by decide) ⟨Nat.le_of_ble_eq_true rfl, Nat.le_of_ble_eq_true rfl⟩ rfl rfl (Nat.le_of_ble_eq_true rfl) dX9_stackAt_2 (fun r1 => ?_)
  refine V_if_eq (tgt := 12) hc dX9_stackAt_5 (by decide) ?_ ?_
  · refine V_iconst (v := (-1)) hc dX9_stackAt_12 (by decide) ?_
    exact V_iret hc rfl rfl dX9_stackAt_13
  · refine V_iload_n hc dX9_stackAt_8 rfl 2 rfl ?_
    refine V_if_ge (tgt := 14) hc dX9_stackAt_9 (by decide) ?_ ?_
    · refine V_iload_n hc dX9_stackAt_14 rfl 2 rfl ?_
      refine V_aload_n hc dX9_stackAt_15 rfl 0 rfl ?_
      refine V_getr (C := RX9) (T := TX9) (N := 28) hc sP24 rfl qX9_stackAt_RX9 7 rfl (by decide) kX9_stackAt_32 rfl dX9_stackAt_16 ?_
      refine V_iload_n hc dX9_stackAt_19 rfl 1 rfl ?_
      refine V_iald hc sP32 dX9_stackAt_20 ?_
      refine V_icmp_ge (tgt := 38) hc dX9_stackAt_21 (by decide) ?_ ?_
      · refine V_bipush (v := (-4)) hc dX9_stackAt_38 (by decide) ?_
        exact V_iret hc rfl rfl dX9_stackAt_40
      · refine V_aload_n hc dX9_stackAt_24 rfl 0 rfl ?_
        refine V_getr (C := RX9) (T := TX9) (N := 28) hc sP24 rfl qX9_stackAt_RX9 8 rfl (by decide) kX9_stackAt_35 rfl dX9_stackAt_25 ?_
        refine V_bipush (v := 8) hc dX9_stackAt_28 (by decide) ?_
        refine V_iload_n hc dX9_stackAt_30 rfl 1 rfl ?_
        refine V_imul hc dX9_stackAt_31 ?_
        refine V_iload_n hc dX9_stackAt_32 rfl 2 rfl ?_
        refine V_iadd hc dX9_stackAt_33 ?_
        refine V_iald hc sP33 dX9_stackAt_34 ?_
        refine V_goto (tgt := 40) hc dX9_stackAt_35 (by decide) ?_
        exact V_iret hc rfl rfl dX9_stackAt_40
    · refine V_iconst (v := (-1)) hc dX9_stackAt_12 (by decide) ?_
      exact V_iret hc rfl rfl dX9_stackAt_13

theorem kX9_type_112 : Cond.fieldLink RX9 112 RX9 (TX9 11).2.1 (TX9 11).2.2.1 ∈ wsX9_type := by decide +kernel
theorem qX9_type_RX9 : ∀ w ∈ u_ws RX9 TX9 28, w ∈ wsX9_type := by
  first
  | exact fun _ h => List.mem_cons_of_mem _ (List.mem_append_right _ h)
  | exact fun _ h => List.mem_cons_of_mem _ (List.mem_append_left _ (List.mem_append_right _ h))
  | exact fun _ h => List.mem_cons_of_mem _ (List.mem_append_left _ (List.mem_append_left _ (List.mem_append_right _ h)))
  | exact fun _ h => List.mem_cons_of_mem _ (List.mem_append_left _ (List.mem_append_left _ (List.mem_append_left _ (List.mem_append_right _ h))))
  | exact fun _ h => List.mem_cons_of_mem _ (List.mem_append_left _ (List.mem_append_left _ (List.mem_append_left _ (List.mem_append_left _ (List.mem_append_right _ h)))))
  | decide +kernel
theorem kX9_type_44 : Cond.fieldLink RX9 44 RX9 (TX9 12).2.1 (TX9 12).2.2.1 ∈ wsX9_type := by decide +kernel
noncomputable def f_X9_type (t : Sx) (a1 : Int32) : Option (Int32 × Sx) := (f_X9_in t (a1) (33) (126)).bind fun r1 => if r1 = 0 then some ((-1), t) else if (gI t 52) = 80 then some ((-3), t) else gd (gch (i2c a1)) (gd (vp_in (gI t 52) 80) (bd (pA t 34 (ix (gI t 52)) (i2c a1)) fun t2 => bd (pI t2 52 ((gI t2 52) + 1)) fun t3 => some ((gI t3 52), t3)))
set_option maxRecDepth 20000 in
set_option maxHeartbeats 4000000 in
theorem c_X9_type (l : Launch) (K : Kx) (t : Sx) (a1 : Int32) : CT l K yX9_type wsX9_type ({ frames := 1, cells := 0, slots := 0, locals := 22 } : Room) [.ref (K.2.2 24), .int a1] t (f_X9_type t a1) kWI := by
  refine CT_of (cc := cX9_type) (maxL := 2) (ret := (some .int)) (own := RX9) (by decide +kernel) rfl rfl (Nat.le_of_ble_eq_true rfl) ?_
  intro p e s m args below meth c hc
  refine V_sub (lv' := [(0, .ref (K.2.2 24)), (1, .int a1)]) [0, 1] rfl ?_
  unfold f_X9_type
  refine V_iload_n hc dX9_type_0 rfl 1 rfl ?_
  refine V_bipush (v := 33) hc dX9_type_1 (by decide) ?_
  refine V_bipush (v := 126) hc dX9_type_3 (by decide) ?_
  refine V_callS_RI hc (c_X9_in l K t (a1) (33) (126)) 3 gX9_type_X9_in rfl ⟨rfl, rfl⟩ (by decide) ⟨Nat.le_of_ble_eq_true rfl, Nat.le_of_ble_eq_true rfl⟩ rfl rfl (Nat.le_of_ble_eq_true rfl) dX9_type_5 (fun r1 => ?_)
  refine V_if_ne (tgt := 13) hc dX9_type_8 (by decide) ?_ ?_
  · refine V_aload_n hc dX9_type_13 rfl 0 rfl ?_
    refine V_geti (C := RX9) (T := TX9) (N := 28) hc sP24 rfl qX9_type_RX9 11 rfl (by decide) kX9_type_112 rfl dX9_type_14 ?_
    refine V_bipush (v := 80) hc dX9_type_17 (by decide) ?_
    refine V_icmp_ne (tgt := 25) hc dX9_type_19 (by decide) ?_ ?_
    · refine V_aload_n hc dX9_type_25 rfl 0 rfl ?_
      refine V_getr (C := RX9) (T := TX9) (N := 28) hc sP24 rfl qX9_type_RX9 12 rfl (by decide) kX9_type_44 rfl dX9_type_26 ?_
      refine V_aload_n hc dX9_type_29 rfl 0 rfl ?_
      refine V_geti (C := RX9) (T := TX9) (N := 28) hc sP24 rfl qX9_type_RX9 11 rfl (by decide) kX9_type_112 rfl dX9_type_30 ?_
      refine V_iload_n hc dX9_type_33 rfl 1 rfl ?_
      refine V_i2c hc dX9_type_34 ?_
      refine V_cast hc sP36 dX9_type_35 ?_
      refine V_bds (fun t2 => ?_)
      refine V_aload_n hc dX9_type_36 rfl 0 rfl ?_
      refine V_dup hc dX9_type_37 rfl ?_
      refine V_geti (C := RX9) (T := TX9) (N := 28) hc sP24 rfl qX9_type_RX9 11 rfl (by decide) kX9_type_112 rfl dX9_type_38 ?_
      refine V_iconst (v := 1) hc dX9_type_41 (by decide) ?_
      refine V_iadd hc dX9_type_42 ?_
      refine V_puti (C := RX9) (T := TX9) (N := 28) hc sP24 rfl qX9_type_RX9 11 rfl (by decide) kX9_type_112 rfl tyX9 tyX9_ok nmX9 rfl (tyX9_ok 11 (by decide)) dX9_type_43 ?_
      refine V_bds (fun t3 => ?_)
      refine V_aload_n hc dX9_type_46 rfl 0 rfl ?_
      refine V_geti (C := RX9) (T := TX9) (N := 28) hc sP24 rfl qX9_type_RX9 11 rfl (by decide) kX9_type_112 rfl dX9_type_47 ?_
      exact V_iret hc rfl rfl dX9_type_50
    · refine V_bipush (v := (-3)) hc dX9_type_22 (by decide) ?_
      exact V_iret hc rfl rfl dX9_type_24
  · refine V_iconst (v := (-1)) hc dX9_type_11 (by decide) ?_
    exact V_iret hc rfl rfl dX9_type_12

theorem kX9_clearRule_112 : Cond.fieldLink RX9 112 RX9 (TX9 11).2.1 (TX9 11).2.2.1 ∈ wsX9_clearRule := by decide +kernel
theorem qX9_clearRule_RX9 : ∀ w ∈ u_ws RX9 TX9 28, w ∈ wsX9_clearRule := by
  first
  | exact fun _ h => List.mem_cons_of_mem _ (List.mem_append_right _ h)
  | exact fun _ h => List.mem_cons_of_mem _ (List.mem_append_left _ (List.mem_append_right _ h))
  | exact fun _ h => List.mem_cons_of_mem _ (List.mem_append_left _ (List.mem_append_left _ (List.mem_append_right _ h)))
  | exact fun _ h => List.mem_cons_of_mem _ (List.mem_append_left _ (List.mem_append_left _ (List.mem_append_left _ (List.mem_append_right _ h))))
  | exact fun _ h => List.mem_cons_of_mem _ (List.mem_append_left _ (List.mem_append_left _ (List.mem_append_left _ (List.mem_append_left _ (List.mem_append_right _ h)))))
  | decide +kernel
noncomputable def f_X9_clearRule (t : Sx)  : Option (Int32 × Sx) := bd (pI t 52 0) fun t1 => some ((gI t 52), t1)
set_option maxRecDepth 20000 in
set_option maxHeartbeats 4000000 in
theorem c_X9_clearRule (l : Launch) (K : Kx) (t : Sx)  : CT l K yX9_clearRule wsX9_clearRule ({ frames := 0, cells := 0, slots := 0, locals := 0 } : Room) [.ref (K.2.2 24)] t (f_X9_clearRule t ) kWI := by
  refine CT_of (cc := cX9_clearRule) (maxL := 2) (ret := (some .int)) (own := RX9) (by decide +kernel) rfl rfl (Nat.le_of_ble_eq_true rfl) ?_
  intro p e s m args below meth c hc
  refine V_sub (lv' := [(0, .ref (K.2.2 24))]) [0] rfl ?_
  unfold f_X9_clearRule
  refine V_aload_n hc dX9_clearRule_0 rfl 0 rfl ?_
  refine V_geti (C := RX9) (T := TX9) (N := 28) hc sP24 rfl qX9_clearRule_RX9 11 rfl (by decide) kX9_clearRule_112 rfl dX9_clearRule_1 ?_
  refine V_istore_n (lv' := [(1, .int (gI t 52)), (0, .ref (K.2.2 24))]) hc dX9_clearRule_4 rfl (by decide) rfl ?_
  refine V_aload_n hc dX9_clearRule_5 rfl 1 rfl ?_
  refine V_iconst (v := 0) hc dX9_clearRule_6 (by decide) ?_
  refine V_puti (C := RX9) (T := TX9) (N := 28) hc sP24 rfl qX9_clearRule_RX9 11 rfl (by decide) kX9_clearRule_112 rfl tyX9 tyX9_ok nmX9 rfl (tyX9_ok 11 (by decide)) dX9_clearRule_7 ?_
  refine V_bds (fun t1 => ?_)
  refine V_iload_n hc dX9_clearRule_10 rfl 0 rfl ?_
  exact V_iret hc rfl rfl dX9_clearRule_11


noncomputable def f_X9_satisfies (t : Sx) (a1 : Int32) : Option (Int32 × Sx) := (f_X9_there t (a1)).bind fun r1 => if r1 = 0 then some ((-1), t) else (f_X9_isRule t (8)).bind fun r2 => if r2.1 = 0 then some ((-2), r2.2) else (f_X9_isRight r2.2 (a1)).bind fun r3 => if r3.1 = 0 then some (0, r3.2) else some (1, r3.2)
set_option maxRecDepth 20000 in
set_option maxHeartbeats 4000000 in
theorem c_X9_satisfies (l : Launch) (K : Kx) (t : Sx) (a1 : Int32) : CT l K yX9_satisfies wsX9_satisfies ({ frames := 7, cells := 0, slots := 0, locals := 161 } : Room) [.ref (K.2.2 24), .int a1] t (f_X9_satisfies t a1) kWI := by
  refine CT_of (cc := cX9_satisfies) (maxL := 2) (ret := (some .int)) (own := RX9) (by decide +kernel) rfl rfl (Nat.le_of_ble_eq_true rfl) ?_
  intro p e s m args below meth c hc
  refine V_sub (lv' := [(0, .ref (K.2.2 24)), (1, .int a1)]) [0, 1] rfl ?_
  unfold f_X9_satisfies
  refine V_aload_n hc dX9_satisfies_0 rfl 0 rfl ?_
  refine V_iload_n hc dX9_satisfies_1 rfl 1 rfl ?_
  refine V_callV_RI (Cn := RX9) (T := TX9) (N := 28) hc (c_X9_there l K t (a1)) sP24 rfl 1 gX9_satisfies_X9_there rfl ⟨rfl, rfl⟩ (by decide) ⟨Nat.le_of_ble_eq_true rfl, Nat.le_of_ble_eq_true rfl⟩ rfl rfl (Nat.le_of_ble_eq_true rfl) dX9_satisfies_2 (fun r1 => ?_)
  refine V_if_ne (tgt := 10) hc dX9_satisfies_5 (by decide) ?_ ?_
  · refine V_aload_n hc dX9_satisfies_10 rfl 0 rfl ?_
    refine V_bipush (v := 8) hc dX9_satisfies_11 (by decide) ?_
    refine V_callV_WI (Cn := RX9) (T := TX9) (N := 28) hc (c_X9_isRule l K t (8)) sP24 rfl 1 gX9_satisfies_X9_isRule rfl ⟨rfl, rfl⟩ (by decide) ⟨Nat.le_of_ble_eq_true rfl, Nat.le_of_ble_eq_true rfl⟩ rfl rfl (Nat.le_of_ble_eq_true rfl) dX9_satisfies_13 (fun r2 => ?_)
    refine V_if_ne (tgt := 24) hc dX9_satisfies_16 (by decide) ?_ ?_
    · refine V_aload_n hc dX9_satisfies_24 rfl 0 rfl ?_
      refine V_iload_n hc dX9_satisfies_25 rfl 1 rfl ?_
      refine V_callV_WI (Cn := RX9) (T := TX9) (N := 28) hc (c_X9_isRight l K r2.2 (a1)) sP24 rfl 1 gX9_satisfies_X9_isRight rfl ⟨rfl, rfl⟩ (by decide) ⟨Nat.le_of_ble_eq_true rfl, Nat.le_of_ble_eq_true rfl⟩ rfl rfl (Nat.le_of_ble_eq_true rfl) dX9_satisfies_26 (fun r3 => ?_)
      refine V_if_eq (tgt := 36) hc dX9_satisfies_29 (by decide) ?_ ?_
      · refine V_iconst (v := 0) hc dX9_satisfies_36 (by decide) ?_
        exact V_iret hc rfl rfl dX9_satisfies_37
      · refine V_iconst (v := 1) hc dX9_satisfies_32 (by decide) ?_
        refine V_goto (tgt := 37) hc dX9_satisfies_33 (by decide) ?_
        exact V_iret hc rfl rfl dX9_satisfies_37
    · refine V_bipush (v := (-2)) hc dX9_satisfies_19 (by decide) ?_
      refine V_goto (tgt := 37) hc dX9_satisfies_21 (by decide) ?_
      exact V_iret hc rfl rfl dX9_satisfies_37
  · refine V_iconst (v := (-1)) hc dX9_satisfies_8 (by decide) ?_
    exact V_iret hc rfl rfl dX9_satisfies_9

theorem kX9_select_7 : Cond.fieldLink RX9 7 RX9 (TX9 0).2.1 (TX9 0).2.2.1 ∈ wsX9_select := by decide +kernel
theorem qX9_select_RX9 : ∀ w ∈ u_ws RX9 TX9 28, w ∈ wsX9_select := by
  first
  | exact fun _ h => List.mem_cons_of_mem _ (List.mem_append_right _ h)
  | exact fun _ h => List.mem_cons_of_mem _ (List.mem_append_left _ (List.mem_append_right _ h))
  | exact fun _ h => List.mem_cons_of_mem _ (List.mem_append_left _ (List.mem_append_left _ (List.mem_append_right _ h)))
  | exact fun _ h => List.mem_cons_of_mem _ (List.mem_append_left _ (List.mem_append_left _ (List.mem_append_left _ (List.mem_append_right _ h))))
  | exact fun _ h => List.mem_cons_of_mem _ (List.mem_append_left _ (List.mem_append_left _ (List.mem_append_left _ (List.mem_append_left _ (List.mem_append_right _ h)))))
  | decide +kernel
noncomputable def L_X9_select_16  (kont : Int32 → Int32 → Sx → Option (Int32 × Sx)) : Nat → Int32 → Int32 → Sx → Option (Int32 × Sx)
  | 0, _, _, _ => none
  | n + 1, x1 , x2, y => if 40 ≤ x2 then kont (x1) (x2) (y) else gd (vp_in x2 40) (if (gA y 23 (ix x2)) = 0 then L_X9_select_16  kont n ((x1 + 0)) ((x2 + 1)) (y) else (f_X9_isRight y (x2)).bind fun r2 => if r2.1 = 0 then L_X9_select_16  kont n ((x1 + 0)) ((x2 + 1)) (r2.2) else L_X9_select_16  kont n ((x1 + 1)) ((x2 + 1)) (r2.2))
set_option maxRecDepth 20000 in
set_option maxHeartbeats 4000000 in
theorem L_X9_select_16_ok {p : Program} {l : Launch} {K : Kx} {e : Env} {s : State} {m : MethodId} {args : Array Value} {below : List Frame} {meth : Method} {c : Code} (hc : Cx p ({ frames := 7, cells := 0, slots := 0, locals := 161 } : Room) s m args meth c cX9_select 3 wsX9_select RX9 K (aA K s.heap.size) (some .int) 0 0)  (kont : Int32 → Int32 → Sx → Option (Int32 × Sx)) (hk : ∀ x1 x2 y, V p l e ({ frames := 7, cells := 0, slots := 0, locals := 161 } : Room) s m args below meth c K (aA K s.heap.size) 0 0 3 (QM below K args s kWI) 53 [(0, .ref (K.2.2 24)), (1, .int x1), (2, .int x2)] [] y (kont x1 x2 y)) : ∀ (n : Nat) (x1 : Int32) (x2 : Int32) (y : Sx), V p l e ({ frames := 7, cells := 0, slots := 0, locals := 161 } : Room) s m args below meth c K (aA K s.heap.size) 0 0 3 (QM below K args s kWI) 16 [(0, .ref (K.2.2 24)), (1, .int x1), (2, .int x2)] [] y (L_X9_select_16  kont n x1 x2 y) := by
  intro n
  induction n with
  | zero => intro x1 x2 y; exact V_none
  | succ n ih =>
    intro x1 x2 y
    rw [L_X9_select_16]
    refine V_iload_n hc dX9_select_16 rfl 2 rfl ?_
    refine V_bipush (v := 40) hc dX9_select_17 (by decide) ?_
    refine V_icmp_ge (tgt := 53) hc dX9_select_19 (by decide) ?_ ?_
    · exact V_sub [0, 1, 2] rfl (hk _ _ _)
    · refine V_iload_n hc dX9_select_22 rfl 1 rfl ?_
      refine V_aload_n hc dX9_select_23 rfl 0 rfl ?_
      refine V_getr (C := RX9) (T := TX9) (N := 28) hc sP24 rfl qX9_select_RX9 0 rfl (by decide) kX9_select_7 rfl dX9_select_24 ?_
      refine V_iload_n hc dX9_select_27 rfl 2 rfl ?_
      refine V_zald hc sP25 dX9_select_28 ?_
      refine V_if_eq (tgt := 44) hc dX9_select_29 (by decide) ?_ ?_
      · refine V_iconst (v := 0) hc dX9_select_44 (by decide) ?_
        refine V_iadd hc dX9_select_45 ?_
        refine V_istore_n (lv' := [(1, .int (x1 + 0)), (0, .ref (K.2.2 24)), (2, .int x2)]) hc dX9_select_46 rfl (by decide) rfl ?_
        refine V_iinc (v := (x2 + 1)) (lv' := [(2, .int (x2 + 1)), (1, .int (x1 + 0)), (0, .ref (K.2.2 24))]) hc dX9_select_47 2 rfl rfl (by decide) rfl ?_
        refine V_goto (tgt := 16) hc dX9_select_50 (by decide) ?_
        exact V_sub [2, 1, 0] rfl (ih _ _ _)
      · refine V_aload_n hc dX9_select_32 rfl 0 rfl ?_
        refine V_iload_n hc dX9_select_33 rfl 2 rfl ?_
        refine V_callV_WI (Cn := RX9) (T := TX9) (N := 28) hc (c_X9_isRight l K y (x2)) sP24 rfl 1 gX9_select_X9_isRight rfl ⟨rfl, rfl⟩ (by decide) ⟨Nat.le_of_ble_eq_true rfl, Nat.le_of_ble_eq_true rfl⟩ rfl rfl (Nat.le_of_ble_eq_true rfl) dX9_select_34 (fun r2 => ?_)
        refine V_if_eq (tgt := 44) hc dX9_select_37 (by decide) ?_ ?_
        · refine V_iconst (v := 0) hc dX9_select_44 (by decide) ?_
          refine V_iadd hc dX9_select_45 ?_
          refine V_istore_n (lv' := [(1, .int (x1 + 0)), (0, .ref (K.2.2 24)), (2, .int x2)]) hc dX9_select_46 rfl (by decide) rfl ?_
          refine V_iinc (v := (x2 + 1)) (lv' := [(2, .int (x2 + 1)), (1, .int (x1 + 0)), (0, .ref (K.2.2 24))]) hc dX9_select_47 2 rfl rfl (by decide) rfl ?_
          refine V_goto (tgt := 16) hc dX9_select_50 (by decide) ?_
          exact V_sub [2, 1, 0] rfl (ih _ _ _)
        · refine V_iconst (v := 1) hc dX9_select_40 (by decide) ?_
          refine V_goto (tgt := 45) hc dX9_select_41 (by decide) ?_
          refine V_iadd hc dX9_select_45 ?_
          refine V_istore_n (lv' := [(1, .int (x1 + 1)), (0, .ref (K.2.2 24)), (2, .int x2)]) hc dX9_select_46 rfl (by decide) rfl ?_
          refine V_iinc (v := (x2 + 1)) (lv' := [(2, .int (x2 + 1)), (1, .int (x1 + 1)), (0, .ref (K.2.2 24))]) hc dX9_select_47 2 rfl rfl (by decide) rfl ?_
          refine V_goto (tgt := 16) hc dX9_select_50 (by decide) ?_
          exact V_sub [2, 1, 0] rfl (ih _ _ _)
noncomputable def f_X9_select (t : Sx)  : Option (Int32 × Sx) := (f_X9_isRule t (8)).bind fun r1 => if r1.1 = 0 then some ((-2), r1.2) else L_X9_select_16  (fun z3 z4 t5 => some (z3, t5)) FU (0) (0) (r1.2)
set_option maxRecDepth 20000 in
set_option maxHeartbeats 4000000 in
theorem c_X9_select (l : Launch) (K : Kx) (t : Sx)  : CT l K yX9_select wsX9_select ({ frames := 7, cells := 0, slots := 0, locals := 161 } : Room) [.ref (K.2.2 24)] t (f_X9_select t ) kWI := by
  refine CT_of (cc := cX9_select) (maxL := 3) (ret := (some .int)) (own := RX9) (by decide +kernel) rfl rfl (Nat.le_of_ble_eq_true rfl) ?_
  intro p e s m args below meth c hc
  refine V_sub (lv' := [(0, .ref (K.2.2 24))]) [0] rfl ?_
  unfold f_X9_select
  refine V_aload_n hc dX9_select_0 rfl 0 rfl ?_
  refine V_bipush (v := 8) hc dX9_select_1 (by decide) ?_
  refine V_callV_WI (Cn := RX9) (T := TX9) (N := 28) hc (c_X9_isRule l K t (8)) sP24 rfl 1 gX9_select_X9_isRule rfl ⟨rfl, rfl⟩ (by decide) ⟨Nat.le_of_ble_eq_true rfl, Nat.le_of_ble_eq_true rfl⟩ rfl rfl (Nat.le_of_ble_eq_true rfl) dX9_select_3 (fun r1 => ?_)
  refine V_if_ne (tgt := 12) hc dX9_select_6 (by decide) ?_ ?_
  · refine V_iconst (v := 0) hc dX9_select_12 (by decide) ?_
    refine V_istore_n (lv' := [(1, .int 0), (0, .ref (K.2.2 24))]) hc dX9_select_13 rfl (by decide) rfl ?_
    refine V_iconst (v := 0) hc dX9_select_14 (by decide) ?_
    refine V_istore_n (lv' := [(2, .int 0), (1, .int 0), (0, .ref (K.2.2 24))]) hc dX9_select_15 rfl (by decide) rfl ?_
    refine V_sub (lv' := [(0, .ref (K.2.2 24)), (1, .int 0), (2, .int 0)]) [2, 1, 0] rfl ?_
    refine L_X9_select_16_ok hc  _ (fun z3 z4 t5 => ?_) FU _ _ _
    refine V_iload_n hc dX9_select_53 rfl 1 rfl ?_
    exact V_iret hc rfl rfl dX9_select_54
  · refine V_bipush (v := (-2)) hc dX9_select_9 (by decide) ?_
    exact V_iret hc rfl rfl dX9_select_11

theorem kX9_there8_48 : Cond.fieldLink RX9 48 RX9 (TX9 13).2.1 (TX9 13).2.2.1 ∈ wsX9_there8 := by decide +kernel
theorem qX9_there8_RX9 : ∀ w ∈ u_ws RX9 TX9 28, w ∈ wsX9_there8 := by
  first
  | exact fun _ h => List.mem_cons_of_mem _ (List.mem_append_right _ h)
  | exact fun _ h => List.mem_cons_of_mem _ (List.mem_append_left _ (List.mem_append_right _ h))
  | exact fun _ h => List.mem_cons_of_mem _ (List.mem_append_left _ (List.mem_append_left _ (List.mem_append_right _ h)))
  | exact fun _ h => List.mem_cons_of_mem _ (List.mem_append_left _ (List.mem_append_left _ (List.mem_append_left _ (List.mem_append_right _ h))))
  | exact fun _ h => List.mem_cons_of_mem _ (List.mem_append_left _ (List.mem_append_left _ (List.mem_append_left _ (List.mem_append_left _ (List.mem_append_right _ h)))))
  | decide +kernel
noncomputable def f_X9_there8 (t : Sx) (a1 : Int32) : Option Int32 := (f_X9_in t (a1) (0) (7)).bind fun r1 => if r1 = 0 then some 0 else gd (vp_in a1 8) (if (gA t 35 (ix a1)) = 0 then some 0 else some 1)
set_option maxRecDepth 20000 in
set_option maxHeartbeats 4000000 in
theorem c_X9_there8 (l : Launch) (K : Kx) (t : Sx) (a1 : Int32) : CT l K yX9_there8 wsX9_there8 ({ frames := 1, cells := 0, slots := 0, locals := 22 } : Room) [.ref (K.2.2 24), .int a1] t (f_X9_there8 t a1) (kRI t) := by
  refine CT_of (cc := cX9_there8) (maxL := 2) (ret := (some .boolean)) (own := RX9) (by decide +kernel) rfl rfl (Nat.le_of_ble_eq_true rfl) ?_
  intro p e s m args below meth c hc
  refine V_sub (lv' := [(0, .ref (K.2.2 24)), (1, .int a1)]) [0, 1] rfl ?_
  unfold f_X9_there8
  refine V_iload_n hc dX9_there8_0 rfl 1 rfl ?_
  refine V_iconst (v := 0) hc dX9_there8_1 (by decide) ?_
  refine V_bipush (v := 7) hc dX9_there8_2 (by decide) ?_
  refine V_callS_RI hc (c_X9_in l K t (a1) (0) (7)) 3 gX9_there8_X9_in rfl ⟨rfl, rfl⟩ (by decide) ⟨Nat.le_of_ble_eq_true rfl, Nat.le_of_ble_eq_true rfl⟩ rfl rfl (Nat.le_of_ble_eq_true rfl) dX9_there8_4 (fun r1 => ?_)
  refine V_if_eq (tgt := 23) hc dX9_there8_7 (by decide) ?_ ?_
  · refine V_iconst (v := 0) hc dX9_there8_23 (by decide) ?_
    exact V_nret hc rfl rfl rfl dX9_there8_24
  · refine V_aload_n hc dX9_there8_10 rfl 0 rfl ?_
    refine V_getr (C := RX9) (T := TX9) (N := 28) hc sP24 rfl qX9_there8_RX9 13 rfl (by decide) kX9_there8_48 rfl dX9_there8_11 ?_
    refine V_iload_n hc dX9_there8_14 rfl 1 rfl ?_
    refine V_zald hc sP37 dX9_there8_15 ?_
    refine V_if_eq (tgt := 23) hc dX9_there8_16 (by decide) ?_ ?_
    · refine V_iconst (v := 0) hc dX9_there8_23 (by decide) ?_
      exact V_nret hc rfl rfl rfl dX9_there8_24
    · refine V_iconst (v := 1) hc dX9_there8_19 (by decide) ?_
      refine V_goto (tgt := 24) hc dX9_there8_20 (by decide) ?_
      exact V_nret hc rfl rfl rfl dX9_there8_24

theorem kX9_rules_51 : Cond.fieldLink RX9 51 RX9 (TX9 14).2.1 (TX9 14).2.2.1 ∈ wsX9_rules := by decide +kernel
theorem qX9_rules_RX9 : ∀ w ∈ u_ws RX9 TX9 28, w ∈ wsX9_rules := by
  first
  | exact fun _ h => List.mem_cons_of_mem _ (List.mem_append_right _ h)
  | exact fun _ h => List.mem_cons_of_mem _ (List.mem_append_left _ (List.mem_append_right _ h))
  | exact fun _ h => List.mem_cons_of_mem _ (List.mem_append_left _ (List.mem_append_left _ (List.mem_append_right _ h)))
  | exact fun _ h => List.mem_cons_of_mem _ (List.mem_append_left _ (List.mem_append_left _ (List.mem_append_left _ (List.mem_append_right _ h))))
  | exact fun _ h => List.mem_cons_of_mem _ (List.mem_append_left _ (List.mem_append_left _ (List.mem_append_left _ (List.mem_append_left _ (List.mem_append_right _ h)))))
  | decide +kernel
theorem kX9_rules_112 : Cond.fieldLink RX9 112 RX9 (TX9 11).2.1 (TX9 11).2.2.1 ∈ wsX9_rules := by decide +kernel
theorem kX9_rules_54 : Cond.fieldLink RX9 54 RX9 (TX9 15).2.1 (TX9 15).2.2.1 ∈ wsX9_rules := by decide +kernel
theorem kX9_rules_44 : Cond.fieldLink RX9 44 RX9 (TX9 12).2.1 (TX9 12).2.2.1 ∈ wsX9_rules := by decide +kernel
noncomputable def L_X9_rules_12 (b1 : Int32) (kont : Int32 → Sx → Option Sx) : Nat → Int32 → Sx → Option Sx
  | 0, _, _ => none
  | n + 1, x2, y => if (gI y 52) ≤ x2 then kont (x2) (y) else gd (vp_in x2 80) (gd (gch (gA y 34 (ix x2))) (gd (vp_in ((80 * b1) + x2) 640) (bd (pA y 37 (ix ((80 * b1) + x2)) (gA y 34 (ix x2))) fun t2 => L_X9_rules_12 b1 kont n ((x2 + 1)) (t2))))
set_option maxRecDepth 20000 in
set_option maxHeartbeats 4000000 in
theorem L_X9_rules_12_ok {p : Program} {l : Launch} {K : Kx} {e : Env} {s : State} {m : MethodId} {args : Array Value} {below : List Frame} {meth : Method} {c : Code} (hc : Cx p ({ frames := 0, cells := 0, slots := 0, locals := 0 } : Room) s m args meth c cX9_rules 3 wsX9_rules RX9 K (aA K s.heap.size) none 0 0) (b1 : Int32) (kont : Int32 → Sx → Option Sx) (hk : ∀ x2 y, V p l e ({ frames := 0, cells := 0, slots := 0, locals := 0 } : Room) s m args below meth c K (aA K s.heap.size) 0 0 3 (QM below K args s kWV) 43 [(0, .ref (K.2.2 24)), (1, .int b1), (2, .int x2)] [] y (kont x2 y)) : ∀ (n : Nat) (x2 : Int32) (y : Sx), V p l e ({ frames := 0, cells := 0, slots := 0, locals := 0 } : Room) s m args below meth c K (aA K s.heap.size) 0 0 3 (QM below K args s kWV) 12 [(0, .ref (K.2.2 24)), (1, .int b1), (2, .int x2)] [] y (L_X9_rules_12 b1 kont n x2 y) := by
  intro n
  induction n with
  | zero => intro x2 y; exact V_none
  | succ n ih =>
    intro x2 y
    rw [L_X9_rules_12]
    refine V_iload_n hc dX9_rules_12 rfl 2 rfl ?_
    refine V_aload_n hc dX9_rules_13 rfl 0 rfl ?_
    refine V_geti (C := RX9) (T := TX9) (N := 28) hc sP24 rfl qX9_rules_RX9 11 rfl (by decide) kX9_rules_112 rfl dX9_rules_14 ?_
    refine V_icmp_ge (tgt := 43) hc dX9_rules_17 (by decide) ?_ ?_
    · exact V_sub [0, 1, 2] rfl (hk _ _)
    · refine V_aload_n hc dX9_rules_20 rfl 0 rfl ?_
      refine V_getr (C := RX9) (T := TX9) (N := 28) hc sP24 rfl qX9_rules_RX9 15 rfl (by decide) kX9_rules_54 rfl dX9_rules_21 ?_
      refine V_bipush (v := 80) hc dX9_rules_24 (by decide) ?_
      refine V_iload_n hc dX9_rules_26 rfl 1 rfl ?_
      refine V_imul hc dX9_rules_27 ?_
      refine V_iload_n hc dX9_rules_28 rfl 2 rfl ?_
      refine V_iadd hc dX9_rules_29 ?_
      refine V_aload_n hc dX9_rules_30 rfl 0 rfl ?_
      refine V_getr (C := RX9) (T := TX9) (N := 28) hc sP24 rfl qX9_rules_RX9 12 rfl (by decide) kX9_rules_44 rfl dX9_rules_31 ?_
      refine V_iload_n hc dX9_rules_34 rfl 2 rfl ?_
      refine V_cald hc sP36 dX9_rules_35 ?_
      refine V_cast hc sP39 dX9_rules_36 ?_
      refine V_bds (fun t2 => ?_)
      refine V_iinc (v := (x2 + 1)) (lv' := [(2, .int (x2 + 1)), (0, .ref (K.2.2 24)), (1, .int b1)]) hc dX9_rules_37 2 rfl rfl (by decide) rfl ?_
      refine V_goto (tgt := 12) hc dX9_rules_40 (by decide) ?_
      exact V_sub [1, 2, 0] rfl (ih _ _)
noncomputable def f_X9_rules (t : Sx) (a1 : Int32) : Option Sx := gd (vp_in a1 8) (bd (pA t 36 (ix a1) (gI t 52)) fun t1 => L_X9_rules_12 (a1) (fun z3 t4 => some t4) FU (0) (t1))
set_option maxRecDepth 20000 in
set_option maxHeartbeats 4000000 in
theorem c_X9_rules (l : Launch) (K : Kx) (t : Sx) (a1 : Int32) : CT l K yX9_rules wsX9_rules ({ frames := 0, cells := 0, slots := 0, locals := 0 } : Room) [.ref (K.2.2 24), .int a1] t (f_X9_rules t a1) kWV := by
  refine CT_of (cc := cX9_rules) (maxL := 3) (ret := none) (own := RX9) (by decide +kernel) rfl rfl (Nat.le_of_ble_eq_true rfl) ?_
  intro p e s m args below meth c hc
  refine V_sub (lv' := [(0, .ref (K.2.2 24)), (1, .int a1)]) [0, 1] rfl ?_
  unfold f_X9_rules
  refine V_aload_n hc dX9_rules_0 rfl 0 rfl ?_
  refine V_getr (C := RX9) (T := TX9) (N := 28) hc sP24 rfl qX9_rules_RX9 14 rfl (by decide) kX9_rules_51 rfl dX9_rules_1 ?_
  refine V_iload_n hc dX9_rules_4 rfl 1 rfl ?_
  refine V_aload_n hc dX9_rules_5 rfl 0 rfl ?_
  refine V_geti (C := RX9) (T := TX9) (N := 28) hc sP24 rfl qX9_rules_RX9 11 rfl (by decide) kX9_rules_112 rfl dX9_rules_6 ?_
  refine V_iast hc sP38 dX9_rules_9 ?_
  refine V_bds (fun t1 => ?_)
  refine V_iconst (v := 0) hc dX9_rules_10 (by decide) ?_
  refine V_istore_n (lv' := [(2, .int 0), (0, .ref (K.2.2 24)), (1, .int a1)]) hc dX9_rules_11 rfl (by decide) rfl ?_
  refine V_sub (lv' := [(0, .ref (K.2.2 24)), (1, .int a1), (2, .int 0)]) [1, 2, 0] rfl ?_
  refine L_X9_rules_12_ok hc (a1) _ (fun z3 t4 => ?_) FU _ _
  exact V_vret hc rfl rfl dX9_rules_43

theorem kX9_makeAlbum_48 : Cond.fieldLink RX9 48 RX9 (TX9 13).2.1 (TX9 13).2.2.1 ∈ wsX9_makeAlbum := by decide +kernel
theorem qX9_makeAlbum_RX9 : ∀ w ∈ u_ws RX9 TX9 28, w ∈ wsX9_makeAlbum := by
  first
  | exact fun _ h => List.mem_cons_of_mem _ (List.mem_append_right _ h)
  | exact fun _ h => List.mem_cons_of_mem _ (List.mem_append_left _ (List.mem_append_right _ h))
  | exact fun _ h => List.mem_cons_of_mem _ (List.mem_append_left _ (List.mem_append_left _ (List.mem_append_right _ h)))
  | exact fun _ h => List.mem_cons_of_mem _ (List.mem_append_left _ (List.mem_append_left _ (List.mem_append_left _ (List.mem_append_right _ h))))
  | exact fun _ h => List.mem_cons_of_mem _ (List.mem_append_left _ (List.mem_append_left _ (List.mem_append_left _ (List.mem_append_left _ (List.mem_append_right _ h)))))
  | decide +kernel
theorem kX9_makeAlbum_57 : Cond.fieldLink RX9 57 RX9 (TX9 16).2.1 (TX9 16).2.2.1 ∈ wsX9_makeAlbum := by decide +kernel
theorem kX9_makeAlbum_61 : Cond.fieldLink RX9 61 RX9 (TX9 17).2.1 (TX9 17).2.2.1 ∈ wsX9_makeAlbum := by decide +kernel
theorem kX9_makeAlbum_64 : Cond.fieldLink RX9 64 RX9 (TX9 18).2.1 (TX9 18).2.2.1 ∈ wsX9_makeAlbum := by decide +kernel
theorem kX9_makeAlbum_67 : Cond.fieldLink RX9 67 RX9 (TX9 19).2.1 (TX9 19).2.2.1 ∈ wsX9_makeAlbum := by decide +kernel
noncomputable def L_X9_makeAlbum_2 (t0 : Sx) (kont : Int32 → Option (Int32 × Sx)) : Nat → Int32 → Option (Int32 × Sx)
  | 0, _ => none
  | n + 1, x1 => if 8 ≤ x1 then kont (x1) else gd (vp_in x1 8) (if (gA t0 35 (ix x1)) = 0 then kont (x1) else L_X9_makeAlbum_2 t0 kont n ((x1 + 1)))
set_option maxRecDepth 20000 in
set_option maxHeartbeats 4000000 in
theorem L_X9_makeAlbum_2_ok {p : Program} {l : Launch} {K : Kx} {e : Env} {s : State} {m : MethodId} {args : Array Value} {below : List Frame} {meth : Method} {c : Code} (hc : Cx p ({ frames := 9, cells := 0, slots := 0, locals := 207 } : Room) s m args meth c cX9_makeAlbum 2 wsX9_makeAlbum RX9 K (aA K s.heap.size) (some .int) 0 0) (t0 : Sx) (kont : Int32 → Option (Int32 × Sx)) (hk : ∀ x1, V p l e ({ frames := 9, cells := 0, slots := 0, locals := 207 } : Room) s m args below meth c K (aA K s.heap.size) 0 0 2 (QM below K args s kWI) 23 [(0, .ref (K.2.2 24)), (1, .int x1)] [] t0 (kont x1)) : ∀ (n : Nat) (x1 : Int32), V p l e ({ frames := 9, cells := 0, slots := 0, locals := 207 } : Room) s m args below meth c K (aA K s.heap.size) 0 0 2 (QM below K args s kWI) 2 [(0, .ref (K.2.2 24)), (1, .int x1)] [] t0 (L_X9_makeAlbum_2 t0 kont n x1) := by
  intro n
  induction n with
  | zero => intro x1; exact V_none
  | succ n ih =>
    intro x1
    rw [L_X9_makeAlbum_2]
    refine V_iload_n hc dX9_makeAlbum_2 rfl 1 rfl ?_
    refine V_bipush (v := 8) hc dX9_makeAlbum_3 (by decide) ?_
    refine V_icmp_ge (tgt := 23) hc dX9_makeAlbum_5 (by decide) ?_ ?_
    · exact V_sub [0, 1] rfl (hk _)
    · refine V_aload_n hc dX9_makeAlbum_8 rfl 0 rfl ?_
      refine V_getr (C := RX9) (T := TX9) (N := 28) hc sP24 rfl qX9_makeAlbum_RX9 13 rfl (by decide) kX9_makeAlbum_48 rfl dX9_makeAlbum_9 ?_
      refine V_iload_n hc dX9_makeAlbum_12 rfl 1 rfl ?_
      refine V_zald hc sP37 dX9_makeAlbum_13 ?_
      refine V_if_eq (tgt := 23) hc dX9_makeAlbum_14 (by decide) ?_ ?_
      · exact V_sub [0, 1] rfl (hk _)
      · refine V_iinc (v := (x1 + 1)) (lv' := [(1, .int (x1 + 1)), (0, .ref (K.2.2 24))]) hc dX9_makeAlbum_17 1 rfl rfl (by decide) rfl ?_
        refine V_goto (tgt := 2) hc dX9_makeAlbum_20 (by decide) ?_
        exact V_sub [1, 0] rfl (ih _)
noncomputable def f_X9_makeAlbum (t : Sx)  : Option (Int32 × Sx) := L_X9_makeAlbum_2 t (fun z1 => (f_X9_isRule t (z1)).bind fun r2 => if r2.1 = 0 then some ((-2), r2.2) else if z1 = 8 then some ((-3), r2.2) else (f_X9_rules r2.2 (z1)).bind fun r3 => gd (vp_in z1 8) (bd (pA r3 35 (ix z1) 1) fun t4 => gd (vp_in z1 8) (bd (pM t4 2 (ix z1) 0) fun t5 => gd (vp_in z1 8) (bd (pA t5 38 (ix z1) 1) fun t6 => gd (vp_in z1 8) (bd (pA t6 39 (ix z1) 1) fun t7 => gd (vp_in (2 * z1) 16) (bd (pA t7 40 (ix (2 * z1)) 0) fun t8 => gd (vp_in ((2 * z1) + 1) 16) (bd (pA t8 40 (ix ((2 * z1) + 1)) 0) fun t9 => (f_X9_settled t9 (z1)).bind fun r10 => some (r10.1, r10.2)))))))) FU (0)
set_option maxRecDepth 20000 in
set_option maxHeartbeats 4000000 in
theorem c_X9_makeAlbum (l : Launch) (K : Kx) (t : Sx)  : CT l K yX9_makeAlbum wsX9_makeAlbum ({ frames := 9, cells := 0, slots := 0, locals := 207 } : Room) [.ref (K.2.2 24)] t (f_X9_makeAlbum t ) kWI := by
  refine CT_of (cc := cX9_makeAlbum) (maxL := 2) (ret := (some .int)) (own := RX9) (by decide +kernel) rfl rfl (Nat.le_of_ble_eq_true rfl) ?_
  intro p e s m args below meth c hc
  refine V_sub (lv' := [(0, .ref (K.2.2 24))]) [0] rfl ?_
  unfold f_X9_makeAlbum
  refine V_iconst (v := 0) hc dX9_makeAlbum_0 (by decide) ?_
  refine V_istore_n (lv' := [(1, .int 0), (0, .ref (K.2.2 24))]) hc dX9_makeAlbum_1 rfl (by decide) rfl ?_
  refine V_sub (lv' := [(0, .ref (K.2.2 24)), (1, .int 0)]) [1, 0] rfl ?_
  refine L_X9_makeAlbum_2_ok hc t _ (fun z1 => ?_) FU _
  refine V_aload_n hc dX9_makeAlbum_23 rfl 0 rfl ?_
  refine V_iload_n hc dX9_makeAlbum_24 rfl 1 rfl ?_
  refine V_callV_WI (Cn := RX9) (T := TX9) (N := 28) hc (c_X9_isRule l K t (z1)) sP24 rfl 1 gX9_makeAlbum_X9_isRule rfl ⟨rfl, rfl⟩ (by decide) ⟨Nat.le_of_ble_eq_true rfl, Nat.le_of_ble_eq_true rfl⟩ rfl rfl (Nat.le_of_ble_eq_true rfl) dX9_makeAlbum_25 (fun r2 => ?_)
  refine V_if_ne (tgt := 34) hc dX9_makeAlbum_28 (by decide) ?_ ?_
  · refine V_iload_n hc dX9_makeAlbum_34 rfl 1 rfl ?_
    refine V_bipush (v := 8) hc dX9_makeAlbum_35 (by decide) ?_
    refine V_icmp_ne (tgt := 43) hc dX9_makeAlbum_37 (by decide) ?_ ?_
    · refine V_aload_n hc dX9_makeAlbum_43 rfl 0 rfl ?_
      refine V_iload_n hc dX9_makeAlbum_44 rfl 1 rfl ?_
      refine V_callV_WV (Cn := RX9) (T := TX9) (N := 28) hc (c_X9_rules l K r2.2 (z1)) sP24 rfl 1 gX9_makeAlbum_X9_rules rfl ⟨rfl, rfl⟩ (by decide) ⟨Nat.le_of_ble_eq_true rfl, Nat.le_of_ble_eq_true rfl⟩ rfl rfl (Nat.le_of_ble_eq_true rfl) dX9_makeAlbum_45 (fun r3 => ?_)
      refine V_aload_n hc dX9_makeAlbum_48 rfl 0 rfl ?_
      refine V_getr (C := RX9) (T := TX9) (N := 28) hc sP24 rfl qX9_makeAlbum_RX9 13 rfl (by decide) kX9_makeAlbum_48 rfl dX9_makeAlbum_49 ?_
      refine V_iload_n hc dX9_makeAlbum_52 rfl 1 rfl ?_
      refine V_iconst (v := 1) hc dX9_makeAlbum_53 (by decide) ?_
      refine V_zastc hc sP37 (Or.inr rfl) dX9_makeAlbum_54 ?_
      refine V_bds (fun t4 => ?_)
      refine V_aload_n hc dX9_makeAlbum_55 rfl 0 rfl ?_
      refine V_getr (C := RX9) (T := TX9) (N := 28) hc sP24 rfl qX9_makeAlbum_RX9 16 rfl (by decide) kX9_makeAlbum_57 rfl dX9_makeAlbum_56 ?_
      refine V_iload_n hc dX9_makeAlbum_59 rfl 1 rfl ?_
      refine V_lconst (v := 0) hc dX9_makeAlbum_60 (by decide) ?_
      refine V_last hc sP40 dX9_makeAlbum_61 ?_
      refine V_bds (fun t5 => ?_)
      refine V_aload_n hc dX9_makeAlbum_62 rfl 0 rfl ?_
      refine V_getr (C := RX9) (T := TX9) (N := 28) hc sP24 rfl qX9_makeAlbum_RX9 17 rfl (by decide) kX9_makeAlbum_61 rfl dX9_makeAlbum_63 ?_
      refine V_iload_n hc dX9_makeAlbum_66 rfl 1 rfl ?_
      refine V_iconst (v := 1) hc dX9_makeAlbum_67 (by decide) ?_
      refine V_iast hc sP41 dX9_makeAlbum_68 ?_
      refine V_bds (fun t6 => ?_)
      refine V_aload_n hc dX9_makeAlbum_69 rfl 0 rfl ?_
      refine V_getr (C := RX9) (T := TX9) (N := 28) hc sP24 rfl qX9_makeAlbum_RX9 18 rfl (by decide) kX9_makeAlbum_64 rfl dX9_makeAlbum_70 ?_
      refine V_iload_n hc dX9_makeAlbum_73 rfl 1 rfl ?_
      refine V_iconst (v := 1) hc dX9_makeAlbum_74 (by decide) ?_
      refine V_zastc hc sP42 (Or.inr rfl) dX9_makeAlbum_75 ?_
      refine V_bds (fun t7 => ?_)
      refine V_aload_n hc dX9_makeAlbum_76 rfl 0 rfl ?_
      refine V_getr (C := RX9) (T := TX9) (N := 28) hc sP24 rfl qX9_makeAlbum_RX9 19 rfl (by decide) kX9_makeAlbum_67 rfl dX9_makeAlbum_77 ?_
      refine V_iconst (v := 2) hc dX9_makeAlbum_80 (by decide) ?_
      refine V_iload_n hc dX9_makeAlbum_81 rfl 1 rfl ?_
      refine V_imul hc dX9_makeAlbum_82 ?_
      refine V_iconst (v := 0) hc dX9_makeAlbum_83 (by decide) ?_
      refine V_iast hc sP43 dX9_makeAlbum_84 ?_
      refine V_bds (fun t8 => ?_)
      refine V_aload_n hc dX9_makeAlbum_85 rfl 0 rfl ?_
      refine V_getr (C := RX9) (T := TX9) (N := 28) hc sP24 rfl qX9_makeAlbum_RX9 19 rfl (by decide) kX9_makeAlbum_67 rfl dX9_makeAlbum_86 ?_
      refine V_iconst (v := 2) hc dX9_makeAlbum_89 (by decide) ?_
      refine V_iload_n hc dX9_makeAlbum_90 rfl 1 rfl ?_
      refine V_imul hc dX9_makeAlbum_91 ?_
      refine V_iconst (v := 1) hc dX9_makeAlbum_92 (by decide) ?_
      refine V_iadd hc dX9_makeAlbum_93 ?_
      refine V_iconst (v := 0) hc dX9_makeAlbum_94 (by decide) ?_
      refine V_iast hc sP43 dX9_makeAlbum_95 ?_
      refine V_bds (fun t9 => ?_)
      refine V_aload_n hc dX9_makeAlbum_96 rfl 0 rfl ?_
      refine V_iload_n hc dX9_makeAlbum_97 rfl 1 rfl ?_
      refine V_callV_WI (Cn := RX9) (T := TX9) (N := 28) hc (c_X9_settled l K t9 (z1)) sP24 rfl 1 gX9_makeAlbum_X9_settled rfl ⟨rfl, rfl⟩ (by decide) ⟨Nat.le_of_ble_eq_true rfl, Nat.le_of_ble_eq_true rfl⟩ rfl rfl (Nat.le_of_ble_eq_true rfl) dX9_makeAlbum_98 (fun r10 => ?_)
      exact V_iret hc rfl rfl dX9_makeAlbum_101
    · refine V_bipush (v := (-3)) hc dX9_makeAlbum_40 (by decide) ?_
      exact V_iret hc rfl rfl dX9_makeAlbum_42
  · refine V_bipush (v := (-2)) hc dX9_makeAlbum_31 (by decide) ?_
    exact V_iret hc rfl rfl dX9_makeAlbum_33

theorem kX9_removeAlbum_48 : Cond.fieldLink RX9 48 RX9 (TX9 13).2.1 (TX9 13).2.2.1 ∈ wsX9_removeAlbum := by decide +kernel
theorem qX9_removeAlbum_RX9 : ∀ w ∈ u_ws RX9 TX9 28, w ∈ wsX9_removeAlbum := by
  first
  | exact fun _ h => List.mem_cons_of_mem _ (List.mem_append_right _ h)
  | exact fun _ h => List.mem_cons_of_mem _ (List.mem_append_left _ (List.mem_append_right _ h))
  | exact fun _ h => List.mem_cons_of_mem _ (List.mem_append_left _ (List.mem_append_left _ (List.mem_append_right _ h)))
  | exact fun _ h => List.mem_cons_of_mem _ (List.mem_append_left _ (List.mem_append_left _ (List.mem_append_left _ (List.mem_append_right _ h))))
  | exact fun _ h => List.mem_cons_of_mem _ (List.mem_append_left _ (List.mem_append_left _ (List.mem_append_left _ (List.mem_append_left _ (List.mem_append_right _ h)))))
  | decide +kernel
theorem kX9_removeAlbum_51 : Cond.fieldLink RX9 51 RX9 (TX9 14).2.1 (TX9 14).2.2.1 ∈ wsX9_removeAlbum := by decide +kernel
theorem kX9_removeAlbum_54 : Cond.fieldLink RX9 54 RX9 (TX9 15).2.1 (TX9 15).2.2.1 ∈ wsX9_removeAlbum := by decide +kernel
theorem kX9_removeAlbum_57 : Cond.fieldLink RX9 57 RX9 (TX9 16).2.1 (TX9 16).2.2.1 ∈ wsX9_removeAlbum := by decide +kernel
noncomputable def L_X9_removeAlbum_40 (t0 : Sx) (b1 : Int32) (b2 : Int32) (b3 : Int32) (kont : Int32 → Option (Int32 × Sx)) : Nat → Int32 → Option (Int32 × Sx)
  | 0, _ => none
  | n + 1, x4 => gd (vp_in b3 8) (if (gA t0 36 (ix b3)) ≤ (x4 + 1) then kont (x4) else gd (vp_in ((80 * b3) + x4) 640) (if (gA t0 37 (ix ((80 * b3) + x4))) = 97 then gd (vp_in (((80 * b3) + x4) + 1) 640) (if ((gA t0 37 (ix (((80 * b3) + x4) + 1))) - 48) = b1 then some ((-2), t0) else L_X9_removeAlbum_40 t0 b1 b2 b3 kont n ((x4 + 1))) else L_X9_removeAlbum_40 t0 b1 b2 b3 kont n ((x4 + 1))))
set_option maxRecDepth 20000 in
set_option maxHeartbeats 4000000 in
theorem L_X9_removeAlbum_40_ok {p : Program} {l : Launch} {K : Kx} {e : Env} {s : State} {m : MethodId} {args : Array Value} {below : List Frame} {meth : Method} {c : Code} (hc : Cx p ({ frames := 2, cells := 0, slots := 0, locals := 43 } : Room) s m args meth c cX9_removeAlbum 5 wsX9_removeAlbum RX9 K (aA K s.heap.size) (some .int) 0 0) (t0 : Sx) (b1 : Int32) (b2 : Int32) (b3 : Int32) (kont : Int32 → Option (Int32 × Sx)) (hk : ∀ x4, V p l e ({ frames := 2, cells := 0, slots := 0, locals := 43 } : Room) s m args below meth c K (aA K s.heap.size) 0 0 5 (QM below K args s kWI) 100 [(0, .ref (K.2.2 24)), (1, .int b1), (2, .int b2), (3, .int b3), (4, .int x4)] [] t0 (kont x4)) : ∀ (n : Nat) (x4 : Int32), V p l e ({ frames := 2, cells := 0, slots := 0, locals := 43 } : Room) s m args below meth c K (aA K s.heap.size) 0 0 5 (QM below K args s kWI) 40 [(0, .ref (K.2.2 24)), (1, .int b1), (2, .int b2), (3, .int b3), (4, .int x4)] [] t0 (L_X9_removeAlbum_40 t0 b1 b2 b3 kont n x4) := by
  intro n
  induction n with
  | zero => intro x4; exact V_none
  | succ n ih =>
    intro x4
    rw [L_X9_removeAlbum_40]
    refine V_iload hc dX9_removeAlbum_40 4 rfl ?_
    refine V_iconst (v := 1) hc dX9_removeAlbum_42 (by decide) ?_
    refine V_iadd hc dX9_removeAlbum_43 ?_
    refine V_aload_n hc dX9_removeAlbum_44 rfl 0 rfl ?_
    refine V_getr (C := RX9) (T := TX9) (N := 28) hc sP24 rfl qX9_removeAlbum_RX9 14 rfl (by decide) kX9_removeAlbum_51 rfl dX9_removeAlbum_45 ?_
    refine V_iload_n hc dX9_removeAlbum_48 rfl 3 rfl ?_
    refine V_iald hc sP38 dX9_removeAlbum_49 ?_
    refine V_icmp_ge (tgt := 100) hc dX9_removeAlbum_50 (by decide) ?_ ?_
    · exact V_sub [0, 1, 2, 3, 4] rfl (hk _)
    · refine V_aload_n hc dX9_removeAlbum_53 rfl 0 rfl ?_
      refine V_getr (C := RX9) (T := TX9) (N := 28) hc sP24 rfl qX9_removeAlbum_RX9 15 rfl (by decide) kX9_removeAlbum_54 rfl dX9_removeAlbum_54 ?_
      refine V_bipush (v := 80) hc dX9_removeAlbum_57 (by decide) ?_
      refine V_iload_n hc dX9_removeAlbum_59 rfl 3 rfl ?_
      refine V_imul hc dX9_removeAlbum_60 ?_
      refine V_iload hc dX9_removeAlbum_61 4 rfl ?_
      refine V_iadd hc dX9_removeAlbum_63 ?_
      refine V_cald hc sP39 dX9_removeAlbum_64 ?_
      refine V_bipush (v := 97) hc dX9_removeAlbum_65 (by decide) ?_
      refine V_icmp_ne (tgt := 94) hc dX9_removeAlbum_67 (by decide) ?_ ?_
      · refine V_iinc (v := (x4 + 1)) (lv' := [(4, .int (x4 + 1)), (0, .ref (K.2.2 24)), (1, .int b1), (2, .int b2), (3, .int b3)]) hc dX9_removeAlbum_94 4 rfl rfl (by decide) rfl ?_
        refine V_goto (tgt := 40) hc dX9_removeAlbum_97 (by decide) ?_
        exact V_sub [1, 2, 3, 4, 0] rfl (ih _)
      · refine V_aload_n hc dX9_removeAlbum_70 rfl 0 rfl ?_
        refine V_getr (C := RX9) (T := TX9) (N := 28) hc sP24 rfl qX9_removeAlbum_RX9 15 rfl (by decide) kX9_removeAlbum_54 rfl dX9_removeAlbum_71 ?_
        refine V_bipush (v := 80) hc dX9_removeAlbum_74 (by decide) ?_
        refine V_iload_n hc dX9_removeAlbum_76 rfl 3 rfl ?_
        refine V_imul hc dX9_removeAlbum_77 ?_
        refine V_iload hc dX9_removeAlbum_78 4 rfl ?_
        refine V_iadd hc dX9_removeAlbum_80 ?_
        refine V_iconst (v := 1) hc dX9_removeAlbum_81 (by decide) ?_
        refine V_iadd hc dX9_removeAlbum_82 ?_
        refine V_cald hc sP39 dX9_removeAlbum_83 ?_
        refine V_bipush (v := 48) hc dX9_removeAlbum_84 (by decide) ?_
        refine V_isub hc dX9_removeAlbum_86 ?_
        refine V_iload_n hc dX9_removeAlbum_87 rfl 1 rfl ?_
        refine V_icmp_ne (tgt := 94) hc dX9_removeAlbum_88 (by decide) ?_ ?_
        · refine V_iinc (v := (x4 + 1)) (lv' := [(4, .int (x4 + 1)), (0, .ref (K.2.2 24)), (1, .int b1), (2, .int b2), (3, .int b3)]) hc dX9_removeAlbum_94 4 rfl rfl (by decide) rfl ?_
          refine V_goto (tgt := 40) hc dX9_removeAlbum_97 (by decide) ?_
          exact V_sub [1, 2, 3, 4, 0] rfl (ih _)
        · refine V_bipush (v := (-2)) hc dX9_removeAlbum_91 (by decide) ?_
          exact V_iret hc rfl rfl dX9_removeAlbum_93
noncomputable def L_X9_removeAlbum_14 (t0 : Sx) (b1 : Int32) (kont : Int32 → Int32 → Option (Int32 × Sx)) : Nat → Int32 → Int32 → Option (Int32 × Sx)
  | 0, _, _ => none
  | n + 1, x2 , x3 => if 8 ≤ x3 then kont (x2) (x3) else if x3 = b1 then L_X9_removeAlbum_14 t0 b1 kont n (x2) ((x3 + 1)) else gd (vp_in x3 8) (if (gA t0 35 (ix x3)) = 0 then L_X9_removeAlbum_14 t0 b1 kont n (x2) ((x3 + 1)) else L_X9_removeAlbum_40 t0 (b1) ((x2 + 1)) (x3) (fun z2 => L_X9_removeAlbum_14 t0 b1 kont n ((x2 + 1)) ((x3 + 1))) FU (0))
set_option maxRecDepth 20000 in
set_option maxHeartbeats 4000000 in
theorem L_X9_removeAlbum_14_ok {p : Program} {l : Launch} {K : Kx} {e : Env} {s : State} {m : MethodId} {args : Array Value} {below : List Frame} {meth : Method} {c : Code} (hc : Cx p ({ frames := 2, cells := 0, slots := 0, locals := 43 } : Room) s m args meth c cX9_removeAlbum 5 wsX9_removeAlbum RX9 K (aA K s.heap.size) (some .int) 0 0) (t0 : Sx) (b1 : Int32) (kont : Int32 → Int32 → Option (Int32 × Sx)) (hk : ∀ x2 x3, V p l e ({ frames := 2, cells := 0, slots := 0, locals := 43 } : Room) s m args below meth c K (aA K s.heap.size) 0 0 5 (QM below K args s kWI) 106 [(0, .ref (K.2.2 24)), (1, .int b1), (2, .int x2), (3, .int x3)] [] t0 (kont x2 x3)) : ∀ (n : Nat) (x2 : Int32) (x3 : Int32), V p l e ({ frames := 2, cells := 0, slots := 0, locals := 43 } : Room) s m args below meth c K (aA K s.heap.size) 0 0 5 (QM below K args s kWI) 14 [(0, .ref (K.2.2 24)), (1, .int b1), (2, .int x2), (3, .int x3)] [] t0 (L_X9_removeAlbum_14 t0 b1 kont n x2 x3) := by
  intro n
  induction n with
  | zero => intro x2 x3; exact V_none
  | succ n ih =>
    intro x2 x3
    rw [L_X9_removeAlbum_14]
    refine V_iload_n hc dX9_removeAlbum_14 rfl 3 rfl ?_
    refine V_bipush (v := 8) hc dX9_removeAlbum_15 (by decide) ?_
    refine V_icmp_ge (tgt := 106) hc dX9_removeAlbum_17 (by decide) ?_ ?_
    · exact V_sub [0, 1, 2, 3] rfl (hk _ _)
    · refine V_iload_n hc dX9_removeAlbum_20 rfl 3 rfl ?_
      refine V_iload_n hc dX9_removeAlbum_21 rfl 1 rfl ?_
      refine V_icmp_eq (tgt := 100) hc dX9_removeAlbum_22 (by decide) ?_ ?_
      · refine V_iinc (v := (x3 + 1)) (lv' := [(3, .int (x3 + 1)), (0, .ref (K.2.2 24)), (1, .int b1), (2, .int x2)]) hc dX9_removeAlbum_100 3 rfl rfl (by decide) rfl ?_
        refine V_goto (tgt := 14) hc dX9_removeAlbum_103 (by decide) ?_
        exact V_sub [1, 2, 3, 0] rfl (ih _ _)
      · refine V_aload_n hc dX9_removeAlbum_25 rfl 0 rfl ?_
        refine V_getr (C := RX9) (T := TX9) (N := 28) hc sP24 rfl qX9_removeAlbum_RX9 13 rfl (by decide) kX9_removeAlbum_48 rfl dX9_removeAlbum_26 ?_
        refine V_iload_n hc dX9_removeAlbum_29 rfl 3 rfl ?_
        refine V_zald hc sP37 dX9_removeAlbum_30 ?_
        refine V_if_eq (tgt := 100) hc dX9_removeAlbum_31 (by decide) ?_ ?_
        · refine V_iinc (v := (x3 + 1)) (lv' := [(3, .int (x3 + 1)), (0, .ref (K.2.2 24)), (1, .int b1), (2, .int x2)]) hc dX9_removeAlbum_100 3 rfl rfl (by decide) rfl ?_
          refine V_goto (tgt := 14) hc dX9_removeAlbum_103 (by decide) ?_
          exact V_sub [1, 2, 3, 0] rfl (ih _ _)
        · refine V_iinc (v := (x2 + 1)) (lv' := [(2, .int (x2 + 1)), (0, .ref (K.2.2 24)), (1, .int b1), (3, .int x3)]) hc dX9_removeAlbum_34 2 rfl rfl (by decide) rfl ?_
          refine V_iconst (v := 0) hc dX9_removeAlbum_37 (by decide) ?_
          refine V_istore (lv' := [(4, .int 0), (2, .int (x2 + 1)), (0, .ref (K.2.2 24)), (1, .int b1), (3, .int x3)]) hc dX9_removeAlbum_38 (by decide) rfl ?_
          refine V_sub (lv' := [(0, .ref (K.2.2 24)), (1, .int b1), (2, .int (x2 + 1)), (3, .int x3), (4, .int 0)]) [2, 3, 1, 4, 0] rfl ?_
          refine L_X9_removeAlbum_40_ok hc t0 (b1) ((x2 + 1)) (x3) _ (fun z2 => ?_) FU _
          refine V_iinc (v := (x3 + 1)) (lv' := [(3, .int (x3 + 1)), (0, .ref (K.2.2 24)), (1, .int b1), (2, .int (x2 + 1)), (4, .int z2)]) hc dX9_removeAlbum_100 3 rfl rfl (by decide) rfl ?_
          refine V_goto (tgt := 14) hc dX9_removeAlbum_103 (by decide) ?_
          exact V_sub [1, 2, 3, 0] rfl (ih _ _)
noncomputable def f_X9_removeAlbum (t : Sx) (a1 : Int32) : Option (Int32 × Sx) := (f_X9_there8 t (a1)).bind fun r1 => if r1 = 0 then some ((-1), t) else L_X9_removeAlbum_14 t (a1) (fun z3 z4 => gd (vp_in a1 8) (bd (pA t 35 (ix a1) 0) fun t5 => gd (vp_in a1 8) (bd (pM t5 2 (ix a1) 0) fun t6 => some (z3, t6)))) FU (0) (0)
set_option maxRecDepth 20000 in
set_option maxHeartbeats 4000000 in
theorem c_X9_removeAlbum (l : Launch) (K : Kx) (t : Sx) (a1 : Int32) : CT l K yX9_removeAlbum wsX9_removeAlbum ({ frames := 2, cells := 0, slots := 0, locals := 43 } : Room) [.ref (K.2.2 24), .int a1] t (f_X9_removeAlbum t a1) kWI := by
  refine CT_of (cc := cX9_removeAlbum) (maxL := 5) (ret := (some .int)) (own := RX9) (by decide +kernel) rfl rfl (Nat.le_of_ble_eq_true rfl) ?_
  intro p e s m args below meth c hc
  refine V_sub (lv' := [(0, .ref (K.2.2 24)), (1, .int a1)]) [0, 1] rfl ?_
  unfold f_X9_removeAlbum
  refine V_aload_n hc dX9_removeAlbum_0 rfl 0 rfl ?_
  refine V_iload_n hc dX9_removeAlbum_1 rfl 1 rfl ?_
  refine V_callV_RI (Cn := RX9) (T := TX9) (N := 28) hc (c_X9_there8 l K t (a1)) sP24 rfl 1 gX9_removeAlbum_X9_there8 rfl ⟨rfl, rfl⟩ (by decide) ⟨Nat.le_of_ble_eq_true rfl, Nat.le_of_ble_eq_true rfl⟩ rfl rfl (Nat.le_of_ble_eq_true rfl) dX9_removeAlbum_2 (fun r1 => ?_)
  refine V_if_ne (tgt := 10) hc dX9_removeAlbum_5 (by decide) ?_ ?_
  · refine V_iconst (v := 0) hc dX9_removeAlbum_10 (by decide) ?_
    refine V_istore_n (lv' := [(2, .int 0), (0, .ref (K.2.2 24)), (1, .int a1)]) hc dX9_removeAlbum_11 rfl (by decide) rfl ?_
    refine V_iconst (v := 0) hc dX9_removeAlbum_12 (by decide) ?_
    refine V_istore_n (lv' := [(3, .int 0), (2, .int 0), (0, .ref (K.2.2 24)), (1, .int a1)]) hc dX9_removeAlbum_13 rfl (by decide) rfl ?_
    refine V_sub (lv' := [(0, .ref (K.2.2 24)), (1, .int a1), (2, .int 0), (3, .int 0)]) [2, 3, 1, 0] rfl ?_
    refine L_X9_removeAlbum_14_ok hc t (a1) _ (fun z3 z4 => ?_) FU _ _
    refine V_aload_n hc dX9_removeAlbum_106 rfl 0 rfl ?_
    refine V_getr (C := RX9) (T := TX9) (N := 28) hc sP24 rfl qX9_removeAlbum_RX9 13 rfl (by decide) kX9_removeAlbum_48 rfl dX9_removeAlbum_107 ?_
    refine V_iload_n hc dX9_removeAlbum_110 rfl 1 rfl ?_
    refine V_iconst (v := 0) hc dX9_removeAlbum_111 (by decide) ?_
    refine V_zastc hc sP37 (Or.inl rfl) dX9_removeAlbum_112 ?_
    refine V_bds (fun t5 => ?_)
    refine V_aload_n hc dX9_removeAlbum_113 rfl 0 rfl ?_
    refine V_getr (C := RX9) (T := TX9) (N := 28) hc sP24 rfl qX9_removeAlbum_RX9 16 rfl (by decide) kX9_removeAlbum_57 rfl dX9_removeAlbum_114 ?_
    refine V_iload_n hc dX9_removeAlbum_117 rfl 1 rfl ?_
    refine V_lconst (v := 0) hc dX9_removeAlbum_118 (by decide) ?_
    refine V_last hc sP40 dX9_removeAlbum_119 ?_
    refine V_bds (fun t6 => ?_)
    refine V_iload_n hc dX9_removeAlbum_120 rfl 2 rfl ?_
    exact V_iret hc rfl rfl dX9_removeAlbum_121
  · refine V_iconst (v := (-1)) hc dX9_removeAlbum_8 (by decide) ?_
    exact V_iret hc rfl rfl dX9_removeAlbum_9


noncomputable def L_X9_count40_5 (t0 : Sx) (b1 : Int64) (kont : Int32 → Int32 → Option Int32) : Nat → Int32 → Int32 → Option Int32
  | 0, _, _ => none
  | n + 1, x3 , x4 => if 40 ≤ x4 then kont (x3) (x4) else L_X9_count40_5 t0 b1 kont n ((x3 + (Int64.toInt32 ((shrL b1 x4) &&& 1)))) ((x4 + 1))
set_option maxRecDepth 20000 in
set_option maxHeartbeats 4000000 in
theorem L_X9_count40_5_ok {p : Program} {l : Launch} {K : Kx} {e : Env} {s : State} {m : MethodId} {args : Array Value} {below : List Frame} {meth : Method} {c : Code} (hc : Cx p ({ frames := 0, cells := 0, slots := 0, locals := 0 } : Room) s m args meth c cX9_count40 5 wsX9_count40 RX9 K (aA K s.heap.size) (some .int) 0 0) (t0 : Sx) (b1 : Int64) (kont : Int32 → Int32 → Option Int32) (hk : ∀ x3 x4, V p l e ({ frames := 0, cells := 0, slots := 0, locals := 0 } : Room) s m args below meth c K (aA K s.heap.size) 0 0 5 (QM below K args s (kRI t0)) 28 [(0, .ref (K.2.2 24)), (1, .long b1), (3, .int x3), (4, .int x4)] [] t0 (kont x3 x4)) : ∀ (n : Nat) (x3 : Int32) (x4 : Int32), V p l e ({ frames := 0, cells := 0, slots := 0, locals := 0 } : Room) s m args below meth c K (aA K s.heap.size) 0 0 5 (QM below K args s (kRI t0)) 5 [(0, .ref (K.2.2 24)), (1, .long b1), (3, .int x3), (4, .int x4)] [] t0 (L_X9_count40_5 t0 b1 kont n x3 x4) := by
  intro n
  induction n with
  | zero => intro x3 x4; exact V_none
  | succ n ih =>
    intro x3 x4
    rw [L_X9_count40_5]
    refine V_iload hc dX9_count40_5 3 rfl ?_
    refine V_bipush (v := 40) hc dX9_count40_7 (by decide) ?_
    refine V_icmp_ge (tgt := 28) hc dX9_count40_9 (by decide) ?_ ?_
    · exact V_sub [0, 1, 2, 3] rfl (hk _ _)
    · refine V_iload_n hc dX9_count40_12 rfl 2 rfl ?_
      refine V_lload_n hc dX9_count40_13 rfl 1 rfl ?_
      refine V_iload hc dX9_count40_14 3 rfl ?_
      refine V_lshr hc dX9_count40_16 ?_
      refine V_lconst (v := 1) hc dX9_count40_17 (by decide) ?_
      refine V_land hc dX9_count40_18 ?_
      refine V_l2i hc dX9_count40_19 ?_
      refine V_iadd hc dX9_count40_20 ?_
      refine V_istore_n (lv' := [(3, .int (x3 + (Int64.toInt32 ((shrL b1 x4) &&& 1)))), (0, .ref (K.2.2 24)), (1, .long b1), (4, .int x4)]) hc dX9_count40_21 rfl (by decide) rfl ?_
      refine V_iinc (v := (x4 + 1)) (lv' := [(4, .int (x4 + 1)), (3, .int (x3 + (Int64.toInt32 ((shrL b1 x4) &&& 1)))), (0, .ref (K.2.2 24)), (1, .long b1)]) hc dX9_count40_22 3 rfl rfl (by decide) rfl ?_
      refine V_goto (tgt := 5) hc dX9_count40_25 (by decide) ?_
      exact V_sub [2, 3, 1, 0] rfl (ih _ _)
noncomputable def f_X9_count40 (t : Sx) (a1 : Int64) : Option Int32 := L_X9_count40_5 t (a1) (fun z1 z2 => some z1) FU (0) (0)
set_option maxRecDepth 20000 in
set_option maxHeartbeats 4000000 in
theorem c_X9_count40 (l : Launch) (K : Kx) (t : Sx) (a1 : Int64) : CT l K yX9_count40 wsX9_count40 ({ frames := 0, cells := 0, slots := 0, locals := 0 } : Room) [.ref (K.2.2 24), .long a1] t (f_X9_count40 t a1) (kRI t) := by
  refine CT_of (cc := cX9_count40) (maxL := 5) (ret := (some .int)) (own := RX9) (by decide +kernel) rfl rfl (Nat.le_of_ble_eq_true rfl) ?_
  intro p e s m args below meth c hc
  refine V_sub (lv' := [(0, .ref (K.2.2 24)), (1, .long a1)]) [0, 1] rfl ?_
  unfold f_X9_count40
  refine V_iconst (v := 0) hc dX9_count40_0 (by decide) ?_
  refine V_istore_n (lv' := [(3, .int 0), (0, .ref (K.2.2 24)), (1, .long a1)]) hc dX9_count40_1 rfl (by decide) rfl ?_
  refine V_iconst (v := 0) hc dX9_count40_2 (by decide) ?_
  refine V_istore (lv' := [(4, .int 0), (3, .int 0), (0, .ref (K.2.2 24)), (1, .long a1)]) hc dX9_count40_3 (by decide) rfl ?_
  refine V_sub (lv' := [(0, .ref (K.2.2 24)), (1, .long a1), (3, .int 0), (4, .int 0)]) [2, 3, 1, 0] rfl ?_
  refine L_X9_count40_5_ok hc t (a1) _ (fun z1 z2 => ?_) FU _ _
  refine V_iload_n hc dX9_count40_28 rfl 2 rfl ?_
  exact V_iret hc rfl rfl dX9_count40_29

theorem kX9_changeRule_57 : Cond.fieldLink RX9 57 RX9 (TX9 16).2.1 (TX9 16).2.2.1 ∈ wsX9_changeRule := by decide +kernel
theorem qX9_changeRule_RX9 : ∀ w ∈ u_ws RX9 TX9 28, w ∈ wsX9_changeRule := by
  first
  | exact fun _ h => List.mem_cons_of_mem _ (List.mem_append_right _ h)
  | exact fun _ h => List.mem_cons_of_mem _ (List.mem_append_left _ (List.mem_append_right _ h))
  | exact fun _ h => List.mem_cons_of_mem _ (List.mem_append_left _ (List.mem_append_left _ (List.mem_append_right _ h)))
  | exact fun _ h => List.mem_cons_of_mem _ (List.mem_append_left _ (List.mem_append_left _ (List.mem_append_left _ (List.mem_append_right _ h))))
  | exact fun _ h => List.mem_cons_of_mem _ (List.mem_append_left _ (List.mem_append_left _ (List.mem_append_left _ (List.mem_append_left _ (List.mem_append_right _ h)))))
  | decide +kernel
noncomputable def f_X9_changeRule (t : Sx) (a1 : Int32) : Option (Int32 × Sx) := (f_X9_there8 t (a1)).bind fun r1 => if r1 = 0 then some ((-1), t) else (f_X9_isRule t (a1)).bind fun r2 => if r2.1 = 0 then some ((-2), r2.2) else (f_X9_rules r2.2 (a1)).bind fun r3 => (f_X9_settles r3 ).bind fun r4 => gd (vp_in a1 8) ((f_X9_count40 r4 (gM r4 2 (ix a1))).bind fun r5 => some (r5, r4))
set_option maxRecDepth 20000 in
set_option maxHeartbeats 4000000 in
theorem c_X9_changeRule (l : Launch) (K : Kx) (t : Sx) (a1 : Int32) : CT l K yX9_changeRule wsX9_changeRule ({ frames := 8, cells := 0, slots := 0, locals := 186 } : Room) [.ref (K.2.2 24), .int a1] t (f_X9_changeRule t a1) kWI := by
  refine CT_of (cc := cX9_changeRule) (maxL := 2) (ret := (some .int)) (own := RX9) (by decide +kernel) rfl rfl (Nat.le_of_ble_eq_true rfl) ?_
  intro p e s m args below meth c hc
  refine V_sub (lv' := [(0, .ref (K.2.2 24)), (1, .int a1)]) [0, 1] rfl ?_
  unfold f_X9_changeRule
  refine V_aload_n hc dX9_changeRule_0 rfl 0 rfl ?_
  refine V_iload_n hc dX9_changeRule_1 rfl 1 rfl ?_
  refine V_callV_RI (Cn := RX9) (T := TX9) (N := 28) hc (c_X9_there8 l K t (a1)) sP24 rfl 1 gX9_changeRule_X9_there8 rfl ⟨rfl, rfl⟩ (by decide) ⟨Nat.le_of_ble_eq_true rfl, Nat.le_of_ble_eq_true rfl⟩ rfl rfl (Nat.le_of_ble_eq_true rfl) dX9_changeRule_2 (fun r1 => ?_)
  refine V_if_ne (tgt := 10) hc dX9_changeRule_5 (by decide) ?_ ?_
  · refine V_aload_n hc dX9_changeRule_10 rfl 0 rfl ?_
    refine V_iload_n hc dX9_changeRule_11 rfl 1 rfl ?_
    refine V_callV_WI (Cn := RX9) (T := TX9) (N := 28) hc (c_X9_isRule l K t (a1)) sP24 rfl 1 gX9_changeRule_X9_isRule rfl ⟨rfl, rfl⟩ (by decide) ⟨Nat.le_of_ble_eq_true rfl, Nat.le_of_ble_eq_true rfl⟩ rfl rfl (Nat.le_of_ble_eq_true rfl) dX9_changeRule_12 (fun r2 => ?_)
    refine V_if_ne (tgt := 21) hc dX9_changeRule_15 (by decide) ?_ ?_
    · refine V_aload_n hc dX9_changeRule_21 rfl 0 rfl ?_
      refine V_iload_n hc dX9_changeRule_22 rfl 1 rfl ?_
      refine V_callV_WV (Cn := RX9) (T := TX9) (N := 28) hc (c_X9_rules l K r2.2 (a1)) sP24 rfl 1 gX9_changeRule_X9_rules rfl ⟨rfl, rfl⟩ (by decide) ⟨Nat.le_of_ble_eq_true rfl, Nat.le_of_ble_eq_true rfl⟩ rfl rfl (Nat.le_of_ble_eq_true rfl) dX9_changeRule_23 (fun r3 => ?_)
      refine V_aload_n hc dX9_changeRule_26 rfl 0 rfl ?_
      refine V_callV_WV (Cn := RX9) (T := TX9) (N := 28) hc (c_X9_settles l K r3 ) sP24 rfl 0 gX9_changeRule_X9_settles rfl ⟨rfl, rfl⟩ (by decide) ⟨Nat.le_of_ble_eq_true rfl, Nat.le_of_ble_eq_true rfl⟩ rfl rfl (Nat.le_of_ble_eq_true rfl) dX9_changeRule_27 (fun r4 => ?_)
      refine V_aload_n hc dX9_changeRule_30 rfl 0 rfl ?_
      refine V_aload_n hc dX9_changeRule_31 rfl 0 rfl ?_
      refine V_getr (C := RX9) (T := TX9) (N := 28) hc sP24 rfl qX9_changeRule_RX9 16 rfl (by decide) kX9_changeRule_57 rfl dX9_changeRule_32 ?_
      refine V_iload_n hc dX9_changeRule_35 rfl 1 rfl ?_
      refine V_lald hc sP40 dX9_changeRule_36 ?_
      refine V_callV_RI (Cn := RX9) (T := TX9) (N := 28) hc (c_X9_count40 l K r4 (gM r4 2 (ix a1))) sP24 rfl 1 gX9_changeRule_X9_count40 rfl ⟨rfl, rfl⟩ (by decide) ⟨Nat.le_of_ble_eq_true rfl, Nat.le_of_ble_eq_true rfl⟩ rfl rfl (Nat.le_of_ble_eq_true rfl) dX9_changeRule_37 (fun r5 => ?_)
      exact V_iret hc rfl rfl dX9_changeRule_40
    · refine V_bipush (v := (-2)) hc dX9_changeRule_18 (by decide) ?_
      exact V_iret hc rfl rfl dX9_changeRule_20
  · refine V_iconst (v := (-1)) hc dX9_changeRule_8 (by decide) ?_
    exact V_iret hc rfl rfl dX9_changeRule_9

theorem kX9_albumSize_57 : Cond.fieldLink RX9 57 RX9 (TX9 16).2.1 (TX9 16).2.2.1 ∈ wsX9_albumSize := by decide +kernel
theorem qX9_albumSize_RX9 : ∀ w ∈ u_ws RX9 TX9 28, w ∈ wsX9_albumSize := by
  first
  | exact fun _ h => List.mem_cons_of_mem _ (List.mem_append_right _ h)
  | exact fun _ h => List.mem_cons_of_mem _ (List.mem_append_left _ (List.mem_append_right _ h))
  | exact fun _ h => List.mem_cons_of_mem _ (List.mem_append_left _ (List.mem_append_left _ (List.mem_append_right _ h)))
  | exact fun _ h => List.mem_cons_of_mem _ (List.mem_append_left _ (List.mem_append_left _ (List.mem_append_left _ (List.mem_append_right _ h))))
  | exact fun _ h => List.mem_cons_of_mem _ (List.mem_append_left _ (List.mem_append_left _ (List.mem_append_left _ (List.mem_append_left _ (List.mem_append_right _ h)))))
  | decide +kernel
noncomputable def f_X9_albumSize (t : Sx) (a1 : Int32) : Option Int32 := (f_X9_there8 t (a1)).bind fun r1 => if r1 = 0 then some (-1) else gd (vp_in a1 8) ((f_X9_count40 t (gM t 2 (ix a1))).bind fun r2 => some r2)
set_option maxRecDepth 20000 in
set_option maxHeartbeats 4000000 in
theorem c_X9_albumSize (l : Launch) (K : Kx) (t : Sx) (a1 : Int32) : CT l K yX9_albumSize wsX9_albumSize ({ frames := 2, cells := 0, slots := 0, locals := 43 } : Room) [.ref (K.2.2 24), .int a1] t (f_X9_albumSize t a1) (kRI t) := by
  refine CT_of (cc := cX9_albumSize) (maxL := 2) (ret := (some .int)) (own := RX9) (by decide +kernel) rfl rfl (Nat.le_of_ble_eq_true rfl) ?_
  intro p e s m args below meth c hc
  refine V_sub (lv' := [(0, .ref (K.2.2 24)), (1, .int a1)]) [0, 1] rfl ?_
  unfold f_X9_albumSize
  refine V_aload_n hc dX9_albumSize_0 rfl 0 rfl ?_
  refine V_iload_n hc dX9_albumSize_1 rfl 1 rfl ?_
  refine V_callV_RI (Cn := RX9) (T := TX9) (N := 28) hc (c_X9_there8 l K t (a1)) sP24 rfl 1 gX9_albumSize_X9_there8 rfl ⟨rfl, rfl⟩ (by decide) ⟨Nat.le_of_ble_eq_true rfl, Nat.le_of_ble_eq_true rfl⟩ rfl rfl (Nat.le_of_ble_eq_true rfl) dX9_albumSize_2 (fun r1 => ?_)
  refine V_if_eq (tgt := 21) hc dX9_albumSize_5 (by decide) ?_ ?_
  · refine V_iconst (v := (-1)) hc dX9_albumSize_21 (by decide) ?_
    exact V_iret hc rfl rfl dX9_albumSize_22
  · refine V_aload_n hc dX9_albumSize_8 rfl 0 rfl ?_
    refine V_aload_n hc dX9_albumSize_9 rfl 0 rfl ?_
    refine V_getr (C := RX9) (T := TX9) (N := 28) hc sP24 rfl qX9_albumSize_RX9 16 rfl (by decide) kX9_albumSize_57 rfl dX9_albumSize_10 ?_
    refine V_iload_n hc dX9_albumSize_13 rfl 1 rfl ?_
    refine V_lald hc sP40 dX9_albumSize_14 ?_
    refine V_callV_RI (Cn := RX9) (T := TX9) (N := 28) hc (c_X9_count40 l K t (gM t 2 (ix a1))) sP24 rfl 1 gX9_albumSize_X9_count40 rfl ⟨rfl, rfl⟩ (by decide) ⟨Nat.le_of_ble_eq_true rfl, Nat.le_of_ble_eq_true rfl⟩ rfl rfl (Nat.le_of_ble_eq_true rfl) dX9_albumSize_15 (fun r2 => ?_)
    refine V_goto (tgt := 22) hc dX9_albumSize_18 (by decide) ?_
    exact V_iret hc rfl rfl dX9_albumSize_22

theorem kX9_isIn_57 : Cond.fieldLink RX9 57 RX9 (TX9 16).2.1 (TX9 16).2.2.1 ∈ wsX9_isIn := by decide +kernel
theorem qX9_isIn_RX9 : ∀ w ∈ u_ws RX9 TX9 28, w ∈ wsX9_isIn := by
  first
  | exact fun _ h => List.mem_cons_of_mem _ (List.mem_append_right _ h)
  | exact fun _ h => List.mem_cons_of_mem _ (List.mem_append_left _ (List.mem_append_right _ h))
  | exact fun _ h => List.mem_cons_of_mem _ (List.mem_append_left _ (List.mem_append_left _ (List.mem_append_right _ h)))
  | exact fun _ h => List.mem_cons_of_mem _ (List.mem_append_left _ (List.mem_append_left _ (List.mem_append_left _ (List.mem_append_right _ h))))
  | exact fun _ h => List.mem_cons_of_mem _ (List.mem_append_left _ (List.mem_append_left _ (List.mem_append_left _ (List.mem_append_left _ (List.mem_append_right _ h)))))
  | decide +kernel
noncomputable def f_X9_isIn (t : Sx) (a1 : Int32) (a2 : Int32) : Option Int32 := (f_X9_there8 t (a1)).bind fun r1 => if r1 = 0 then some (-1) else (f_X9_there t (a2)).bind fun r2 => if r2 = 0 then some (-1) else gd (vp_in a1 8) (bd ((Int64.toInt32 ((shrL (gM t 2 (ix a1)) a2) &&& 1))) fun v3 => some v3)
set_option maxRecDepth 20000 in
set_option maxHeartbeats 4000000 in
theorem c_X9_isIn (l : Launch) (K : Kx) (t : Sx) (a1 : Int32) (a2 : Int32) : CT l K yX9_isIn wsX9_isIn ({ frames := 2, cells := 0, slots := 0, locals := 43 } : Room) [.ref (K.2.2 24), .int a1, .int a2] t (f_X9_isIn t a1 a2) (kRI t) := by
  refine CT_of (cc := cX9_isIn) (maxL := 3) (ret := (some .int)) (own := RX9) (by decide +kernel) rfl rfl (Nat.le_of_ble_eq_true rfl) ?_
  intro p e s m args below meth c hc
  refine V_sub (lv' := [(0, .ref (K.2.2 24)), (1, .int a1), (2, .int a2)]) [0, 1, 2] rfl ?_
  unfold f_X9_isIn
  refine V_aload_n hc dX9_isIn_0 rfl 0 rfl ?_
  refine V_iload_n hc dX9_isIn_1 rfl 1 rfl ?_
  refine V_callV_RI (Cn := RX9) (T := TX9) (N := 28) hc (c_X9_there8 l K t (a1)) sP24 rfl 1 gX9_isIn_X9_there8 rfl ⟨rfl, rfl⟩ (by decide) ⟨Nat.le_of_ble_eq_true rfl, Nat.le_of_ble_eq_true rfl⟩ rfl rfl (Nat.le_of_ble_eq_true rfl) dX9_isIn_2 (fun r1 => ?_)
  refine V_if_eq (tgt := 30) hc dX9_isIn_5 (by decide) ?_ ?_
  · refine V_iconst (v := (-1)) hc dX9_isIn_30 (by decide) ?_
    exact V_iret hc rfl rfl dX9_isIn_31
  · refine V_aload_n hc dX9_isIn_8 rfl 0 rfl ?_
    refine V_iload_n hc dX9_isIn_9 rfl 2 rfl ?_
    refine V_callV_RI (Cn := RX9) (T := TX9) (N := 28) hc (c_X9_there l K t (a2)) sP24 rfl 1 gX9_isIn_X9_there rfl ⟨rfl, rfl⟩ (by decide) ⟨Nat.le_of_ble_eq_true rfl, Nat.le_of_ble_eq_true rfl⟩ rfl rfl (Nat.le_of_ble_eq_true rfl) dX9_isIn_10 (fun r2 => ?_)
    refine V_if_eq (tgt := 30) hc dX9_isIn_13 (by decide) ?_ ?_
    · refine V_iconst (v := (-1)) hc dX9_isIn_30 (by decide) ?_
      exact V_iret hc rfl rfl dX9_isIn_31
    · refine V_aload_n hc dX9_isIn_16 rfl 0 rfl ?_
      refine V_getr (C := RX9) (T := TX9) (N := 28) hc sP24 rfl qX9_isIn_RX9 16 rfl (by decide) kX9_isIn_57 rfl dX9_isIn_17 ?_
      refine V_iload_n hc dX9_isIn_20 rfl 1 rfl ?_
      refine V_lald hc sP40 dX9_isIn_21 ?_
      refine V_iload_n hc dX9_isIn_22 rfl 2 rfl ?_
      refine V_lshr hc dX9_isIn_23 ?_
      refine V_lconst (v := 1) hc dX9_isIn_24 (by decide) ?_
      refine V_land hc dX9_isIn_25 ?_
      refine V_l2i hc dX9_isIn_26 ?_
      refine V_bdi (fun v3 => ?_)
      refine V_goto (tgt := 31) hc dX9_isIn_27 (by decide) ?_
      exact V_iret hc rfl rfl dX9_isIn_31

theorem kX9_sortBy_61 : Cond.fieldLink RX9 61 RX9 (TX9 17).2.1 (TX9 17).2.2.1 ∈ wsX9_sortBy := by decide +kernel
theorem qX9_sortBy_RX9 : ∀ w ∈ u_ws RX9 TX9 28, w ∈ wsX9_sortBy := by
  first
  | exact fun _ h => List.mem_cons_of_mem _ (List.mem_append_right _ h)
  | exact fun _ h => List.mem_cons_of_mem _ (List.mem_append_left _ (List.mem_append_right _ h))
  | exact fun _ h => List.mem_cons_of_mem _ (List.mem_append_left _ (List.mem_append_left _ (List.mem_append_right _ h)))
  | exact fun _ h => List.mem_cons_of_mem _ (List.mem_append_left _ (List.mem_append_left _ (List.mem_append_left _ (List.mem_append_right _ h))))
  | exact fun _ h => List.mem_cons_of_mem _ (List.mem_append_left _ (List.mem_append_left _ (List.mem_append_left _ (List.mem_append_left _ (List.mem_append_right _ h)))))
  | decide +kernel
theorem kX9_sortBy_64 : Cond.fieldLink RX9 64 RX9 (TX9 18).2.1 (TX9 18).2.2.1 ∈ wsX9_sortBy := by decide +kernel
noncomputable def f_X9_sortBy (t : Sx) (a1 : Int32) (a2 : Int32) (a3 : Int32) : Option (Int32 × Sx) := (f_X9_there8 t (a1)).bind fun r1 => if r1 = 0 then some ((-1), t) else (f_X9_in t (a2) (0) (4)).bind fun r2 => if r2 = 0 then some ((-1), t) else (f_X9_in t (a3) (0) (1)).bind fun r3 => if r3 = 0 then some ((-1), t) else gd (vp_in a1 8) (gd (vp_in a1 8) (if (gA t 39 (ix a1)) = 0 then gd (vp_in a1 8) (bd (pA t 38 (ix a1) a2) fun t4 => if a3 = 1 then gd (vp_in a1 8) (bd (pA t4 39 (ix a1) 1) fun t6 => some (((10 * (gA t 38 (ix a1))) + 0), t6)) else gd (vp_in a1 8) (bd (pA t4 39 (ix a1) 0) fun t5 => some (((10 * (gA t 38 (ix a1))) + 0), t5))) else gd (vp_in a1 8) (bd (pA t 38 (ix a1) a2) fun t7 => if a3 = 1 then gd (vp_in a1 8) (bd (pA t7 39 (ix a1) 1) fun t9 => some (((10 * (gA t 38 (ix a1))) + 1), t9)) else gd (vp_in a1 8) (bd (pA t7 39 (ix a1) 0) fun t8 => some (((10 * (gA t 38 (ix a1))) + 1), t8)))))
set_option maxRecDepth 20000 in
set_option maxHeartbeats 4000000 in
theorem c_X9_sortBy (l : Launch) (K : Kx) (t : Sx) (a1 : Int32) (a2 : Int32) (a3 : Int32) : CT l K yX9_sortBy wsX9_sortBy ({ frames := 2, cells := 0, slots := 0, locals := 43 } : Room) [.ref (K.2.2 24), .int a1, .int a2, .int a3] t (f_X9_sortBy t a1 a2 a3) kWI := by
  refine CT_of (cc := cX9_sortBy) (maxL := 5) (ret := (some .int)) (own := RX9) (by decide +kernel) rfl rfl (Nat.le_of_ble_eq_true rfl) ?_
  intro p e s m args below meth c hc
  refine V_sub (lv' := [(0, .ref (K.2.2 24)), (1, .int a1), (2, .int a2), (3, .int a3)]) [0, 1, 2, 3] rfl ?_
  unfold f_X9_sortBy
  refine V_aload_n hc dX9_sortBy_0 rfl 0 rfl ?_
  refine V_iload_n hc dX9_sortBy_1 rfl 1 rfl ?_
  refine V_callV_RI (Cn := RX9) (T := TX9) (N := 28) hc (c_X9_there8 l K t (a1)) sP24 rfl 1 gX9_sortBy_X9_there8 rfl ⟨rfl, rfl⟩ (by decide) ⟨Nat.le_of_ble_eq_true rfl, Nat.le_of_ble_eq_true rfl⟩ rfl rfl (Nat.le_of_ble_eq_true rfl) dX9_sortBy_2 (fun r1 => ?_)
  refine V_if_eq (tgt := 26) hc dX9_sortBy_5 (by decide) ?_ ?_
  · refine V_iconst (v := (-1)) hc dX9_sortBy_26 (by decide) ?_
    exact V_iret hc rfl rfl dX9_sortBy_27
  · refine V_iload_n hc dX9_sortBy_8 rfl 2 rfl ?_
    refine V_iconst (v := 0) hc dX9_sortBy_9 (by decide) ?_
    refine V_iconst (v := 4) hc dX9_sortBy_10 (by decide) ?_
    refine V_callS_RI hc (c_X9_in l K t (a2) (0) (4)) 3 gX9_sortBy_X9_in rfl ⟨rfl, rfl⟩ (by decide) ⟨Nat.le_of_ble_eq_true rfl, Nat.le_of_ble_eq_true rfl⟩ rfl rfl (Nat.le_of_ble_eq_true rfl) dX9_sortBy_11 (fun r2 => ?_)
    refine V_if_eq (tgt := 26) hc dX9_sortBy_14 (by decide) ?_ ?_
    · refine V_iconst (v := (-1)) hc dX9_sortBy_26 (by decide) ?_
      exact V_iret hc rfl rfl dX9_sortBy_27
    · refine V_iload_n hc dX9_sortBy_17 rfl 3 rfl ?_
      refine V_iconst (v := 0) hc dX9_sortBy_18 (by decide) ?_
      refine V_iconst (v := 1) hc dX9_sortBy_19 (by decide) ?_
      refine V_callS_RI hc (c_X9_in l K t (a3) (0) (1)) 3 gX9_sortBy_X9_in rfl ⟨rfl, rfl⟩ (by decide) ⟨Nat.le_of_ble_eq_true rfl, Nat.le_of_ble_eq_true rfl⟩ rfl rfl (Nat.le_of_ble_eq_true rfl) dX9_sortBy_20 (fun r3 => ?_)
      refine V_if_ne (tgt := 28) hc dX9_sortBy_23 (by decide) ?_ ?_
      · refine V_bipush (v := 10) hc dX9_sortBy_28 (by decide) ?_
        refine V_aload_n hc dX9_sortBy_30 rfl 0 rfl ?_
        refine V_getr (C := RX9) (T := TX9) (N := 28) hc sP24 rfl qX9_sortBy_RX9 17 rfl (by decide) kX9_sortBy_61 rfl dX9_sortBy_31 ?_
        refine V_iload_n hc dX9_sortBy_34 rfl 1 rfl ?_
        refine V_iald hc sP41 dX9_sortBy_35 ?_
        refine V_imul hc dX9_sortBy_36 ?_
        refine V_aload_n hc dX9_sortBy_37 rfl 0 rfl ?_
        refine V_getr (C := RX9) (T := TX9) (N := 28) hc sP24 rfl qX9_sortBy_RX9 18 rfl (by decide) kX9_sortBy_64 rfl dX9_sortBy_38 ?_
        refine V_iload_n hc dX9_sortBy_41 rfl 1 rfl ?_
        refine V_zald hc sP42 dX9_sortBy_42 ?_
        refine V_if_eq (tgt := 50) hc dX9_sortBy_43 (by decide) ?_ ?_
        · refine V_iconst (v := 0) hc dX9_sortBy_50 (by decide) ?_
          refine V_iadd hc dX9_sortBy_51 ?_
          refine V_istore (lv' := [(4, .int ((10 * (gA t 38 (ix a1))) + 0)), (0, .ref (K.2.2 24)), (1, .int a1), (2, .int a2), (3, .int a3)]) hc dX9_sortBy_52 (by decide) rfl ?_
          refine V_aload_n hc dX9_sortBy_54 rfl 1 rfl ?_
          refine V_getr (C := RX9) (T := TX9) (N := 28) hc sP24 rfl qX9_sortBy_RX9 17 rfl (by decide) kX9_sortBy_61 rfl dX9_sortBy_55 ?_
          refine V_iload_n hc dX9_sortBy_58 rfl 2 rfl ?_
          refine V_iload_n hc dX9_sortBy_59 rfl 3 rfl ?_
          refine V_iast hc sP41 dX9_sortBy_60 ?_
          refine V_bds (fun t4 => ?_)
          refine V_aload_n hc dX9_sortBy_61 rfl 1 rfl ?_
          refine V_getr (C := RX9) (T := TX9) (N := 28) hc sP24 rfl qX9_sortBy_RX9 18 rfl (by decide) kX9_sortBy_64 rfl dX9_sortBy_62 ?_
          refine V_iload_n hc dX9_sortBy_65 rfl 2 rfl ?_
          refine V_iload_n hc dX9_sortBy_66 rfl 4 rfl ?_
          refine V_iconst (v := 1) hc dX9_sortBy_67 (by decide) ?_
          refine V_icmp_ne (tgt := 75) hc dX9_sortBy_68 (by decide) ?_ ?_
          · refine V_iconst (v := 0) hc dX9_sortBy_75 (by decide) ?_
            refine V_zastc hc sP42 (Or.inl rfl) dX9_sortBy_76 ?_
            refine V_bds (fun t5 => ?_)
            refine V_iload hc dX9_sortBy_77 0 rfl ?_
            exact V_iret hc rfl rfl dX9_sortBy_79
          · refine V_iconst (v := 1) hc dX9_sortBy_71 (by decide) ?_
            refine V_goto (tgt := 76) hc dX9_sortBy_72 (by decide) ?_
            refine V_zastc hc sP42 (Or.inr rfl) dX9_sortBy_76 ?_
            refine V_bds (fun t6 => ?_)
            refine V_iload hc dX9_sortBy_77 0 rfl ?_
            exact V_iret hc rfl rfl dX9_sortBy_79
        · refine V_iconst (v := 1) hc dX9_sortBy_46 (by decide) ?_
          refine V_goto (tgt := 51) hc dX9_sortBy_47 (by decide) ?_
          refine V_iadd hc dX9_sortBy_51 ?_
          refine V_istore (lv' := [(4, .int ((10 * (gA t 38 (ix a1))) + 1)), (0, .ref (K.2.2 24)), (1, .int a1), (2, .int a2), (3, .int a3)]) hc dX9_sortBy_52 (by decide) rfl ?_
          refine V_aload_n hc dX9_sortBy_54 rfl 1 rfl ?_
          refine V_getr (C := RX9) (T := TX9) (N := 28) hc sP24 rfl qX9_sortBy_RX9 17 rfl (by decide) kX9_sortBy_61 rfl dX9_sortBy_55 ?_
          refine V_iload_n hc dX9_sortBy_58 rfl 2 rfl ?_
          refine V_iload_n hc dX9_sortBy_59 rfl 3 rfl ?_
          refine V_iast hc sP41 dX9_sortBy_60 ?_
          refine V_bds (fun t7 => ?_)
          refine V_aload_n hc dX9_sortBy_61 rfl 1 rfl ?_
          refine V_getr (C := RX9) (T := TX9) (N := 28) hc sP24 rfl qX9_sortBy_RX9 18 rfl (by decide) kX9_sortBy_64 rfl dX9_sortBy_62 ?_
          refine V_iload_n hc dX9_sortBy_65 rfl 2 rfl ?_
          refine V_iload_n hc dX9_sortBy_66 rfl 4 rfl ?_
          refine V_iconst (v := 1) hc dX9_sortBy_67 (by decide) ?_
          refine V_icmp_ne (tgt := 75) hc dX9_sortBy_68 (by decide) ?_ ?_
          · refine V_iconst (v := 0) hc dX9_sortBy_75 (by decide) ?_
            refine V_zastc hc sP42 (Or.inl rfl) dX9_sortBy_76 ?_
            refine V_bds (fun t8 => ?_)
            refine V_iload hc dX9_sortBy_77 0 rfl ?_
            exact V_iret hc rfl rfl dX9_sortBy_79
          · refine V_iconst (v := 1) hc dX9_sortBy_71 (by decide) ?_
            refine V_goto (tgt := 76) hc dX9_sortBy_72 (by decide) ?_
            refine V_zastc hc sP42 (Or.inr rfl) dX9_sortBy_76 ?_
            refine V_bds (fun t9 => ?_)
            refine V_iload hc dX9_sortBy_77 0 rfl ?_
            exact V_iret hc rfl rfl dX9_sortBy_79
      · refine V_iconst (v := (-1)) hc dX9_sortBy_26 (by decide) ?_
        exact V_iret hc rfl rfl dX9_sortBy_27

theorem kX9_isShown_29 : Cond.fieldLink RX9 29 RX9 (TX9 6).2.1 (TX9 6).2.2.1 ∈ wsX9_isShown := by decide +kernel
theorem qX9_isShown_RX9 : ∀ w ∈ u_ws RX9 TX9 28, w ∈ wsX9_isShown := by
  first
  | exact fun _ h => List.mem_cons_of_mem _ (List.mem_append_right _ h)
  | exact fun _ h => List.mem_cons_of_mem _ (List.mem_append_left _ (List.mem_append_right _ h))
  | exact fun _ h => List.mem_cons_of_mem _ (List.mem_append_left _ (List.mem_append_left _ (List.mem_append_right _ h)))
  | exact fun _ h => List.mem_cons_of_mem _ (List.mem_append_left _ (List.mem_append_left _ (List.mem_append_left _ (List.mem_append_right _ h))))
  | exact fun _ h => List.mem_cons_of_mem _ (List.mem_append_left _ (List.mem_append_left _ (List.mem_append_left _ (List.mem_append_left _ (List.mem_append_right _ h)))))
  | decide +kernel
theorem kX9_isShown_57 : Cond.fieldLink RX9 57 RX9 (TX9 16).2.1 (TX9 16).2.2.1 ∈ wsX9_isShown := by decide +kernel
theorem kX9_isShown_41 : Cond.fieldLink RX9 41 RX9 (TX9 10).2.1 (TX9 10).2.2.1 ∈ wsX9_isShown := by decide +kernel
theorem kX9_isShown_35 : Cond.fieldLink RX9 35 RX9 (TX9 8).2.1 (TX9 8).2.2.1 ∈ wsX9_isShown := by decide +kernel
noncomputable def L_X9_isShown_94 (t0 : Sx) (b1 : Int32) (b2 : Int32) (b3 : Int32) (b4 : Int32) (kont : Int32 → Option Int32) : Nat → Int32 → Option Int32
  | 0, _ => none
  | n + 1, x5 => gd (vp_in b1 8) (gd (vp_in ((8 * b3) + x5) 80) (bd ((shrL (gM t0 2 (ix b1)) (gA t0 31 (ix ((8 * b3) + x5))))) fun v2 => if (lg_cmp (v2 &&& 1) 0) = 0 then L_X9_isShown_94 t0 b1 b2 b3 b4 kont n ((x5 + 1)) else kont (x5)))
set_option maxRecDepth 20000 in
set_option maxHeartbeats 4000000 in
theorem L_X9_isShown_94_ok {p : Program} {l : Launch} {K : Kx} {e : Env} {s : State} {m : MethodId} {args : Array Value} {below : List Frame} {meth : Method} {c : Code} (hc : Cx p ({ frames := 3, cells := 0, slots := 0, locals := 71 } : Room) s m args meth c cX9_isShown 6 wsX9_isShown RX9 K (aA K s.heap.size) (some .boolean) 0 0) (t0 : Sx) (b1 : Int32) (b2 : Int32) (b3 : Int32) (b4 : Int32) (kont : Int32 → Option Int32) (hk : ∀ x5, V p l e ({ frames := 3, cells := 0, slots := 0, locals := 71 } : Room) s m args below meth c K (aA K s.heap.size) 0 0 6 (QM below K args s (kRI t0)) 126 [(0, .ref (K.2.2 24)), (1, .int b1), (2, .int b2), (3, .int b3), (4, .int b4), (5, .int x5)] [] t0 (kont x5)) : ∀ (n : Nat) (x5 : Int32), V p l e ({ frames := 3, cells := 0, slots := 0, locals := 71 } : Room) s m args below meth c K (aA K s.heap.size) 0 0 6 (QM below K args s (kRI t0)) 94 [(0, .ref (K.2.2 24)), (1, .int b1), (2, .int b2), (3, .int b3), (4, .int b4), (5, .int x5)] [] t0 (L_X9_isShown_94 t0 b1 b2 b3 b4 kont n x5) := by
  intro n
  induction n with
  | zero => intro x5; exact V_none
  | succ n ih =>
    intro x5
    rw [L_X9_isShown_94]
    refine V_aload_n hc dX9_isShown_94 rfl 0 rfl ?_
    refine V_getr (C := RX9) (T := TX9) (N := 28) hc sP24 rfl qX9_isShown_RX9 16 rfl (by decide) kX9_isShown_57 rfl dX9_isShown_95 ?_
    refine V_iload_n hc dX9_isShown_98 rfl 1 rfl ?_
    refine V_lald hc sP40 dX9_isShown_99 ?_
    refine V_aload_n hc dX9_isShown_100 rfl 0 rfl ?_
    refine V_getr (C := RX9) (T := TX9) (N := 28) hc sP24 rfl qX9_isShown_RX9 8 rfl (by decide) kX9_isShown_35 rfl dX9_isShown_101 ?_
    refine V_bipush (v := 8) hc dX9_isShown_104 (by decide) ?_
    refine V_iload_n hc dX9_isShown_106 rfl 3 rfl ?_
    refine V_imul hc dX9_isShown_107 ?_
    refine V_iload hc dX9_isShown_108 5 rfl ?_
    refine V_iadd hc dX9_isShown_110 ?_
    refine V_iald hc sP33 dX9_isShown_111 ?_
    refine V_lshr hc dX9_isShown_112 ?_
    refine V_bdl (fun v2 => ?_)
    refine V_lconst (v := 1) hc dX9_isShown_113 (by decide) ?_
    refine V_land hc dX9_isShown_114 ?_
    refine V_lconst (v := 0) hc dX9_isShown_115 (by decide) ?_
    refine V_lcmp hc dX9_isShown_116 ?_
    refine V_if_ne (tgt := 126) hc dX9_isShown_117 (by decide) ?_ ?_
    · exact V_sub [0, 1, 2, 3, 4, 5] rfl (hk _)
    · refine V_iinc (v := (x5 + 1)) (lv' := [(5, .int (x5 + 1)), (0, .ref (K.2.2 24)), (1, .int b1), (2, .int b2), (3, .int b3), (4, .int b4)]) hc dX9_isShown_120 5 rfl rfl (by decide) rfl ?_
      refine V_goto (tgt := 94) hc dX9_isShown_123 (by decide) ?_
      exact V_sub [1, 2, 3, 4, 5, 0] rfl (ih _)
noncomputable def f_X9_isShown (t : Sx) (a1 : Int32) (a2 : Int32) : Option Int32 := gd (vp_in a2 40) (gd (vp_in a1 8) (if (lg_cmp ((shrL (gM t 2 (ix a1)) a2) &&& 1) 0) = 0 then gd (vp_in a1 8) (if (lg_cmp ((shrL (gM t 2 (ix a1)) a2) &&& 1) 1) = 0 then some 1 else some 0) else if (gA t 29 (ix a2)) < 0 then gd (vp_in a1 8) (if (lg_cmp ((shrL (gM t 2 (ix a1)) a2) &&& 1) 1) = 0 then some 1 else some 0) else gd (vp_in (gA t 29 (ix a2)) 10) (if (gA t 33 (ix (gA t 29 (ix a2)))) = 0 then gd (vp_in a1 8) (if (lg_cmp ((shrL (gM t 2 (ix a1)) a2) &&& 1) 1) = 0 then some 1 else some 0) else (f_X9_cover t (gA t 29 (ix a2))).bind fun r1 => gd (vp_in a1 8) (if (lg_cmp ((shrL (gM t 2 (ix a1)) r1) &&& 1) 1) = 0 then if a2 = r1 then some 1 else some 0 else L_X9_isShown_94 t (a1) (a2) ((gA t 29 (ix a2))) (r1) (fun z3 => gd (vp_in ((8 * (gA t 29 (ix a2))) + z3) 80) (if (gA t 31 (ix ((8 * (gA t 29 (ix a2))) + z3))) = a2 then some 1 else some 0)) FU (0)))))
set_option maxRecDepth 20000 in
set_option maxHeartbeats 4000000 in
theorem c_X9_isShown (l : Launch) (K : Kx) (t : Sx) (a1 : Int32) (a2 : Int32) : CT l K yX9_isShown wsX9_isShown ({ frames := 3, cells := 0, slots := 0, locals := 71 } : Room) [.ref (K.2.2 24), .int a1, .int a2] t (f_X9_isShown t a1 a2) (kRI t) := by
  refine CT_of (cc := cX9_isShown) (maxL := 6) (ret := (some .boolean)) (own := RX9) (by decide +kernel) rfl rfl (Nat.le_of_ble_eq_true rfl) ?_
  intro p e s m args below meth c hc
  refine V_sub (lv' := [(0, .ref (K.2.2 24)), (1, .int a1), (2, .int a2)]) [0, 1, 2] rfl ?_
  unfold f_X9_isShown
  refine V_aload_n hc dX9_isShown_0 rfl 0 rfl ?_
  refine V_getr (C := RX9) (T := TX9) (N := 28) hc sP24 rfl qX9_isShown_RX9 6 rfl (by decide) kX9_isShown_29 rfl dX9_isShown_1 ?_
  refine V_iload_n hc dX9_isShown_4 rfl 2 rfl ?_
  refine V_iald hc sP31 dX9_isShown_5 ?_
  refine V_istore_n (lv' := [(3, .int (gA t 29 (ix a2))), (0, .ref (K.2.2 24)), (1, .int a1), (2, .int a2)]) hc dX9_isShown_6 rfl (by decide) rfl ?_
  refine V_aload_n hc dX9_isShown_7 rfl 1 rfl ?_
  refine V_getr (C := RX9) (T := TX9) (N := 28) hc sP24 rfl qX9_isShown_RX9 16 rfl (by decide) kX9_isShown_57 rfl dX9_isShown_8 ?_
  refine V_iload_n hc dX9_isShown_11 rfl 2 rfl ?_
  refine V_lald hc sP40 dX9_isShown_12 ?_
  refine V_iload_n hc dX9_isShown_13 rfl 3 rfl ?_
  refine V_lshr hc dX9_isShown_14 ?_
  refine V_lconst (v := 1) hc dX9_isShown_15 (by decide) ?_
  refine V_land hc dX9_isShown_16 ?_
  refine V_lconst (v := 0) hc dX9_isShown_17 (by decide) ?_
  refine V_lcmp hc dX9_isShown_18 ?_
  refine V_if_eq (tgt := 35) hc dX9_isShown_19 (by decide) ?_ ?_
  · refine V_aload_n hc dX9_isShown_35 rfl 1 rfl ?_
    refine V_getr (C := RX9) (T := TX9) (N := 28) hc sP24 rfl qX9_isShown_RX9 16 rfl (by decide) kX9_isShown_57 rfl dX9_isShown_36 ?_
    refine V_iload_n hc dX9_isShown_39 rfl 2 rfl ?_
    refine V_lald hc sP40 dX9_isShown_40 ?_
    refine V_iload_n hc dX9_isShown_41 rfl 3 rfl ?_
    refine V_lshr hc dX9_isShown_42 ?_
    refine V_lconst (v := 1) hc dX9_isShown_43 (by decide) ?_
    refine V_land hc dX9_isShown_44 ?_
    refine V_lconst (v := 1) hc dX9_isShown_45 (by decide) ?_
    refine V_lcmp hc dX9_isShown_46 ?_
    refine V_if_ne (tgt := 54) hc dX9_isShown_47 (by decide) ?_ ?_
    · refine V_iconst (v := 0) hc dX9_isShown_54 (by decide) ?_
      exact V_nret hc rfl rfl rfl dX9_isShown_55
    · refine V_iconst (v := 1) hc dX9_isShown_50 (by decide) ?_
      refine V_goto (tgt := 55) hc dX9_isShown_51 (by decide) ?_
      exact V_nret hc rfl rfl rfl dX9_isShown_55
  · refine V_iload_n hc dX9_isShown_22 rfl 0 rfl ?_
    refine V_if_lt (tgt := 35) hc dX9_isShown_23 (by decide) ?_ ?_
    · refine V_aload_n hc dX9_isShown_35 rfl 1 rfl ?_
      refine V_getr (C := RX9) (T := TX9) (N := 28) hc sP24 rfl qX9_isShown_RX9 16 rfl (by decide) kX9_isShown_57 rfl dX9_isShown_36 ?_
      refine V_iload_n hc dX9_isShown_39 rfl 2 rfl ?_
      refine V_lald hc sP40 dX9_isShown_40 ?_
      refine V_iload_n hc dX9_isShown_41 rfl 3 rfl ?_
      refine V_lshr hc dX9_isShown_42 ?_
      refine V_lconst (v := 1) hc dX9_isShown_43 (by decide) ?_
      refine V_land hc dX9_isShown_44 ?_
      refine V_lconst (v := 1) hc dX9_isShown_45 (by decide) ?_
      refine V_lcmp hc dX9_isShown_46 ?_
      refine V_if_ne (tgt := 54) hc dX9_isShown_47 (by decide) ?_ ?_
      · refine V_iconst (v := 0) hc dX9_isShown_54 (by decide) ?_
        exact V_nret hc rfl rfl rfl dX9_isShown_55
      · refine V_iconst (v := 1) hc dX9_isShown_50 (by decide) ?_
        refine V_goto (tgt := 55) hc dX9_isShown_51 (by decide) ?_
        exact V_nret hc rfl rfl rfl dX9_isShown_55
    · refine V_aload_n hc dX9_isShown_26 rfl 1 rfl ?_
      refine V_getr (C := RX9) (T := TX9) (N := 28) hc sP24 rfl qX9_isShown_RX9 10 rfl (by decide) kX9_isShown_41 rfl dX9_isShown_27 ?_
      refine V_iload_n hc dX9_isShown_30 rfl 0 rfl ?_
      refine V_zald hc sP35 dX9_isShown_31 ?_
      refine V_if_ne (tgt := 56) hc dX9_isShown_32 (by decide) ?_ ?_
      · refine V_aload_n hc dX9_isShown_56 rfl 1 rfl ?_
        refine V_iload_n hc dX9_isShown_57 rfl 0 rfl ?_
        refine V_callV_RI (Cn := RX9) (T := TX9) (N := 28) hc (c_X9_cover l K t (gA t 29 (ix a2))) sP24 rfl 1 gX9_isShown_X9_cover rfl ⟨rfl, rfl⟩ (by decide) ⟨Nat.le_of_ble_eq_true rfl, Nat.le_of_ble_eq_true rfl⟩ rfl rfl (Nat.le_of_ble_eq_true rfl) dX9_isShown_58 (fun r1 => ?_)
        refine V_istore (lv' := [(4, .int r1), (3, .int (gA t 29 (ix a2))), (0, .ref (K.2.2 24)), (1, .int a1), (2, .int a2)]) hc dX9_isShown_61 (by decide) rfl ?_
        refine V_aload_n hc dX9_isShown_63 rfl 2 rfl ?_
        refine V_getr (C := RX9) (T := TX9) (N := 28) hc sP24 rfl qX9_isShown_RX9 16 rfl (by decide) kX9_isShown_57 rfl dX9_isShown_64 ?_
        refine V_iload_n hc dX9_isShown_67 rfl 3 rfl ?_
        refine V_lald hc sP40 dX9_isShown_68 ?_
        refine V_iload hc dX9_isShown_69 0 rfl ?_
        refine V_lshr hc dX9_isShown_71 ?_
        refine V_lconst (v := 1) hc dX9_isShown_72 (by decide) ?_
        refine V_land hc dX9_isShown_73 ?_
        refine V_lconst (v := 1) hc dX9_isShown_74 (by decide) ?_
        refine V_lcmp hc dX9_isShown_75 ?_
        refine V_if_ne (tgt := 91) hc dX9_isShown_76 (by decide) ?_ ?_
        · refine V_iconst (v := 0) hc dX9_isShown_91 (by decide) ?_
          refine V_istore (lv' := [(5, .int 0), (4, .int r1), (3, .int (gA t 29 (ix a2))), (0, .ref (K.2.2 24)), (1, .int a1), (2, .int a2)]) hc dX9_isShown_92 (by decide) rfl ?_
          refine V_sub (lv' := [(0, .ref (K.2.2 24)), (1, .int a1), (2, .int a2), (3, .int (gA t 29 (ix a2))), (4, .int r1), (5, .int 0)]) [3, 4, 5, 2, 1, 0] rfl ?_
          refine L_X9_isShown_94_ok hc t (a1) (a2) ((gA t 29 (ix a2))) (r1) _ (fun z3 => ?_) FU _
          refine V_aload_n hc dX9_isShown_126 rfl 0 rfl ?_
          refine V_getr (C := RX9) (T := TX9) (N := 28) hc sP24 rfl qX9_isShown_RX9 8 rfl (by decide) kX9_isShown_35 rfl dX9_isShown_127 ?_
          refine V_bipush (v := 8) hc dX9_isShown_130 (by decide) ?_
          refine V_iload_n hc dX9_isShown_132 rfl 3 rfl ?_
          refine V_imul hc dX9_isShown_133 ?_
          refine V_iload hc dX9_isShown_134 5 rfl ?_
          refine V_iadd hc dX9_isShown_136 ?_
          refine V_iald hc sP33 dX9_isShown_137 ?_
          refine V_iload_n hc dX9_isShown_138 rfl 2 rfl ?_
          refine V_icmp_ne (tgt := 146) hc dX9_isShown_139 (by decide) ?_ ?_
          · refine V_iconst (v := 0) hc dX9_isShown_146 (by decide) ?_
            exact V_nret hc rfl rfl rfl dX9_isShown_147
          · refine V_iconst (v := 1) hc dX9_isShown_142 (by decide) ?_
            refine V_goto (tgt := 147) hc dX9_isShown_143 (by decide) ?_
            exact V_nret hc rfl rfl rfl dX9_isShown_147
        · refine V_iload_n hc dX9_isShown_79 rfl 4 rfl ?_
          refine V_iload hc dX9_isShown_80 0 rfl ?_
          refine V_icmp_ne (tgt := 89) hc dX9_isShown_82 (by decide) ?_ ?_
          · refine V_iconst (v := 0) hc dX9_isShown_89 (by decide) ?_
            exact V_nret hc rfl rfl rfl dX9_isShown_90
          · refine V_iconst (v := 1) hc dX9_isShown_85 (by decide) ?_
            refine V_goto (tgt := 90) hc dX9_isShown_86 (by decide) ?_
            exact V_nret hc rfl rfl rfl dX9_isShown_90
      · refine V_aload_n hc dX9_isShown_35 rfl 1 rfl ?_
        refine V_getr (C := RX9) (T := TX9) (N := 28) hc sP24 rfl qX9_isShown_RX9 16 rfl (by decide) kX9_isShown_57 rfl dX9_isShown_36 ?_
        refine V_iload_n hc dX9_isShown_39 rfl 2 rfl ?_
        refine V_lald hc sP40 dX9_isShown_40 ?_
        refine V_iload_n hc dX9_isShown_41 rfl 3 rfl ?_
        refine V_lshr hc dX9_isShown_42 ?_
        refine V_lconst (v := 1) hc dX9_isShown_43 (by decide) ?_
        refine V_land hc dX9_isShown_44 ?_
        refine V_lconst (v := 1) hc dX9_isShown_45 (by decide) ?_
        refine V_lcmp hc dX9_isShown_46 ?_
        refine V_if_ne (tgt := 54) hc dX9_isShown_47 (by decide) ?_ ?_
        · refine V_iconst (v := 0) hc dX9_isShown_54 (by decide) ?_
          exact V_nret hc rfl rfl rfl dX9_isShown_55
        · refine V_iconst (v := 1) hc dX9_isShown_50 (by decide) ?_
          refine V_goto (tgt := 55) hc dX9_isShown_51 (by decide) ?_
          exact V_nret hc rfl rfl rfl dX9_isShown_55

theorem kX9_isAhead_61 : Cond.fieldLink RX9 61 RX9 (TX9 17).2.1 (TX9 17).2.2.1 ∈ wsX9_isAhead := by decide +kernel
theorem qX9_isAhead_RX9 : ∀ w ∈ u_ws RX9 TX9 28, w ∈ wsX9_isAhead := by
  first
  | exact fun _ h => List.mem_cons_of_mem _ (List.mem_append_right _ h)
  | exact fun _ h => List.mem_cons_of_mem _ (List.mem_append_left _ (List.mem_append_right _ h))
  | exact fun _ h => List.mem_cons_of_mem _ (List.mem_append_left _ (List.mem_append_left _ (List.mem_append_right _ h)))
  | exact fun _ h => List.mem_cons_of_mem _ (List.mem_append_left _ (List.mem_append_left _ (List.mem_append_left _ (List.mem_append_right _ h))))
  | exact fun _ h => List.mem_cons_of_mem _ (List.mem_append_left _ (List.mem_append_left _ (List.mem_append_left _ (List.mem_append_left _ (List.mem_append_right _ h)))))
  | decide +kernel
theorem kX9_isAhead_64 : Cond.fieldLink RX9 64 RX9 (TX9 18).2.1 (TX9 18).2.2.1 ∈ wsX9_isAhead := by decide +kernel
noncomputable def f_X9_isAhead (t : Sx) (a1 : Int32) (a2 : Int32) (a3 : Int32) : Option Int32 := gd (vp_in a1 8) ((f_X9_valueOr t (a2) (gA t 38 (ix a1)) (-1)).bind fun r1 => gd (vp_in a1 8) ((f_X9_valueOr t (a3) (gA t 38 (ix a1)) (-1)).bind fun r2 => if r1 = r2 then if a3 ≤ a2 then some 0 else some 1 else if r2 < 0 then some 1 else if r1 < 0 then some 0 else gd (vp_in a1 8) (if (gA t 39 (ix a1)) = 0 then if r2 ≤ r1 then some 0 else some 1 else if r1 ≤ r2 then some 0 else some 1)))
set_option maxRecDepth 20000 in
set_option maxHeartbeats 4000000 in
theorem c_X9_isAhead (l : Launch) (K : Kx) (t : Sx) (a1 : Int32) (a2 : Int32) (a3 : Int32) : CT l K yX9_isAhead wsX9_isAhead ({ frames := 2, cells := 0, slots := 0, locals := 47 } : Room) [.ref (K.2.2 24), .int a1, .int a2, .int a3] t (f_X9_isAhead t a1 a2 a3) (kRI t) := by
  refine CT_of (cc := cX9_isAhead) (maxL := 6) (ret := (some .boolean)) (own := RX9) (by decide +kernel) rfl rfl (Nat.le_of_ble_eq_true rfl) ?_
  intro p e s m args below meth c hc
  refine V_sub (lv' := [(0, .ref (K.2.2 24)), (1, .int a1), (2, .int a2), (3, .int a3)]) [0, 1, 2, 3] rfl ?_
  unfold f_X9_isAhead
  refine V_aload_n hc dX9_isAhead_0 rfl 0 rfl ?_
  refine V_iload_n hc dX9_isAhead_1 rfl 2 rfl ?_
  refine V_aload_n hc dX9_isAhead_2 rfl 0 rfl ?_
  refine V_getr (C := RX9) (T := TX9) (N := 28) hc sP24 rfl qX9_isAhead_RX9 17 rfl (by decide) kX9_isAhead_61 rfl dX9_isAhead_3 ?_
  refine V_iload_n hc dX9_isAhead_6 rfl 1 rfl ?_
  refine V_iald hc sP41 dX9_isAhead_7 ?_
  refine V_iconst (v := (-1)) hc dX9_isAhead_8 (by decide) ?_
  refine V_callV_RI (Cn := RX9) (T := TX9) (N := 28) hc (c_X9_valueOr l K t (a2) (gA t 38 (ix a1)) (-1)) sP24 rfl 3 gX9_isAhead_X9_valueOr rfl ⟨rfl, rfl⟩ (by decide) ⟨Nat.le_of_ble_eq_true rfl, Nat.le_of_ble_eq_true rfl⟩ rfl rfl (Nat.le_of_ble_eq_true rfl) dX9_isAhead_9 (fun r1 => ?_)
  refine V_istore (lv' := [(4, .int r1), (0, .ref (K.2.2 24)), (1, .int a1), (2, .int a2), (3, .int a3)]) hc dX9_isAhead_12 (by decide) rfl ?_
  refine V_aload_n hc dX9_isAhead_14 rfl 1 rfl ?_
  refine V_iload_n hc dX9_isAhead_15 rfl 4 rfl ?_
  refine V_aload_n hc dX9_isAhead_16 rfl 1 rfl ?_
  refine V_getr (C := RX9) (T := TX9) (N := 28) hc sP24 rfl qX9_isAhead_RX9 17 rfl (by decide) kX9_isAhead_61 rfl dX9_isAhead_17 ?_
  refine V_iload_n hc dX9_isAhead_20 rfl 2 rfl ?_
  refine V_iald hc sP41 dX9_isAhead_21 ?_
  refine V_iconst (v := (-1)) hc dX9_isAhead_22 (by decide) ?_
  refine V_callV_RI (Cn := RX9) (T := TX9) (N := 28) hc (c_X9_valueOr l K t (a3) (gA t 38 (ix a1)) (-1)) sP24 rfl 3 gX9_isAhead_X9_valueOr rfl ⟨rfl, rfl⟩ (by decide) ⟨Nat.le_of_ble_eq_true rfl, Nat.le_of_ble_eq_true rfl⟩ rfl rfl (Nat.le_of_ble_eq_true rfl) dX9_isAhead_23 (fun r2 => ?_)
  refine V_istore (lv' := [(5, .int r2), (4, .int r1), (0, .ref (K.2.2 24)), (1, .int a1), (2, .int a2), (3, .int a3)]) hc dX9_isAhead_26 (by decide) rfl ?_
  refine V_iload hc dX9_isAhead_28 1 rfl ?_
  refine V_iload hc dX9_isAhead_30 0 rfl ?_
  refine V_icmp_ne (tgt := 46) hc dX9_isAhead_32 (by decide) ?_ ?_
  · refine V_iload hc dX9_isAhead_46 0 rfl ?_
    refine V_if_lt (tgt := 82) hc dX9_isAhead_48 (by decide) ?_ ?_
    · refine V_iconst (v := 1) hc dX9_isAhead_82 (by decide) ?_
      refine V_goto (tgt := 87) hc dX9_isAhead_83 (by decide) ?_
      exact V_nret hc rfl rfl rfl dX9_isAhead_87
    · refine V_iload hc dX9_isAhead_51 1 rfl ?_
      refine V_if_lt (tgt := 86) hc dX9_isAhead_53 (by decide) ?_ ?_
      · refine V_iconst (v := 0) hc dX9_isAhead_86 (by decide) ?_
        exact V_nret hc rfl rfl rfl dX9_isAhead_87
      · refine V_aload_n hc dX9_isAhead_56 rfl 2 rfl ?_
        refine V_getr (C := RX9) (T := TX9) (N := 28) hc sP24 rfl qX9_isAhead_RX9 18 rfl (by decide) kX9_isAhead_64 rfl dX9_isAhead_57 ?_
        refine V_iload_n hc dX9_isAhead_60 rfl 3 rfl ?_
        refine V_zald hc sP42 dX9_isAhead_61 ?_
        refine V_if_eq (tgt := 75) hc dX9_isAhead_62 (by decide) ?_ ?_
        · refine V_iload hc dX9_isAhead_75 1 rfl ?_
          refine V_iload hc dX9_isAhead_77 0 rfl ?_
          refine V_icmp_ge (tgt := 86) hc dX9_isAhead_79 (by decide) ?_ ?_
          · refine V_iconst (v := 0) hc dX9_isAhead_86 (by decide) ?_
            exact V_nret hc rfl rfl rfl dX9_isAhead_87
          · refine V_iconst (v := 1) hc dX9_isAhead_82 (by decide) ?_
            refine V_goto (tgt := 87) hc dX9_isAhead_83 (by decide) ?_
            exact V_nret hc rfl rfl rfl dX9_isAhead_87
        · refine V_iload hc dX9_isAhead_65 1 rfl ?_
          refine V_iload hc dX9_isAhead_67 0 rfl ?_
          refine V_icmp_le (tgt := 86) hc dX9_isAhead_69 (by decide) ?_ ?_
          · refine V_iconst (v := 0) hc dX9_isAhead_86 (by decide) ?_
            exact V_nret hc rfl rfl rfl dX9_isAhead_87
          · refine V_goto (tgt := 82) hc dX9_isAhead_72 (by decide) ?_
            refine V_iconst (v := 1) hc dX9_isAhead_82 (by decide) ?_
            refine V_goto (tgt := 87) hc dX9_isAhead_83 (by decide) ?_
            exact V_nret hc rfl rfl rfl dX9_isAhead_87
  · refine V_iload_n hc dX9_isAhead_35 rfl 4 rfl ?_
    refine V_iload_n hc dX9_isAhead_36 rfl 5 rfl ?_
    refine V_icmp_ge (tgt := 44) hc dX9_isAhead_37 (by decide) ?_ ?_
    · refine V_iconst (v := 0) hc dX9_isAhead_44 (by decide) ?_
      exact V_nret hc rfl rfl rfl dX9_isAhead_45
    · refine V_iconst (v := 1) hc dX9_isAhead_40 (by decide) ?_
      refine V_goto (tgt := 45) hc dX9_isAhead_41 (by decide) ?_
      exact V_nret hc rfl rfl rfl dX9_isAhead_45


noncomputable def L_X9_shown_4 (t0 : Sx) (b1 : Int32) (kont : Int32 → Int32 → Option Int32) : Nat → Int32 → Int32 → Option Int32
  | 0, _, _ => none
  | n + 1, x2 , x3 => if 40 ≤ x3 then kont (x2) (x3) else (f_X9_isShown t0 (b1) (x3)).bind fun r1 => if r1 = 0 then L_X9_shown_4 t0 b1 kont n ((x2 + 0)) ((x3 + 1)) else L_X9_shown_4 t0 b1 kont n ((x2 + 1)) ((x3 + 1))
set_option maxRecDepth 20000 in
set_option maxHeartbeats 4000000 in
theorem L_X9_shown_4_ok {p : Program} {l : Launch} {K : Kx} {e : Env} {s : State} {m : MethodId} {args : Array Value} {below : List Frame} {meth : Method} {c : Code} (hc : Cx p ({ frames := 4, cells := 0, slots := 0, locals := 96 } : Room) s m args meth c cX9_shown 4 wsX9_shown RX9 K (aA K s.heap.size) (some .int) 0 0) (t0 : Sx) (b1 : Int32) (kont : Int32 → Int32 → Option Int32) (hk : ∀ x2 x3, V p l e ({ frames := 4, cells := 0, slots := 0, locals := 96 } : Room) s m args below meth c K (aA K s.heap.size) 0 0 4 (QM below K args s (kRI t0)) 33 [(0, .ref (K.2.2 24)), (1, .int b1), (2, .int x2), (3, .int x3)] [] t0 (kont x2 x3)) : ∀ (n : Nat) (x2 : Int32) (x3 : Int32), V p l e ({ frames := 4, cells := 0, slots := 0, locals := 96 } : Room) s m args below meth c K (aA K s.heap.size) 0 0 4 (QM below K args s (kRI t0)) 4 [(0, .ref (K.2.2 24)), (1, .int b1), (2, .int x2), (3, .int x3)] [] t0 (L_X9_shown_4 t0 b1 kont n x2 x3) := by
  intro n
  induction n with
  | zero => intro x2 x3; exact V_none
  | succ n ih =>
    intro x2 x3
    rw [L_X9_shown_4]
    refine V_iload_n hc dX9_shown_4 rfl 3 rfl ?_
    refine V_bipush (v := 40) hc dX9_shown_5 (by decide) ?_
    refine V_icmp_ge (tgt := 33) hc dX9_shown_7 (by decide) ?_ ?_
    · exact V_sub [0, 1, 2, 3] rfl (hk _ _)
    · refine V_iload_n hc dX9_shown_10 rfl 2 rfl ?_
      refine V_aload_n hc dX9_shown_11 rfl 0 rfl ?_
      refine V_iload_n hc dX9_shown_12 rfl 1 rfl ?_
      refine V_iload_n hc dX9_shown_13 rfl 3 rfl ?_
      refine V_callV_RI (Cn := RX9) (T := TX9) (N := 28) hc (c_X9_isShown l K t0 (b1) (x3)) sP24 rfl 2 gX9_shown_X9_isShown rfl ⟨rfl, rfl⟩ (by decide) ⟨Nat.le_of_ble_eq_true rfl, Nat.le_of_ble_eq_true rfl⟩ rfl rfl (Nat.le_of_ble_eq_true rfl) dX9_shown_14 (fun r1 => ?_)
      refine V_if_eq (tgt := 24) hc dX9_shown_17 (by decide) ?_ ?_
      · refine V_iconst (v := 0) hc dX9_shown_24 (by decide) ?_
        refine V_iadd hc dX9_shown_25 ?_
        refine V_istore_n (lv' := [(2, .int (x2 + 0)), (0, .ref (K.2.2 24)), (1, .int b1), (3, .int x3)]) hc dX9_shown_26 rfl (by decide) rfl ?_
        refine V_iinc (v := (x3 + 1)) (lv' := [(3, .int (x3 + 1)), (2, .int (x2 + 0)), (0, .ref (K.2.2 24)), (1, .int b1)]) hc dX9_shown_27 3 rfl rfl (by decide) rfl ?_
        refine V_goto (tgt := 4) hc dX9_shown_30 (by decide) ?_
        exact V_sub [2, 3, 1, 0] rfl (ih _ _)
      · refine V_iconst (v := 1) hc dX9_shown_20 (by decide) ?_
        refine V_goto (tgt := 25) hc dX9_shown_21 (by decide) ?_
        refine V_iadd hc dX9_shown_25 ?_
        refine V_istore_n (lv' := [(2, .int (x2 + 1)), (0, .ref (K.2.2 24)), (1, .int b1), (3, .int x3)]) hc dX9_shown_26 rfl (by decide) rfl ?_
        refine V_iinc (v := (x3 + 1)) (lv' := [(3, .int (x3 + 1)), (2, .int (x2 + 1)), (0, .ref (K.2.2 24)), (1, .int b1)]) hc dX9_shown_27 3 rfl rfl (by decide) rfl ?_
        refine V_goto (tgt := 4) hc dX9_shown_30 (by decide) ?_
        exact V_sub [2, 3, 1, 0] rfl (ih _ _)
noncomputable def f_X9_shown (t : Sx) (a1 : Int32) : Option Int32 := L_X9_shown_4 t (a1) (fun z2 z3 => some z2) FU (0) (0)
set_option maxRecDepth 20000 in
set_option maxHeartbeats 4000000 in
theorem c_X9_shown (l : Launch) (K : Kx) (t : Sx) (a1 : Int32) : CT l K yX9_shown wsX9_shown ({ frames := 4, cells := 0, slots := 0, locals := 96 } : Room) [.ref (K.2.2 24), .int a1] t (f_X9_shown t a1) (kRI t) := by
  refine CT_of (cc := cX9_shown) (maxL := 4) (ret := (some .int)) (own := RX9) (by decide +kernel) rfl rfl (Nat.le_of_ble_eq_true rfl) ?_
  intro p e s m args below meth c hc
  refine V_sub (lv' := [(0, .ref (K.2.2 24)), (1, .int a1)]) [0, 1] rfl ?_
  unfold f_X9_shown
  refine V_iconst (v := 0) hc dX9_shown_0 (by decide) ?_
  refine V_istore_n (lv' := [(2, .int 0), (0, .ref (K.2.2 24)), (1, .int a1)]) hc dX9_shown_1 rfl (by decide) rfl ?_
  refine V_iconst (v := 0) hc dX9_shown_2 (by decide) ?_
  refine V_istore_n (lv' := [(3, .int 0), (2, .int 0), (0, .ref (K.2.2 24)), (1, .int a1)]) hc dX9_shown_3 rfl (by decide) rfl ?_
  refine V_sub (lv' := [(0, .ref (K.2.2 24)), (1, .int a1), (2, .int 0), (3, .int 0)]) [2, 3, 1, 0] rfl ?_
  refine L_X9_shown_4_ok hc t (a1) _ (fun z2 z3 => ?_) FU _ _
  refine V_iload_n hc dX9_shown_33 rfl 2 rfl ?_
  exact V_iret hc rfl rfl dX9_shown_34


noncomputable def f_X9_viewSize (t : Sx) (a1 : Int32) : Option Int32 := (f_X9_there8 t (a1)).bind fun r1 => if r1 = 0 then some (-1) else (f_X9_shown t (a1)).bind fun r2 => some r2
set_option maxRecDepth 20000 in
set_option maxHeartbeats 4000000 in
theorem c_X9_viewSize (l : Launch) (K : Kx) (t : Sx) (a1 : Int32) : CT l K yX9_viewSize wsX9_viewSize ({ frames := 5, cells := 0, slots := 0, locals := 119 } : Room) [.ref (K.2.2 24), .int a1] t (f_X9_viewSize t a1) (kRI t) := by
  refine CT_of (cc := cX9_viewSize) (maxL := 2) (ret := (some .int)) (own := RX9) (by decide +kernel) rfl rfl (Nat.le_of_ble_eq_true rfl) ?_
  intro p e s m args below meth c hc
  refine V_sub (lv' := [(0, .ref (K.2.2 24)), (1, .int a1)]) [0, 1] rfl ?_
  unfold f_X9_viewSize
  refine V_aload_n hc dX9_viewSize_0 rfl 0 rfl ?_
  refine V_iload_n hc dX9_viewSize_1 rfl 1 rfl ?_
  refine V_callV_RI (Cn := RX9) (T := TX9) (N := 28) hc (c_X9_there8 l K t (a1)) sP24 rfl 1 gX9_viewSize_X9_there8 rfl ⟨rfl, rfl⟩ (by decide) ⟨Nat.le_of_ble_eq_true rfl, Nat.le_of_ble_eq_true rfl⟩ rfl rfl (Nat.le_of_ble_eq_true rfl) dX9_viewSize_2 (fun r1 => ?_)
  refine V_if_eq (tgt := 16) hc dX9_viewSize_5 (by decide) ?_ ?_
  · refine V_iconst (v := (-1)) hc dX9_viewSize_16 (by decide) ?_
    exact V_iret hc rfl rfl dX9_viewSize_17
  · refine V_aload_n hc dX9_viewSize_8 rfl 0 rfl ?_
    refine V_iload_n hc dX9_viewSize_9 rfl 1 rfl ?_
    refine V_callV_RI (Cn := RX9) (T := TX9) (N := 28) hc (c_X9_shown l K t (a1)) sP24 rfl 1 gX9_viewSize_X9_shown rfl ⟨rfl, rfl⟩ (by decide) ⟨Nat.le_of_ble_eq_true rfl, Nat.le_of_ble_eq_true rfl⟩ rfl rfl (Nat.le_of_ble_eq_true rfl) dX9_viewSize_10 (fun r2 => ?_)
    refine V_goto (tgt := 17) hc dX9_viewSize_13 (by decide) ?_
    exact V_iret hc rfl rfl dX9_viewSize_17


noncomputable def L_X9_viewAt_28 (t0 : Sx) (b1 : Int32) (b2 : Int32) (b3 : Int32) (kont : Int32 → Int32 → Option Int32) : Nat → Int32 → Int32 → Option Int32
  | 0, _, _ => none
  | n + 1, x4 , x5 => if 40 ≤ x5 then kont (x4) (x5) else (f_X9_isShown t0 (b1) (b3)).bind fun r2 => if r2 = 0 then kont (x4) (x5) else if x5 = b3 then L_X9_viewAt_28 t0 b1 b2 b3 kont n ((x4 + 0)) ((x5 + 1)) else (f_X9_isShown t0 (b1) (x5)).bind fun r3 => if r3 = 0 then L_X9_viewAt_28 t0 b1 b2 b3 kont n ((x4 + 0)) ((x5 + 1)) else (f_X9_isAhead t0 (b1) (x5) (b3)).bind fun r4 => if r4 = 0 then L_X9_viewAt_28 t0 b1 b2 b3 kont n ((x4 + 0)) ((x5 + 1)) else L_X9_viewAt_28 t0 b1 b2 b3 kont n ((x4 + 1)) ((x5 + 1))
set_option maxRecDepth 20000 in
set_option maxHeartbeats 4000000 in
theorem L_X9_viewAt_28_ok {p : Program} {l : Launch} {K : Kx} {e : Env} {s : State} {m : MethodId} {args : Array Value} {below : List Frame} {meth : Method} {c : Code} (hc : Cx p ({ frames := 4, cells := 0, slots := 0, locals := 96 } : Room) s m args meth c cX9_viewAt 6 wsX9_viewAt RX9 K (aA K s.heap.size) (some .int) 0 0) (t0 : Sx) (b1 : Int32) (b2 : Int32) (b3 : Int32) (kont : Int32 → Int32 → Option Int32) (hk : ∀ x4 x5, V p l e ({ frames := 4, cells := 0, slots := 0, locals := 96 } : Room) s m args below meth c K (aA K s.heap.size) 0 0 6 (QM below K args s (kRI t0)) 87 [(0, .ref (K.2.2 24)), (1, .int b1), (2, .int b2), (3, .int b3), (4, .int x4), (5, .int x5)] [] t0 (kont x4 x5)) : ∀ (n : Nat) (x4 : Int32) (x5 : Int32), V p l e ({ frames := 4, cells := 0, slots := 0, locals := 96 } : Room) s m args below meth c K (aA K s.heap.size) 0 0 6 (QM below K args s (kRI t0)) 28 [(0, .ref (K.2.2 24)), (1, .int b1), (2, .int b2), (3, .int b3), (4, .int x4), (5, .int x5)] [] t0 (L_X9_viewAt_28 t0 b1 b2 b3 kont n x4 x5) := by
  intro n
  induction n with
  | zero => intro x4 x5; exact V_none
  | succ n ih =>
    intro x4 x5
    rw [L_X9_viewAt_28]
    refine V_iload hc dX9_viewAt_28 5 rfl ?_
    refine V_bipush (v := 40) hc dX9_viewAt_30 (by decide) ?_
    refine V_icmp_ge (tgt := 87) hc dX9_viewAt_32 (by decide) ?_ ?_
    · exact V_sub [0, 1, 2, 3, 4, 5] rfl (hk _ _)
    · refine V_aload_n hc dX9_viewAt_35 rfl 0 rfl ?_
      refine V_iload_n hc dX9_viewAt_36 rfl 1 rfl ?_
      refine V_iload_n hc dX9_viewAt_37 rfl 3 rfl ?_
      refine V_callV_RI (Cn := RX9) (T := TX9) (N := 28) hc (c_X9_isShown l K t0 (b1) (b3)) sP24 rfl 2 gX9_viewAt_X9_isShown rfl ⟨rfl, rfl⟩ (by decide) ⟨Nat.le_of_ble_eq_true rfl, Nat.le_of_ble_eq_true rfl⟩ rfl rfl (Nat.le_of_ble_eq_true rfl) dX9_viewAt_38 (fun r2 => ?_)
      refine V_if_eq (tgt := 87) hc dX9_viewAt_41 (by decide) ?_ ?_
      · exact V_sub [0, 1, 2, 3, 4, 5] rfl (hk _ _)
      · refine V_iload hc dX9_viewAt_44 4 rfl ?_
        refine V_iload hc dX9_viewAt_46 5 rfl ?_
        refine V_iload_n hc dX9_viewAt_48 rfl 3 rfl ?_
        refine V_icmp_eq (tgt := 77) hc dX9_viewAt_49 (by decide) ?_ ?_
        · refine V_iconst (v := 0) hc dX9_viewAt_77 (by decide) ?_
          refine V_iadd hc dX9_viewAt_78 ?_
          refine V_istore (lv' := [(4, .int (x4 + 0)), (0, .ref (K.2.2 24)), (1, .int b1), (2, .int b2), (3, .int b3), (5, .int x5)]) hc dX9_viewAt_79 (by decide) rfl ?_
          refine V_iinc (v := (x5 + 1)) (lv' := [(5, .int (x5 + 1)), (4, .int (x4 + 0)), (0, .ref (K.2.2 24)), (1, .int b1), (2, .int b2), (3, .int b3)]) hc dX9_viewAt_81 5 rfl rfl (by decide) rfl ?_
          refine V_goto (tgt := 28) hc dX9_viewAt_84 (by decide) ?_
          exact V_sub [2, 3, 4, 5, 1, 0] rfl (ih _ _)
        · refine V_aload_n hc dX9_viewAt_52 rfl 0 rfl ?_
          refine V_iload_n hc dX9_viewAt_53 rfl 1 rfl ?_
          refine V_iload hc dX9_viewAt_54 5 rfl ?_
          refine V_callV_RI (Cn := RX9) (T := TX9) (N := 28) hc (c_X9_isShown l K t0 (b1) (x5)) sP24 rfl 2 gX9_viewAt_X9_isShown rfl ⟨rfl, rfl⟩ (by decide) ⟨Nat.le_of_ble_eq_true rfl, Nat.le_of_ble_eq_true rfl⟩ rfl rfl (Nat.le_of_ble_eq_true rfl) dX9_viewAt_56 (fun r3 => ?_)
          refine V_if_eq (tgt := 77) hc dX9_viewAt_59 (by decide) ?_ ?_
          · refine V_iconst (v := 0) hc dX9_viewAt_77 (by decide) ?_
            refine V_iadd hc dX9_viewAt_78 ?_
            refine V_istore (lv' := [(4, .int (x4 + 0)), (0, .ref (K.2.2 24)), (1, .int b1), (2, .int b2), (3, .int b3), (5, .int x5)]) hc dX9_viewAt_79 (by decide) rfl ?_
            refine V_iinc (v := (x5 + 1)) (lv' := [(5, .int (x5 + 1)), (4, .int (x4 + 0)), (0, .ref (K.2.2 24)), (1, .int b1), (2, .int b2), (3, .int b3)]) hc dX9_viewAt_81 5 rfl rfl (by decide) rfl ?_
            refine V_goto (tgt := 28) hc dX9_viewAt_84 (by decide) ?_
            exact V_sub [2, 3, 4, 5, 1, 0] rfl (ih _ _)
          · refine V_aload_n hc dX9_viewAt_62 rfl 0 rfl ?_
            refine V_iload_n hc dX9_viewAt_63 rfl 1 rfl ?_
            refine V_iload hc dX9_viewAt_64 5 rfl ?_
            refine V_iload_n hc dX9_viewAt_66 rfl 3 rfl ?_
            refine V_callV_RI (Cn := RX9) (T := TX9) (N := 28) hc (c_X9_isAhead l K t0 (b1) (x5) (b3)) sP24 rfl 3 gX9_viewAt_X9_isAhead rfl ⟨rfl, rfl⟩ (by decide) ⟨Nat.le_of_ble_eq_true rfl, Nat.le_of_ble_eq_true rfl⟩ rfl rfl (Nat.le_of_ble_eq_true rfl) dX9_viewAt_67 (fun r4 => ?_)
            refine V_if_eq (tgt := 77) hc dX9_viewAt_70 (by decide) ?_ ?_
            · refine V_iconst (v := 0) hc dX9_viewAt_77 (by decide) ?_
              refine V_iadd hc dX9_viewAt_78 ?_
              refine V_istore (lv' := [(4, .int (x4 + 0)), (0, .ref (K.2.2 24)), (1, .int b1), (2, .int b2), (3, .int b3), (5, .int x5)]) hc dX9_viewAt_79 (by decide) rfl ?_
              refine V_iinc (v := (x5 + 1)) (lv' := [(5, .int (x5 + 1)), (4, .int (x4 + 0)), (0, .ref (K.2.2 24)), (1, .int b1), (2, .int b2), (3, .int b3)]) hc dX9_viewAt_81 5 rfl rfl (by decide) rfl ?_
              refine V_goto (tgt := 28) hc dX9_viewAt_84 (by decide) ?_
              exact V_sub [2, 3, 4, 5, 1, 0] rfl (ih _ _)
            · refine V_iconst (v := 1) hc dX9_viewAt_73 (by decide) ?_
              refine V_goto (tgt := 78) hc dX9_viewAt_74 (by decide) ?_
              refine V_iadd hc dX9_viewAt_78 ?_
              refine V_istore (lv' := [(4, .int (x4 + 1)), (0, .ref (K.2.2 24)), (1, .int b1), (2, .int b2), (3, .int b3), (5, .int x5)]) hc dX9_viewAt_79 (by decide) rfl ?_
              refine V_iinc (v := (x5 + 1)) (lv' := [(5, .int (x5 + 1)), (4, .int (x4 + 1)), (0, .ref (K.2.2 24)), (1, .int b1), (2, .int b2), (3, .int b3)]) hc dX9_viewAt_81 5 rfl rfl (by decide) rfl ?_
              refine V_goto (tgt := 28) hc dX9_viewAt_84 (by decide) ?_
              exact V_sub [2, 3, 4, 5, 1, 0] rfl (ih _ _)
noncomputable def L_X9_viewAt_16 (t0 : Sx) (b1 : Int32) (b2 : Int32) (kont : Int32 → Option Int32) : Nat → Int32 → Option Int32
  | 0, _ => none
  | n + 1, x3 => if 40 ≤ x3 then kont (x3) else L_X9_viewAt_28 t0 (b1) (b2) (x3) (fun z5 z6 => (f_X9_isShown t0 (b1) (x3)).bind fun r7 => if r7 = 0 then L_X9_viewAt_16 t0 b1 b2 kont n ((x3 + 1)) else if z5 = b2 then some x3 else L_X9_viewAt_16 t0 b1 b2 kont n ((x3 + 1))) FU (0) (0)
set_option maxRecDepth 20000 in
set_option maxHeartbeats 4000000 in
theorem L_X9_viewAt_16_ok {p : Program} {l : Launch} {K : Kx} {e : Env} {s : State} {m : MethodId} {args : Array Value} {below : List Frame} {meth : Method} {c : Code} (hc : Cx p ({ frames := 4, cells := 0, slots := 0, locals := 96 } : Room) s m args meth c cX9_viewAt 6 wsX9_viewAt RX9 K (aA K s.heap.size) (some .int) 0 0) (t0 : Sx) (b1 : Int32) (b2 : Int32) (kont : Int32 → Option Int32) (hk : ∀ x3, V p l e ({ frames := 4, cells := 0, slots := 0, locals := 96 } : Room) s m args below meth c K (aA K s.heap.size) 0 0 6 (QM below K args s (kRI t0)) 110 [(0, .ref (K.2.2 24)), (1, .int b1), (2, .int b2), (3, .int x3)] [] t0 (kont x3)) : ∀ (n : Nat) (x3 : Int32), V p l e ({ frames := 4, cells := 0, slots := 0, locals := 96 } : Room) s m args below meth c K (aA K s.heap.size) 0 0 6 (QM below K args s (kRI t0)) 16 [(0, .ref (K.2.2 24)), (1, .int b1), (2, .int b2), (3, .int x3)] [] t0 (L_X9_viewAt_16 t0 b1 b2 kont n x3) := by
  intro n
  induction n with
  | zero => intro x3; exact V_none
  | succ n ih =>
    intro x3
    rw [L_X9_viewAt_16]
    refine V_iload_n hc dX9_viewAt_16 rfl 3 rfl ?_
    refine V_bipush (v := 40) hc dX9_viewAt_17 (by decide) ?_
    refine V_icmp_ge (tgt := 110) hc dX9_viewAt_19 (by decide) ?_ ?_
    · exact V_sub [0, 1, 2, 3] rfl (hk _)
    · refine V_iconst (v := 0) hc dX9_viewAt_22 (by decide) ?_
      refine V_istore (lv' := [(4, .int 0), (0, .ref (K.2.2 24)), (1, .int b1), (2, .int b2), (3, .int x3)]) hc dX9_viewAt_23 (by decide) rfl ?_
      refine V_iconst (v := 0) hc dX9_viewAt_25 (by decide) ?_
      refine V_istore (lv' := [(5, .int 0), (4, .int 0), (0, .ref (K.2.2 24)), (1, .int b1), (2, .int b2), (3, .int x3)]) hc dX9_viewAt_26 (by decide) rfl ?_
      refine V_sub (lv' := [(0, .ref (K.2.2 24)), (1, .int b1), (2, .int b2), (3, .int x3), (4, .int 0), (5, .int 0)]) [2, 3, 4, 5, 1, 0] rfl ?_
      refine L_X9_viewAt_28_ok hc t0 (b1) (b2) (x3) _ (fun z5 z6 => ?_) FU _ _
      refine V_aload_n hc dX9_viewAt_87 rfl 0 rfl ?_
      refine V_iload_n hc dX9_viewAt_88 rfl 1 rfl ?_
      refine V_iload_n hc dX9_viewAt_89 rfl 3 rfl ?_
      refine V_callV_RI (Cn := RX9) (T := TX9) (N := 28) hc (c_X9_isShown l K t0 (b1) (x3)) sP24 rfl 2 gX9_viewAt_X9_isShown rfl ⟨rfl, rfl⟩ (by decide) ⟨Nat.le_of_ble_eq_true rfl, Nat.le_of_ble_eq_true rfl⟩ rfl rfl (Nat.le_of_ble_eq_true rfl) dX9_viewAt_90 (fun r7 => ?_)
      refine V_if_eq (tgt := 104) hc dX9_viewAt_93 (by decide) ?_ ?_
      · refine V_iinc (v := (x3 + 1)) (lv' := [(3, .int (x3 + 1)), (0, .ref (K.2.2 24)), (1, .int b1), (2, .int b2), (4, .int z5), (5, .int z6)]) hc dX9_viewAt_104 3 rfl rfl (by decide) rfl ?_
        refine V_goto (tgt := 16) hc dX9_viewAt_107 (by decide) ?_
        exact V_sub [1, 2, 3, 0] rfl (ih _)
      · refine V_iload hc dX9_viewAt_96 4 rfl ?_
        refine V_iload_n hc dX9_viewAt_98 rfl 2 rfl ?_
        refine V_icmp_ne (tgt := 104) hc dX9_viewAt_99 (by decide) ?_ ?_
        · refine V_iinc (v := (x3 + 1)) (lv' := [(3, .int (x3 + 1)), (0, .ref (K.2.2 24)), (1, .int b1), (2, .int b2), (4, .int z5), (5, .int z6)]) hc dX9_viewAt_104 3 rfl rfl (by decide) rfl ?_
          refine V_goto (tgt := 16) hc dX9_viewAt_107 (by decide) ?_
          exact V_sub [1, 2, 3, 0] rfl (ih _)
        · refine V_iload_n hc dX9_viewAt_102 rfl 3 rfl ?_
          exact V_iret hc rfl rfl dX9_viewAt_103
noncomputable def f_X9_viewAt (t : Sx) (a1 : Int32) (a2 : Int32) : Option Int32 := (f_X9_there8 t (a1)).bind fun r1 => if r1 = 0 then some (-1) else if 0 ≤ a2 then L_X9_viewAt_16 t (a1) (a2) (fun z8 => some (-4)) FU (0) else some (-1)
set_option maxRecDepth 20000 in
set_option maxHeartbeats 4000000 in
theorem c_X9_viewAt (l : Launch) (K : Kx) (t : Sx) (a1 : Int32) (a2 : Int32) : CT l K yX9_viewAt wsX9_viewAt ({ frames := 4, cells := 0, slots := 0, locals := 96 } : Room) [.ref (K.2.2 24), .int a1, .int a2] t (f_X9_viewAt t a1 a2) (kRI t) := by
  refine CT_of (cc := cX9_viewAt) (maxL := 6) (ret := (some .int)) (own := RX9) (by decide +kernel) rfl rfl (Nat.le_of_ble_eq_true rfl) ?_
  intro p e s m args below meth c hc
  refine V_sub (lv' := [(0, .ref (K.2.2 24)), (1, .int a1), (2, .int a2)]) [0, 1, 2] rfl ?_
  unfold f_X9_viewAt
  refine V_aload_n hc dX9_viewAt_0 rfl 0 rfl ?_
  refine V_iload_n hc dX9_viewAt_1 rfl 1 rfl ?_
  refine V_callV_RI (Cn := RX9) (T := TX9) (N := 28) hc (c_X9_there8 l K t (a1)) sP24 rfl 1 gX9_viewAt_X9_there8 rfl ⟨rfl, rfl⟩ (by decide) ⟨Nat.le_of_ble_eq_true rfl, Nat.le_of_ble_eq_true rfl⟩ rfl rfl (Nat.le_of_ble_eq_true rfl) dX9_viewAt_2 (fun r1 => ?_)
  refine V_if_eq (tgt := 12) hc dX9_viewAt_5 (by decide) ?_ ?_
  · refine V_iconst (v := (-1)) hc dX9_viewAt_12 (by decide) ?_
    exact V_iret hc rfl rfl dX9_viewAt_13
  · refine V_iload_n hc dX9_viewAt_8 rfl 2 rfl ?_
    refine V_if_ge (tgt := 14) hc dX9_viewAt_9 (by decide) ?_ ?_
    · refine V_iconst (v := 0) hc dX9_viewAt_14 (by decide) ?_
      refine V_istore_n (lv' := [(3, .int 0), (0, .ref (K.2.2 24)), (1, .int a1), (2, .int a2)]) hc dX9_viewAt_15 rfl (by decide) rfl ?_
      refine V_sub (lv' := [(0, .ref (K.2.2 24)), (1, .int a1), (2, .int a2), (3, .int 0)]) [1, 2, 3, 0] rfl ?_
      refine L_X9_viewAt_16_ok hc t (a1) (a2) _ (fun z8 => ?_) FU _
      refine V_bipush (v := (-4)) hc dX9_viewAt_110 (by decide) ?_
      exact V_iret hc rfl rfl dX9_viewAt_112
    · refine V_iconst (v := (-1)) hc dX9_viewAt_12 (by decide) ?_
      exact V_iret hc rfl rfl dX9_viewAt_13

theorem kX9_journalSize_167 : Cond.fieldLink RX9 167 RX9 (TX9 20).2.1 (TX9 20).2.2.1 ∈ wsX9_journalSize := by decide +kernel
theorem qX9_journalSize_RX9 : ∀ w ∈ u_ws RX9 TX9 28, w ∈ wsX9_journalSize := by
  first
  | exact fun _ h => List.mem_cons_of_mem _ (List.mem_append_right _ h)
  | exact fun _ h => List.mem_cons_of_mem _ (List.mem_append_left _ (List.mem_append_right _ h))
  | exact fun _ h => List.mem_cons_of_mem _ (List.mem_append_left _ (List.mem_append_left _ (List.mem_append_right _ h)))
  | exact fun _ h => List.mem_cons_of_mem _ (List.mem_append_left _ (List.mem_append_left _ (List.mem_append_left _ (List.mem_append_right _ h))))
  | exact fun _ h => List.mem_cons_of_mem _ (List.mem_append_left _ (List.mem_append_left _ (List.mem_append_left _ (List.mem_append_left _ (List.mem_append_right _ h)))))
  | decide +kernel
noncomputable def f_X9_journalSize (t : Sx)  : Option Int32 := some (gI t 53)
set_option maxRecDepth 20000 in
set_option maxHeartbeats 4000000 in
theorem c_X9_journalSize (l : Launch) (K : Kx) (t : Sx)  : CT l K yX9_journalSize wsX9_journalSize ({ frames := 0, cells := 0, slots := 0, locals := 0 } : Room) [.ref (K.2.2 24)] t (f_X9_journalSize t ) (kRI t) := by
  refine CT_of (cc := cX9_journalSize) (maxL := 1) (ret := (some .int)) (own := RX9) (by decide +kernel) rfl rfl (Nat.le_of_ble_eq_true rfl) ?_
  intro p e s m args below meth c hc
  refine V_sub (lv' := [(0, .ref (K.2.2 24))]) [0] rfl ?_
  unfold f_X9_journalSize
  refine V_aload_n hc dX9_journalSize_0 rfl 0 rfl ?_
  refine V_geti (C := RX9) (T := TX9) (N := 28) hc sP24 rfl qX9_journalSize_RX9 20 rfl (by decide) kX9_journalSize_167 rfl dX9_journalSize_1 ?_
  exact V_iret hc rfl rfl dX9_journalSize_4

theorem kX9_journalAt_167 : Cond.fieldLink RX9 167 RX9 (TX9 20).2.1 (TX9 20).2.2.1 ∈ wsX9_journalAt := by decide +kernel
theorem qX9_journalAt_RX9 : ∀ w ∈ u_ws RX9 TX9 28, w ∈ wsX9_journalAt := by
  first
  | exact fun _ h => List.mem_cons_of_mem _ (List.mem_append_right _ h)
  | exact fun _ h => List.mem_cons_of_mem _ (List.mem_append_left _ (List.mem_append_right _ h))
  | exact fun _ h => List.mem_cons_of_mem _ (List.mem_append_left _ (List.mem_append_left _ (List.mem_append_right _ h)))
  | exact fun _ h => List.mem_cons_of_mem _ (List.mem_append_left _ (List.mem_append_left _ (List.mem_append_left _ (List.mem_append_right _ h))))
  | exact fun _ h => List.mem_cons_of_mem _ (List.mem_append_left _ (List.mem_append_left _ (List.mem_append_left _ (List.mem_append_left _ (List.mem_append_right _ h)))))
  | decide +kernel
theorem kX9_journalAt_70 : Cond.fieldLink RX9 70 RX9 (TX9 21).2.1 (TX9 21).2.2.1 ∈ wsX9_journalAt := by decide +kernel
noncomputable def f_X9_journalAt (t : Sx) (a1 : Int32) (a2 : Int32) : Option Int32 := if a1 < 0 then some (-1) else (f_X9_in t (a2) (0) (2)).bind fun r1 => if r1 = 0 then some (-1) else if (gI t 53) ≤ a1 then some (-4) else gd (vp_in ((3 * a1) + a2) 72) (some (gA t 41 (ix ((3 * a1) + a2))))
set_option maxRecDepth 20000 in
set_option maxHeartbeats 4000000 in
theorem c_X9_journalAt (l : Launch) (K : Kx) (t : Sx) (a1 : Int32) (a2 : Int32) : CT l K yX9_journalAt wsX9_journalAt ({ frames := 1, cells := 0, slots := 0, locals := 22 } : Room) [.ref (K.2.2 24), .int a1, .int a2] t (f_X9_journalAt t a1 a2) (kRI t) := by
  refine CT_of (cc := cX9_journalAt) (maxL := 3) (ret := (some .int)) (own := RX9) (by decide +kernel) rfl rfl (Nat.le_of_ble_eq_true rfl) ?_
  intro p e s m args below meth c hc
  refine V_sub (lv' := [(0, .ref (K.2.2 24)), (1, .int a1), (2, .int a2)]) [0, 1, 2] rfl ?_
  unfold f_X9_journalAt
  refine V_iload_n hc dX9_journalAt_0 rfl 1 rfl ?_
  refine V_if_lt (tgt := 13) hc dX9_journalAt_1 (by decide) ?_ ?_
  · refine V_iconst (v := (-1)) hc dX9_journalAt_13 (by decide) ?_
    exact V_iret hc rfl rfl dX9_journalAt_14
  · refine V_iload_n hc dX9_journalAt_4 rfl 2 rfl ?_
    refine V_iconst (v := 0) hc dX9_journalAt_5 (by decide) ?_
    refine V_iconst (v := 2) hc dX9_journalAt_6 (by decide) ?_
    refine V_callS_RI hc (c_X9_in l K t (a2) (0) (2)) 3 gX9_journalAt_X9_in rfl ⟨rfl, rfl⟩ (by decide) ⟨Nat.le_of_ble_eq_true rfl, Nat.le_of_ble_eq_true rfl⟩ rfl rfl (Nat.le_of_ble_eq_true rfl) dX9_journalAt_7 (fun r1 => ?_)
    refine V_if_ne (tgt := 15) hc dX9_journalAt_10 (by decide) ?_ ?_
    · refine V_iload_n hc dX9_journalAt_15 rfl 1 rfl ?_
      refine V_aload_n hc dX9_journalAt_16 rfl 0 rfl ?_
      refine V_geti (C := RX9) (T := TX9) (N := 28) hc sP24 rfl qX9_journalAt_RX9 20 rfl (by decide) kX9_journalAt_167 rfl dX9_journalAt_17 ?_
      refine V_icmp_ge (tgt := 36) hc dX9_journalAt_20 (by decide) ?_ ?_
      · refine V_bipush (v := (-4)) hc dX9_journalAt_36 (by decide) ?_
        exact V_iret hc rfl rfl dX9_journalAt_38
      · refine V_aload_n hc dX9_journalAt_23 rfl 0 rfl ?_
        refine V_getr (C := RX9) (T := TX9) (N := 28) hc sP24 rfl qX9_journalAt_RX9 21 rfl (by decide) kX9_journalAt_70 rfl dX9_journalAt_24 ?_
        refine V_iconst (v := 3) hc dX9_journalAt_27 (by decide) ?_
        refine V_iload_n hc dX9_journalAt_28 rfl 1 rfl ?_
        refine V_imul hc dX9_journalAt_29 ?_
        refine V_iload_n hc dX9_journalAt_30 rfl 2 rfl ?_
        refine V_iadd hc dX9_journalAt_31 ?_
        refine V_iald hc sP44 dX9_journalAt_32 ?_
        refine V_goto (tgt := 38) hc dX9_journalAt_33 (by decide) ?_
        exact V_iret hc rfl rfl dX9_journalAt_38
    · refine V_iconst (v := (-1)) hc dX9_journalAt_13 (by decide) ?_
      exact V_iret hc rfl rfl dX9_journalAt_14

theorem kX9_turnover_67 : Cond.fieldLink RX9 67 RX9 (TX9 19).2.1 (TX9 19).2.2.1 ∈ wsX9_turnover := by decide +kernel
theorem qX9_turnover_RX9 : ∀ w ∈ u_ws RX9 TX9 28, w ∈ wsX9_turnover := by
  first
  | exact fun _ h => List.mem_cons_of_mem _ (List.mem_append_right _ h)
  | exact fun _ h => List.mem_cons_of_mem _ (List.mem_append_left _ (List.mem_append_right _ h))
  | exact fun _ h => List.mem_cons_of_mem _ (List.mem_append_left _ (List.mem_append_left _ (List.mem_append_right _ h)))
  | exact fun _ h => List.mem_cons_of_mem _ (List.mem_append_left _ (List.mem_append_left _ (List.mem_append_left _ (List.mem_append_right _ h))))
  | exact fun _ h => List.mem_cons_of_mem _ (List.mem_append_left _ (List.mem_append_left _ (List.mem_append_left _ (List.mem_append_left _ (List.mem_append_right _ h)))))
  | decide +kernel
noncomputable def f_X9_turnover (t : Sx) (a1 : Int32) (a2 : Int32) : Option Int32 := (f_X9_there8 t (a1)).bind fun r1 => if r1 = 0 then some (-1) else (f_X9_in t (a2) (0) (1)).bind fun r2 => if r2 = 0 then some (-1) else gd (vp_in ((2 * a1) + a2) 16) (some (gA t 40 (ix ((2 * a1) + a2))))
set_option maxRecDepth 20000 in
set_option maxHeartbeats 4000000 in
theorem c_X9_turnover (l : Launch) (K : Kx) (t : Sx) (a1 : Int32) (a2 : Int32) : CT l K yX9_turnover wsX9_turnover ({ frames := 2, cells := 0, slots := 0, locals := 43 } : Room) [.ref (K.2.2 24), .int a1, .int a2] t (f_X9_turnover t a1 a2) (kRI t) := by
  refine CT_of (cc := cX9_turnover) (maxL := 3) (ret := (some .int)) (own := RX9) (by decide +kernel) rfl rfl (Nat.le_of_ble_eq_true rfl) ?_
  intro p e s m args below meth c hc
  refine V_sub (lv' := [(0, .ref (K.2.2 24)), (1, .int a1), (2, .int a2)]) [0, 1, 2] rfl ?_
  unfold f_X9_turnover
  refine V_aload_n hc dX9_turnover_0 rfl 0 rfl ?_
  refine V_iload_n hc dX9_turnover_1 rfl 1 rfl ?_
  refine V_callV_RI (Cn := RX9) (T := TX9) (N := 28) hc (c_X9_there8 l K t (a1)) sP24 rfl 1 gX9_turnover_X9_there8 rfl ⟨rfl, rfl⟩ (by decide) ⟨Nat.le_of_ble_eq_true rfl, Nat.le_of_ble_eq_true rfl⟩ rfl rfl (Nat.le_of_ble_eq_true rfl) dX9_turnover_2 (fun r1 => ?_)
  refine V_if_eq (tgt := 30) hc dX9_turnover_5 (by decide) ?_ ?_
  · refine V_iconst (v := (-1)) hc dX9_turnover_30 (by decide) ?_
    exact V_iret hc rfl rfl dX9_turnover_31
  · refine V_iload_n hc dX9_turnover_8 rfl 2 rfl ?_
    refine V_iconst (v := 0) hc dX9_turnover_9 (by decide) ?_
    refine V_iconst (v := 1) hc dX9_turnover_10 (by decide) ?_
    refine V_callS_RI hc (c_X9_in l K t (a2) (0) (1)) 3 gX9_turnover_X9_in rfl ⟨rfl, rfl⟩ (by decide) ⟨Nat.le_of_ble_eq_true rfl, Nat.le_of_ble_eq_true rfl⟩ rfl rfl (Nat.le_of_ble_eq_true rfl) dX9_turnover_11 (fun r2 => ?_)
    refine V_if_eq (tgt := 30) hc dX9_turnover_14 (by decide) ?_ ?_
    · refine V_iconst (v := (-1)) hc dX9_turnover_30 (by decide) ?_
      exact V_iret hc rfl rfl dX9_turnover_31
    · refine V_aload_n hc dX9_turnover_17 rfl 0 rfl ?_
      refine V_getr (C := RX9) (T := TX9) (N := 28) hc sP24 rfl qX9_turnover_RX9 19 rfl (by decide) kX9_turnover_67 rfl dX9_turnover_18 ?_
      refine V_iconst (v := 2) hc dX9_turnover_21 (by decide) ?_
      refine V_iload_n hc dX9_turnover_22 rfl 1 rfl ?_
      refine V_imul hc dX9_turnover_23 ?_
      refine V_iload_n hc dX9_turnover_24 rfl 2 rfl ?_
      refine V_iadd hc dX9_turnover_25 ?_
      refine V_iald hc sP43 dX9_turnover_26 ?_
      refine V_goto (tgt := 31) hc dX9_turnover_27 (by decide) ?_
      exact V_iret hc rfl rfl dX9_turnover_31

theorem kX9_count_32 : Cond.fieldLink RX9 32 RX9 (TX9 7).2.1 (TX9 7).2.2.1 ∈ wsX9_count := by decide +kernel
theorem qX9_count_RX9 : ∀ w ∈ u_ws RX9 TX9 28, w ∈ wsX9_count := by
  first
  | exact fun _ h => List.mem_cons_of_mem _ (List.mem_append_right _ h)
  | exact fun _ h => List.mem_cons_of_mem _ (List.mem_append_left _ (List.mem_append_right _ h))
  | exact fun _ h => List.mem_cons_of_mem _ (List.mem_append_left _ (List.mem_append_left _ (List.mem_append_right _ h)))
  | exact fun _ h => List.mem_cons_of_mem _ (List.mem_append_left _ (List.mem_append_left _ (List.mem_append_left _ (List.mem_append_right _ h))))
  | exact fun _ h => List.mem_cons_of_mem _ (List.mem_append_left _ (List.mem_append_left _ (List.mem_append_left _ (List.mem_append_left _ (List.mem_append_right _ h)))))
  | decide +kernel
theorem kX9_count_48 : Cond.fieldLink RX9 48 RX9 (TX9 13).2.1 (TX9 13).2.2.1 ∈ wsX9_count := by decide +kernel
theorem kX9_count_7 : Cond.fieldLink RX9 7 RX9 (TX9 0).2.1 (TX9 0).2.2.1 ∈ wsX9_count := by decide +kernel
theorem kX9_count_29 : Cond.fieldLink RX9 29 RX9 (TX9 6).2.1 (TX9 6).2.2.1 ∈ wsX9_count := by decide +kernel
theorem kX9_count_17 : Cond.fieldLink RX9 17 RX9 (TX9 2).2.1 (TX9 2).2.2.1 ∈ wsX9_count := by decide +kernel
noncomputable def L_X9_count_4 (t0 : Sx) (b1 : Int32) (kont : Int32 → Int32 → Option Int32) : Nat → Int32 → Int32 → Option Int32
  | 0, _, _ => none
  | n + 1, x2 , x3 => if 40 ≤ x3 then kont (x2) (x3) else if b1 = 0 then if 10 ≤ x3 then L_X9_count_4 t0 b1 kont n ((x2 + 0)) ((x3 + 1)) else gd (vp_in x3 10) (if (gA t0 30 (ix x3)) ≤ 0 then L_X9_count_4 t0 b1 kont n ((x2 + 0)) ((x3 + 1)) else L_X9_count_4 t0 b1 kont n ((x2 + 1)) ((x3 + 1))) else if b1 = 1 then if 8 ≤ x3 then L_X9_count_4 t0 b1 kont n ((x2 + 0)) ((x3 + 1)) else gd (vp_in x3 8) (if (gA t0 35 (ix x3)) = 0 then L_X9_count_4 t0 b1 kont n ((x2 + 0)) ((x3 + 1)) else L_X9_count_4 t0 b1 kont n ((x2 + 1)) ((x3 + 1))) else if b1 = 2 then gd (vp_in x3 40) (if (gA t0 23 (ix x3)) = 0 then L_X9_count_4 t0 b1 kont n ((x2 + 0)) ((x3 + 1)) else (f_X9_keeper t0 (x3)).bind fun r4 => if r4 = x3 then (f_X9_group t0 (x3)).bind fun r5 => if r5 ≤ 1 then L_X9_count_4 t0 b1 kont n ((x2 + 0)) ((x3 + 1)) else L_X9_count_4 t0 b1 kont n ((x2 + 1)) ((x3 + 1)) else L_X9_count_4 t0 b1 kont n ((x2 + 0)) ((x3 + 1))) else if b1 = 3 then gd (vp_in x3 40) (if (gA t0 23 (ix x3)) = 0 then L_X9_count_4 t0 b1 kont n ((x2 + 0)) ((x3 + 1)) else gd (vp_in x3 40) (if (gA t0 29 (ix x3)) < 0 then L_X9_count_4 t0 b1 kont n ((x2 + 0)) ((x3 + 1)) else L_X9_count_4 t0 b1 kont n ((x2 + 1)) ((x3 + 1)))) else if b1 = 4 then gd (vp_in x3 40) (if (gA t0 23 (ix x3)) = 0 then L_X9_count_4 t0 b1 kont n ((x2 + 0)) ((x3 + 1)) else gd (vp_in x3 40) (L_X9_count_4 t0 b1 kont n ((x2 + (gA t0 25 (ix x3)))) ((x3 + 1)))) else some (-1)
set_option maxRecDepth 20000 in
set_option maxHeartbeats 4000000 in
theorem L_X9_count_4_ok {p : Program} {l : Launch} {K : Kx} {e : Env} {s : State} {m : MethodId} {args : Array Value} {below : List Frame} {meth : Method} {c : Code} (hc : Cx p ({ frames := 4, cells := 0, slots := 0, locals := 94 } : Room) s m args meth c cX9_count 4 wsX9_count RX9 K (aA K s.heap.size) (some .int) 0 0) (t0 : Sx) (b1 : Int32) (kont : Int32 → Int32 → Option Int32) (hk : ∀ x2 x3, V p l e ({ frames := 4, cells := 0, slots := 0, locals := 94 } : Room) s m args below meth c K (aA K s.heap.size) 0 0 4 (QM below K args s (kRI t0)) 196 [(0, .ref (K.2.2 24)), (1, .int b1), (2, .int x2), (3, .int x3)] [] t0 (kont x2 x3)) : ∀ (n : Nat) (x2 : Int32) (x3 : Int32), V p l e ({ frames := 4, cells := 0, slots := 0, locals := 94 } : Room) s m args below meth c K (aA K s.heap.size) 0 0 4 (QM below K args s (kRI t0)) 4 [(0, .ref (K.2.2 24)), (1, .int b1), (2, .int x2), (3, .int x3)] [] t0 (L_X9_count_4 t0 b1 kont n x2 x3) := by
  intro n
  induction n with
  | zero => intro x2 x3; exact V_none
  | succ n ih =>
    intro x2 x3
    rw [L_X9_count_4]
    refine V_iload_n hc dX9_count_4 rfl 3 rfl ?_
    refine V_bipush (v := 40) hc dX9_count_5 (by decide) ?_
    refine V_icmp_ge (tgt := 196) hc dX9_count_7 (by decide) ?_ ?_
    · exact V_sub [0, 1, 2, 3] rfl (hk _ _)
    · refine V_iload_n hc dX9_count_10 rfl 1 rfl ?_
      refine V_ite (fun h1 => ?_) (fun h1 => ?_)
      · refine V_tsIn (tgt := 44) hc dX9_count_11 (by rw [h1] <;> decide) (by rw [h1] <;> decide) (by rw [h1] <;> rfl) (by decide) ?_
        refine V_iload_n hc dX9_count_44 rfl 2 rfl ?_
        refine V_iload_n hc dX9_count_45 rfl 3 rfl ?_
        refine V_bipush (v := 10) hc dX9_count_46 (by decide) ?_
        refine V_icmp_ge (tgt := 64) hc dX9_count_48 (by decide) ?_ ?_
        · refine V_iconst (v := 0) hc dX9_count_64 (by decide) ?_
          refine V_iadd hc dX9_count_65 ?_
          refine V_istore_n (lv' := [(2, .int (x2 + 0)), (0, .ref (K.2.2 24)), (1, .int b1), (3, .int x3)]) hc dX9_count_66 rfl (by decide) rfl ?_
          refine V_goto (tgt := 190) hc dX9_count_67 (by decide) ?_
          refine V_iinc (v := (x3 + 1)) (lv' := [(3, .int (x3 + 1)), (2, .int (x2 + 0)), (0, .ref (K.2.2 24)), (1, .int b1)]) hc dX9_count_190 3 rfl rfl (by decide) rfl ?_
          refine V_goto (tgt := 4) hc dX9_count_193 (by decide) ?_
          exact V_sub [2, 3, 1, 0] rfl (ih _ _)
        · refine V_aload_n hc dX9_count_51 rfl 0 rfl ?_
          refine V_getr (C := RX9) (T := TX9) (N := 28) hc sP24 rfl qX9_count_RX9 7 rfl (by decide) kX9_count_32 rfl dX9_count_52 ?_
          refine V_iload_n hc dX9_count_55 rfl 3 rfl ?_
          refine V_iald hc sP32 dX9_count_56 ?_
          refine V_if_le (tgt := 64) hc dX9_count_57 (by decide) ?_ ?_
          · refine V_iconst (v := 0) hc dX9_count_64 (by decide) ?_
            refine V_iadd hc dX9_count_65 ?_
            refine V_istore_n (lv' := [(2, .int (x2 + 0)), (0, .ref (K.2.2 24)), (1, .int b1), (3, .int x3)]) hc dX9_count_66 rfl (by decide) rfl ?_
            refine V_goto (tgt := 190) hc dX9_count_67 (by decide) ?_
            refine V_iinc (v := (x3 + 1)) (lv' := [(3, .int (x3 + 1)), (2, .int (x2 + 0)), (0, .ref (K.2.2 24)), (1, .int b1)]) hc dX9_count_190 3 rfl rfl (by decide) rfl ?_
            refine V_goto (tgt := 4) hc dX9_count_193 (by decide) ?_
            exact V_sub [2, 3, 1, 0] rfl (ih _ _)
          · refine V_iconst (v := 1) hc dX9_count_60 (by decide) ?_
            refine V_goto (tgt := 65) hc dX9_count_61 (by decide) ?_
            refine V_iadd hc dX9_count_65 ?_
            refine V_istore_n (lv' := [(2, .int (x2 + 1)), (0, .ref (K.2.2 24)), (1, .int b1), (3, .int x3)]) hc dX9_count_66 rfl (by decide) rfl ?_
            refine V_goto (tgt := 190) hc dX9_count_67 (by decide) ?_
            refine V_iinc (v := (x3 + 1)) (lv' := [(3, .int (x3 + 1)), (2, .int (x2 + 1)), (0, .ref (K.2.2 24)), (1, .int b1)]) hc dX9_count_190 3 rfl rfl (by decide) rfl ?_
            refine V_goto (tgt := 4) hc dX9_count_193 (by decide) ?_
            exact V_sub [2, 3, 1, 0] rfl (ih _ _)
      · refine V_ite (fun h2 => ?_) (fun h2 => ?_)
        · refine V_tsIn (tgt := 70) hc dX9_count_11 (by rw [h2] <;> decide) (by rw [h2] <;> decide) (by rw [h2] <;> rfl) (by decide) ?_
          refine V_iload_n hc dX9_count_70 rfl 2 rfl ?_
          refine V_iload_n hc dX9_count_71 rfl 3 rfl ?_
          refine V_bipush (v := 8) hc dX9_count_72 (by decide) ?_
          refine V_icmp_ge (tgt := 90) hc dX9_count_74 (by decide) ?_ ?_
          · refine V_iconst (v := 0) hc dX9_count_90 (by decide) ?_
            refine V_iadd hc dX9_count_91 ?_
            refine V_istore_n (lv' := [(2, .int (x2 + 0)), (0, .ref (K.2.2 24)), (1, .int b1), (3, .int x3)]) hc dX9_count_92 rfl (by decide) rfl ?_
            refine V_goto (tgt := 190) hc dX9_count_93 (by decide) ?_
            refine V_iinc (v := (x3 + 1)) (lv' := [(3, .int (x3 + 1)), (2, .int (x2 + 0)), (0, .ref (K.2.2 24)), (1, .int b1)]) hc dX9_count_190 3 rfl rfl (by decide) rfl ?_
            refine V_goto (tgt := 4) hc dX9_count_193 (by decide) ?_
            exact V_sub [2, 3, 1, 0] rfl (ih _ _)
          · refine V_aload_n hc dX9_count_77 rfl 0 rfl ?_
            refine V_getr (C := RX9) (T := TX9) (N := 28) hc sP24 rfl qX9_count_RX9 13 rfl (by decide) kX9_count_48 rfl dX9_count_78 ?_
            refine V_iload_n hc dX9_count_81 rfl 3 rfl ?_
            refine V_zald hc sP37 dX9_count_82 ?_
            refine V_if_eq (tgt := 90) hc dX9_count_83 (by decide) ?_ ?_
            · refine V_iconst (v := 0) hc dX9_count_90 (by decide) ?_
              refine V_iadd hc dX9_count_91 ?_
              refine V_istore_n (lv' := [(2, .int (x2 + 0)), (0, .ref (K.2.2 24)), (1, .int b1), (3, .int x3)]) hc dX9_count_92 rfl (by decide) rfl ?_
              refine V_goto (tgt := 190) hc dX9_count_93 (by decide) ?_
              refine V_iinc (v := (x3 + 1)) (lv' := [(3, .int (x3 + 1)), (2, .int (x2 + 0)), (0, .ref (K.2.2 24)), (1, .int b1)]) hc dX9_count_190 3 rfl rfl (by decide) rfl ?_
              refine V_goto (tgt := 4) hc dX9_count_193 (by decide) ?_
              exact V_sub [2, 3, 1, 0] rfl (ih _ _)
            · refine V_iconst (v := 1) hc dX9_count_86 (by decide) ?_
              refine V_goto (tgt := 91) hc dX9_count_87 (by decide) ?_
              refine V_iadd hc dX9_count_91 ?_
              refine V_istore_n (lv' := [(2, .int (x2 + 1)), (0, .ref (K.2.2 24)), (1, .int b1), (3, .int x3)]) hc dX9_count_92 rfl (by decide) rfl ?_
              refine V_goto (tgt := 190) hc dX9_count_93 (by decide) ?_
              refine V_iinc (v := (x3 + 1)) (lv' := [(3, .int (x3 + 1)), (2, .int (x2 + 1)), (0, .ref (K.2.2 24)), (1, .int b1)]) hc dX9_count_190 3 rfl rfl (by decide) rfl ?_
              refine V_goto (tgt := 4) hc dX9_count_193 (by decide) ?_
              exact V_sub [2, 3, 1, 0] rfl (ih _ _)
        · refine V_ite (fun h3 => ?_) (fun h3 => ?_)
          · refine V_tsIn (tgt := 96) hc dX9_count_11 (by rw [h3] <;> decide) (by rw [h3] <;> decide) (by rw [h3] <;> rfl) (by decide) ?_
            refine V_iload_n hc dX9_count_96 rfl 2 rfl ?_
            refine V_aload_n hc dX9_count_97 rfl 0 rfl ?_
            refine V_getr (C := RX9) (T := TX9) (N := 28) hc sP24 rfl qX9_count_RX9 0 rfl (by decide) kX9_count_7 rfl dX9_count_98 ?_
            refine V_iload_n hc dX9_count_101 rfl 3 rfl ?_
            refine V_zald hc sP25 dX9_count_102 ?_
            refine V_if_eq (tgt := 128) hc dX9_count_103 (by decide) ?_ ?_
            · refine V_iconst (v := 0) hc dX9_count_128 (by decide) ?_
              refine V_iadd hc dX9_count_129 ?_
              refine V_istore_n (lv' := [(2, .int (x2 + 0)), (0, .ref (K.2.2 24)), (1, .int b1), (3, .int x3)]) hc dX9_count_130 rfl (by decide) rfl ?_
              refine V_goto (tgt := 190) hc dX9_count_131 (by decide) ?_
              refine V_iinc (v := (x3 + 1)) (lv' := [(3, .int (x3 + 1)), (2, .int (x2 + 0)), (0, .ref (K.2.2 24)), (1, .int b1)]) hc dX9_count_190 3 rfl rfl (by decide) rfl ?_
              refine V_goto (tgt := 4) hc dX9_count_193 (by decide) ?_
              exact V_sub [2, 3, 1, 0] rfl (ih _ _)
            · refine V_aload_n hc dX9_count_106 rfl 0 rfl ?_
              refine V_iload_n hc dX9_count_107 rfl 3 rfl ?_
              refine V_callV_RI (Cn := RX9) (T := TX9) (N := 28) hc (c_X9_keeper l K t0 (x3)) sP24 rfl 1 gX9_count_X9_keeper rfl ⟨rfl, rfl⟩ (by decide) ⟨Nat.le_of_ble_eq_true rfl, Nat.le_of_ble_eq_true rfl⟩ rfl rfl (Nat.le_of_ble_eq_true rfl) dX9_count_108 (fun r4 => ?_)
              refine V_iload_n hc dX9_count_111 rfl 3 rfl ?_
              refine V_icmp_ne (tgt := 128) hc dX9_count_112 (by decide) ?_ ?_
              · refine V_iconst (v := 0) hc dX9_count_128 (by decide) ?_
                refine V_iadd hc dX9_count_129 ?_
                refine V_istore_n (lv' := [(2, .int (x2 + 0)), (0, .ref (K.2.2 24)), (1, .int b1), (3, .int x3)]) hc dX9_count_130 rfl (by decide) rfl ?_
                refine V_goto (tgt := 190) hc dX9_count_131 (by decide) ?_
                refine V_iinc (v := (x3 + 1)) (lv' := [(3, .int (x3 + 1)), (2, .int (x2 + 0)), (0, .ref (K.2.2 24)), (1, .int b1)]) hc dX9_count_190 3 rfl rfl (by decide) rfl ?_
                refine V_goto (tgt := 4) hc dX9_count_193 (by decide) ?_
                exact V_sub [2, 3, 1, 0] rfl (ih _ _)
              · refine V_aload_n hc dX9_count_115 rfl 0 rfl ?_
                refine V_iload_n hc dX9_count_116 rfl 3 rfl ?_
                refine V_callV_RI (Cn := RX9) (T := TX9) (N := 28) hc (c_X9_group l K t0 (x3)) sP24 rfl 1 gX9_count_X9_group rfl ⟨rfl, rfl⟩ (by decide) ⟨Nat.le_of_ble_eq_true rfl, Nat.le_of_ble_eq_true rfl⟩ rfl rfl (Nat.le_of_ble_eq_true rfl) dX9_count_117 (fun r5 => ?_)
                refine V_iconst (v := 1) hc dX9_count_120 (by decide) ?_
                refine V_icmp_le (tgt := 128) hc dX9_count_121 (by decide) ?_ ?_
                · refine V_iconst (v := 0) hc dX9_count_128 (by decide) ?_
                  refine V_iadd hc dX9_count_129 ?_
                  refine V_istore_n (lv' := [(2, .int (x2 + 0)), (0, .ref (K.2.2 24)), (1, .int b1), (3, .int x3)]) hc dX9_count_130 rfl (by decide) rfl ?_
                  refine V_goto (tgt := 190) hc dX9_count_131 (by decide) ?_
                  refine V_iinc (v := (x3 + 1)) (lv' := [(3, .int (x3 + 1)), (2, .int (x2 + 0)), (0, .ref (K.2.2 24)), (1, .int b1)]) hc dX9_count_190 3 rfl rfl (by decide) rfl ?_
                  refine V_goto (tgt := 4) hc dX9_count_193 (by decide) ?_
                  exact V_sub [2, 3, 1, 0] rfl (ih _ _)
                · refine V_iconst (v := 1) hc dX9_count_124 (by decide) ?_
                  refine V_goto (tgt := 129) hc dX9_count_125 (by decide) ?_
                  refine V_iadd hc dX9_count_129 ?_
                  refine V_istore_n (lv' := [(2, .int (x2 + 1)), (0, .ref (K.2.2 24)), (1, .int b1), (3, .int x3)]) hc dX9_count_130 rfl (by decide) rfl ?_
                  refine V_goto (tgt := 190) hc dX9_count_131 (by decide) ?_
                  refine V_iinc (v := (x3 + 1)) (lv' := [(3, .int (x3 + 1)), (2, .int (x2 + 1)), (0, .ref (K.2.2 24)), (1, .int b1)]) hc dX9_count_190 3 rfl rfl (by decide) rfl ?_
                  refine V_goto (tgt := 4) hc dX9_count_193 (by decide) ?_
                  exact V_sub [2, 3, 1, 0] rfl (ih _ _)
          · refine V_ite (fun h6 => ?_) (fun h6 => ?_)
            · refine V_tsIn (tgt := 134) hc dX9_count_11 (by rw [h6] <;> decide) (by rw [h6] <;> decide) (by rw [h6] <;> rfl) (by decide) ?_
              refine V_iload_n hc dX9_count_134 rfl 2 rfl ?_
              refine V_aload_n hc dX9_count_135 rfl 0 rfl ?_
              refine V_getr (C := RX9) (T := TX9) (N := 28) hc sP24 rfl qX9_count_RX9 0 rfl (by decide) kX9_count_7 rfl dX9_count_136 ?_
              refine V_iload_n hc dX9_count_139 rfl 3 rfl ?_
              refine V_zald hc sP25 dX9_count_140 ?_
              refine V_if_eq (tgt := 157) hc dX9_count_141 (by decide) ?_ ?_
              · refine V_iconst (v := 0) hc dX9_count_157 (by decide) ?_
                refine V_iadd hc dX9_count_158 ?_
                refine V_istore_n (lv' := [(2, .int (x2 + 0)), (0, .ref (K.2.2 24)), (1, .int b1), (3, .int x3)]) hc dX9_count_159 rfl (by decide) rfl ?_
                refine V_goto (tgt := 190) hc dX9_count_160 (by decide) ?_
                refine V_iinc (v := (x3 + 1)) (lv' := [(3, .int (x3 + 1)), (2, .int (x2 + 0)), (0, .ref (K.2.2 24)), (1, .int b1)]) hc dX9_count_190 3 rfl rfl (by decide) rfl ?_
                refine V_goto (tgt := 4) hc dX9_count_193 (by decide) ?_
                exact V_sub [2, 3, 1, 0] rfl (ih _ _)
              · refine V_aload_n hc dX9_count_144 rfl 0 rfl ?_
                refine V_getr (C := RX9) (T := TX9) (N := 28) hc sP24 rfl qX9_count_RX9 6 rfl (by decide) kX9_count_29 rfl dX9_count_145 ?_
                refine V_iload_n hc dX9_count_148 rfl 3 rfl ?_
                refine V_iald hc sP31 dX9_count_149 ?_
                refine V_if_lt (tgt := 157) hc dX9_count_150 (by decide) ?_ ?_
                · refine V_iconst (v := 0) hc dX9_count_157 (by decide) ?_
                  refine V_iadd hc dX9_count_158 ?_
                  refine V_istore_n (lv' := [(2, .int (x2 + 0)), (0, .ref (K.2.2 24)), (1, .int b1), (3, .int x3)]) hc dX9_count_159 rfl (by decide) rfl ?_
                  refine V_goto (tgt := 190) hc dX9_count_160 (by decide) ?_
                  refine V_iinc (v := (x3 + 1)) (lv' := [(3, .int (x3 + 1)), (2, .int (x2 + 0)), (0, .ref (K.2.2 24)), (1, .int b1)]) hc dX9_count_190 3 rfl rfl (by decide) rfl ?_
                  refine V_goto (tgt := 4) hc dX9_count_193 (by decide) ?_
                  exact V_sub [2, 3, 1, 0] rfl (ih _ _)
                · refine V_iconst (v := 1) hc dX9_count_153 (by decide) ?_
                  refine V_goto (tgt := 158) hc dX9_count_154 (by decide) ?_
                  refine V_iadd hc dX9_count_158 ?_
                  refine V_istore_n (lv' := [(2, .int (x2 + 1)), (0, .ref (K.2.2 24)), (1, .int b1), (3, .int x3)]) hc dX9_count_159 rfl (by decide) rfl ?_
                  refine V_goto (tgt := 190) hc dX9_count_160 (by decide) ?_
                  refine V_iinc (v := (x3 + 1)) (lv' := [(3, .int (x3 + 1)), (2, .int (x2 + 1)), (0, .ref (K.2.2 24)), (1, .int b1)]) hc dX9_count_190 3 rfl rfl (by decide) rfl ?_
                  refine V_goto (tgt := 4) hc dX9_count_193 (by decide) ?_
                  exact V_sub [2, 3, 1, 0] rfl (ih _ _)
            · refine V_ite (fun h7 => ?_) (fun h7 => ?_)
              · refine V_tsIn (tgt := 163) hc dX9_count_11 (by rw [h7] <;> decide) (by rw [h7] <;> decide) (by rw [h7] <;> rfl) (by decide) ?_
                refine V_iload_n hc dX9_count_163 rfl 2 rfl ?_
                refine V_aload_n hc dX9_count_164 rfl 0 rfl ?_
                refine V_getr (C := RX9) (T := TX9) (N := 28) hc sP24 rfl qX9_count_RX9 0 rfl (by decide) kX9_count_7 rfl dX9_count_165 ?_
                refine V_iload_n hc dX9_count_168 rfl 3 rfl ?_
                refine V_zald hc sP25 dX9_count_169 ?_
                refine V_if_eq (tgt := 182) hc dX9_count_170 (by decide) ?_ ?_
                · refine V_iconst (v := 0) hc dX9_count_182 (by decide) ?_
                  refine V_iadd hc dX9_count_183 ?_
                  refine V_istore_n (lv' := [(2, .int (x2 + 0)), (0, .ref (K.2.2 24)), (1, .int b1), (3, .int x3)]) hc dX9_count_184 rfl (by decide) rfl ?_
                  refine V_goto (tgt := 190) hc dX9_count_185 (by decide) ?_
                  refine V_iinc (v := (x3 + 1)) (lv' := [(3, .int (x3 + 1)), (2, .int (x2 + 0)), (0, .ref (K.2.2 24)), (1, .int b1)]) hc dX9_count_190 3 rfl rfl (by decide) rfl ?_
                  refine V_goto (tgt := 4) hc dX9_count_193 (by decide) ?_
                  exact V_sub [2, 3, 1, 0] rfl (ih _ _)
                · refine V_aload_n hc dX9_count_173 rfl 0 rfl ?_
                  refine V_getr (C := RX9) (T := TX9) (N := 28) hc sP24 rfl qX9_count_RX9 2 rfl (by decide) kX9_count_17 rfl dX9_count_174 ?_
                  refine V_iload_n hc dX9_count_177 rfl 3 rfl ?_
                  refine V_iald hc sP27 dX9_count_178 ?_
                  refine V_goto (tgt := 183) hc dX9_count_179 (by decide) ?_
                  refine V_iadd hc dX9_count_183 ?_
                  refine V_istore_n (lv' := [(2, .int (x2 + (gA t0 25 (ix x3)))), (0, .ref (K.2.2 24)), (1, .int b1), (3, .int x3)]) hc dX9_count_184 rfl (by decide) rfl ?_
                  refine V_goto (tgt := 190) hc dX9_count_185 (by decide) ?_
                  refine V_iinc (v := (x3 + 1)) (lv' := [(3, .int (x3 + 1)), (2, .int (x2 + (gA t0 25 (ix x3)))), (0, .ref (K.2.2 24)), (1, .int b1)]) hc dX9_count_190 3 rfl rfl (by decide) rfl ?_
                  refine V_goto (tgt := 4) hc dX9_count_193 (by decide) ?_
                  exact V_sub [2, 3, 1, 0] rfl (ih _ _)
              · refine V_tsOut (tgt := 188) hc dX9_count_11 (ts_out (lo := 0) (n := 5) (fun i hi => match i, hi with | 0, _ => h1 | 1, _ => h2 | 2, _ => h3 | 3, _ => h6 | 4, _ => h7 | _ + 5, hi => absurd hi (by omega))) (by decide) ?_
                refine V_iconst (v := (-1)) hc dX9_count_188 (by decide) ?_
                exact V_iret hc rfl rfl dX9_count_189
noncomputable def f_X9_count (t : Sx) (a1 : Int32) : Option Int32 := L_X9_count_4 t (a1) (fun z8 z9 => some z8) FU (0) (0)
set_option maxRecDepth 20000 in
set_option maxHeartbeats 4000000 in
theorem c_X9_count (l : Launch) (K : Kx) (t : Sx) (a1 : Int32) : CT l K yX9_count wsX9_count ({ frames := 4, cells := 0, slots := 0, locals := 94 } : Room) [.ref (K.2.2 24), .int a1] t (f_X9_count t a1) (kRI t) := by
  refine CT_of (cc := cX9_count) (maxL := 4) (ret := (some .int)) (own := RX9) (by decide +kernel) rfl rfl (Nat.le_of_ble_eq_true rfl) ?_
  intro p e s m args below meth c hc
  refine V_sub (lv' := [(0, .ref (K.2.2 24)), (1, .int a1)]) [0, 1] rfl ?_
  unfold f_X9_count
  refine V_iconst (v := 0) hc dX9_count_0 (by decide) ?_
  refine V_istore_n (lv' := [(2, .int 0), (0, .ref (K.2.2 24)), (1, .int a1)]) hc dX9_count_1 rfl (by decide) rfl ?_
  refine V_iconst (v := 0) hc dX9_count_2 (by decide) ?_
  refine V_istore_n (lv' := [(3, .int 0), (2, .int 0), (0, .ref (K.2.2 24)), (1, .int a1)]) hc dX9_count_3 rfl (by decide) rfl ?_
  refine V_sub (lv' := [(0, .ref (K.2.2 24)), (1, .int a1), (2, .int 0), (3, .int 0)]) [2, 3, 1, 0] rfl ?_
  refine L_X9_count_4_ok hc t (a1) _ (fun z8 z9 => ?_) FU _ _
  refine V_iload_n hc dX9_count_196 rfl 2 rfl ?_
  exact V_iret hc rfl rfl dX9_count_197
