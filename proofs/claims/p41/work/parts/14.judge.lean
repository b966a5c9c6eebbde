theorem kX4_beginLevel_27 : Cond.fieldLink RX4 27 RX4 (TX4 4).2.1 (TX4 4).2.2.1 ∈ wsX4_beginLevel := by decide +kernel
theorem qX4_beginLevel_RX4 : ∀ w ∈ u_ws RX4 TX4 8, w ∈ wsX4_beginLevel := by
  first
  | exact fun _ h => List.mem_cons_of_mem _ (List.mem_append_right _ h)
  | exact fun _ h => List.mem_cons_of_mem _ (List.mem_append_left _ (List.mem_append_right _ h))
  | exact fun _ h => List.mem_cons_of_mem _ (List.mem_append_left _ (List.mem_append_left _ (List.mem_append_right _ h)))
  | exact fun _ h => List.mem_cons_of_mem _ (List.mem_append_left _ (List.mem_append_left _ (List.mem_append_left _ (List.mem_append_right _ h))))
  | exact fun _ h => List.mem_cons_of_mem _ (List.mem_append_left _ (List.mem_append_left _ (List.mem_append_left _ (List.mem_append_left _ (List.mem_append_right _ h)))))
  | decide +kernel
theorem kX4_beginLevel_38 : Cond.fieldLink RX4 38 RX4 (TX4 7).2.1 (TX4 7).2.2.1 ∈ wsX4_beginLevel := by decide +kernel
theorem kX4_beginLevel_31 : Cond.fieldLink RX4 31 RX4 (TX4 5).2.1 (TX4 5).2.2.1 ∈ wsX4_beginLevel := by decide +kernel
theorem kX4_beginLevel_9 : Cond.fieldLink RX4 9 RX4 (TX4 0).2.1 (TX4 0).2.2.1 ∈ wsX4_beginLevel := by decide +kernel
theorem kX4_beginLevel_34 : Cond.fieldLink RX4 34 RX4 (TX4 6).2.1 (TX4 6).2.2.1 ∈ wsX4_beginLevel := by decide +kernel
noncomputable def f_X4_beginLevel (t : Sx)  : Option Sx := gd (vp_in (gI t 51) 11) (bd (pM t 0 (ix (gI t 51)) 0) fun t1 => (f_X1_all t1 ).bind fun r2 => gd (vp_in (gI t1 51) 11) (bd (pM t1 1 (ix (gI t1 51)) r2) fun t3 => gd (vp_in (gI t3 51) 11) (bd (pA t3 19 (ix (gI t3 51)) 0) fun t4 => some t4)))
set_option maxRecDepth 20000 in
set_option maxHeartbeats 4000000 in
theorem c_X4_beginLevel (l : Launch) (K : Kx) (t : Sx)  : CT l K yX4_beginLevel wsX4_beginLevel ({ frames := 1, cells := 0, slots := 0, locals := 20 } : Room) [.ref (K.2.2 15)] t (f_X4_beginLevel t ) kWV := by
  refine CT_of (cc := cX4_beginLevel) (maxL := 1) (ret := none) (own := RX4) (by decide +kernel) rfl rfl (Nat.le_of_ble_eq_true rfl) ?_
  intro p e s m args below meth c hc
  refine V_sub (lv' := [(0, .ref (K.2.2 15))]) [0] rfl ?_
  unfold f_X4_beginLevel
  refine V_aload_n hc dX4_beginLevel_0 rfl 0 rfl ?_
  refine V_getr (C := RX4) (T := TX4) (N := 8) hc sP15 rfl qX4_beginLevel_RX4 4 rfl (by decide) kX4_beginLevel_27 rfl dX4_beginLevel_1 ?_
  refine V_aload_n hc dX4_beginLevel_4 rfl 0 rfl ?_
  refine V_geti (C := RX4) (T := TX4) (N := 8) hc sP15 rfl qX4_beginLevel_RX4 7 rfl (by decide) kX4_beginLevel_38 rfl dX4_beginLevel_5 ?_
  refine V_lconst (v := 0) hc dX4_beginLevel_8 (by decide) ?_
  refine V_last hc sP16 dX4_beginLevel_9 ?_
  refine V_bds (fun t1 => ?_)
  refine V_aload_n hc dX4_beginLevel_10 rfl 0 rfl ?_
  refine V_getr (C := RX4) (T := TX4) (N := 8) hc sP15 rfl qX4_beginLevel_RX4 5 rfl (by decide) kX4_beginLevel_31 rfl dX4_beginLevel_11 ?_
  refine V_aload_n hc dX4_beginLevel_14 rfl 0 rfl ?_
  refine V_geti (C := RX4) (T := TX4) (N := 8) hc sP15 rfl qX4_beginLevel_RX4 7 rfl (by decide) kX4_beginLevel_38 rfl dX4_beginLevel_15 ?_
  refine V_aload_n hc dX4_beginLevel_18 rfl 0 rfl ?_
  refine V_getr (C := RX4) (T := TX4) (N := 8) hc sP15 rfl qX4_beginLevel_RX4 0 rfl (by decide) kX4_beginLevel_9 rfl dX4_beginLevel_19 ?_
  refine V_callV_RL (Cn := RX1) (T := TX1) (N := 6) hc (c_X1_all l K t1 ) sP1 rfl 0 gX4_beginLevel_X1_all rfl ⟨rfl, rfl⟩ (by decide) ⟨Nat.le_of_ble_eq_true rfl, Nat.le_of_ble_eq_true rfl⟩ rfl rfl (Nat.le_of_ble_eq_true rfl) dX4_beginLevel_22 (fun r2 => ?_)
  refine V_last hc sP17 dX4_beginLevel_25 ?_
  refine V_bds (fun t3 => ?_)
  refine V_aload_n hc dX4_beginLevel_26 rfl 0 rfl ?_
  refine V_getr (C := RX4) (T := TX4) (N := 8) hc sP15 rfl qX4_beginLevel_RX4 6 rfl (by decide) kX4_beginLevel_34 rfl dX4_beginLevel_27 ?_
  refine V_aload_n hc dX4_beginLevel_30 rfl 0 rfl ?_
  refine V_geti (C := RX4) (T := TX4) (N := 8) hc sP15 rfl qX4_beginLevel_RX4 7 rfl (by decide) kX4_beginLevel_38 rfl dX4_beginLevel_31 ?_
  refine V_iconst (v := 0) hc dX4_beginLevel_34 (by decide) ?_
  refine V_zastc hc sP18 (Or.inl rfl) dX4_beginLevel_35 ?_
  refine V_bds (fun t4 => ?_)
  exact V_vret hc rfl rfl dX4_beginLevel_36

theorem kX4_tagged_9 : Cond.fieldLink RX4 9 RX4 (TX4 0).2.1 (TX4 0).2.2.1 ∈ wsX4_tagged := by decide +kernel
theorem qX4_tagged_RX4 : ∀ w ∈ u_ws RX4 TX4 8, w ∈ wsX4_tagged := by
  first
  | exact fun _ h => List.mem_cons_of_mem _ (List.mem_append_right _ h)
  | exact fun _ h => List.mem_cons_of_mem _ (List.mem_append_left _ (List.mem_append_right _ h))
  | exact fun _ h => List.mem_cons_of_mem _ (List.mem_append_left _ (List.mem_append_left _ (List.mem_append_right _ h)))
  | exact fun _ h => List.mem_cons_of_mem _ (List.mem_append_left _ (List.mem_append_left _ (List.mem_append_left _ (List.mem_append_right _ h))))
  | exact fun _ h => List.mem_cons_of_mem _ (List.mem_append_left _ (List.mem_append_left _ (List.mem_append_left _ (List.mem_append_left _ (List.mem_append_right _ h)))))
  | decide +kernel
theorem wX4_tagged_in111 : Cond.initialized yX8_holds.cls ∈ wsX4_tagged := by decide +kernel
theorem wX4_tagged_st111 : Cond.static yX8_holds ∈ wsX4_tagged := by decide +kernel
theorem wX4_tagged_in119 : Cond.initialized yX8_only.cls ∈ wsX4_tagged := by decide +kernel
theorem wX4_tagged_st119 : Cond.static yX8_only ∈ wsX4_tagged := by decide +kernel
noncomputable def L_X4_tagged_5 (t0 : Sx) (b1 : Int32) (kont : Int64 → Int32 → Option Int64) : Nat → Int64 → Int32 → Option Int64
  | 0, _, _ => none
  | n + 1, x2 , x4 => if 40 ≤ x4 then kont (x2) (x4) else (f_X1_all t0 ).bind fun r1 => (f_X8_holds t0 (r1) (x4)).bind fun r2 => if r2 = 0 then L_X4_tagged_5 t0 b1 kont n (x2) ((x4 + 1)) else (f_X1_settledValue t0 (x4) (5)).bind fun r3 => if ((ushI r3 b1) &&& 1) = 1 then (f_X8_only t0 (x4)).bind fun r4 => L_X4_tagged_5 t0 b1 kont n ((x2 ||| r4)) ((x4 + 1)) else L_X4_tagged_5 t0 b1 kont n (x2) ((x4 + 1))
set_option maxRecDepth 20000 in
set_option maxHeartbeats 4000000 in
theorem L_X4_tagged_5_ok {p : Program} {l : Launch} {K : Kx} {e : Env} {s : State} {m : MethodId} {args : Array Value} {below : List Frame} {meth : Method} {c : Code} (hc : Cx p ({ frames := 1, cells := 0, slots := 0, locals := 22 } : Room) s m args meth c cX4_tagged 5 wsX4_tagged RX4 K (aA K s.heap.size) (some .long) 0 0) (t0 : Sx) (b1 : Int32) (kont : Int64 → Int32 → Option Int64) (hk : ∀ x2 x4, V p l e ({ frames := 1, cells := 0, slots := 0, locals := 22 } : Room) s m args below meth c K (aA K s.heap.size) 0 0 5 (QM below K args s (kRL t0)) 59 [(0, .ref (K.2.2 15)), (1, .int b1), (2, .long x2), (4, .int x4)] [] t0 (kont x2 x4)) : ∀ (n : Nat) (x2 : Int64) (x4 : Int32), V p l e ({ frames := 1, cells := 0, slots := 0, locals := 22 } : Room) s m args below meth c K (aA K s.heap.size) 0 0 5 (QM below K args s (kRL t0)) 5 [(0, .ref (K.2.2 15)), (1, .int b1), (2, .long x2), (4, .int x4)] [] t0 (L_X4_tagged_5 t0 b1 kont n x2 x4) := by
  intro n
  induction n with
  | zero => intro x2 x4; exact V_none
  | succ n ih =>
    intro x2 x4
    rw [L_X4_tagged_5]
    refine V_iload hc dX4_tagged_5 3 rfl ?_
    refine V_bipush (v := 40) hc dX4_tagged_7 (by decide) ?_
    refine V_icmp_ge (tgt := 59) hc dX4_tagged_9 (by decide) ?_ ?_
    · exact V_sub [0, 1, 2, 3] rfl (hk _ _)
    · refine V_aload_n hc dX4_tagged_12 rfl 0 rfl ?_
      refine V_getr (C := RX4) (T := TX4) (N := 8) hc sP15 rfl qX4_tagged_RX4 0 rfl (by decide) kX4_tagged_9 rfl dX4_tagged_13 ?_
      refine V_callV_RL (Cn := RX1) (T := TX1) (N := 6) hc (c_X1_all l K t0 ) sP1 rfl 0 gX4_tagged_X1_all rfl ⟨rfl, rfl⟩ (by decide) ⟨Nat.le_of_ble_eq_true rfl, Nat.le_of_ble_eq_true rfl⟩ rfl rfl (Nat.le_of_ble_eq_true rfl) dX4_tagged_16 (fun r1 => ?_)
      refine V_iload hc dX4_tagged_19 3 rfl ?_
      refine V_callN_RI hc (c_X8_holds l K t0 (r1) (x4)) 2 gX4_tagged_X8_holds_n111 rfl ⟨rfl, rfl⟩ (List.mem_of_getElem? (i := 6) rfl) wX4_tagged_in111 wX4_tagged_st111 (by decide) ⟨Nat.le_of_ble_eq_true rfl, Nat.le_of_ble_eq_true rfl⟩ rfl rfl (Nat.le_of_ble_eq_true rfl) dX4_tagged_21 (fun r2 => ?_)
      refine V_if_eq (tgt := 53) hc dX4_tagged_24 (by decide) ?_ ?_
      · refine V_iinc (v := (x4 + 1)) (lv' := [(4, .int (x4 + 1)), (0, .ref (K.2.2 15)), (1, .int b1), (2, .long x2)]) hc dX4_tagged_53 3 rfl rfl (by decide) rfl ?_
        refine V_goto (tgt := 5) hc dX4_tagged_56 (by decide) ?_
        exact V_sub [1, 2, 3, 0] rfl (ih _ _)
      · refine V_aload_n hc dX4_tagged_27 rfl 0 rfl ?_
        refine V_getr (C := RX4) (T := TX4) (N := 8) hc sP15 rfl qX4_tagged_RX4 0 rfl (by decide) kX4_tagged_9 rfl dX4_tagged_28 ?_
        refine V_iload hc dX4_tagged_31 3 rfl ?_
        refine V_iconst (v := 5) hc dX4_tagged_33 (by decide) ?_
        refine V_callV_RI (Cn := RX1) (T := TX1) (N := 6) hc (c_X1_settledValue l K t0 (x4) (5)) sP1 rfl 2 gX4_tagged_X1_settledValue rfl ⟨rfl, rfl⟩ (by decide) ⟨Nat.le_of_ble_eq_true rfl, Nat.le_of_ble_eq_true rfl⟩ rfl rfl (Nat.le_of_ble_eq_true rfl) dX4_tagged_34 (fun r3 => ?_)
        refine V_iload_n hc dX4_tagged_37 rfl 1 rfl ?_
        refine V_iushr hc dX4_tagged_38 ?_
        refine V_iconst (v := 1) hc dX4_tagged_39 (by decide) ?_
        refine V_iand hc dX4_tagged_40 ?_
        refine V_iconst (v := 1) hc dX4_tagged_41 (by decide) ?_
        refine V_icmp_ne (tgt := 53) hc dX4_tagged_42 (by decide) ?_ ?_
        · refine V_iinc (v := (x4 + 1)) (lv' := [(4, .int (x4 + 1)), (0, .ref (K.2.2 15)), (1, .int b1), (2, .long x2)]) hc dX4_tagged_53 3 rfl rfl (by decide) rfl ?_
          refine V_goto (tgt := 5) hc dX4_tagged_56 (by decide) ?_
          exact V_sub [1, 2, 3, 0] rfl (ih _ _)
        · refine V_lload_n hc dX4_tagged_45 rfl 2 rfl ?_
          refine V_iload hc dX4_tagged_46 3 rfl ?_
          refine V_callN_RL hc (c_X8_only l K t0 (x4)) 1 gX4_tagged_X8_only_n119 rfl ⟨rfl, rfl⟩ (List.mem_of_getElem? (i := 7) rfl) wX4_tagged_in119 wX4_tagged_st119 (by decide) ⟨Nat.le_of_ble_eq_true rfl, Nat.le_of_ble_eq_true rfl⟩ rfl rfl (Nat.le_of_ble_eq_true rfl) dX4_tagged_48 (fun r4 => ?_)
          refine V_lor hc dX4_tagged_51 ?_
          refine V_lstore_n (lv' := [(2, .long (x2 ||| r4)), (0, .ref (K.2.2 15)), (1, .int b1), (4, .int x4)]) hc dX4_tagged_52 rfl (by decide) rfl ?_
          refine V_iinc (v := (x4 + 1)) (lv' := [(4, .int (x4 + 1)), (2, .long (x2 ||| r4)), (0, .ref (K.2.2 15)), (1, .int b1)]) hc dX4_tagged_53 3 rfl rfl (by decide) rfl ?_
          refine V_goto (tgt := 5) hc dX4_tagged_56 (by decide) ?_
          exact V_sub [2, 3, 1, 0] rfl (ih _ _)
noncomputable def f_X4_tagged (t : Sx) (a1 : Int32) : Option Int64 := L_X4_tagged_5 t (a1) (fun z5 z6 => some z5) FU (0) (0)
set_option maxRecDepth 20000 in
set_option maxHeartbeats 4000000 in
theorem c_X4_tagged (l : Launch) (K : Kx) (t : Sx) (a1 : Int32) : CT l K yX4_tagged wsX4_tagged ({ frames := 1, cells := 0, slots := 0, locals := 22 } : Room) [.ref (K.2.2 15), .int a1] t (f_X4_tagged t a1) (kRL t) := by
  refine CT_of (cc := cX4_tagged) (maxL := 5) (ret := (some .long)) (own := RX4) (by decide +kernel) rfl rfl (Nat.le_of_ble_eq_true rfl) ?_
  intro p e s m args below meth c hc
  refine V_sub (lv' := [(0, .ref (K.2.2 15)), (1, .int a1)]) [0, 1] rfl ?_
  unfold f_X4_tagged
  refine V_lconst (v := 0) hc dX4_tagged_0 (by decide) ?_
  refine V_lstore_n (lv' := [(2, .long 0), (0, .ref (K.2.2 15)), (1, .int a1)]) hc dX4_tagged_1 rfl (by decide) rfl ?_
  refine V_iconst (v := 0) hc dX4_tagged_2 (by decide) ?_
  refine V_istore (lv' := [(4, .int 0), (2, .long 0), (0, .ref (K.2.2 15)), (1, .int a1)]) hc dX4_tagged_3 (by decide) rfl ?_
  refine V_sub (lv' := [(0, .ref (K.2.2 15)), (1, .int a1), (2, .long 0), (4, .int 0)]) [2, 3, 1, 0] rfl ?_
  refine L_X4_tagged_5_ok hc t (a1) _ (fun z5 z6 => ?_) FU _ _
  refine V_lload_n hc dX4_tagged_59 rfl 2 rfl ?_
  exact V_lret hc rfl rfl dX4_tagged_60

theorem wX4_membersOf_in122 : Cond.initialized yX8_isWithin.cls ∈ wsX4_membersOf := by decide +kernel
theorem wX4_membersOf_st122 : Cond.static yX8_isWithin ∈ wsX4_membersOf := by decide +kernel
theorem kX4_membersOf_23 : Cond.fieldLink RX4 23 RX4 (TX4 3).2.1 (TX4 3).2.2.1 ∈ wsX4_membersOf := by decide +kernel
theorem qX4_membersOf_RX4 : ∀ w ∈ u_ws RX4 TX4 8, w ∈ wsX4_membersOf := by
  first
  | exact fun _ h => List.mem_cons_of_mem _ (List.mem_append_right _ h)
  | exact fun _ h => List.mem_cons_of_mem _ (List.mem_append_left _ (List.mem_append_right _ h))
  | exact fun _ h => List.mem_cons_of_mem _ (List.mem_append_left _ (List.mem_append_left _ (List.mem_append_right _ h)))
  | exact fun _ h => List.mem_cons_of_mem _ (List.mem_append_left _ (List.mem_append_left _ (List.mem_append_left _ (List.mem_append_right _ h))))
  | exact fun _ h => List.mem_cons_of_mem _ (List.mem_append_left _ (List.mem_append_left _ (List.mem_append_left _ (List.mem_append_left _ (List.mem_append_right _ h)))))
  | decide +kernel
noncomputable def f_X4_membersOf (t : Sx) (a1 : Int32) : Option Int64 := (f_X8_isWithin t (a1) (0) (7)).bind fun r1 => if r1 = 0 then some 0 else gd (vp_in a1 8) ((f_X0_members t (ix a1)).bind fun r3 => some r3)
set_option maxRecDepth 20000 in
set_option maxHeartbeats 4000000 in
theorem c_X4_membersOf (l : Launch) (K : Kx) (t : Sx) (a1 : Int32) : CT l K yX4_membersOf wsX4_membersOf ({ frames := 1, cells := 0, slots := 0, locals := 22 } : Room) [.ref (K.2.2 15), .int a1] t (f_X4_membersOf t a1) (kRL t) := by
  refine CT_of (cc := cX4_membersOf) (maxL := 2) (ret := (some .long)) (own := RX4) (by decide +kernel) rfl rfl (Nat.le_of_ble_eq_true rfl) ?_
  intro p e s m args below meth c hc
  refine V_sub (lv' := [(0, .ref (K.2.2 15)), (1, .int a1)]) [0, 1] rfl ?_
  unfold f_X4_membersOf
  refine V_iload_n hc dX4_membersOf_0 rfl 1 rfl ?_
  refine V_iconst (v := 0) hc dX4_membersOf_1 (by decide) ?_
  refine V_bipush (v := 7) hc dX4_membersOf_2 (by decide) ?_
  refine V_callN_RI hc (c_X8_isWithin l K t (a1) (0) (7)) 3 gX4_membersOf_X8_isWithin_n122 rfl ⟨rfl, rfl⟩ (List.mem_of_getElem? (i := 8) rfl) wX4_membersOf_in122 wX4_membersOf_st122 (by decide) ⟨Nat.le_of_ble_eq_true rfl, Nat.le_of_ble_eq_true rfl⟩ rfl rfl (Nat.le_of_ble_eq_true rfl) dX4_membersOf_4 (fun r1 => ?_)
  refine V_if_eq (tgt := 22) hc dX4_membersOf_7 (by decide) ?_ ?_
  · refine V_lconst (v := 0) hc dX4_membersOf_22 (by decide) ?_
    exact V_lret hc rfl rfl dX4_membersOf_23
  · refine V_aload_n hc dX4_membersOf_10 rfl 0 rfl ?_
    refine V_getr (C := RX4) (T := TX4) (N := 8) hc sP15 rfl qX4_membersOf_RX4 3 rfl (by decide) kX4_membersOf_23 rfl dX4_membersOf_11 ?_
    refine V_iload_n hc dX4_membersOf_14 rfl 1 rfl ?_
    refine V_aald hc sP14 dX4_membersOf_15 (fun h2 => ?_)
    refine V_callV_RL (Cn := RX0) (T := TX0) (N := 7) hc (c_X0_members l K t (ix a1) h2) (sh_alb h2) rfl 0 gX4_membersOf_X0_members rfl ⟨rfl, rfl⟩ (by decide) ⟨Nat.le_of_ble_eq_true rfl, Nat.le_of_ble_eq_true rfl⟩ rfl rfl (Nat.le_of_ble_eq_true rfl) dX4_membersOf_16 (fun r3 => ?_)
    refine V_goto (tgt := 23) hc dX4_membersOf_19 (by decide) ?_
    exact V_lret hc rfl rfl dX4_membersOf_23


noncomputable def f_X4_agrees (t : Sx) (a0 : Int32) (a1 : Int32) (a2 : Int32) : Option Int32 := if a0 = (-1) then some 0 else if a1 = 60 then if a2 ≤ a0 then some 0 else some 1 else if a1 = 61 then if a0 = a2 then some 1 else some 0 else if a1 = 62 then if a0 ≤ a2 then some 0 else some 1 else some 1
set_option maxRecDepth 20000 in
set_option maxHeartbeats 4000000 in
theorem c_X4_agrees (l : Launch) (K : Kx) (t : Sx) (a0 : Int32) (a1 : Int32) (a2 : Int32) : CT l K yX4_agrees wsX4_agrees ({ frames := 0, cells := 0, slots := 0, locals := 0 } : Room) [.int a0, .int a1, .int a2] t (f_X4_agrees t a0 a1 a2) (kRI t) := by
  refine CT_of (cc := cX4_agrees) (maxL := 3) (ret := (some .boolean)) (own := RX4) (by decide +kernel) rfl rfl (Nat.le_of_ble_eq_true rfl) ?_
  intro p e s m args below meth c hc
  refine V_sub (lv' := [(0, .int a0), (1, .int a1), (2, .int a2)]) [0, 1, 2] rfl ?_
  unfold f_X4_agrees
  refine V_iload_n hc dX4_agrees_0 rfl 0 rfl ?_
  refine V_iconst (v := (-1)) hc dX4_agrees_1 (by decide) ?_
  refine V_icmp_ne (tgt := 7) hc dX4_agrees_2 (by decide) ?_ ?_
  · refine V_iload_n hc dX4_agrees_7 rfl 1 rfl ?_
    refine V_ite (fun h1 => ?_) (fun h1 => ?_)
    · refine V_tsIn (tgt := 36) hc dX4_agrees_8 (by rw [h1] <;> decide) (by rw [h1] <;> decide) (by rw [h1] <;> rfl) (by decide) ?_
      refine V_iload_n hc dX4_agrees_36 rfl 0 rfl ?_
      refine V_iload_n hc dX4_agrees_37 rfl 2 rfl ?_
      refine V_icmp_ge (tgt := 45) hc dX4_agrees_38 (by decide) ?_ ?_
      · refine V_iconst (v := 0) hc dX4_agrees_45 (by decide) ?_
        exact V_nret hc rfl rfl rfl dX4_agrees_46
      · refine V_iconst (v := 1) hc dX4_agrees_41 (by decide) ?_
        refine V_goto (tgt := 46) hc dX4_agrees_42 (by decide) ?_
        exact V_nret hc rfl rfl rfl dX4_agrees_46
    · refine V_ite (fun h2 => ?_) (fun h2 => ?_)
      · refine V_tsIn (tgt := 47) hc dX4_agrees_8 (by rw [h2] <;> decide) (by rw [h2] <;> decide) (by rw [h2] <;> rfl) (by decide) ?_
        refine V_iload_n hc dX4_agrees_47 rfl 0 rfl ?_
        refine V_iload_n hc dX4_agrees_48 rfl 2 rfl ?_
        refine V_icmp_ne (tgt := 56) hc dX4_agrees_49 (by decide) ?_ ?_
        · refine V_iconst (v := 0) hc dX4_agrees_56 (by decide) ?_
          exact V_nret hc rfl rfl rfl dX4_agrees_57
        · refine V_iconst (v := 1) hc dX4_agrees_52 (by decide) ?_
          refine V_goto (tgt := 57) hc dX4_agrees_53 (by decide) ?_
          exact V_nret hc rfl rfl rfl dX4_agrees_57
      · refine V_ite (fun h3 => ?_) (fun h3 => ?_)
        · refine V_tsIn (tgt := 58) hc dX4_agrees_8 (by rw [h3] <;> decide) (by rw [h3] <;> decide) (by rw [h3] <;> rfl) (by decide) ?_
          refine V_iload_n hc dX4_agrees_58 rfl 0 rfl ?_
          refine V_iload_n hc dX4_agrees_59 rfl 2 rfl ?_
          refine V_icmp_le (tgt := 67) hc dX4_agrees_60 (by decide) ?_ ?_
          · refine V_iconst (v := 0) hc dX4_agrees_67 (by decide) ?_
            exact V_nret hc rfl rfl rfl dX4_agrees_68
          · refine V_iconst (v := 1) hc dX4_agrees_63 (by decide) ?_
            refine V_goto (tgt := 68) hc dX4_agrees_64 (by decide) ?_
            exact V_nret hc rfl rfl rfl dX4_agrees_68
        · refine V_tsOut (tgt := 69) hc dX4_agrees_8 (ts_out (lo := 60) (n := 3) (fun i hi => match i, hi with | 0, _ => h1 | 1, _ => h2 | 2, _ => h3 | _ + 3, hi => absurd hi (by omega))) (by decide) ?_
          refine V_iconst (v := 1) hc dX4_agrees_69 (by decide) ?_
          exact V_nret hc rfl rfl rfl dX4_agrees_70
  · refine V_iconst (v := 0) hc dX4_agrees_5 (by decide) ?_
    exact V_nret hc rfl rfl rfl dX4_agrees_6

theorem kX4_comparing_9 : Cond.fieldLink RX4 9 RX4 (TX4 0).2.1 (TX4 0).2.2.1 ∈ wsX4_comparing := by decide +kernel
theorem qX4_comparing_RX4 : ∀ w ∈ u_ws RX4 TX4 8, w ∈ wsX4_comparing := by
  first
  | exact fun _ h => List.mem_cons_of_mem _ (List.mem_append_right _ h)
  | exact fun _ h => List.mem_cons_of_mem _ (List.mem_append_left _ (List.mem_append_right _ h))
  | exact fun _ h => List.mem_cons_of_mem _ (List.mem_append_left _ (List.mem_append_left _ (List.mem_append_right _ h)))
  | exact fun _ h => List.mem_cons_of_mem _ (List.mem_append_left _ (List.mem_append_left _ (List.mem_append_left _ (List.mem_append_right _ h))))
  | exact fun _ h => List.mem_cons_of_mem _ (List.mem_append_left _ (List.mem_append_left _ (List.mem_append_left _ (List.mem_append_left _ (List.mem_append_right _ h)))))
  | decide +kernel
theorem wX4_comparing_in111 : Cond.initialized yX8_holds.cls ∈ wsX4_comparing := by decide +kernel
theorem wX4_comparing_st111 : Cond.static yX8_holds ∈ wsX4_comparing := by decide +kernel
theorem wX4_comparing_in119 : Cond.initialized yX8_only.cls ∈ wsX4_comparing := by decide +kernel
theorem wX4_comparing_st119 : Cond.static yX8_only ∈ wsX4_comparing := by decide +kernel
noncomputable def L_X4_comparing_40 (t0 : Sx) (b1 : Nat) (b2 : Int32) (b3 : Int32) (b4 : Int32) (b5 : Int32) (kont : Int64 → Int32 → Option Int64) : Nat → Int64 → Int32 → Option Int64
  | 0, _, _ => none
  | n + 1, x6 , x8 => if 40 ≤ x8 then kont (x6) (x8) else (f_X1_settledValue t0 (x8) (b3)).bind fun r5 => (f_X1_all t0 ).bind fun r6 => (f_X8_holds t0 (r6) (x8)).bind fun r7 => if r7 = 0 then L_X4_comparing_40 t0 b1 b2 b3 b4 b5 kont n (x6) ((x8 + 1)) else (f_X4_agrees t0 (r5) (b4) (b5)).bind fun r8 => if r8 = 0 then L_X4_comparing_40 t0 b1 b2 b3 b4 b5 kont n (x6) ((x8 + 1)) else (f_X8_only t0 (x8)).bind fun r9 => L_X4_comparing_40 t0 b1 b2 b3 b4 b5 kont n ((x6 ||| r9)) ((x8 + 1))
set_option maxRecDepth 20000 in
set_option maxHeartbeats 4000000 in
theorem L_X4_comparing_40_ok {p : Program} {l : Launch} {K : Kx} {e : Env} {s : State} {m : MethodId} {args : Array Value} {below : List Frame} {meth : Method} {c : Code} (hc : Cx p ({ frames := 2, cells := 0, slots := 0, locals := 44 } : Room) s m args meth c cX4_comparing 10 wsX4_comparing RX4 K (aA K s.heap.size) (some .long) 0 0) (t0 : Sx) (b1 : Nat) (b2 : Int32) (b3 : Int32) (b4 : Int32) (b5 : Int32) (hb1 : b1 < 9) (kont : Int64 → Int32 → Option Int64) (hk : ∀ x6 x8, V p l e ({ frames := 2, cells := 0, slots := 0, locals := 44 } : Room) s m args below meth c K (aA K s.heap.size) 0 0 10 (QM below K args s (kRL t0)) 102 [(0, .ref (K.2.2 15)), (1, .ref (K.2.2 (32 + b1))), (2, .int b2), (3, .int b3), (4, .int b4), (5, .int b5), (6, .long x6), (8, .int x8)] [] t0 (kont x6 x8)) : ∀ (n : Nat) (x6 : Int64) (x8 : Int32), V p l e ({ frames := 2, cells := 0, slots := 0, locals := 44 } : Room) s m args below meth c K (aA K s.heap.size) 0 0 10 (QM below K args s (kRL t0)) 40 [(0, .ref (K.2.2 15)), (1, .ref (K.2.2 (32 + b1))), (2, .int b2), (3, .int b3), (4, .int b4), (5, .int b5), (6, .long x6), (8, .int x8)] [] t0 (L_X4_comparing_40 t0 b1 b2 b3 b4 b5 kont n x6 x8) := by
  intro n
  induction n with
  | zero => intro x6 x8; exact V_none
  | succ n ih =>
    intro x6 x8
    rw [L_X4_comparing_40]
    refine V_iload hc dX4_comparing_40 7 rfl ?_
    refine V_bipush (v := 40) hc dX4_comparing_42 (by decide) ?_
    refine V_icmp_ge (tgt := 102) hc dX4_comparing_44 (by decide) ?_ ?_
    · exact V_sub [0, 1, 2, 3, 4, 5, 6, 7] rfl (hk _ _)
    · refine V_aload_n hc dX4_comparing_47 rfl 0 rfl ?_
      refine V_getr (C := RX4) (T := TX4) (N := 8) hc sP15 rfl qX4_comparing_RX4 0 rfl (by decide) kX4_comparing_9 rfl dX4_comparing_48 ?_
      refine V_iload hc dX4_comparing_51 7 rfl ?_
      refine V_iload_n hc dX4_comparing_53 rfl 3 rfl ?_
      refine V_callV_RI (Cn := RX1) (T := TX1) (N := 6) hc (c_X1_settledValue l K t0 (x8) (b3)) sP1 rfl 2 gX4_comparing_X1_settledValue rfl ⟨rfl, rfl⟩ (by decide) ⟨Nat.le_of_ble_eq_true rfl, Nat.le_of_ble_eq_true rfl⟩ rfl rfl (Nat.le_of_ble_eq_true rfl) dX4_comparing_54 (fun r5 => ?_)
      refine V_istore (lv' := [(9, .int r5), (0, .ref (K.2.2 15)), (1, .ref (K.2.2 (32 + b1))), (2, .int b2), (3, .int b3), (4, .int b4), (5, .int b5), (6, .long x6), (8, .int x8)]) hc dX4_comparing_57 (by decide) rfl ?_
      refine V_aload_n hc dX4_comparing_59 rfl 1 rfl ?_
      refine V_getr (C := RX4) (T := TX4) (N := 8) hc sP15 rfl qX4_comparing_RX4 0 rfl (by decide) kX4_comparing_9 rfl dX4_comparing_60 ?_
      refine V_callV_RL (Cn := RX1) (T := TX1) (N := 6) hc (c_X1_all l K t0 ) sP1 rfl 0 gX4_comparing_X1_all rfl ⟨rfl, rfl⟩ (by decide) ⟨Nat.le_of_ble_eq_true rfl, Nat.le_of_ble_eq_true rfl⟩ rfl rfl (Nat.le_of_ble_eq_true rfl) dX4_comparing_63 (fun r6 => ?_)
      refine V_iload hc dX4_comparing_66 8 rfl ?_
      refine V_callN_RI hc (c_X8_holds l K t0 (r6) (x8)) 2 gX4_comparing_X8_holds_n111 rfl ⟨rfl, rfl⟩ (List.mem_of_getElem? (i := 6) rfl) wX4_comparing_in111 wX4_comparing_st111 (by decide) ⟨Nat.le_of_ble_eq_true rfl, Nat.le_of_ble_eq_true rfl⟩ rfl rfl (Nat.le_of_ble_eq_true rfl) dX4_comparing_68 (fun r7 => ?_)
      refine V_if_eq (tgt := 96) hc dX4_comparing_71 (by decide) ?_ ?_
      · refine V_iinc (v := (x8 + 1)) (lv' := [(8, .int (x8 + 1)), (9, .int r5), (0, .ref (K.2.2 15)), (1, .ref (K.2.2 (32 + b1))), (2, .int b2), (3, .int b3), (4, .int b4), (5, .int b5), (6, .long x6)]) hc dX4_comparing_96 8 rfl rfl (by decide) rfl ?_
        refine V_goto (tgt := 40) hc dX4_comparing_99 (by decide) ?_
        exact V_sub [2, 3, 4, 5, 6, 7, 8, 0] rfl (ih _ _)
      · refine V_iload hc dX4_comparing_74 0 rfl ?_
        refine V_iload hc dX4_comparing_76 5 rfl ?_
        refine V_iload hc dX4_comparing_78 6 rfl ?_
        refine V_callS_RI hc (c_X4_agrees l K t0 (r5) (b4) (b5)) 3 gX4_comparing_X4_agrees rfl ⟨rfl, rfl⟩ (by decide) ⟨Nat.le_of_ble_eq_true rfl, Nat.le_of_ble_eq_true rfl⟩ rfl rfl (Nat.le_of_ble_eq_true rfl) dX4_comparing_80 (fun r8 => ?_)
        refine V_if_eq (tgt := 96) hc dX4_comparing_83 (by decide) ?_ ?_
        · refine V_iinc (v := (x8 + 1)) (lv' := [(8, .int (x8 + 1)), (9, .int r5), (0, .ref (K.2.2 15)), (1, .ref (K.2.2 (32 + b1))), (2, .int b2), (3, .int b3), (4, .int b4), (5, .int b5), (6, .long x6)]) hc dX4_comparing_96 8 rfl rfl (by decide) rfl ?_
          refine V_goto (tgt := 40) hc dX4_comparing_99 (by decide) ?_
          exact V_sub [2, 3, 4, 5, 6, 7, 8, 0] rfl (ih _ _)
        · refine V_lload hc dX4_comparing_86 7 rfl ?_
          refine V_iload hc dX4_comparing_88 8 rfl ?_
          refine V_callN_RL hc (c_X8_only l K t0 (x8)) 1 gX4_comparing_X8_only_n119 rfl ⟨rfl, rfl⟩ (List.mem_of_getElem? (i := 7) rfl) wX4_comparing_in119 wX4_comparing_st119 (by decide) ⟨Nat.le_of_ble_eq_true rfl, Nat.le_of_ble_eq_true rfl⟩ rfl rfl (Nat.le_of_ble_eq_true rfl) dX4_comparing_90 (fun r9 => ?_)
          refine V_lor hc dX4_comparing_93 ?_
          refine V_lstore (lv' := [(6, .long (x6 ||| r9)), (9, .int r5), (0, .ref (K.2.2 15)), (1, .ref (K.2.2 (32 + b1))), (2, .int b2), (3, .int b3), (4, .int b4), (5, .int b5), (8, .int x8)]) hc dX4_comparing_94 (by decide) rfl ?_
          refine V_iinc (v := (x8 + 1)) (lv' := [(8, .int (x8 + 1)), (6, .long (x6 ||| r9)), (9, .int r5), (0, .ref (K.2.2 15)), (1, .ref (K.2.2 (32 + b1))), (2, .int b2), (3, .int b3), (4, .int b4), (5, .int b5)]) hc dX4_comparing_96 8 rfl rfl (by decide) rfl ?_
          refine V_goto (tgt := 40) hc dX4_comparing_99 (by decide) ?_
          exact V_sub [3, 4, 5, 6, 7, 8, 1, 0] rfl (ih _ _)
noncomputable def f_X4_comparing (t : Sx) (k1 : Nat) (a2 : Int32) : Option Int64 := (f_X5_at t (k1) (a2)).bind fun r1 => (f_X5_fieldNamed t (r1)).bind fun r2 => if r2 = (-1) then some 0 else (f_X5_at t (k1) (a2 + 1)).bind fun r3 => (f_X5_numberAt t (k1) (a2 + 2)).bind fun r4 => L_X4_comparing_40 t (k1) (a2) (r2) (r3) (r4) (fun z10 z11 => some z10) FU (0) (0)
set_option maxRecDepth 20000 in
set_option maxHeartbeats 4000000 in
theorem c_X4_comparing (l : Launch) (K : Kx) (t : Sx) (k1 : Nat) (a2 : Int32) (hk1 : k1 < 9) : CT l K yX4_comparing wsX4_comparing ({ frames := 2, cells := 0, slots := 0, locals := 44 } : Room) [.ref (K.2.2 15), .ref (K.2.2 (32 + k1)), .int a2] t (f_X4_comparing t k1 a2) (kRL t) := by
  refine CT_of (cc := cX4_comparing) (maxL := 10) (ret := (some .long)) (own := RX4) (by decide +kernel) rfl rfl (Nat.le_of_ble_eq_true rfl) ?_
  intro p e s m args below meth c hc
  refine V_sub (lv' := [(0, .ref (K.2.2 15)), (1, .ref (K.2.2 (32 + k1))), (2, .int a2)]) [0, 1, 2] rfl ?_
  unfold f_X4_comparing
  refine V_aload_n hc dX4_comparing_0 rfl 1 rfl ?_
  refine V_iload_n hc dX4_comparing_1 rfl 2 rfl ?_
  refine V_callV_RI (Cn := RX5) (T := TX5) (N := 2) hc (c_X5_at l K t (k1) (a2) hk1) (sh_rtx hk1) rfl 1 gX4_comparing_X5_at rfl ⟨rfl, rfl⟩ (by decide) ⟨Nat.le_of_ble_eq_true rfl, Nat.le_of_ble_eq_true rfl⟩ rfl rfl (Nat.le_of_ble_eq_true rfl) dX4_comparing_2 (fun r1 => ?_)
  refine V_callS_RI hc (c_X5_fieldNamed l K t (r1)) 1 gX4_comparing_X5_fieldNamed rfl ⟨rfl, rfl⟩ (by decide) ⟨Nat.le_of_ble_eq_true rfl, Nat.le_of_ble_eq_true rfl⟩ rfl rfl (Nat.le_of_ble_eq_true rfl) dX4_comparing_5 (fun r2 => ?_)
  refine V_istore_n (lv' := [(3, .int r2), (0, .ref (K.2.2 15)), (1, .ref (K.2.2 (32 + k1))), (2, .int a2)]) hc dX4_comparing_8 rfl (by decide) rfl ?_
  refine V_iload_n hc dX4_comparing_9 rfl 0 rfl ?_
  refine V_iconst (v := (-1)) hc dX4_comparing_10 (by decide) ?_
  refine V_icmp_ne (tgt := 16) hc dX4_comparing_11 (by decide) ?_ ?_
  · refine V_aload_n hc dX4_comparing_16 rfl 2 rfl ?_
    refine V_iload_n hc dX4_comparing_17 rfl 3 rfl ?_
    refine V_iconst (v := 1) hc dX4_comparing_18 (by decide) ?_
    refine V_iadd hc dX4_comparing_19 ?_
    refine V_callV_RI (Cn := RX5) (T := TX5) (N := 2) hc (c_X5_at l K t (k1) (a2 + 1) hk1) (sh_rtx hk1) rfl 1 gX4_comparing_X5_at rfl ⟨rfl, rfl⟩ (by decide) ⟨Nat.le_of_ble_eq_true rfl, Nat.le_of_ble_eq_true rfl⟩ rfl rfl (Nat.le_of_ble_eq_true rfl) dX4_comparing_20 (fun r3 => ?_)
    refine V_istore (lv' := [(4, .int r3), (3, .int r2), (0, .ref (K.2.2 15)), (1, .ref (K.2.2 (32 + k1))), (2, .int a2)]) hc dX4_comparing_23 (by decide) rfl ?_
    refine V_aload_n hc dX4_comparing_25 rfl 3 rfl ?_
    refine V_iload_n hc dX4_comparing_26 rfl 4 rfl ?_
    refine V_iconst (v := 2) hc dX4_comparing_27 (by decide) ?_
    refine V_iadd hc dX4_comparing_28 ?_
    refine V_callV_RI (Cn := RX5) (T := TX5) (N := 2) hc (c_X5_numberAt l K t (k1) (a2 + 2) hk1) (sh_rtx hk1) rfl 1 gX4_comparing_X5_numberAt rfl ⟨rfl, rfl⟩ (by decide) ⟨Nat.le_of_ble_eq_true rfl, Nat.le_of_ble_eq_true rfl⟩ rfl rfl (Nat.le_of_ble_eq_true rfl) dX4_comparing_29 (fun r4 => ?_)
    refine V_istore (lv' := [(5, .int r4), (4, .int r3), (3, .int r2), (0, .ref (K.2.2 15)), (1, .ref (K.2.2 (32 + k1))), (2, .int a2)]) hc dX4_comparing_32 (by decide) rfl ?_
    refine V_lconst (v := 0) hc dX4_comparing_34 (by decide) ?_
    refine V_lstore (lv' := [(6, .long 0), (5, .int r4), (4, .int r3), (3, .int r2), (0, .ref (K.2.2 15)), (1, .ref (K.2.2 (32 + k1))), (2, .int a2)]) hc dX4_comparing_35 (by decide) rfl ?_
    refine V_iconst (v := 0) hc dX4_comparing_37 (by decide) ?_
    refine V_istore (lv' := [(8, .int 0), (6, .long 0), (5, .int r4), (4, .int r3), (3, .int r2), (0, .ref (K.2.2 15)), (1, .ref (K.2.2 (32 + k1))), (2, .int a2)]) hc dX4_comparing_38 (by decide) rfl ?_
    refine V_sub (lv' := [(0, .ref (K.2.2 15)), (1, .ref (K.2.2 (32 + k1))), (2, .int a2), (3, .int r2), (4, .int r3), (5, .int r4), (6, .long 0), (8, .int 0)]) [5, 6, 7, 4, 3, 2, 1, 0] rfl ?_
    refine L_X4_comparing_40_ok hc t (k1) (a2) (r2) (r3) (r4) hk1 _ (fun z10 z11 => ?_) FU _ _
    refine V_lload hc dX4_comparing_102 6 rfl ?_
    exact V_lret hc rfl rfl dX4_comparing_104
  · refine V_lconst (v := 0) hc dX4_comparing_14 (by decide) ?_
    exact V_lret hc rfl rfl dX4_comparing_15

theorem kX4_condition_15 : Cond.fieldLink RX4 15 RX4 (TX4 1).2.1 (TX4 1).2.2.1 ∈ wsX4_condition := by decide +kernel
theorem qX4_condition_RX4 : ∀ w ∈ u_ws RX4 TX4 8, w ∈ wsX4_condition := by
  first
  | exact fun _ h => List.mem_cons_of_mem _ (List.mem_append_right _ h)
  | exact fun _ h => List.mem_cons_of_mem _ (List.mem_append_left _ (List.mem_append_right _ h))
  | exact fun _ h => List.mem_cons_of_mem _ (List.mem_append_left _ (List.mem_append_left _ (List.mem_append_right _ h)))
  | exact fun _ h => List.mem_cons_of_mem _ (List.mem_append_left _ (List.mem_append_left _ (List.mem_append_left _ (List.mem_append_right _ h))))
  | exact fun _ h => List.mem_cons_of_mem _ (List.mem_append_left _ (List.mem_append_left _ (List.mem_append_left _ (List.mem_append_left _ (List.mem_append_right _ h)))))
  | decide +kernel
theorem kX4_condition_19 : Cond.fieldLink RX4 19 RX4 (TX4 2).2.1 (TX4 2).2.2.1 ∈ wsX4_condition := by decide +kernel
noncomputable def f_X4_condition (t : Sx) (k1 : Nat) (a2 : Int32) : Option Int64 := (f_X5_at t (k1) (a2)).bind fun r1 => if r1 = 97 then (f_X5_numberAt t (k1) (a2 + 1)).bind fun r3 => (f_X4_membersOf t (r3)).bind fun r4 => some r4 else if r1 = 98 then (f_X2_keepers t ).bind fun r6 => some r6 else if r1 = 115 then (f_X6_stacked t ).bind fun r8 => some r8 else if r1 = 116 then (f_X5_numberAt t (k1) (a2 + 1)).bind fun r10 => (f_X4_tagged t (r10)).bind fun r11 => some r11 else if r1 = 117 then (f_X2_duplicates t ).bind fun r13 => some r13 else if r1 = 118 then (f_X6_covers t ).bind fun r15 => some r15 else (f_X4_comparing t (k1) (a2)).bind fun r16 => some r16
set_option maxRecDepth 20000 in
set_option maxHeartbeats 4000000 in
theorem c_X4_condition (l : Launch) (K : Kx) (t : Sx) (k1 : Nat) (a2 : Int32) (hk1 : k1 < 9) : CT l K yX4_condition wsX4_condition ({ frames := 3, cells := 0, slots := 0, locals := 73 } : Room) [.ref (K.2.2 15), .ref (K.2.2 (32 + k1)), .int a2] t (f_X4_condition t k1 a2) (kRL t) := by
  refine CT_of (cc := cX4_condition) (maxL := 3) (ret := (some .long)) (own := RX4) (by decide +kernel) rfl rfl (Nat.le_of_ble_eq_true rfl) ?_
  intro p e s m args below meth c hc
  refine V_sub (lv' := [(0, .ref (K.2.2 15)), (1, .ref (K.2.2 (32 + k1))), (2, .int a2)]) [0, 1, 2] rfl ?_
  unfold f_X4_condition
  refine V_aload_n hc dX4_condition_0 rfl 1 rfl ?_
  refine V_iload_n hc dX4_condition_1 rfl 2 rfl ?_
  refine V_callV_RI (Cn := RX5) (T := TX5) (N := 2) hc (c_X5_at l K t (k1) (a2) hk1) (sh_rtx hk1) rfl 1 gX4_condition_X5_at rfl ⟨rfl, rfl⟩ (by decide) ⟨Nat.le_of_ble_eq_true rfl, Nat.le_of_ble_eq_true rfl⟩ rfl rfl (Nat.le_of_ble_eq_true rfl) dX4_condition_2 (fun r1 => ?_)
  refine V_ite (fun h2 => ?_) (fun h2 => ?_)
  · refine V_lks (tgt := 76) hc dX4_condition_5 (by decide) (by rw [h2] <;> rfl) (by decide) ?_
    refine V_aload_n hc dX4_condition_76 rfl 0 rfl ?_
    refine V_aload_n hc dX4_condition_77 rfl 1 rfl ?_
    refine V_iload_n hc dX4_condition_78 rfl 2 rfl ?_
    refine V_iconst (v := 1) hc dX4_condition_79 (by decide) ?_
    refine V_iadd hc dX4_condition_80 ?_
    refine V_callV_RI (Cn := RX5) (T := TX5) (N := 2) hc (c_X5_numberAt l K t (k1) (a2 + 1) hk1) (sh_rtx hk1) rfl 1 gX4_condition_X5_numberAt rfl ⟨rfl, rfl⟩ (by decide) ⟨Nat.le_of_ble_eq_true rfl, Nat.le_of_ble_eq_true rfl⟩ rfl rfl (Nat.le_of_ble_eq_true rfl) dX4_condition_81 (fun r3 => ?_)
    refine V_callV_RL (Cn := RX4) (T := TX4) (N := 8) hc (c_X4_membersOf l K t (r3)) sP15 rfl 1 gX4_condition_X4_membersOf rfl ⟨rfl, rfl⟩ (by decide) ⟨Nat.le_of_ble_eq_true rfl, Nat.le_of_ble_eq_true rfl⟩ rfl rfl (Nat.le_of_ble_eq_true rfl) dX4_condition_84 (fun r4 => ?_)
    exact V_lret hc rfl rfl dX4_condition_87
  · refine V_ite (fun h5 => ?_) (fun h5 => ?_)
    · refine V_lks (tgt := 112) hc dX4_condition_5 (by decide) (by rw [h5] <;> rfl) (by decide) ?_
      refine V_aload_n hc dX4_condition_112 rfl 0 rfl ?_
      refine V_getr (C := RX4) (T := TX4) (N := 8) hc sP15 rfl qX4_condition_RX4 1 rfl (by decide) kX4_condition_15 rfl dX4_condition_113 ?_
      refine V_callV_RL (Cn := RX2) (T := TX2) (N := 3) hc (c_X2_keepers l K t ) sP7 rfl 0 gX4_condition_X2_keepers rfl ⟨rfl, rfl⟩ (by decide) ⟨Nat.le_of_ble_eq_true rfl, Nat.le_of_ble_eq_true rfl⟩ rfl rfl (Nat.le_of_ble_eq_true rfl) dX4_condition_116 (fun r6 => ?_)
      exact V_lret hc rfl rfl dX4_condition_119
    · refine V_ite (fun h7 => ?_) (fun h7 => ?_)
      · refine V_lks (tgt := 88) hc dX4_condition_5 (by decide) (by rw [h7] <;> rfl) (by decide) ?_
        refine V_aload_n hc dX4_condition_88 rfl 0 rfl ?_
        refine V_getr (C := RX4) (T := TX4) (N := 8) hc sP15 rfl qX4_condition_RX4 2 rfl (by decide) kX4_condition_19 rfl dX4_condition_89 ?_
        refine V_callV_RL (Cn := RX6) (T := TX6) (N := 8) hc (c_X6_stacked l K t ) sP8 rfl 0 gX4_condition_X6_stacked rfl ⟨rfl, rfl⟩ (by decide) ⟨Nat.le_of_ble_eq_true rfl, Nat.le_of_ble_eq_true rfl⟩ rfl rfl (Nat.le_of_ble_eq_true rfl) dX4_condition_92 (fun r8 => ?_)
        exact V_lret hc rfl rfl dX4_condition_95
      · refine V_ite (fun h9 => ?_) (fun h9 => ?_)
        · refine V_lks (tgt := 64) hc dX4_condition_5 (by decide) (by rw [h9] <;> rfl) (by decide) ?_
          refine V_aload_n hc dX4_condition_64 rfl 0 rfl ?_
          refine V_aload_n hc dX4_condition_65 rfl 1 rfl ?_
          refine V_iload_n hc dX4_condition_66 rfl 2 rfl ?_
          refine V_iconst (v := 1) hc dX4_condition_67 (by decide) ?_
          refine V_iadd hc dX4_condition_68 ?_
          refine V_callV_RI (Cn := RX5) (T := TX5) (N := 2) hc (c_X5_numberAt l K t (k1) (a2 + 1) hk1) (sh_rtx hk1) rfl 1 gX4_condition_X5_numberAt rfl ⟨rfl, rfl⟩ (by decide) ⟨Nat.le_of_ble_eq_true rfl, Nat.le_of_ble_eq_true rfl⟩ rfl rfl (Nat.le_of_ble_eq_true rfl) dX4_condition_69 (fun r10 => ?_)
          refine V_callV_RL (Cn := RX4) (T := TX4) (N := 8) hc (c_X4_tagged l K t (r10)) sP15 rfl 1 gX4_condition_X4_tagged rfl ⟨rfl, rfl⟩ (by decide) ⟨Nat.le_of_ble_eq_true rfl, Nat.le_of_ble_eq_true rfl⟩ rfl rfl (Nat.le_of_ble_eq_true rfl) dX4_condition_72 (fun r11 => ?_)
          exact V_lret hc rfl rfl dX4_condition_75
        · refine V_ite (fun h12 => ?_) (fun h12 => ?_)
          · refine V_lks (tgt := 104) hc dX4_condition_5 (by decide) (by rw [h12] <;> rfl) (by decide) ?_
            refine V_aload_n hc dX4_condition_104 rfl 0 rfl ?_
            refine V_getr (C := RX4) (T := TX4) (N := 8) hc sP15 rfl qX4_condition_RX4 1 rfl (by decide) kX4_condition_15 rfl dX4_condition_105 ?_
            refine V_callV_RL (Cn := RX2) (T := TX2) (N := 3) hc (c_X2_duplicates l K t ) sP7 rfl 0 gX4_condition_X2_duplicates rfl ⟨rfl, rfl⟩ (by decide) ⟨Nat.le_of_ble_eq_true rfl, Nat.le_of_ble_eq_true rfl⟩ rfl rfl (Nat.le_of_ble_eq_true rfl) dX4_condition_108 (fun r13 => ?_)
            exact V_lret hc rfl rfl dX4_condition_111
          · refine V_ite (fun h14 => ?_) (fun h14 => ?_)
            · refine V_lks (tgt := 96) hc dX4_condition_5 (by decide) (by rw [h14] <;> rfl) (by decide) ?_
              refine V_aload_n hc dX4_condition_96 rfl 0 rfl ?_
              refine V_getr (C := RX4) (T := TX4) (N := 8) hc sP15 rfl qX4_condition_RX4 2 rfl (by decide) kX4_condition_19 rfl dX4_condition_97 ?_
              refine V_callV_RL (Cn := RX6) (T := TX6) (N := 8) hc (c_X6_covers l K t ) sP8 rfl 0 gX4_condition_X6_covers rfl ⟨rfl, rfl⟩ (by decide) ⟨Nat.le_of_ble_eq_true rfl, Nat.le_of_ble_eq_true rfl⟩ rfl rfl (Nat.le_of_ble_eq_true rfl) dX4_condition_100 (fun r15 => ?_)
              exact V_lret hc rfl rfl dX4_condition_103
            · refine V_lks (tgt := 120) hc dX4_condition_5 (by decide) (lks_dflt (List.forall_mem_cons.mpr ⟨toInt_ne h2, (List.forall_mem_cons.mpr ⟨toInt_ne h5, (List.forall_mem_cons.mpr ⟨toInt_ne h7, (List.forall_mem_cons.mpr ⟨toInt_ne h9, (List.forall_mem_cons.mpr ⟨toInt_ne h12, (List.forall_mem_cons.mpr ⟨toInt_ne h14, (fun _ h => absurd h List.not_mem_nil)⟩)⟩)⟩)⟩)⟩)⟩)) (by decide) ?_
              refine V_aload_n hc dX4_condition_120 rfl 0 rfl ?_
              refine V_aload_n hc dX4_condition_121 rfl 1 rfl ?_
              refine V_iload_n hc dX4_condition_122 rfl 2 rfl ?_
              refine V_callV_RL (Cn := RX4) (T := TX4) (N := 8) hc (c_X4_comparing l K t (k1) (a2) hk1) sP15 rfl 2 gX4_condition_X4_comparing rfl ⟨rfl, rfl⟩ (by decide) ⟨Nat.le_of_ble_eq_true rfl, Nat.le_of_ble_eq_true rfl⟩ rfl rfl (Nat.le_of_ble_eq_true rfl) dX4_condition_123 (fun r16 => ?_)
              exact V_lret hc rfl rfl dX4_condition_126

theorem kX4_take_31 : Cond.fieldLink RX4 31 RX4 (TX4 5).2.1 (TX4 5).2.2.1 ∈ wsX4_take := by decide +kernel
theorem qX4_take_RX4 : ∀ w ∈ u_ws RX4 TX4 8, w ∈ wsX4_take := by
  first
  | exact fun _ h => List.mem_cons_of_mem _ (List.mem_append_right _ h)
  | exact fun _ h => List.mem_cons_of_mem _ (List.mem_append_left _ (List.mem_append_right _ h))
  | exact fun _ h => List.mem_cons_of_mem _ (List.mem_append_left _ (List.mem_append_left _ (List.mem_append_right _ h)))
  | exact fun _ h => List.mem_cons_of_mem _ (List.mem_append_left _ (List.mem_append_left _ (List.mem_append_left _ (List.mem_append_right _ h))))
  | exact fun _ h => List.mem_cons_of_mem _ (List.mem_append_left _ (List.mem_append_left _ (List.mem_append_left _ (List.mem_append_left _ (List.mem_append_right _ h)))))
  | decide +kernel
theorem kX4_take_38 : Cond.fieldLink RX4 38 RX4 (TX4 7).2.1 (TX4 7).2.2.1 ∈ wsX4_take := by decide +kernel
theorem kX4_take_34 : Cond.fieldLink RX4 34 RX4 (TX4 6).2.1 (TX4 6).2.2.1 ∈ wsX4_take := by decide +kernel
theorem wX4_take_c79 : Cond.constantLong RX4 79 (-1) ∈ wsX4_take := by decide +kernel
noncomputable def f_X4_take (t : Sx) (a1 : Int64) : Option Sx := gd (vp_in (gI t 51) 11) (gd (vp_in (gI t 51) 11) (if (gA t 19 (ix (gI t 51))) = 0 then gd (vp_in (gI t 51) 11) (bd (pM t 1 (ix (gI t 51)) ((gM t 1 (ix (gI t 51))) &&& a1)) fun t1 => gd (vp_in (gI t1 51) 11) (bd (pA t1 19 (ix (gI t1 51)) 0) fun t2 => some t2)) else gd (vp_in (gI t 51) 11) (bd (pM t 1 (ix (gI t 51)) ((gM t 1 (ix (gI t 51))) &&& (a1 ^^^ -1))) fun t3 => gd (vp_in (gI t3 51) 11) (bd (pA t3 19 (ix (gI t3 51)) 0) fun t4 => some t4))))
set_option maxRecDepth 20000 in
set_option maxHeartbeats 4000000 in
theorem c_X4_take (l : Launch) (K : Kx) (t : Sx) (a1 : Int64) : CT l K yX4_take wsX4_take ({ frames := 0, cells := 0, slots := 0, locals := 0 } : Room) [.ref (K.2.2 15), .long a1] t (f_X4_take t a1) kWV := by
  refine CT_of (cc := cX4_take) (maxL := 3) (ret := none) (own := RX4) (by decide +kernel) rfl rfl (Nat.le_of_ble_eq_true rfl) ?_
  intro p e s m args below meth c hc
  refine V_sub (lv' := [(0, .ref (K.2.2 15)), (1, .long a1)]) [0, 1] rfl ?_
  unfold f_X4_take
  refine V_aload_n hc dX4_take_0 rfl 0 rfl ?_
  refine V_getr (C := RX4) (T := TX4) (N := 8) hc sP15 rfl qX4_take_RX4 5 rfl (by decide) kX4_take_31 rfl dX4_take_1 ?_
  refine V_aload_n hc dX4_take_4 rfl 0 rfl ?_
  refine V_geti (C := RX4) (T := TX4) (N := 8) hc sP15 rfl qX4_take_RX4 7 rfl (by decide) kX4_take_38 rfl dX4_take_5 ?_
  refine V_dup2_11 hc dX4_take_8 rfl rfl ?_
  refine V_lald hc sP17 dX4_take_9 ?_
  refine V_aload_n hc dX4_take_10 rfl 0 rfl ?_
  refine V_getr (C := RX4) (T := TX4) (N := 8) hc sP15 rfl qX4_take_RX4 6 rfl (by decide) kX4_take_34 rfl dX4_take_11 ?_
  refine V_aload_n hc dX4_take_14 rfl 0 rfl ?_
  refine V_geti (C := RX4) (T := TX4) (N := 8) hc sP15 rfl qX4_take_RX4 7 rfl (by decide) kX4_take_38 rfl dX4_take_15 ?_
  refine V_zald hc sP18 dX4_take_18 ?_
  refine V_if_eq (tgt := 30) hc dX4_take_19 (by decide) ?_ ?_
  · refine V_lload_n hc dX4_take_30 rfl 1 rfl ?_
    refine V_land hc dX4_take_31 ?_
    refine V_last hc sP17 dX4_take_32 ?_
    refine V_bds (fun t1 => ?_)
    refine V_aload_n hc dX4_take_33 rfl 0 rfl ?_
    refine V_getr (C := RX4) (T := TX4) (N := 8) hc sP15 rfl qX4_take_RX4 6 rfl (by decide) kX4_take_34 rfl dX4_take_34 ?_
    refine V_aload_n hc dX4_take_37 rfl 0 rfl ?_
    refine V_geti (C := RX4) (T := TX4) (N := 8) hc sP15 rfl qX4_take_RX4 7 rfl (by decide) kX4_take_38 rfl dX4_take_38 ?_
    refine V_iconst (v := 0) hc dX4_take_41 (by decide) ?_
    refine V_zastc hc sP18 (Or.inl rfl) dX4_take_42 ?_
    refine V_bds (fun t2 => ?_)
    exact V_vret hc rfl rfl dX4_take_43
  · refine V_lload_n hc dX4_take_22 rfl 1 rfl ?_
    refine V_ldc2 (v := -1) hc wX4_take_c79 dX4_take_23 ?_
    refine V_lxor hc dX4_take_26 ?_
    refine V_goto (tgt := 31) hc dX4_take_27 (by decide) ?_
    refine V_land hc dX4_take_31 ?_
    refine V_last hc sP17 dX4_take_32 ?_
    refine V_bds (fun t3 => ?_)
    refine V_aload_n hc dX4_take_33 rfl 0 rfl ?_
    refine V_getr (C := RX4) (T := TX4) (N := 8) hc sP15 rfl qX4_take_RX4 6 rfl (by decide) kX4_take_34 rfl dX4_take_34 ?_
    refine V_aload_n hc dX4_take_37 rfl 0 rfl ?_
    refine V_geti (C := RX4) (T := TX4) (N := 8) hc sP15 rfl qX4_take_RX4 7 rfl (by decide) kX4_take_38 rfl dX4_take_38 ?_
    refine V_iconst (v := 0) hc dX4_take_41 (by decide) ?_
    refine V_zastc hc sP18 (Or.inl rfl) dX4_take_42 ?_
    refine V_bds (fun t4 => ?_)
    exact V_vret hc rfl rfl dX4_take_43

theorem kX4_openLevel_38 : Cond.fieldLink RX4 38 RX4 (TX4 7).2.1 (TX4 7).2.2.1 ∈ wsX4_openLevel := by decide +kernel
theorem qX4_openLevel_RX4 : ∀ w ∈ u_ws RX4 TX4 8, w ∈ wsX4_openLevel := by
  first
  | exact fun _ h => List.mem_cons_of_mem _ (List.mem_append_right _ h)
  | exact fun _ h => List.mem_cons_of_mem _ (List.mem_append_left _ (List.mem_append_right _ h))
  | exact fun _ h => List.mem_cons_of_mem _ (List.mem_append_left _ (List.mem_append_left _ (List.mem_append_right _ h)))
  | exact fun _ h => List.mem_cons_of_mem _ (List.mem_append_left _ (List.mem_append_left _ (List.mem_append_left _ (List.mem_append_right _ h))))
  | exact fun _ h => List.mem_cons_of_mem _ (List.mem_append_left _ (List.mem_append_left _ (List.mem_append_left _ (List.mem_append_left _ (List.mem_append_right _ h)))))
  | decide +kernel
noncomputable def f_X4_openLevel (t : Sx)  : Option Sx := if 10 ≤ (gI t 51) then some t else bd (pI t 51 ((gI t 51) + 1)) fun t1 => (f_X4_beginLevel t1 ).bind fun r2 => some r2
set_option maxRecDepth 20000 in
set_option maxHeartbeats 4000000 in
theorem c_X4_openLevel (l : Launch) (K : Kx) (t : Sx)  : CT l K yX4_openLevel wsX4_openLevel ({ frames := 2, cells := 0, slots := 0, locals := 40 } : Room) [.ref (K.2.2 15)] t (f_X4_openLevel t ) kWV := by
  refine CT_of (cc := cX4_openLevel) (maxL := 1) (ret := none) (own := RX4) (by decide +kernel) rfl rfl (Nat.le_of_ble_eq_true rfl) ?_
  intro p e s m args below meth c hc
  refine V_sub (lv' := [(0, .ref (K.2.2 15))]) [0] rfl ?_
  unfold f_X4_openLevel
  refine V_aload_n hc dX4_openLevel_0 rfl 0 rfl ?_
  refine V_geti (C := RX4) (T := TX4) (N := 8) hc sP15 rfl qX4_openLevel_RX4 7 rfl (by decide) kX4_openLevel_38 rfl dX4_openLevel_1 ?_
  refine V_bipush (v := 10) hc dX4_openLevel_4 (by decide) ?_
  refine V_icmp_ge (tgt := 23) hc dX4_openLevel_6 (by decide) ?_ ?_
  · exact V_vret hc rfl rfl dX4_openLevel_23
  · refine V_aload_n hc dX4_openLevel_9 rfl 0 rfl ?_
    refine V_dup hc dX4_openLevel_10 rfl ?_
    refine V_geti (C := RX4) (T := TX4) (N := 8) hc sP15 rfl qX4_openLevel_RX4 7 rfl (by decide) kX4_openLevel_38 rfl dX4_openLevel_11 ?_
    refine V_iconst (v := 1) hc dX4_openLevel_14 (by decide) ?_
    refine V_iadd hc dX4_openLevel_15 ?_
    refine V_puti (C := RX4) (T := TX4) (N := 8) hc sP15 rfl qX4_openLevel_RX4 7 rfl (by decide) kX4_openLevel_38 rfl tyX4 tyX4_ok nmX4 rfl (tyX4_ok 7 (by decide)) dX4_openLevel_16 ?_
    refine V_bds (fun t1 => ?_)
    refine V_aload_n hc dX4_openLevel_19 rfl 0 rfl ?_
    refine V_callV_WV (Cn := RX4) (T := TX4) (N := 8) hc (c_X4_beginLevel l K t1 ) sP15 rfl 0 gX4_openLevel_X4_beginLevel rfl ⟨rfl, rfl⟩ (by decide) ⟨Nat.le_of_ble_eq_true rfl, Nat.le_of_ble_eq_true rfl⟩ rfl rfl (Nat.le_of_ble_eq_true rfl) dX4_openLevel_20 (fun r2 => ?_)
    exact V_vret hc rfl rfl dX4_openLevel_23

theorem kX4_closeLevel_38 : Cond.fieldLink RX4 38 RX4 (TX4 7).2.1 (TX4 7).2.2.1 ∈ wsX4_closeLevel := by decide +kernel
theorem qX4_closeLevel_RX4 : ∀ w ∈ u_ws RX4 TX4 8, w ∈ wsX4_closeLevel := by
  first
  | exact fun _ h => List.mem_cons_of_mem _ (List.mem_append_right _ h)
  | exact fun _ h => List.mem_cons_of_mem _ (List.mem_append_left _ (List.mem_append_right _ h))
  | exact fun _ h => List.mem_cons_of_mem _ (List.mem_append_left _ (List.mem_append_left _ (List.mem_append_right _ h)))
  | exact fun _ h => List.mem_cons_of_mem _ (List.mem_append_left _ (List.mem_append_left _ (List.mem_append_left _ (List.mem_append_right _ h))))
  | exact fun _ h => List.mem_cons_of_mem _ (List.mem_append_left _ (List.mem_append_left _ (List.mem_append_left _ (List.mem_append_left _ (List.mem_append_right _ h)))))
  | decide +kernel
theorem kX4_closeLevel_27 : Cond.fieldLink RX4 27 RX4 (TX4 4).2.1 (TX4 4).2.2.1 ∈ wsX4_closeLevel := by decide +kernel
theorem kX4_closeLevel_31 : Cond.fieldLink RX4 31 RX4 (TX4 5).2.1 (TX4 5).2.2.1 ∈ wsX4_closeLevel := by decide +kernel
noncomputable def f_X4_closeLevel (t : Sx)  : Option Sx := if (gI t 51) ≤ 0 then some t else gd (vp_in (gI t 51) 11) (gd (vp_in (gI t 51) 11) (bd (((gM t 0 (ix (gI t 51))) ||| (gM t 1 (ix (gI t 51))))) fun v1 => bd (pI t 51 ((gI t 51) - 1)) fun t2 => (f_X4_take t2 (v1)).bind fun r3 => some r3))
set_option maxRecDepth 20000 in
set_option maxHeartbeats 4000000 in
theorem c_X4_closeLevel (l : Launch) (K : Kx) (t : Sx)  : CT l K yX4_closeLevel wsX4_closeLevel ({ frames := 1, cells := 0, slots := 0, locals := 22 } : Room) [.ref (K.2.2 15)] t (f_X4_closeLevel t ) kWV := by
  refine CT_of (cc := cX4_closeLevel) (maxL := 3) (ret := none) (own := RX4) (by decide +kernel) rfl rfl (Nat.le_of_ble_eq_true rfl) ?_
  intro p e s m args below meth c hc
  refine V_sub (lv' := [(0, .ref (K.2.2 15))]) [0] rfl ?_
  unfold f_X4_closeLevel
  refine V_aload_n hc dX4_closeLevel_0 rfl 0 rfl ?_
  refine V_geti (C := RX4) (T := TX4) (N := 8) hc sP15 rfl qX4_closeLevel_RX4 7 rfl (by decide) kX4_closeLevel_38 rfl dX4_closeLevel_1 ?_
  refine V_if_le (tgt := 42) hc dX4_closeLevel_4 (by decide) ?_ ?_
  · exact V_vret hc rfl rfl dX4_closeLevel_42
  · refine V_aload_n hc dX4_closeLevel_7 rfl 0 rfl ?_
    refine V_getr (C := RX4) (T := TX4) (N := 8) hc sP15 rfl qX4_closeLevel_RX4 4 rfl (by decide) kX4_closeLevel_27 rfl dX4_closeLevel_8 ?_
    refine V_aload_n hc dX4_closeLevel_11 rfl 0 rfl ?_
    refine V_geti (C := RX4) (T := TX4) (N := 8) hc sP15 rfl qX4_closeLevel_RX4 7 rfl (by decide) kX4_closeLevel_38 rfl dX4_closeLevel_12 ?_
    refine V_lald hc sP16 dX4_closeLevel_15 ?_
    refine V_aload_n hc dX4_closeLevel_16 rfl 0 rfl ?_
    refine V_getr (C := RX4) (T := TX4) (N := 8) hc sP15 rfl qX4_closeLevel_RX4 5 rfl (by decide) kX4_closeLevel_31 rfl dX4_closeLevel_17 ?_
    refine V_aload_n hc dX4_closeLevel_20 rfl 0 rfl ?_
    refine V_geti (C := RX4) (T := TX4) (N := 8) hc sP15 rfl qX4_closeLevel_RX4 7 rfl (by decide) kX4_closeLevel_38 rfl dX4_closeLevel_21 ?_
    refine V_lald hc sP17 dX4_closeLevel_24 ?_
    refine V_lor hc dX4_closeLevel_25 ?_
    refine V_bdl (fun v1 => ?_)
    refine V_lstore_n (lv' := [(1, .long v1), (0, .ref (K.2.2 15))]) hc dX4_closeLevel_26 rfl (by decide) rfl ?_
    refine V_aload_n hc dX4_closeLevel_27 rfl 1 rfl ?_
    refine V_dup hc dX4_closeLevel_28 rfl ?_
    refine V_geti (C := RX4) (T := TX4) (N := 8) hc sP15 rfl qX4_closeLevel_RX4 7 rfl (by decide) kX4_closeLevel_38 rfl dX4_closeLevel_29 ?_
    refine V_iconst (v := 1) hc dX4_closeLevel_32 (by decide) ?_
    refine V_isub hc dX4_closeLevel_33 ?_
    refine V_puti (C := RX4) (T := TX4) (N := 8) hc sP15 rfl qX4_closeLevel_RX4 7 rfl (by decide) kX4_closeLevel_38 rfl tyX4 tyX4_ok nmX4 rfl (tyX4_ok 7 (by decide)) dX4_closeLevel_34 ?_
    refine V_bds (fun t2 => ?_)
    refine V_aload_n hc dX4_closeLevel_37 rfl 1 rfl ?_
    refine V_lload_n hc dX4_closeLevel_38 rfl 0 rfl ?_
    refine V_callV_WV (Cn := RX4) (T := TX4) (N := 8) hc (c_X4_take l K t2 (v1)) sP15 rfl 1 gX4_closeLevel_X4_take rfl ⟨rfl, rfl⟩ (by decide) ⟨Nat.le_of_ble_eq_true rfl, Nat.le_of_ble_eq_true rfl⟩ rfl rfl (Nat.le_of_ble_eq_true rfl) dX4_closeLevel_39 (fun r3 => ?_)
    exact V_vret hc rfl rfl dX4_closeLevel_42

theorem kX4_operate_34 : Cond.fieldLink RX4 34 RX4 (TX4 6).2.1 (TX4 6).2.2.1 ∈ wsX4_operate := by decide +kernel
theorem qX4_operate_RX4 : ∀ w ∈ u_ws RX4 TX4 8, w ∈ wsX4_operate := by
  first
  | exact fun _ h => List.mem_cons_of_mem _ (List.mem_append_right _ h)
  | exact fun _ h => List.mem_cons_of_mem _ (List.mem_append_left _ (List.mem_append_right _ h))
  | exact fun _ h => List.mem_cons_of_mem _ (List.mem_append_left _ (List.mem_append_left _ (List.mem_append_right _ h)))
  | exact fun _ h => List.mem_cons_of_mem _ (List.mem_append_left _ (List.mem_append_left _ (List.mem_append_left _ (List.mem_append_right _ h))))
  | exact fun _ h => List.mem_cons_of_mem _ (List.mem_append_left _ (List.mem_append_left _ (List.mem_append_left _ (List.mem_append_left _ (List.mem_append_right _ h)))))
  | decide +kernel
theorem kX4_operate_38 : Cond.fieldLink RX4 38 RX4 (TX4 7).2.1 (TX4 7).2.2.1 ∈ wsX4_operate := by decide +kernel
theorem kX4_operate_27 : Cond.fieldLink RX4 27 RX4 (TX4 4).2.1 (TX4 4).2.2.1 ∈ wsX4_operate := by decide +kernel
theorem kX4_operate_31 : Cond.fieldLink RX4 31 RX4 (TX4 5).2.1 (TX4 5).2.2.1 ∈ wsX4_operate := by decide +kernel
theorem kX4_operate_9 : Cond.fieldLink RX4 9 RX4 (TX4 0).2.1 (TX4 0).2.2.1 ∈ wsX4_operate := by decide +kernel
noncomputable def f_X4_operate (t : Sx) (a1 : Int32) : Option Sx := if a1 = 33 then gd (vp_in (gI t 51) 11) (if (gA t 19 (ix (gI t 51))) = 0 then gd (vp_in (gI t 51) 11) (bd (pA t 19 (ix (gI t 51)) 1) fun t3 => some t3) else gd (vp_in (gI t 51) 11) (bd (pA t 19 (ix (gI t 51)) 0) fun t2 => some t2)) else if a1 = 40 then (f_X4_openLevel t ).bind fun r5 => some r5 else if a1 = 41 then (f_X4_closeLevel t ).bind fun r7 => some r7 else if a1 = 124 then gd (vp_in (gI t 51) 11) (gd (vp_in (gI t 51) 11) (bd (((gM t 0 (ix (gI t 51))) ||| (gM t 1 (ix (gI t 51))))) fun v9 => gd (vp_in (gI t 51) 11) (bd (pM t 0 (ix (gI t 51)) v9) fun t10 => (f_X1_all t10 ).bind fun r11 => gd (vp_in (gI t10 51) 11) (bd (pM t10 1 (ix (gI t10 51)) r11) fun t12 => some t12)))) else some t
set_option maxRecDepth 20000 in
set_option maxHeartbeats 4000000 in
theorem c_X4_operate (l : Launch) (K : Kx) (t : Sx) (a1 : Int32) : CT l K yX4_operate wsX4_operate ({ frames := 3, cells := 0, slots := 0, locals := 60 } : Room) [.ref (K.2.2 15), .int a1] t (f_X4_operate t a1) kWV := by
  refine CT_of (cc := cX4_operate) (maxL := 2) (ret := none) (own := RX4) (by decide +kernel) rfl rfl (Nat.le_of_ble_eq_true rfl) ?_
  intro p e s m args below meth c hc
  refine V_sub (lv' := [(0, .ref (K.2.2 15)), (1, .int a1)]) [0, 1] rfl ?_
  unfold f_X4_operate
  refine V_iload_n hc dX4_operate_0 rfl 1 rfl ?_
  refine V_ite (fun h1 => ?_) (fun h1 => ?_)
  · refine V_lks (tgt := 44) hc dX4_operate_1 (by decide) (by rw [h1] <;> rfl) (by decide) ?_
    refine V_aload_n hc dX4_operate_44 rfl 0 rfl ?_
    refine V_getr (C := RX4) (T := TX4) (N := 8) hc sP15 rfl qX4_operate_RX4 6 rfl (by decide) kX4_operate_34 rfl dX4_operate_45 ?_
    refine V_aload_n hc dX4_operate_48 rfl 0 rfl ?_
    refine V_geti (C := RX4) (T := TX4) (N := 8) hc sP15 rfl qX4_operate_RX4 7 rfl (by decide) kX4_operate_38 rfl dX4_operate_49 ?_
    refine V_aload_n hc dX4_operate_52 rfl 0 rfl ?_
    refine V_getr (C := RX4) (T := TX4) (N := 8) hc sP15 rfl qX4_operate_RX4 6 rfl (by decide) kX4_operate_34 rfl dX4_operate_53 ?_
    refine V_aload_n hc dX4_operate_56 rfl 0 rfl ?_
    refine V_geti (C := RX4) (T := TX4) (N := 8) hc sP15 rfl qX4_operate_RX4 7 rfl (by decide) kX4_operate_38 rfl dX4_operate_57 ?_
    refine V_zald hc sP18 dX4_operate_60 ?_
    refine V_if_ne (tgt := 68) hc dX4_operate_61 (by decide) ?_ ?_
    · refine V_iconst (v := 0) hc dX4_operate_68 (by decide) ?_
      refine V_zastc hc sP18 (Or.inl rfl) dX4_operate_69 ?_
      refine V_bds (fun t2 => ?_)
      refine V_goto (tgt := 127) hc dX4_operate_70 (by decide) ?_
      exact V_vret hc rfl rfl dX4_operate_127
    · refine V_iconst (v := 1) hc dX4_operate_64 (by decide) ?_
      refine V_goto (tgt := 69) hc dX4_operate_65 (by decide) ?_
      refine V_zastc hc sP18 (Or.inr rfl) dX4_operate_69 ?_
      refine V_bds (fun t3 => ?_)
      refine V_goto (tgt := 127) hc dX4_operate_70 (by decide) ?_
      exact V_vret hc rfl rfl dX4_operate_127
  · refine V_ite (fun h4 => ?_) (fun h4 => ?_)
    · refine V_lks (tgt := 113) hc dX4_operate_1 (by decide) (by rw [h4] <;> rfl) (by decide) ?_
      refine V_aload_n hc dX4_operate_113 rfl 0 rfl ?_
      refine V_callV_WV (Cn := RX4) (T := TX4) (N := 8) hc (c_X4_openLevel l K t ) sP15 rfl 0 gX4_operate_X4_openLevel rfl ⟨rfl, rfl⟩ (by decide) ⟨Nat.le_of_ble_eq_true rfl, Nat.le_of_ble_eq_true rfl⟩ rfl rfl (Nat.le_of_ble_eq_true rfl) dX4_operate_114 (fun r5 => ?_)
      refine V_goto (tgt := 127) hc dX4_operate_117 (by decide) ?_
      exact V_vret hc rfl rfl dX4_operate_127
    · refine V_ite (fun h6 => ?_) (fun h6 => ?_)
      · refine V_lks (tgt := 120) hc dX4_operate_1 (by decide) (by rw [h6] <;> rfl) (by decide) ?_
        refine V_aload_n hc dX4_operate_120 rfl 0 rfl ?_
        refine V_callV_WV (Cn := RX4) (T := TX4) (N := 8) hc (c_X4_closeLevel l K t ) sP15 rfl 0 gX4_operate_X4_closeLevel rfl ⟨rfl, rfl⟩ (by decide) ⟨Nat.le_of_ble_eq_true rfl, Nat.le_of_ble_eq_true rfl⟩ rfl rfl (Nat.le_of_ble_eq_true rfl) dX4_operate_121 (fun r7 => ?_)
        refine V_goto (tgt := 127) hc dX4_operate_124 (by decide) ?_
        exact V_vret hc rfl rfl dX4_operate_127
      · refine V_ite (fun h8 => ?_) (fun h8 => ?_)
        · refine V_lks (tgt := 73) hc dX4_operate_1 (by decide) (by rw [h8] <;> rfl) (by decide) ?_
          refine V_aload_n hc dX4_operate_73 rfl 0 rfl ?_
          refine V_getr (C := RX4) (T := TX4) (N := 8) hc sP15 rfl qX4_operate_RX4 4 rfl (by decide) kX4_operate_27 rfl dX4_operate_74 ?_
          refine V_aload_n hc dX4_operate_77 rfl 0 rfl ?_
          refine V_geti (C := RX4) (T := TX4) (N := 8) hc sP15 rfl qX4_operate_RX4 7 rfl (by decide) kX4_operate_38 rfl dX4_operate_78 ?_
          refine V_dup2_11 hc dX4_operate_81 rfl rfl ?_
          refine V_lald hc sP16 dX4_operate_82 ?_
          refine V_aload_n hc dX4_operate_83 rfl 0 rfl ?_
          refine V_getr (C := RX4) (T := TX4) (N := 8) hc sP15 rfl qX4_operate_RX4 5 rfl (by decide) kX4_operate_31 rfl dX4_operate_84 ?_
          refine V_aload_n hc dX4_operate_87 rfl 0 rfl ?_
          refine V_geti (C := RX4) (T := TX4) (N := 8) hc sP15 rfl qX4_operate_RX4 7 rfl (by decide) kX4_operate_38 rfl dX4_operate_88 ?_
          refine V_lald hc sP17 dX4_operate_91 ?_
          refine V_lor hc dX4_operate_92 ?_
          refine V_bdl (fun v9 => ?_)
          refine V_last hc sP16 dX4_operate_93 ?_
          refine V_bds (fun t10 => ?_)
          refine V_aload_n hc dX4_operate_94 rfl 0 rfl ?_
          refine V_getr (C := RX4) (T := TX4) (N := 8) hc sP15 rfl qX4_operate_RX4 5 rfl (by decide) kX4_operate_31 rfl dX4_operate_95 ?_
          refine V_aload_n hc dX4_operate_98 rfl 0 rfl ?_
          refine V_geti (C := RX4) (T := TX4) (N := 8) hc sP15 rfl qX4_operate_RX4 7 rfl (by decide) kX4_operate_38 rfl dX4_operate_99 ?_
          refine V_aload_n hc dX4_operate_102 rfl 0 rfl ?_
          refine V_getr (C := RX4) (T := TX4) (N := 8) hc sP15 rfl qX4_operate_RX4 0 rfl (by decide) kX4_operate_9 rfl dX4_operate_103 ?_
          refine V_callV_RL (Cn := RX1) (T := TX1) (N := 6) hc (c_X1_all l K t10 ) sP1 rfl 0 gX4_operate_X1_all rfl ⟨rfl, rfl⟩ (by decide) ⟨Nat.le_of_ble_eq_true rfl, Nat.le_of_ble_eq_true rfl⟩ rfl rfl (Nat.le_of_ble_eq_true rfl) dX4_operate_106 (fun r11 => ?_)
          refine V_last hc sP17 dX4_operate_109 ?_
          refine V_bds (fun t12 => ?_)
          refine V_goto (tgt := 127) hc dX4_operate_110 (by decide) ?_
          exact V_vret hc rfl rfl dX4_operate_127
        · refine V_lks (tgt := 127) hc dX4_operate_1 (by decide) (lks_dflt (List.forall_mem_cons.mpr ⟨toInt_ne h1, (List.forall_mem_cons.mpr ⟨toInt_ne h4, (List.forall_mem_cons.mpr ⟨toInt_ne h6, (List.forall_mem_cons.mpr ⟨toInt_ne h8, (fun _ h => absurd h List.not_mem_nil)⟩)⟩)⟩)⟩)) (by decide) ?_
          exact V_vret hc rfl rfl dX4_operate_127

theorem kX4_filesFor_38 : Cond.fieldLink RX4 38 RX4 (TX4 7).2.1 (TX4 7).2.2.1 ∈ wsX4_filesFor := by decide +kernel
theorem qX4_filesFor_RX4 : ∀ w ∈ u_ws RX4 TX4 8, w ∈ wsX4_filesFor := by
  first
  | exact fun _ h => List.mem_cons_of_mem _ (List.mem_append_right _ h)
  | exact fun _ h => List.mem_cons_of_mem _ (List.mem_append_left _ (List.mem_append_right _ h))
  | exact fun _ h => List.mem_cons_of_mem _ (List.mem_append_left _ (List.mem_append_left _ (List.mem_append_right _ h)))
  | exact fun _ h => List.mem_cons_of_mem _ (List.mem_append_left _ (List.mem_append_left _ (List.mem_append_left _ (List.mem_append_right _ h))))
  | exact fun _ h => List.mem_cons_of_mem _ (List.mem_append_left _ (List.mem_append_left _ (List.mem_append_left _ (List.mem_append_left _ (List.mem_append_right _ h)))))
  | decide +kernel
theorem kX4_filesFor_27 : Cond.fieldLink RX4 27 RX4 (TX4 4).2.1 (TX4 4).2.2.1 ∈ wsX4_filesFor := by decide +kernel
theorem kX4_filesFor_31 : Cond.fieldLink RX4 31 RX4 (TX4 5).2.1 (TX4 5).2.2.1 ∈ wsX4_filesFor := by decide +kernel
noncomputable def L_X4_filesFor_11 (b1 : Nat) (kont : Int32 → Sx → Option (Int64 × Sx)) : Nat → Int32 → Sx → Option (Int64 × Sx)
  | 0, _, _ => none
  | n + 1, x2, y => (f_X5_length y (b1)).bind fun r3 => if r3 ≤ x2 then kont (x2) (y) else (f_X5_at y (b1) (x2)).bind fun r4 => if r4 < 97 then (f_X4_operate y (r4)).bind fun r5 => L_X4_filesFor_11 b1 kont n ((x2 + 1)) (r5) else if 122 < r4 then (f_X4_operate y (r4)).bind fun r6 => L_X4_filesFor_11 b1 kont n ((x2 + 1)) (r6) else (f_X4_condition y (b1) (x2)).bind fun r7 => (f_X4_take y (r7)).bind fun r8 => L_X4_filesFor_11 b1 kont n ((x2 + 1)) (r8)
set_option maxRecDepth 20000 in
set_option maxHeartbeats 4000000 in
theorem L_X4_filesFor_11_ok {p : Program} {l : Launch} {K : Kx} {e : Env} {s : State} {m : MethodId} {args : Array Value} {below : List Frame} {meth : Method} {c : Code} (hc : Cx p ({ frames := 4, cells := 0, slots := 0, locals := 95 } : Room) s m args meth c cX4_filesFor 4 wsX4_filesFor RX4 K (aA K s.heap.size) (some .long) 0 0) (b1 : Nat) (hb1 : b1 < 9) (kont : Int32 → Sx → Option (Int64 × Sx)) (hk : ∀ x2 y, V p l e ({ frames := 4, cells := 0, slots := 0, locals := 95 } : Room) s m args below meth c K (aA K s.heap.size) 0 0 4 (QM below K args s kWL) 61 [(0, .ref (K.2.2 15)), (1, .ref (K.2.2 (32 + b1))), (2, .int x2)] [] y (kont x2 y)) : ∀ (n : Nat) (x2 : Int32) (y : Sx), V p l e ({ frames := 4, cells := 0, slots := 0, locals := 95 } : Room) s m args below meth c K (aA K s.heap.size) 0 0 4 (QM below K args s kWL) 11 [(0, .ref (K.2.2 15)), (1, .ref (K.2.2 (32 + b1))), (2, .int x2)] [] y (L_X4_filesFor_11 b1 kont n x2 y) := by
  intro n
  induction n with
  | zero => intro x2 y; exact V_none
  | succ n ih =>
    intro x2 y
    rw [L_X4_filesFor_11]
    refine V_iload_n hc dX4_filesFor_11 rfl 2 rfl ?_
    refine V_aload_n hc dX4_filesFor_12 rfl 1 rfl ?_
    refine V_callV_RI (Cn := RX5) (T := TX5) (N := 2) hc (c_X5_length l K y (b1) hb1) (sh_rtx hb1) rfl 0 gX4_filesFor_X5_length rfl ⟨rfl, rfl⟩ (by decide) ⟨Nat.le_of_ble_eq_true rfl, Nat.le_of_ble_eq_true rfl⟩ rfl rfl (Nat.le_of_ble_eq_true rfl) dX4_filesFor_13 (fun r3 => ?_)
    refine V_icmp_ge (tgt := 61) hc dX4_filesFor_16 (by decide) ?_ ?_
    · exact V_sub [0, 1, 2] rfl (hk _ _)
    · refine V_aload_n hc dX4_filesFor_19 rfl 1 rfl ?_
      refine V_iload_n hc dX4_filesFor_20 rfl 2 rfl ?_
      refine V_callV_RI (Cn := RX5) (T := TX5) (N := 2) hc (c_X5_at l K y (b1) (x2) hb1) (sh_rtx hb1) rfl 1 gX4_filesFor_X5_at rfl ⟨rfl, rfl⟩ (by decide) ⟨Nat.le_of_ble_eq_true rfl, Nat.le_of_ble_eq_true rfl⟩ rfl rfl (Nat.le_of_ble_eq_true rfl) dX4_filesFor_21 (fun r4 => ?_)
      refine V_istore_n (lv' := [(3, .int r4), (0, .ref (K.2.2 15)), (1, .ref (K.2.2 (32 + b1))), (2, .int x2)]) hc dX4_filesFor_24 rfl (by decide) rfl ?_
      refine V_iload_n hc dX4_filesFor_25 rfl 0 rfl ?_
      refine V_bipush (v := 97) hc dX4_filesFor_26 (by decide) ?_
      refine V_icmp_lt (tgt := 50) hc dX4_filesFor_28 (by decide) ?_ ?_
      · refine V_aload_n hc dX4_filesFor_50 rfl 1 rfl ?_
        refine V_iload_n hc dX4_filesFor_51 rfl 0 rfl ?_
        refine V_callV_WV (Cn := RX4) (T := TX4) (N := 8) hc (c_X4_operate l K y (r4)) sP15 rfl 1 gX4_filesFor_X4_operate rfl ⟨rfl, rfl⟩ (by decide) ⟨Nat.le_of_ble_eq_true rfl, Nat.le_of_ble_eq_true rfl⟩ rfl rfl (Nat.le_of_ble_eq_true rfl) dX4_filesFor_52 (fun r5 => ?_)
        refine V_iinc (v := (x2 + 1)) (lv' := [(2, .int (x2 + 1)), (3, .int r4), (0, .ref (K.2.2 15)), (1, .ref (K.2.2 (32 + b1)))]) hc dX4_filesFor_55 3 rfl rfl (by decide) rfl ?_
        refine V_goto (tgt := 11) hc dX4_filesFor_58 (by decide) ?_
        exact V_sub [2, 3, 0] rfl (ih _ _)
      · refine V_iload_n hc dX4_filesFor_31 rfl 0 rfl ?_
        refine V_bipush (v := 122) hc dX4_filesFor_32 (by decide) ?_
        refine V_icmp_gt (tgt := 50) hc dX4_filesFor_34 (by decide) ?_ ?_
        · refine V_aload_n hc dX4_filesFor_50 rfl 1 rfl ?_
          refine V_iload_n hc dX4_filesFor_51 rfl 0 rfl ?_
          refine V_callV_WV (Cn := RX4) (T := TX4) (N := 8) hc (c_X4_operate l K y (r4)) sP15 rfl 1 gX4_filesFor_X4_operate rfl ⟨rfl, rfl⟩ (by decide) ⟨Nat.le_of_ble_eq_true rfl, Nat.le_of_ble_eq_true rfl⟩ rfl rfl (Nat.le_of_ble_eq_true rfl) dX4_filesFor_52 (fun r6 => ?_)
          refine V_iinc (v := (x2 + 1)) (lv' := [(2, .int (x2 + 1)), (3, .int r4), (0, .ref (K.2.2 15)), (1, .ref (K.2.2 (32 + b1)))]) hc dX4_filesFor_55 3 rfl rfl (by decide) rfl ?_
          refine V_goto (tgt := 11) hc dX4_filesFor_58 (by decide) ?_
          exact V_sub [2, 3, 0] rfl (ih _ _)
        · refine V_aload_n hc dX4_filesFor_37 rfl 1 rfl ?_
          refine V_aload_n hc dX4_filesFor_38 rfl 1 rfl ?_
          refine V_aload_n hc dX4_filesFor_39 rfl 2 rfl ?_
          refine V_iload_n hc dX4_filesFor_40 rfl 3 rfl ?_
          refine V_callV_RL (Cn := RX4) (T := TX4) (N := 8) hc (c_X4_condition l K y (b1) (x2) hb1) sP15 rfl 2 gX4_filesFor_X4_condition rfl ⟨rfl, rfl⟩ (by decide) ⟨Nat.le_of_ble_eq_true rfl, Nat.le_of_ble_eq_true rfl⟩ rfl rfl (Nat.le_of_ble_eq_true rfl) dX4_filesFor_41 (fun r7 => ?_)
          refine V_callV_WV (Cn := RX4) (T := TX4) (N := 8) hc (c_X4_take l K y (r7)) sP15 rfl 1 gX4_filesFor_X4_take rfl ⟨rfl, rfl⟩ (by decide) ⟨Nat.le_of_ble_eq_true rfl, Nat.le_of_ble_eq_true rfl⟩ rfl rfl (Nat.le_of_ble_eq_true rfl) dX4_filesFor_44 (fun r8 => ?_)
          refine V_goto (tgt := 55) hc dX4_filesFor_47 (by decide) ?_
          refine V_iinc (v := (x2 + 1)) (lv' := [(2, .int (x2 + 1)), (3, .int r4), (0, .ref (K.2.2 15)), (1, .ref (K.2.2 (32 + b1)))]) hc dX4_filesFor_55 3 rfl rfl (by decide) rfl ?_
          refine V_goto (tgt := 11) hc dX4_filesFor_58 (by decide) ?_
          exact V_sub [2, 3, 0] rfl (ih _ _)
noncomputable def f_X4_filesFor (t : Sx) (k1 : Nat) : Option (Int64 × Sx) := bd (pI t 51 0) fun t1 => (f_X4_beginLevel t1 ).bind fun r2 => L_X4_filesFor_11 (k1) (fun z9 t10 => gd (vp_in 0 11) (gd (vp_in 0 11) (some (((gM t10 0 (ix 0)) ||| (gM t10 1 (ix 0))), t10)))) FU (0) (r2)
set_option maxRecDepth 20000 in
set_option maxHeartbeats 4000000 in
theorem c_X4_filesFor (l : Launch) (K : Kx) (t : Sx) (k1 : Nat) (hk1 : k1 < 9) : CT l K yX4_filesFor wsX4_filesFor ({ frames := 4, cells := 0, slots := 0, locals := 95 } : Room) [.ref (K.2.2 15), .ref (K.2.2 (32 + k1))] t (f_X4_filesFor t k1) kWL := by
  refine CT_of (cc := cX4_filesFor) (maxL := 4) (ret := (some .long)) (own := RX4) (by decide +kernel) rfl rfl (Nat.le_of_ble_eq_true rfl) ?_
  intro p e s m args below meth c hc
  refine V_sub (lv' := [(0, .ref (K.2.2 15)), (1, .ref (K.2.2 (32 + k1)))]) [0, 1] rfl ?_
  unfold f_X4_filesFor
  refine V_aload_n hc dX4_filesFor_0 rfl 0 rfl ?_
  refine V_iconst (v := 0) hc dX4_filesFor_1 (by decide) ?_
  refine V_puti (C := RX4) (T := TX4) (N := 8) hc sP15 rfl qX4_filesFor_RX4 7 rfl (by decide) kX4_filesFor_38 rfl tyX4 tyX4_ok nmX4 rfl (tyX4_ok 7 (by decide)) dX4_filesFor_2 ?_
  refine V_bds (fun t1 => ?_)
  refine V_aload_n hc dX4_filesFor_5 rfl 0 rfl ?_
  refine V_callV_WV (Cn := RX4) (T := TX4) (N := 8) hc (c_X4_beginLevel l K t1 ) sP15 rfl 0 gX4_filesFor_X4_beginLevel rfl ⟨rfl, rfl⟩ (by decide) ⟨Nat.le_of_ble_eq_true rfl, Nat.le_of_ble_eq_true rfl⟩ rfl rfl (Nat.le_of_ble_eq_true rfl) dX4_filesFor_6 (fun r2 => ?_)
  refine V_iconst (v := 0) hc dX4_filesFor_9 (by decide) ?_
  refine V_istore_n (lv' := [(2, .int 0), (0, .ref (K.2.2 15)), (1, .ref (K.2.2 (32 + k1)))]) hc dX4_filesFor_10 rfl (by decide) rfl ?_
  refine V_sub (lv' := [(0, .ref (K.2.2 15)), (1, .ref (K.2.2 (32 + k1))), (2, .int 0)]) [1, 2, 0] rfl ?_
  refine L_X4_filesFor_11_ok hc (k1) hk1 _ (fun z9 t10 => ?_) FU _ _
  refine V_aload_n hc dX4_filesFor_61 rfl 0 rfl ?_
  refine V_getr (C := RX4) (T := TX4) (N := 8) hc sP15 rfl qX4_filesFor_RX4 4 rfl (by decide) kX4_filesFor_27 rfl dX4_filesFor_62 ?_
  refine V_iconst (v := 0) hc dX4_filesFor_65 (by decide) ?_
  refine V_lald hc sP16 dX4_filesFor_66 ?_
  refine V_aload_n hc dX4_filesFor_67 rfl 0 rfl ?_
  refine V_getr (C := RX4) (T := TX4) (N := 8) hc sP15 rfl qX4_filesFor_RX4 5 rfl (by decide) kX4_filesFor_31 rfl dX4_filesFor_68 ?_
  refine V_iconst (v := 0) hc dX4_filesFor_71 (by decide) ?_
  refine V_lald hc sP17 dX4_filesFor_72 ?_
  refine V_lor hc dX4_filesFor_73 ?_
  exact V_lret hc rfl rfl dX4_filesFor_74
