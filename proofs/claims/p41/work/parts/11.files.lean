theorem kX1_freeNumber_31 : Cond.fieldLink RX1 31 RX1 (TX1 0).2.1 (TX1 0).2.2.1 ∈ wsX1_freeNumber := by decide +kernel
theorem qX1_freeNumber_RX1 : ∀ w ∈ u_ws RX1 TX1 6, w ∈ wsX1_freeNumber := by
  first
  | exact fun _ h => List.mem_cons_of_mem _ (List.mem_append_right _ h)
  | exact fun _ h => List.mem_cons_of_mem _ (List.mem_append_left _ (List.mem_append_right _ h))
  | exact fun _ h => List.mem_cons_of_mem _ (List.mem_append_left _ (List.mem_append_left _ (List.mem_append_right _ h)))
  | exact fun _ h => List.mem_cons_of_mem _ (List.mem_append_left _ (List.mem_append_left _ (List.mem_append_left _ (List.mem_append_right _ h))))
  | exact fun _ h => List.mem_cons_of_mem _ (List.mem_append_left _ (List.mem_append_left _ (List.mem_append_left _ (List.mem_append_left _ (List.mem_append_right _ h)))))
  | decide +kernel
theorem wX1_freeNumber_in35 : Cond.initialized yX8_holds.cls ∈ wsX1_freeNumber := by decide +kernel
theorem wX1_freeNumber_st35 : Cond.static yX8_holds ∈ wsX1_freeNumber := by decide +kernel
noncomputable def L_X1_freeNumber_2 (t0 : Sx) (kont : Int32 → Option Int32) : Nat → Int32 → Option Int32
  | 0, _ => none
  | n + 1, x1 => if 40 ≤ x1 then kont (x1) else (f_X8_holds t0 (gL t0 8) (x1)).bind fun r1 => if r1 = 0 then some x1 else L_X1_freeNumber_2 t0 kont n ((x1 + 1))
set_option maxRecDepth 20000 in
set_option maxHeartbeats 4000000 in
theorem L_X1_freeNumber_2_ok {p : Program} {l : Launch} {K : Kx} {e : Env} {s : State} {m : MethodId} {args : Array Value} {below : List Frame} {meth : Method} {c : Code} (hc : Cx p ({ frames := 1, cells := 0, slots := 0, locals := 22 } : Room) s m args meth c cX1_freeNumber 2 wsX1_freeNumber RX1 K (aA K s.heap.size) (some .int) 0 0) (t0 : Sx) (kont : Int32 → Option Int32) (hk : ∀ x1, V p l e ({ frames := 1, cells := 0, slots := 0, locals := 22 } : Room) s m args below meth c K (aA K s.heap.size) 0 0 2 (QM below K args s (kRI t0)) 27 [(0, .ref (K.2.2 1)), (1, .int x1)] [] t0 (kont x1)) : ∀ (n : Nat) (x1 : Int32), V p l e ({ frames := 1, cells := 0, slots := 0, locals := 22 } : Room) s m args below meth c K (aA K s.heap.size) 0 0 2 (QM below K args s (kRI t0)) 2 [(0, .ref (K.2.2 1)), (1, .int x1)] [] t0 (L_X1_freeNumber_2 t0 kont n x1) := by
  intro n
  induction n with
  | zero => intro x1; exact V_none
  | succ n ih =>
    intro x1
    rw [L_X1_freeNumber_2]
    refine V_iload_n hc dX1_freeNumber_2 rfl 1 rfl ?_
    refine V_bipush (v := 40) hc dX1_freeNumber_3 (by decide) ?_
    refine V_icmp_ge (tgt := 27) hc dX1_freeNumber_5 (by decide) ?_ ?_
    · exact V_sub [0, 1] rfl (hk _)
    · refine V_aload_n hc dX1_freeNumber_8 rfl 0 rfl ?_
      refine V_getl (C := RX1) (T := TX1) (N := 6) hc sP1 rfl qX1_freeNumber_RX1 0 rfl (by decide) kX1_freeNumber_31 rfl dX1_freeNumber_9 ?_
      refine V_iload_n hc dX1_freeNumber_12 rfl 1 rfl ?_
      refine V_callN_RI hc (c_X8_holds l K t0 (gL t0 8) (x1)) 2 gX1_freeNumber_X8_holds_n35 rfl ⟨rfl, rfl⟩ (List.mem_of_getElem? (i := 0) rfl) wX1_freeNumber_in35 wX1_freeNumber_st35 (by decide) ⟨Nat.le_of_ble_eq_true rfl, Nat.le_of_ble_eq_true rfl⟩ rfl rfl (Nat.le_of_ble_eq_true rfl) dX1_freeNumber_13 (fun r1 => ?_)
      refine V_if_ne (tgt := 21) hc dX1_freeNumber_16 (by decide) ?_ ?_
      · refine V_iinc (v := (x1 + 1)) (lv' := [(1, .int (x1 + 1)), (0, .ref (K.2.2 1))]) hc dX1_freeNumber_21 1 rfl rfl (by decide) rfl ?_
        refine V_goto (tgt := 2) hc dX1_freeNumber_24 (by decide) ?_
        exact V_sub [1, 0] rfl (ih _)
      · refine V_iload_n hc dX1_freeNumber_19 rfl 1 rfl ?_
        exact V_iret hc rfl rfl dX1_freeNumber_20
noncomputable def f_X1_freeNumber (t : Sx)  : Option Int32 := L_X1_freeNumber_2 t (fun z2 => some (-1)) FU (0)
set_option maxRecDepth 20000 in
set_option maxHeartbeats 4000000 in
theorem c_X1_freeNumber (l : Launch) (K : Kx) (t : Sx)  : CT l K yX1_freeNumber wsX1_freeNumber ({ frames := 1, cells := 0, slots := 0, locals := 22 } : Room) [.ref (K.2.2 1)] t (f_X1_freeNumber t ) (kRI t) := by
  refine CT_of (cc := cX1_freeNumber) (maxL := 2) (ret := (some .int)) (own := RX1) (by decide +kernel) rfl rfl (Nat.le_of_ble_eq_true rfl) ?_
  intro p e s m args below meth c hc
  refine V_sub (lv' := [(0, .ref (K.2.2 1))]) [0] rfl ?_
  unfold f_X1_freeNumber
  refine V_iconst (v := 0) hc dX1_freeNumber_0 (by decide) ?_
  refine V_istore_n (lv' := [(1, .int 0), (0, .ref (K.2.2 1))]) hc dX1_freeNumber_1 rfl (by decide) rfl ?_
  refine V_sub (lv' := [(0, .ref (K.2.2 1)), (1, .int 0)]) [1, 0] rfl ?_
  refine L_X1_freeNumber_2_ok hc t _ (fun z2 => ?_) FU _
  refine V_iconst (v := (-1)) hc dX1_freeNumber_27 (by decide) ?_
  exact V_iret hc rfl rfl dX1_freeNumber_28


noncomputable def f_X1_slot (t : Sx) (a0 : Int32) (a1 : Int32) (a2 : Int32) : Option Int32 := some ((((a0 * 3) + a1) * 6) + a2)
set_option maxRecDepth 20000 in
set_option maxHeartbeats 4000000 in
theorem c_X1_slot (l : Launch) (K : Kx) (t : Sx) (a0 : Int32) (a1 : Int32) (a2 : Int32) : CT l K yX1_slot wsX1_slot ({ frames := 0, cells := 0, slots := 0, locals := 0 } : Room) [.int a0, .int a1, .int a2] t (f_X1_slot t a0 a1 a2) (kRI t) := by
  refine CT_of (cc := cX1_slot) (maxL := 3) (ret := (some .int)) (own := RX1) (by decide +kernel) rfl rfl (Nat.le_of_ble_eq_true rfl) ?_
  intro p e s m args below meth c hc
  refine V_sub (lv' := [(0, .int a0), (1, .int a1), (2, .int a2)]) [0, 1, 2] rfl ?_
  unfold f_X1_slot
  refine V_iload_n hc dX1_slot_0 rfl 0 rfl ?_
  refine V_iconst (v := 3) hc dX1_slot_1 (by decide) ?_
  refine V_imul hc dX1_slot_2 ?_
  refine V_iload_n hc dX1_slot_3 rfl 1 rfl ?_
  refine V_iadd hc dX1_slot_4 ?_
  refine V_bipush (v := 6) hc dX1_slot_5 (by decide) ?_
  refine V_imul hc dX1_slot_7 ?_
  refine V_iload_n hc dX1_slot_8 rfl 2 rfl ?_
  refine V_iadd hc dX1_slot_9 ?_
  exact V_iret hc rfl rfl dX1_slot_10

theorem kX1_enter_31 : Cond.fieldLink RX1 31 RX1 (TX1 0).2.1 (TX1 0).2.2.1 ∈ wsX1_enter := by decide +kernel
theorem qX1_enter_RX1 : ∀ w ∈ u_ws RX1 TX1 6, w ∈ wsX1_enter := by
  first
  | exact fun _ h => List.mem_cons_of_mem _ (List.mem_append_right _ h)
  | exact fun _ h => List.mem_cons_of_mem _ (List.mem_append_left _ (List.mem_append_right _ h))
  | exact fun _ h => List.mem_cons_of_mem _ (List.mem_append_left _ (List.mem_append_left _ (List.mem_append_right _ h)))
  | exact fun _ h => List.mem_cons_of_mem _ (List.mem_append_left _ (List.mem_append_left _ (List.mem_append_left _ (List.mem_append_right _ h))))
  | exact fun _ h => List.mem_cons_of_mem _ (List.mem_append_left _ (List.mem_append_left _ (List.mem_append_left _ (List.mem_append_left _ (List.mem_append_right _ h)))))
  | decide +kernel
theorem wX1_enter_in45 : Cond.initialized yX8_only.cls ∈ wsX1_enter := by decide +kernel
theorem wX1_enter_st45 : Cond.static yX8_only ∈ wsX1_enter := by decide +kernel
theorem kX1_enter_9 : Cond.fieldLink RX1 9 RX1 (TX1 1).2.1 (TX1 1).2.2.1 ∈ wsX1_enter := by decide +kernel
theorem kX1_enter_15 : Cond.fieldLink RX1 15 RX1 (TX1 2).2.1 (TX1 2).2.2.1 ∈ wsX1_enter := by decide +kernel
theorem kX1_enter_18 : Cond.fieldLink RX1 18 RX1 (TX1 3).2.1 (TX1 3).2.2.1 ∈ wsX1_enter := by decide +kernel
noncomputable def f_X1_enter (t : Sx) (a1 : Int32) (a2 : Int32) (a3 : Int32) : Option Sx := (f_X8_only t (a1)).bind fun r1 => bd (pL t 8 ((gL t 8) ||| r1)) fun t2 => gd (vp_in a1 40) (bd (pA t2 9 (ix a1) a2) fun t3 => gd (vp_in a1 40) (bd (pA t3 10 (ix a1) a3) fun t4 => (f_X1_slot t4 (a1) (0) (0)).bind fun r5 => (f_X1_slot t4 (a1 + 1) (0) (0)).bind fun r6 => (f_J7_fill_fda19 t4 (r5) (r6) (-1)).bind fun r7 => some r7))
set_option maxRecDepth 20000 in
set_option maxHeartbeats 4000000 in
theorem c_X1_enter (l : Launch) (K : Kx) (t : Sx) (a1 : Int32) (a2 : Int32) (a3 : Int32) : CT l K yX1_enter wsX1_enter ({ frames := 2, cells := 0, slots := 0, locals := 46 } : Room) [.ref (K.2.2 1), .int a1, .int a2, .int a3] t (f_X1_enter t a1 a2 a3) kWV := by
  refine CT_of (cc := cX1_enter) (maxL := 4) (ret := none) (own := RX1) (by decide +kernel) rfl rfl (Nat.le_of_ble_eq_true rfl) ?_
  intro p e s m args below meth c hc
  refine V_sub (lv' := [(0, .ref (K.2.2 1)), (1, .int a1), (2, .int a2), (3, .int a3)]) [0, 1, 2, 3] rfl ?_
  unfold f_X1_enter
  refine V_aload_n hc dX1_enter_0 rfl 0 rfl ?_
  refine V_dup hc dX1_enter_1 rfl ?_
  refine V_getl (C := RX1) (T := TX1) (N := 6) hc sP1 rfl qX1_enter_RX1 0 rfl (by decide) kX1_enter_31 rfl dX1_enter_2 ?_
  refine V_iload_n hc dX1_enter_5 rfl 1 rfl ?_
  refine V_callN_RL hc (c_X8_only l K t (a1)) 1 gX1_enter_X8_only_n45 rfl ⟨rfl, rfl⟩ (List.mem_of_getElem? (i := 1) rfl) wX1_enter_in45 wX1_enter_st45 (by decide) ⟨Nat.le_of_ble_eq_true rfl, Nat.le_of_ble_eq_true rfl⟩ rfl rfl (Nat.le_of_ble_eq_true rfl) dX1_enter_6 (fun r1 => ?_)
  refine V_lor hc dX1_enter_9 ?_
  refine V_putl (C := RX1) (T := TX1) (N := 6) hc sP1 rfl qX1_enter_RX1 0 rfl (by decide) kX1_enter_31 rfl tyX1 tyX1_ok nmX1 rfl (tyX1_ok 0 (by decide)) dX1_enter_10 ?_
  refine V_bds (fun t2 => ?_)
  refine V_aload_n hc dX1_enter_13 rfl 0 rfl ?_
  refine V_getr (C := RX1) (T := TX1) (N := 6) hc sP1 rfl qX1_enter_RX1 1 rfl (by decide) kX1_enter_9 rfl dX1_enter_14 ?_
  refine V_iload_n hc dX1_enter_17 rfl 1 rfl ?_
  refine V_iload_n hc dX1_enter_18 rfl 2 rfl ?_
  refine V_iast hc sP2 dX1_enter_19 ?_
  refine V_bds (fun t3 => ?_)
  refine V_aload_n hc dX1_enter_20 rfl 0 rfl ?_
  refine V_getr (C := RX1) (T := TX1) (N := 6) hc sP1 rfl qX1_enter_RX1 2 rfl (by decide) kX1_enter_15 rfl dX1_enter_21 ?_
  refine V_iload_n hc dX1_enter_24 rfl 1 rfl ?_
  refine V_iload_n hc dX1_enter_25 rfl 3 rfl ?_
  refine V_iast hc sP3 dX1_enter_26 ?_
  refine V_bds (fun t4 => ?_)
  refine V_aload_n hc dX1_enter_27 rfl 0 rfl ?_
  refine V_getr (C := RX1) (T := TX1) (N := 6) hc sP1 rfl qX1_enter_RX1 3 rfl (by decide) kX1_enter_18 rfl dX1_enter_28 ?_
  refine V_iload_n hc dX1_enter_31 rfl 1 rfl ?_
  refine V_iconst (v := 0) hc dX1_enter_32 (by decide) ?_
  refine V_iconst (v := 0) hc dX1_enter_33 (by decide) ?_
  refine V_callS_RI hc (c_X1_slot l K t4 (a1) (0) (0)) 3 gX1_enter_X1_slot rfl ⟨rfl, rfl⟩ (by decide) ⟨Nat.le_of_ble_eq_true rfl, Nat.le_of_ble_eq_true rfl⟩ rfl rfl (Nat.le_of_ble_eq_true rfl) dX1_enter_34 (fun r5 => ?_)
  refine V_iload_n hc dX1_enter_37 rfl 1 rfl ?_
  refine V_iconst (v := 1) hc dX1_enter_38 (by decide) ?_
  refine V_iadd hc dX1_enter_39 ?_
  refine V_iconst (v := 0) hc dX1_enter_40 (by decide) ?_
  refine V_iconst (v := 0) hc dX1_enter_41 (by decide) ?_
  refine V_callS_RI hc (c_X1_slot l K t4 (a1 + 1) (0) (0)) 3 gX1_enter_X1_slot rfl ⟨rfl, rfl⟩ (by decide) ⟨Nat.le_of_ble_eq_true rfl, Nat.le_of_ble_eq_true rfl⟩ rfl rfl (Nat.le_of_ble_eq_true rfl) dX1_enter_42 (fun r6 => ?_)
  refine V_iconst (v := (-1)) hc dX1_enter_45 (by decide) ?_
  refine V_callS_WV hc (c_J7_fill_fda19 l K t4 (r5) (r6) (-1)) 4 gX1_enter_J7_fill_fda19 rfl ⟨rfl, rfl⟩ (by decide) ⟨Nat.le_of_ble_eq_true rfl, Nat.le_of_ble_eq_true rfl⟩ rfl rfl (Nat.le_of_ble_eq_true rfl) dX1_enter_46 (fun r7 => ?_)
  exact V_vret hc rfl rfl dX1_enter_49

theorem kX1_told_18 : Cond.fieldLink RX1 18 RX1 (TX1 3).2.1 (TX1 3).2.2.1 ∈ wsX1_told := by decide +kernel
theorem qX1_told_RX1 : ∀ w ∈ u_ws RX1 TX1 6, w ∈ wsX1_told := by
  first
  | exact fun _ h => List.mem_cons_of_mem _ (List.mem_append_right _ h)
  | exact fun _ h => List.mem_cons_of_mem _ (List.mem_append_left _ (List.mem_append_right _ h))
  | exact fun _ h => List.mem_cons_of_mem _ (List.mem_append_left _ (List.mem_append_left _ (List.mem_append_right _ h)))
  | exact fun _ h => List.mem_cons_of_mem _ (List.mem_append_left _ (List.mem_append_left _ (List.mem_append_left _ (List.mem_append_right _ h))))
  | exact fun _ h => List.mem_cons_of_mem _ (List.mem_append_left _ (List.mem_append_left _ (List.mem_append_left _ (List.mem_append_left _ (List.mem_append_right _ h)))))
  | decide +kernel
noncomputable def f_X1_told (t : Sx) (a1 : Int32) (a2 : Int32) (a3 : Int32) : Option Int32 := (f_X1_slot t (a1) (a2) (a3)).bind fun r1 => gd (vp_in r1 720) (some (gA t 11 (ix r1)))
set_option maxRecDepth 20000 in
set_option maxHeartbeats 4000000 in
theorem c_X1_told (l : Launch) (K : Kx) (t : Sx) (a1 : Int32) (a2 : Int32) (a3 : Int32) : CT l K yX1_told wsX1_told ({ frames := 1, cells := 0, slots := 0, locals := 22 } : Room) [.ref (K.2.2 1), .int a1, .int a2, .int a3] t (f_X1_told t a1 a2 a3) (kRI t) := by
  refine CT_of (cc := cX1_told) (maxL := 4) (ret := (some .int)) (own := RX1) (by decide +kernel) rfl rfl (Nat.le_of_ble_eq_true rfl) ?_
  intro p e s m args below meth c hc
  refine V_sub (lv' := [(0, .ref (K.2.2 1)), (1, .int a1), (2, .int a2), (3, .int a3)]) [0, 1, 2, 3] rfl ?_
  unfold f_X1_told
  refine V_aload_n hc dX1_told_0 rfl 0 rfl ?_
  refine V_getr (C := RX1) (T := TX1) (N := 6) hc sP1 rfl qX1_told_RX1 3 rfl (by decide) kX1_told_18 rfl dX1_told_1 ?_
  refine V_iload_n hc dX1_told_4 rfl 1 rfl ?_
  refine V_iload_n hc dX1_told_5 rfl 2 rfl ?_
  refine V_iload_n hc dX1_told_6 rfl 3 rfl ?_
  refine V_callS_RI hc (c_X1_slot l K t (a1) (a2) (a3)) 3 gX1_told_X1_slot rfl ⟨rfl, rfl⟩ (by decide) ⟨Nat.le_of_ble_eq_true rfl, Nat.le_of_ble_eq_true rfl⟩ rfl rfl (Nat.le_of_ble_eq_true rfl) dX1_told_7 (fun r1 => ?_)
  refine V_iald hc sP4 dX1_told_10 ?_
  exact V_iret hc rfl rfl dX1_told_11

theorem kX1_firstTeller_24 : Cond.fieldLink RX1 24 RX1 (TX1 5).2.1 (TX1 5).2.2.1 ∈ wsX1_firstTeller := by decide +kernel
theorem qX1_firstTeller_RX1 : ∀ w ∈ u_ws RX1 TX1 6, w ∈ wsX1_firstTeller := by
  first
  | exact fun _ h => List.mem_cons_of_mem _ (List.mem_append_right _ h)
  | exact fun _ h => List.mem_cons_of_mem _ (List.mem_append_left _ (List.mem_append_right _ h))
  | exact fun _ h => List.mem_cons_of_mem _ (List.mem_append_left _ (List.mem_append_left _ (List.mem_append_right _ h)))
  | exact fun _ h => List.mem_cons_of_mem _ (List.mem_append_left _ (List.mem_append_left _ (List.mem_append_left _ (List.mem_append_right _ h))))
  | exact fun _ h => List.mem_cons_of_mem _ (List.mem_append_left _ (List.mem_append_left _ (List.mem_append_left _ (List.mem_append_left _ (List.mem_append_right _ h)))))
  | decide +kernel
noncomputable def L_X1_firstTeller_2 (t0 : Sx) (b1 : Int32) (b2 : Int32) (kont : Int32 → Option Int32) : Nat → Int32 → Option Int32
  | 0, _ => none
  | n + 1, x3 => if 3 ≤ x3 then kont (x3) else gd (vp_in x3 3) ((f_X1_told t0 (b1) (gA t0 13 (ix x3)) (b2)).bind fun r1 => if r1 = (-1) then L_X1_firstTeller_2 t0 b1 b2 kont n ((x3 + 1)) else gd (vp_in x3 3) (some (gA t0 13 (ix x3))))
set_option maxRecDepth 20000 in
set_option maxHeartbeats 4000000 in
theorem L_X1_firstTeller_2_ok {p : Program} {l : Launch} {K : Kx} {e : Env} {s : State} {m : MethodId} {args : Array Value} {below : List Frame} {meth : Method} {c : Code} (hc : Cx p ({ frames := 2, cells := 0, slots := 0, locals := 45 } : Room) s m args meth c cX1_firstTeller 4 wsX1_firstTeller RX1 K (aA K s.heap.size) (some .int) 0 0) (t0 : Sx) (b1 : Int32) (b2 : Int32) (kont : Int32 → Option Int32) (hk : ∀ x3, V p l e ({ frames := 2, cells := 0, slots := 0, locals := 45 } : Room) s m args below meth c K (aA K s.heap.size) 0 0 4 (QM below K args s (kRI t0)) 36 [(0, .ref (K.2.2 1)), (1, .int b1), (2, .int b2), (3, .int x3)] [] t0 (kont x3)) : ∀ (n : Nat) (x3 : Int32), V p l e ({ frames := 2, cells := 0, slots := 0, locals := 45 } : Room) s m args below meth c K (aA K s.heap.size) 0 0 4 (QM below K args s (kRI t0)) 2 [(0, .ref (K.2.2 1)), (1, .int b1), (2, .int b2), (3, .int x3)] [] t0 (L_X1_firstTeller_2 t0 b1 b2 kont n x3) := by
  intro n
  induction n with
  | zero => intro x3; exact V_none
  | succ n ih =>
    intro x3
    rw [L_X1_firstTeller_2]
    refine V_iload_n hc dX1_firstTeller_2 rfl 3 rfl ?_
    refine V_iconst (v := 3) hc dX1_firstTeller_3 (by decide) ?_
    refine V_icmp_ge (tgt := 36) hc dX1_firstTeller_4 (by decide) ?_ ?_
    · exact V_sub [0, 1, 2, 3] rfl (hk _)
    · refine V_aload_n hc dX1_firstTeller_7 rfl 0 rfl ?_
      refine V_iload_n hc dX1_firstTeller_8 rfl 1 rfl ?_
      refine V_aload_n hc dX1_firstTeller_9 rfl 0 rfl ?_
      refine V_getr (C := RX1) (T := TX1) (N := 6) hc sP1 rfl qX1_firstTeller_RX1 5 rfl (by decide) kX1_firstTeller_24 rfl dX1_firstTeller_10 ?_
      refine V_iload_n hc dX1_firstTeller_13 rfl 3 rfl ?_
      refine V_iald hc sP6 dX1_firstTeller_14 ?_
      refine V_iload_n hc dX1_firstTeller_15 rfl 2 rfl ?_
      refine V_callV_RI (Cn := RX1) (T := TX1) (N := 6) hc (c_X1_told l K t0 (b1) (gA t0 13 (ix x3)) (b2)) sP1 rfl 3 gX1_firstTeller_X1_told rfl ⟨rfl, rfl⟩ (by decide) ⟨Nat.le_of_ble_eq_true rfl, Nat.le_of_ble_eq_true rfl⟩ rfl rfl (Nat.le_of_ble_eq_true rfl) dX1_firstTeller_16 (fun r1 => ?_)
      refine V_iconst (v := (-1)) hc dX1_firstTeller_19 (by decide) ?_
      refine V_icmp_eq (tgt := 30) hc dX1_firstTeller_20 (by decide) ?_ ?_
      · refine V_iinc (v := (x3 + 1)) (lv' := [(3, .int (x3 + 1)), (0, .ref (K.2.2 1)), (1, .int b1), (2, .int b2)]) hc dX1_firstTeller_30 3 rfl rfl (by decide) rfl ?_
        refine V_goto (tgt := 2) hc dX1_firstTeller_33 (by decide) ?_
        exact V_sub [1, 2, 3, 0] rfl (ih _)
      · refine V_aload_n hc dX1_firstTeller_23 rfl 0 rfl ?_
        refine V_getr (C := RX1) (T := TX1) (N := 6) hc sP1 rfl qX1_firstTeller_RX1 5 rfl (by decide) kX1_firstTeller_24 rfl dX1_firstTeller_24 ?_
        refine V_iload_n hc dX1_firstTeller_27 rfl 3 rfl ?_
        refine V_iald hc sP6 dX1_firstTeller_28 ?_
        exact V_iret hc rfl rfl dX1_firstTeller_29
noncomputable def f_X1_firstTeller (t : Sx) (a1 : Int32) (a2 : Int32) : Option Int32 := L_X1_firstTeller_2 t (a1) (a2) (fun z2 => some (-1)) FU (0)
set_option maxRecDepth 20000 in
set_option maxHeartbeats 4000000 in
theorem c_X1_firstTeller (l : Launch) (K : Kx) (t : Sx) (a1 : Int32) (a2 : Int32) : CT l K yX1_firstTeller wsX1_firstTeller ({ frames := 2, cells := 0, slots := 0, locals := 45 } : Room) [.ref (K.2.2 1), .int a1, .int a2] t (f_X1_firstTeller t a1 a2) (kRI t) := by
  refine CT_of (cc := cX1_firstTeller) (maxL := 4) (ret := (some .int)) (own := RX1) (by decide +kernel) rfl rfl (Nat.le_of_ble_eq_true rfl) ?_
  intro p e s m args below meth c hc
  refine V_sub (lv' := [(0, .ref (K.2.2 1)), (1, .int a1), (2, .int a2)]) [0, 1, 2] rfl ?_
  unfold f_X1_firstTeller
  refine V_iconst (v := 0) hc dX1_firstTeller_0 (by decide) ?_
  refine V_istore_n (lv' := [(3, .int 0), (0, .ref (K.2.2 1)), (1, .int a1), (2, .int a2)]) hc dX1_firstTeller_1 rfl (by decide) rfl ?_
  refine V_sub (lv' := [(0, .ref (K.2.2 1)), (1, .int a1), (2, .int a2), (3, .int 0)]) [1, 2, 3, 0] rfl ?_
  refine L_X1_firstTeller_2_ok hc t (a1) (a2) _ (fun z2 => ?_) FU _
  refine V_iconst (v := (-1)) hc dX1_firstTeller_36 (by decide) ?_
  exact V_iret hc rfl rfl dX1_firstTeller_37

theorem kX1_settleFile_21 : Cond.fieldLink RX1 21 RX1 (TX1 4).2.1 (TX1 4).2.2.1 ∈ wsX1_settleFile := by decide +kernel
theorem qX1_settleFile_RX1 : ∀ w ∈ u_ws RX1 TX1 6, w ∈ wsX1_settleFile := by
  first
  | exact fun _ h => List.mem_cons_of_mem _ (List.mem_append_right _ h)
  | exact fun _ h => List.mem_cons_of_mem _ (List.mem_append_left _ (List.mem_append_right _ h))
  | exact fun _ h => List.mem_cons_of_mem _ (List.mem_append_left _ (List.mem_append_left _ (List.mem_append_right _ h)))
  | exact fun _ h => List.mem_cons_of_mem _ (List.mem_append_left _ (List.mem_append_left _ (List.mem_append_left _ (List.mem_append_right _ h))))
  | exact fun _ h => List.mem_cons_of_mem _ (List.mem_append_left _ (List.mem_append_left _ (List.mem_append_left _ (List.mem_append_left _ (List.mem_append_right _ h)))))
  | decide +kernel
theorem wX1_settleFile_max0 : Cond.methodLink RX1 72 Lib.Math.max.name ∈ wsX1_settleFile := by decide +kernel
theorem wX1_settleFile_max1 : Cond.static Lib.Math.max.name ∈ wsX1_settleFile := by decide +kernel
theorem wX1_settleFile_max2 : Cond.initialized "java/lang/Math" ∈ wsX1_settleFile := by decide +kernel
theorem wX1_settleFile_max3 : Cond.code Lib.Math.max.name Lib.Math.max.code 2 (some .int) ∈ wsX1_settleFile := by decide +kernel
noncomputable def L_X1_settleFile_2 (b1 : Int32) (kont : Int32 → Sx → Option Sx) : Nat → Int32 → Sx → Option Sx
  | 0, _, _ => none
  | n + 1, x2, y => if 4 < x2 then kont (x2) (y) else (f_X1_firstTeller y (b1) (x2)).bind fun r1 => if r1 = (-1) then gd (vp_in ((b1 * 6) + x2) 240) (bd (pA y 12 (ix ((b1 * 6) + x2)) (-1)) fun t4 => L_X1_settleFile_2 b1 kont n ((x2 + 1)) (t4)) else (f_X1_told y (b1) (r1) (x2)).bind fun r2 => gd (vp_in ((b1 * 6) + x2) 240) (bd (pA y 12 (ix ((b1 * 6) + x2)) r2) fun t3 => L_X1_settleFile_2 b1 kont n ((x2 + 1)) (t3))
set_option maxRecDepth 20000 in
set_option maxHeartbeats 4000000 in
theorem L_X1_settleFile_2_ok {p : Program} {l : Launch} {K : Kx} {e : Env} {s : State} {m : MethodId} {args : Array Value} {below : List Frame} {meth : Method} {c : Code} (hc : Cx p ({ frames := 3, cells := 0, slots := 0, locals := 68 } : Room) s m args meth c cX1_settleFile 4 wsX1_settleFile RX1 K (aA K s.heap.size) none 0 0) (b1 : Int32) (kont : Int32 → Sx → Option Sx) (hk : ∀ x2 y, V p l e ({ frames := 3, cells := 0, slots := 0, locals := 68 } : Room) s m args below meth c K (aA K s.heap.size) 0 0 4 (QM below K args s kWV) 47 [(0, .ref (K.2.2 1)), (1, .int b1), (2, .int x2)] [] y (kont x2 y)) : ∀ (n : Nat) (x2 : Int32) (y : Sx), V p l e ({ frames := 3, cells := 0, slots := 0, locals := 68 } : Room) s m args below meth c K (aA K s.heap.size) 0 0 4 (QM below K args s kWV) 2 [(0, .ref (K.2.2 1)), (1, .int b1), (2, .int x2)] [] y (L_X1_settleFile_2 b1 kont n x2 y) := by
  intro n
  induction n with
  | zero => intro x2 y; exact V_none
  | succ n ih =>
    intro x2 y
    rw [L_X1_settleFile_2]
    refine V_iload_n hc dX1_settleFile_2 rfl 2 rfl ?_
    refine V_iconst (v := 4) hc dX1_settleFile_3 (by decide) ?_
    refine V_icmp_gt (tgt := 47) hc dX1_settleFile_4 (by decide) ?_ ?_
    · exact V_sub [0, 1, 2] rfl (hk _ _)
    · refine V_aload_n hc dX1_settleFile_7 rfl 0 rfl ?_
      refine V_iload_n hc dX1_settleFile_8 rfl 1 rfl ?_
      refine V_iload_n hc dX1_settleFile_9 rfl 2 rfl ?_
      refine V_callV_RI (Cn := RX1) (T := TX1) (N := 6) hc (c_X1_firstTeller l K y (b1) (x2)) sP1 rfl 2 gX1_settleFile_X1_firstTeller rfl ⟨rfl, rfl⟩ (by decide) ⟨Nat.le_of_ble_eq_true rfl, Nat.le_of_ble_eq_true rfl⟩ rfl rfl (Nat.le_of_ble_eq_true rfl) dX1_settleFile_10 (fun r1 => ?_)
      refine V_istore_n (lv' := [(3, .int r1), (0, .ref (K.2.2 1)), (1, .int b1), (2, .int x2)]) hc dX1_settleFile_13 rfl (by decide) rfl ?_
      refine V_aload_n hc dX1_settleFile_14 rfl 1 rfl ?_
      refine V_getr (C := RX1) (T := TX1) (N := 6) hc sP1 rfl qX1_settleFile_RX1 4 rfl (by decide) kX1_settleFile_21 rfl dX1_settleFile_15 ?_
      refine V_iload_n hc dX1_settleFile_18 rfl 2 rfl ?_
      refine V_bipush (v := 6) hc dX1_settleFile_19 (by decide) ?_
      refine V_imul hc dX1_settleFile_21 ?_
      refine V_iload_n hc dX1_settleFile_22 rfl 3 rfl ?_
      refine V_iadd hc dX1_settleFile_23 ?_
      refine V_iload_n hc dX1_settleFile_24 rfl 0 rfl ?_
      refine V_iconst (v := (-1)) hc dX1_settleFile_25 (by decide) ?_
      refine V_icmp_ne (tgt := 33) hc dX1_settleFile_26 (by decide) ?_ ?_
      · refine V_aload_n hc dX1_settleFile_33 rfl 1 rfl ?_
        refine V_iload_n hc dX1_settleFile_34 rfl 2 rfl ?_
        refine V_iload_n hc dX1_settleFile_35 rfl 0 rfl ?_
        refine V_iload_n hc dX1_settleFile_36 rfl 3 rfl ?_
        refine V_callV_RI (Cn := RX1) (T := TX1) (N := 6) hc (c_X1_told l K y (b1) (r1) (x2)) sP1 rfl 3 gX1_settleFile_X1_told rfl ⟨rfl, rfl⟩ (by decide) ⟨Nat.le_of_ble_eq_true rfl, Nat.le_of_ble_eq_true rfl⟩ rfl rfl (Nat.le_of_ble_eq_true rfl) dX1_settleFile_37 (fun r2 => ?_)
        refine V_iast hc sP5 dX1_settleFile_40 ?_
        refine V_bds (fun t3 => ?_)
        refine V_iinc (v := (x2 + 1)) (lv' := [(2, .int (x2 + 1)), (3, .int r1), (0, .ref (K.2.2 1)), (1, .int b1)]) hc dX1_settleFile_41 3 rfl rfl (by decide) rfl ?_
        refine V_goto (tgt := 2) hc dX1_settleFile_44 (by decide) ?_
        exact V_sub [2, 3, 0] rfl (ih _ _)
      · refine V_iconst (v := (-1)) hc dX1_settleFile_29 (by decide) ?_
        refine V_goto (tgt := 40) hc dX1_settleFile_30 (by decide) ?_
        refine V_iast hc sP5 dX1_settleFile_40 ?_
        refine V_bds (fun t4 => ?_)
        refine V_iinc (v := (x2 + 1)) (lv' := [(2, .int (x2 + 1)), (3, .int r1), (0, .ref (K.2.2 1)), (1, .int b1)]) hc dX1_settleFile_41 3 rfl rfl (by decide) rfl ?_
        refine V_goto (tgt := 2) hc dX1_settleFile_44 (by decide) ?_
        exact V_sub [2, 3, 0] rfl (ih _ _)
noncomputable def L_X1_settleFile_51 (t0 : Sx) (b1 : Int32) (kont : Int32 → Int32 → Option Sx) : Nat → Int32 → Int32 → Option Sx
  | 0, _, _ => none
  | n + 1, x2 , x3 => if 3 ≤ x3 then kont (x2) (x3) else (f_X1_told t0 (b1) (x3) (5)).bind fun r7 => bd (if r7 < 0 then 0 else r7) fun v8 => L_X1_settleFile_51 t0 b1 kont n ((x2 ||| v8)) ((x3 + 1))
set_option maxRecDepth 20000 in
set_option maxHeartbeats 4000000 in
theorem L_X1_settleFile_51_ok {p : Program} {l : Launch} {K : Kx} {e : Env} {s : State} {m : MethodId} {args : Array Value} {below : List Frame} {meth : Method} {c : Code} (hc : Cx p ({ frames := 3, cells := 0, slots := 0, locals := 68 } : Room) s m args meth c cX1_settleFile 4 wsX1_settleFile RX1 K (aA K s.heap.size) none 0 0) (t0 : Sx) (b1 : Int32) (kont : Int32 → Int32 → Option Sx) (hk : ∀ x2 x3, V p l e ({ frames := 3, cells := 0, slots := 0, locals := 68 } : Room) s m args below meth c K (aA K s.heap.size) 0 0 4 (QM below K args s kWV) 76 [(0, .ref (K.2.2 1)), (1, .int b1), (2, .int x2), (3, .int x3)] [] t0 (kont x2 x3)) : ∀ (n : Nat) (x2 : Int32) (x3 : Int32), V p l e ({ frames := 3, cells := 0, slots := 0, locals := 68 } : Room) s m args below meth c K (aA K s.heap.size) 0 0 4 (QM below K args s kWV) 51 [(0, .ref (K.2.2 1)), (1, .int b1), (2, .int x2), (3, .int x3)] [] t0 (L_X1_settleFile_51 t0 b1 kont n x2 x3) := by
  intro n
  induction n with
  | zero => intro x2 x3; exact V_none
  | succ n ih =>
    intro x2 x3
    rw [L_X1_settleFile_51]
    refine V_iload_n hc dX1_settleFile_51 rfl 3 rfl ?_
    refine V_iconst (v := 3) hc dX1_settleFile_52 (by decide) ?_
    refine V_icmp_ge (tgt := 76) hc dX1_settleFile_53 (by decide) ?_ ?_
    · exact V_sub [0, 1, 2, 3] rfl (hk _ _)
    · refine V_iload_n hc dX1_settleFile_56 rfl 2 rfl ?_
      refine V_aload_n hc dX1_settleFile_57 rfl 0 rfl ?_
      refine V_iload_n hc dX1_settleFile_58 rfl 1 rfl ?_
      refine V_iload_n hc dX1_settleFile_59 rfl 3 rfl ?_
      refine V_iconst (v := 5) hc dX1_settleFile_60 (by decide) ?_
      refine V_callV_RI (Cn := RX1) (T := TX1) (N := 6) hc (c_X1_told l K t0 (b1) (x3) (5)) sP1 rfl 3 gX1_settleFile_X1_told rfl ⟨rfl, rfl⟩ (by decide) ⟨Nat.le_of_ble_eq_true rfl, Nat.le_of_ble_eq_true rfl⟩ rfl rfl (Nat.le_of_ble_eq_true rfl) dX1_settleFile_61 (fun r7 => ?_)
      refine V_iconst (v := 0) hc dX1_settleFile_64 (by decide) ?_
      refine V_mmax hc wX1_settleFile_max0 wX1_settleFile_max1 wX1_settleFile_max2 wX1_settleFile_max3 (by decide) (Nat.le_of_ble_eq_true rfl) dX1_settleFile_65 ?_
      refine V_bdi (fun v8 => ?_)
      refine V_ior hc dX1_settleFile_68 ?_
      refine V_istore_n (lv' := [(2, .int (x2 ||| v8)), (0, .ref (K.2.2 1)), (1, .int b1), (3, .int x3)]) hc dX1_settleFile_69 rfl (by decide) rfl ?_
      refine V_iinc (v := (x3 + 1)) (lv' := [(3, .int (x3 + 1)), (2, .int (x2 ||| v8)), (0, .ref (K.2.2 1)), (1, .int b1)]) hc dX1_settleFile_70 3 rfl rfl (by decide) rfl ?_
      refine V_goto (tgt := 51) hc dX1_settleFile_73 (by decide) ?_
      exact V_sub [2, 3, 1, 0] rfl (ih _ _)
noncomputable def f_X1_settleFile (t : Sx) (a1 : Int32) : Option Sx := L_X1_settleFile_2 (a1) (fun z5 t6 => L_X1_settleFile_51 t6 (a1) (fun z9 z10 => gd (vp_in ((a1 * 6) + 5) 240) (bd (pA t6 12 (ix ((a1 * 6) + 5)) z9) fun t11 => some t11)) FU (0) (0)) FU (0) (t)
set_option maxRecDepth 20000 in
set_option maxHeartbeats 4000000 in
theorem c_X1_settleFile (l : Launch) (K : Kx) (t : Sx) (a1 : Int32) : CT l K yX1_settleFile wsX1_settleFile ({ frames := 3, cells := 0, slots := 0, locals := 68 } : Room) [.ref (K.2.2 1), .int a1] t (f_X1_settleFile t a1) kWV := by
  refine CT_of (cc := cX1_settleFile) (maxL := 4) (ret := none) (own := RX1) (by decide +kernel) rfl rfl (Nat.le_of_ble_eq_true rfl) ?_
  intro p e s m args below meth c hc
  refine V_sub (lv' := [(0, .ref (K.2.2 1)), (1, .int a1)]) [0, 1] rfl ?_
  unfold f_X1_settleFile
  refine V_iconst (v := 0) hc dX1_settleFile_0 (by decide) ?_
  refine V_istore_n (lv' := [(2, .int 0), (0, .ref (K.2.2 1)), (1, .int a1)]) hc dX1_settleFile_1 rfl (by decide) rfl ?_
  refine V_sub (lv' := [(0, .ref (K.2.2 1)), (1, .int a1), (2, .int 0)]) [1, 2, 0] rfl ?_
  refine L_X1_settleFile_2_ok hc (a1) _ (fun z5 t6 => ?_) FU _ _
  refine V_iconst (v := 0) hc dX1_settleFile_47 (by decide) ?_
  refine V_istore_n (lv' := [(2, .int 0), (0, .ref (K.2.2 1)), (1, .int a1)]) hc dX1_settleFile_48 rfl (by decide) rfl ?_
  refine V_iconst (v := 0) hc dX1_settleFile_49 (by decide) ?_
  refine V_istore_n (lv' := [(3, .int 0), (2, .int 0), (0, .ref (K.2.2 1)), (1, .int a1)]) hc dX1_settleFile_50 rfl (by decide) rfl ?_
  refine V_sub (lv' := [(0, .ref (K.2.2 1)), (1, .int a1), (2, .int 0), (3, .int 0)]) [2, 3, 1, 0] rfl ?_
  refine L_X1_settleFile_51_ok hc t6 (a1) _ (fun z9 z10 => ?_) FU _ _
  refine V_aload_n hc dX1_settleFile_76 rfl 0 rfl ?_
  refine V_getr (C := RX1) (T := TX1) (N := 6) hc sP1 rfl qX1_settleFile_RX1 4 rfl (by decide) kX1_settleFile_21 rfl dX1_settleFile_77 ?_
  refine V_iload_n hc dX1_settleFile_80 rfl 1 rfl ?_
  refine V_bipush (v := 6) hc dX1_settleFile_81 (by decide) ?_
  refine V_imul hc dX1_settleFile_83 ?_
  refine V_iconst (v := 5) hc dX1_settleFile_84 (by decide) ?_
  refine V_iadd hc dX1_settleFile_85 ?_
  refine V_iload_n hc dX1_settleFile_86 rfl 2 rfl ?_
  refine V_iast hc sP5 dX1_settleFile_87 ?_
  refine V_bds (fun t11 => ?_)
  exact V_vret hc rfl rfl dX1_settleFile_88

theorem kX1_settleValues_31 : Cond.fieldLink RX1 31 RX1 (TX1 0).2.1 (TX1 0).2.2.1 ∈ wsX1_settleValues := by decide +kernel
theorem qX1_settleValues_RX1 : ∀ w ∈ u_ws RX1 TX1 6, w ∈ wsX1_settleValues := by
  first
  | exact fun _ h => List.mem_cons_of_mem _ (List.mem_append_right _ h)
  | exact fun _ h => List.mem_cons_of_mem _ (List.mem_append_left _ (List.mem_append_right _ h))
  | exact fun _ h => List.mem_cons_of_mem _ (List.mem_append_left _ (List.mem_append_left _ (List.mem_append_right _ h)))
  | exact fun _ h => List.mem_cons_of_mem _ (List.mem_append_left _ (List.mem_append_left _ (List.mem_append_left _ (List.mem_append_right _ h))))
  | exact fun _ h => List.mem_cons_of_mem _ (List.mem_append_left _ (List.mem_append_left _ (List.mem_append_left _ (List.mem_append_left _ (List.mem_append_right _ h)))))
  | decide +kernel
theorem wX1_settleValues_in35 : Cond.initialized yX8_holds.cls ∈ wsX1_settleValues := by decide +kernel
theorem wX1_settleValues_st35 : Cond.static yX8_holds ∈ wsX1_settleValues := by decide +kernel
noncomputable def L_X1_settleValues_2  (kont : Int32 → Sx → Option Sx) : Nat → Int32 → Sx → Option Sx
  | 0, _, _ => none
  | n + 1, x1, y => if 40 ≤ x1 then kont (x1) (y) else (f_X8_holds y (gL y 8) (x1)).bind fun r1 => if r1 = 0 then L_X1_settleValues_2  kont n ((x1 + 1)) (y) else (f_X1_settleFile y (x1)).bind fun r2 => L_X1_settleValues_2  kont n ((x1 + 1)) (r2)
set_option maxRecDepth 20000 in
set_option maxHeartbeats 4000000 in
theorem L_X1_settleValues_2_ok {p : Program} {l : Launch} {K : Kx} {e : Env} {s : State} {m : MethodId} {args : Array Value} {below : List Frame} {meth : Method} {c : Code} (hc : Cx p ({ frames := 4, cells := 0, slots := 0, locals := 91 } : Room) s m args meth c cX1_settleValues 2 wsX1_settleValues RX1 K (aA K s.heap.size) none 0 0)  (kont : Int32 → Sx → Option Sx) (hk : ∀ x1 y, V p l e ({ frames := 4, cells := 0, slots := 0, locals := 91 } : Room) s m args below meth c K (aA K s.heap.size) 0 0 2 (QM below K args s kWV) 30 [(0, .ref (K.2.2 1)), (1, .int x1)] [] y (kont x1 y)) : ∀ (n : Nat) (x1 : Int32) (y : Sx), V p l e ({ frames := 4, cells := 0, slots := 0, locals := 91 } : Room) s m args below meth c K (aA K s.heap.size) 0 0 2 (QM below K args s kWV) 2 [(0, .ref (K.2.2 1)), (1, .int x1)] [] y (L_X1_settleValues_2  kont n x1 y) := by
  intro n
  induction n with
  | zero => intro x1 y; exact V_none
  | succ n ih =>
    intro x1 y
    rw [L_X1_settleValues_2]
    refine V_iload_n hc dX1_settleValues_2 rfl 1 rfl ?_
    refine V_bipush (v := 40) hc dX1_settleValues_3 (by decide) ?_
    refine V_icmp_ge (tgt := 30) hc dX1_settleValues_5 (by decide) ?_ ?_
    · exact V_sub [0, 1] rfl (hk _ _)
    · refine V_aload_n hc dX1_settleValues_8 rfl 0 rfl ?_
      refine V_getl (C := RX1) (T := TX1) (N := 6) hc sP1 rfl qX1_settleValues_RX1 0 rfl (by decide) kX1_settleValues_31 rfl dX1_settleValues_9 ?_
      refine V_iload_n hc dX1_settleValues_12 rfl 1 rfl ?_
      refine V_callN_RI hc (c_X8_holds l K y (gL y 8) (x1)) 2 gX1_settleValues_X8_holds_n35 rfl ⟨rfl, rfl⟩ (List.mem_of_getElem? (i := 0) rfl) wX1_settleValues_in35 wX1_settleValues_st35 (by decide) ⟨Nat.le_of_ble_eq_true rfl, Nat.le_of_ble_eq_true rfl⟩ rfl rfl (Nat.le_of_ble_eq_true rfl) dX1_settleValues_13 (fun r1 => ?_)
      refine V_if_eq (tgt := 24) hc dX1_settleValues_16 (by decide) ?_ ?_
      · refine V_iinc (v := (x1 + 1)) (lv' := [(1, .int (x1 + 1)), (0, .ref (K.2.2 1))]) hc dX1_settleValues_24 1 rfl rfl (by decide) rfl ?_
        refine V_goto (tgt := 2) hc dX1_settleValues_27 (by decide) ?_
        exact V_sub [1, 0] rfl (ih _ _)
      · refine V_aload_n hc dX1_settleValues_19 rfl 0 rfl ?_
        refine V_iload_n hc dX1_settleValues_20 rfl 1 rfl ?_
        refine V_callV_WV (Cn := RX1) (T := TX1) (N := 6) hc (c_X1_settleFile l K y (x1)) sP1 rfl 1 gX1_settleValues_X1_settleFile rfl ⟨rfl, rfl⟩ (by decide) ⟨Nat.le_of_ble_eq_true rfl, Nat.le_of_ble_eq_true rfl⟩ rfl rfl (Nat.le_of_ble_eq_true rfl) dX1_settleValues_21 (fun r2 => ?_)
        refine V_iinc (v := (x1 + 1)) (lv' := [(1, .int (x1 + 1)), (0, .ref (K.2.2 1))]) hc dX1_settleValues_24 1 rfl rfl (by decide) rfl ?_
        refine V_goto (tgt := 2) hc dX1_settleValues_27 (by decide) ?_
        exact V_sub [1, 0] rfl (ih _ _)
noncomputable def f_X1_settleValues (t : Sx)  : Option Sx := L_X1_settleValues_2  (fun z3 t4 => some t4) FU (0) (t)
set_option maxRecDepth 20000 in
set_option maxHeartbeats 4000000 in
theorem c_X1_settleValues (l : Launch) (K : Kx) (t : Sx)  : CT l K yX1_settleValues wsX1_settleValues ({ frames := 4, cells := 0, slots := 0, locals := 91 } : Room) [.ref (K.2.2 1)] t (f_X1_settleValues t ) kWV := by
  refine CT_of (cc := cX1_settleValues) (maxL := 2) (ret := none) (own := RX1) (by decide +kernel) rfl rfl (Nat.le_of_ble_eq_true rfl) ?_
  intro p e s m args below meth c hc
  refine V_sub (lv' := [(0, .ref (K.2.2 1))]) [0] rfl ?_
  unfold f_X1_settleValues
  refine V_iconst (v := 0) hc dX1_settleValues_0 (by decide) ?_
  refine V_istore_n (lv' := [(1, .int 0), (0, .ref (K.2.2 1))]) hc dX1_settleValues_1 rfl (by decide) rfl ?_
  refine V_sub (lv' := [(0, .ref (K.2.2 1)), (1, .int 0)]) [1, 0] rfl ?_
  refine L_X1_settleValues_2_ok hc  _ (fun z3 t4 => ?_) FU _ _
  exact V_vret hc rfl rfl dX1_settleValues_30

theorem kX1_all_31 : Cond.fieldLink RX1 31 RX1 (TX1 0).2.1 (TX1 0).2.2.1 ∈ wsX1_all := by decide +kernel
theorem qX1_all_RX1 : ∀ w ∈ u_ws RX1 TX1 6, w ∈ wsX1_all := by
  first
  | exact fun _ h => List.mem_cons_of_mem _ (List.mem_append_right _ h)
  | exact fun _ h => List.mem_cons_of_mem _ (List.mem_append_left _ (List.mem_append_right _ h))
  | exact fun _ h => List.mem_cons_of_mem _ (List.mem_append_left _ (List.mem_append_left _ (List.mem_append_right _ h)))
  | exact fun _ h => List.mem_cons_of_mem _ (List.mem_append_left _ (List.mem_append_left _ (List.mem_append_left _ (List.mem_append_right _ h))))
  | exact fun _ h => List.mem_cons_of_mem _ (List.mem_append_left _ (List.mem_append_left _ (List.mem_append_left _ (List.mem_append_left _ (List.mem_append_right _ h)))))
  | decide +kernel
noncomputable def f_X1_all (t : Sx)  : Option Int64 := some (gL t 8)
set_option maxRecDepth 20000 in
set_option maxHeartbeats 4000000 in
theorem c_X1_all (l : Launch) (K : Kx) (t : Sx)  : CT l K yX1_all wsX1_all ({ frames := 0, cells := 0, slots := 0, locals := 0 } : Room) [.ref (K.2.2 1)] t (f_X1_all t ) (kRL t) := by
  refine CT_of (cc := cX1_all) (maxL := 1) (ret := (some .long)) (own := RX1) (by decide +kernel) rfl rfl (Nat.le_of_ble_eq_true rfl) ?_
  intro p e s m args below meth c hc
  refine V_sub (lv' := [(0, .ref (K.2.2 1))]) [0] rfl ?_
  unfold f_X1_all
  refine V_aload_n hc dX1_all_0 rfl 0 rfl ?_
  refine V_getl (C := RX1) (T := TX1) (N := 6) hc sP1 rfl qX1_all_RX1 0 rfl (by decide) kX1_all_31 rfl dX1_all_1 ?_
  exact V_lret hc rfl rfl dX1_all_4

theorem kX1_alike_31 : Cond.fieldLink RX1 31 RX1 (TX1 0).2.1 (TX1 0).2.2.1 ∈ wsX1_alike := by decide +kernel
theorem qX1_alike_RX1 : ∀ w ∈ u_ws RX1 TX1 6, w ∈ wsX1_alike := by
  first
  | exact fun _ h => List.mem_cons_of_mem _ (List.mem_append_right _ h)
  | exact fun _ h => List.mem_cons_of_mem _ (List.mem_append_left _ (List.mem_append_right _ h))
  | exact fun _ h => List.mem_cons_of_mem _ (List.mem_append_left _ (List.mem_append_left _ (List.mem_append_right _ h)))
  | exact fun _ h => List.mem_cons_of_mem _ (List.mem_append_left _ (List.mem_append_left _ (List.mem_append_left _ (List.mem_append_right _ h))))
  | exact fun _ h => List.mem_cons_of_mem _ (List.mem_append_left _ (List.mem_append_left _ (List.mem_append_left _ (List.mem_append_left _ (List.mem_append_right _ h)))))
  | decide +kernel
theorem wX1_alike_in35 : Cond.initialized yX8_holds.cls ∈ wsX1_alike := by decide +kernel
theorem wX1_alike_st35 : Cond.static yX8_holds ∈ wsX1_alike := by decide +kernel
theorem kX1_alike_9 : Cond.fieldLink RX1 9 RX1 (TX1 1).2.1 (TX1 1).2.2.1 ∈ wsX1_alike := by decide +kernel
theorem wX1_alike_in45 : Cond.initialized yX8_only.cls ∈ wsX1_alike := by decide +kernel
theorem wX1_alike_st45 : Cond.static yX8_only ∈ wsX1_alike := by decide +kernel
noncomputable def L_X1_alike_5 (t0 : Sx) (b1 : Int32) (kont : Int64 → Int32 → Option Int64) : Nat → Int64 → Int32 → Option Int64
  | 0, _, _ => none
  | n + 1, x2 , x4 => if 40 ≤ x4 then kont (x2) (x4) else (f_X8_holds t0 (gL t0 8) (x4)).bind fun r1 => if r1 = 0 then L_X1_alike_5 t0 b1 kont n (x2) ((x4 + 1)) else gd (vp_in x4 40) (gd (vp_in b1 40) (if (gA t0 9 (ix x4)) = (gA t0 9 (ix b1)) then (f_X8_only t0 (x4)).bind fun r2 => L_X1_alike_5 t0 b1 kont n ((x2 ||| r2)) ((x4 + 1)) else L_X1_alike_5 t0 b1 kont n (x2) ((x4 + 1))))
set_option maxRecDepth 20000 in
set_option maxHeartbeats 4000000 in
theorem L_X1_alike_5_ok {p : Program} {l : Launch} {K : Kx} {e : Env} {s : State} {m : MethodId} {args : Array Value} {below : List Frame} {meth : Method} {c : Code} (hc : Cx p ({ frames := 1, cells := 0, slots := 0, locals := 22 } : Room) s m args meth c cX1_alike 5 wsX1_alike RX1 K (aA K s.heap.size) (some .long) 0 0) (t0 : Sx) (b1 : Int32) (kont : Int64 → Int32 → Option Int64) (hk : ∀ x2 x4, V p l e ({ frames := 1, cells := 0, slots := 0, locals := 22 } : Room) s m args below meth c K (aA K s.heap.size) 0 0 5 (QM below K args s (kRL t0)) 54 [(0, .ref (K.2.2 1)), (1, .int b1), (2, .long x2), (4, .int x4)] [] t0 (kont x2 x4)) : ∀ (n : Nat) (x2 : Int64) (x4 : Int32), V p l e ({ frames := 1, cells := 0, slots := 0, locals := 22 } : Room) s m args below meth c K (aA K s.heap.size) 0 0 5 (QM below K args s (kRL t0)) 5 [(0, .ref (K.2.2 1)), (1, .int b1), (2, .long x2), (4, .int x4)] [] t0 (L_X1_alike_5 t0 b1 kont n x2 x4) := by
  intro n
  induction n with
  | zero => intro x2 x4; exact V_none
  | succ n ih =>
    intro x2 x4
    rw [L_X1_alike_5]
    refine V_iload hc dX1_alike_5 3 rfl ?_
    refine V_bipush (v := 40) hc dX1_alike_7 (by decide) ?_
    refine V_icmp_ge (tgt := 54) hc dX1_alike_9 (by decide) ?_ ?_
    · exact V_sub [0, 1, 2, 3] rfl (hk _ _)
    · refine V_aload_n hc dX1_alike_12 rfl 0 rfl ?_
      refine V_getl (C := RX1) (T := TX1) (N := 6) hc sP1 rfl qX1_alike_RX1 0 rfl (by decide) kX1_alike_31 rfl dX1_alike_13 ?_
      refine V_iload hc dX1_alike_16 3 rfl ?_
      refine V_callN_RI hc (c_X8_holds l K t0 (gL t0 8) (x4)) 2 gX1_alike_X8_holds_n35 rfl ⟨rfl, rfl⟩ (List.mem_of_getElem? (i := 0) rfl) wX1_alike_in35 wX1_alike_st35 (by decide) ⟨Nat.le_of_ble_eq_true rfl, Nat.le_of_ble_eq_true rfl⟩ rfl rfl (Nat.le_of_ble_eq_true rfl) dX1_alike_18 (fun r1 => ?_)
      refine V_if_eq (tgt := 48) hc dX1_alike_21 (by decide) ?_ ?_
      · refine V_iinc (v := (x4 + 1)) (lv' := [(4, .int (x4 + 1)), (0, .ref (K.2.2 1)), (1, .int b1), (2, .long x2)]) hc dX1_alike_48 3 rfl rfl (by decide) rfl ?_
        refine V_goto (tgt := 5) hc dX1_alike_51 (by decide) ?_
        exact V_sub [1, 2, 3, 0] rfl (ih _ _)
      · refine V_aload_n hc dX1_alike_24 rfl 0 rfl ?_
        refine V_getr (C := RX1) (T := TX1) (N := 6) hc sP1 rfl qX1_alike_RX1 1 rfl (by decide) kX1_alike_9 rfl dX1_alike_25 ?_
        refine V_iload hc dX1_alike_28 3 rfl ?_
        refine V_iald hc sP2 dX1_alike_30 ?_
        refine V_aload_n hc dX1_alike_31 rfl 0 rfl ?_
        refine V_getr (C := RX1) (T := TX1) (N := 6) hc sP1 rfl qX1_alike_RX1 1 rfl (by decide) kX1_alike_9 rfl dX1_alike_32 ?_
        refine V_iload_n hc dX1_alike_35 rfl 1 rfl ?_
        refine V_iald hc sP2 dX1_alike_36 ?_
        refine V_icmp_ne (tgt := 48) hc dX1_alike_37 (by decide) ?_ ?_
        · refine V_iinc (v := (x4 + 1)) (lv' := [(4, .int (x4 + 1)), (0, .ref (K.2.2 1)), (1, .int b1), (2, .long x2)]) hc dX1_alike_48 3 rfl rfl (by decide) rfl ?_
          refine V_goto (tgt := 5) hc dX1_alike_51 (by decide) ?_
          exact V_sub [1, 2, 3, 0] rfl (ih _ _)
        · refine V_lload_n hc dX1_alike_40 rfl 2 rfl ?_
          refine V_iload hc dX1_alike_41 3 rfl ?_
          refine V_callN_RL hc (c_X8_only l K t0 (x4)) 1 gX1_alike_X8_only_n45 rfl ⟨rfl, rfl⟩ (List.mem_of_getElem? (i := 1) rfl) wX1_alike_in45 wX1_alike_st45 (by decide) ⟨Nat.le_of_ble_eq_true rfl, Nat.le_of_ble_eq_true rfl⟩ rfl rfl (Nat.le_of_ble_eq_true rfl) dX1_alike_43 (fun r2 => ?_)
          refine V_lor hc dX1_alike_46 ?_
          refine V_lstore_n (lv' := [(2, .long (x2 ||| r2)), (0, .ref (K.2.2 1)), (1, .int b1), (4, .int x4)]) hc dX1_alike_47 rfl (by decide) rfl ?_
          refine V_iinc (v := (x4 + 1)) (lv' := [(4, .int (x4 + 1)), (2, .long (x2 ||| r2)), (0, .ref (K.2.2 1)), (1, .int b1)]) hc dX1_alike_48 3 rfl rfl (by decide) rfl ?_
          refine V_goto (tgt := 5) hc dX1_alike_51 (by decide) ?_
          exact V_sub [2, 3, 1, 0] rfl (ih _ _)
noncomputable def f_X1_alike (t : Sx) (a1 : Int32) : Option Int64 := L_X1_alike_5 t (a1) (fun z3 z4 => some z3) FU (0) (0)
set_option maxRecDepth 20000 in
set_option maxHeartbeats 4000000 in
theorem c_X1_alike (l : Launch) (K : Kx) (t : Sx) (a1 : Int32) : CT l K yX1_alike wsX1_alike ({ frames := 1, cells := 0, slots := 0, locals := 22 } : Room) [.ref (K.2.2 1), .int a1] t (f_X1_alike t a1) (kRL t) := by
  refine CT_of (cc := cX1_alike) (maxL := 5) (ret := (some .long)) (own := RX1) (by decide +kernel) rfl rfl (Nat.le_of_ble_eq_true rfl) ?_
  intro p e s m args below meth c hc
  refine V_sub (lv' := [(0, .ref (K.2.2 1)), (1, .int a1)]) [0, 1] rfl ?_
  unfold f_X1_alike
  refine V_lconst (v := 0) hc dX1_alike_0 (by decide) ?_
  refine V_lstore_n (lv' := [(2, .long 0), (0, .ref (K.2.2 1)), (1, .int a1)]) hc dX1_alike_1 rfl (by decide) rfl ?_
  refine V_iconst (v := 0) hc dX1_alike_2 (by decide) ?_
  refine V_istore (lv' := [(4, .int 0), (2, .long 0), (0, .ref (K.2.2 1)), (1, .int a1)]) hc dX1_alike_3 (by decide) rfl ?_
  refine V_sub (lv' := [(0, .ref (K.2.2 1)), (1, .int a1), (2, .long 0), (4, .int 0)]) [2, 3, 1, 0] rfl ?_
  refine L_X1_alike_5_ok hc t (a1) _ (fun z3 z4 => ?_) FU _ _
  refine V_lload_n hc dX1_alike_54 rfl 2 rfl ?_
  exact V_lret hc rfl rfl dX1_alike_55

theorem kX1_settledValue_21 : Cond.fieldLink RX1 21 RX1 (TX1 4).2.1 (TX1 4).2.2.1 ∈ wsX1_settledValue := by decide +kernel
theorem qX1_settledValue_RX1 : ∀ w ∈ u_ws RX1 TX1 6, w ∈ wsX1_settledValue := by
  first
  | exact fun _ h => List.mem_cons_of_mem _ (List.mem_append_right _ h)
  | exact fun _ h => List.mem_cons_of_mem _ (List.mem_append_left _ (List.mem_append_right _ h))
  | exact fun _ h => List.mem_cons_of_mem _ (List.mem_append_left _ (List.mem_append_left _ (List.mem_append_right _ h)))
  | exact fun _ h => List.mem_cons_of_mem _ (List.mem_append_left _ (List.mem_append_left _ (List.mem_append_left _ (List.mem_append_right _ h))))
  | exact fun _ h => List.mem_cons_of_mem _ (List.mem_append_left _ (List.mem_append_left _ (List.mem_append_left _ (List.mem_append_left _ (List.mem_append_right _ h)))))
  | decide +kernel
noncomputable def f_X1_settledValue (t : Sx) (a1 : Int32) (a2 : Int32) : Option Int32 := gd (vp_in ((a1 * 6) + a2) 240) (some (gA t 12 (ix ((a1 * 6) + a2))))
set_option maxRecDepth 20000 in
set_option maxHeartbeats 4000000 in
theorem c_X1_settledValue (l : Launch) (K : Kx) (t : Sx) (a1 : Int32) (a2 : Int32) : CT l K yX1_settledValue wsX1_settledValue ({ frames := 0, cells := 0, slots := 0, locals := 0 } : Room) [.ref (K.2.2 1), .int a1, .int a2] t (f_X1_settledValue t a1 a2) (kRI t) := by
  refine CT_of (cc := cX1_settledValue) (maxL := 3) (ret := (some .int)) (own := RX1) (by decide +kernel) rfl rfl (Nat.le_of_ble_eq_true rfl) ?_
  intro p e s m args below meth c hc
  refine V_sub (lv' := [(0, .ref (K.2.2 1)), (1, .int a1), (2, .int a2)]) [0, 1, 2] rfl ?_
  unfold f_X1_settledValue
  refine V_aload_n hc dX1_settledValue_0 rfl 0 rfl ?_
  refine V_getr (C := RX1) (T := TX1) (N := 6) hc sP1 rfl qX1_settledValue_RX1 4 rfl (by decide) kX1_settledValue_21 rfl dX1_settledValue_1 ?_
  refine V_iload_n hc dX1_settledValue_4 rfl 1 rfl ?_
  refine V_bipush (v := 6) hc dX1_settledValue_5 (by decide) ?_
  refine V_imul hc dX1_settledValue_7 ?_
  refine V_iload_n hc dX1_settledValue_8 rfl 2 rfl ?_
  refine V_iadd hc dX1_settledValue_9 ?_
  refine V_iald hc sP5 dX1_settledValue_10 ?_
  exact V_iret hc rfl rfl dX1_settledValue_11

theorem wX1_has_in27 : Cond.initialized yX8_isWithin.cls ∈ wsX1_has := by decide +kernel
theorem wX1_has_st27 : Cond.static yX8_isWithin ∈ wsX1_has := by decide +kernel
theorem kX1_has_31 : Cond.fieldLink RX1 31 RX1 (TX1 0).2.1 (TX1 0).2.2.1 ∈ wsX1_has := by decide +kernel
theorem qX1_has_RX1 : ∀ w ∈ u_ws RX1 TX1 6, w ∈ wsX1_has := by
  first
  | exact fun _ h => List.mem_cons_of_mem _ (List.mem_append_right _ h)
  | exact fun _ h => List.mem_cons_of_mem _ (List.mem_append_left _ (List.mem_append_right _ h))
  | exact fun _ h => List.mem_cons_of_mem _ (List.mem_append_left _ (List.mem_append_left _ (List.mem_append_right _ h)))
  | exact fun _ h => List.mem_cons_of_mem _ (List.mem_append_left _ (List.mem_append_left _ (List.mem_append_left _ (List.mem_append_right _ h))))
  | exact fun _ h => List.mem_cons_of_mem _ (List.mem_append_left _ (List.mem_append_left _ (List.mem_append_left _ (List.mem_append_left _ (List.mem_append_right _ h)))))
  | decide +kernel
theorem wX1_has_in35 : Cond.initialized yX8_holds.cls ∈ wsX1_has := by decide +kernel
theorem wX1_has_st35 : Cond.static yX8_holds ∈ wsX1_has := by decide +kernel
noncomputable def f_X1_has (t : Sx) (a1 : Int32) : Option Int32 := (f_X8_isWithin t (a1) (0) (39)).bind fun r1 => if r1 = 0 then some 0 else (f_X8_holds t (gL t 8) (a1)).bind fun r2 => if r2 = 0 then some 0 else some 1
set_option maxRecDepth 20000 in
set_option maxHeartbeats 4000000 in
theorem c_X1_has (l : Launch) (K : Kx) (t : Sx) (a1 : Int32) : CT l K yX1_has wsX1_has ({ frames := 1, cells := 0, slots := 0, locals := 22 } : Room) [.ref (K.2.2 1), .int a1] t (f_X1_has t a1) (kRI t) := by
  refine CT_of (cc := cX1_has) (maxL := 2) (ret := (some .boolean)) (own := RX1) (by decide +kernel) rfl rfl (Nat.le_of_ble_eq_true rfl) ?_
  intro p e s m args below meth c hc
  refine V_sub (lv' := [(0, .ref (K.2.2 1)), (1, .int a1)]) [0, 1] rfl ?_
  unfold f_X1_has
  refine V_iload_n hc dX1_has_0 rfl 1 rfl ?_
  refine V_iconst (v := 0) hc dX1_has_1 (by decide) ?_
  refine V_bipush (v := 39) hc dX1_has_2 (by decide) ?_
  refine V_callN_RI hc (c_X8_isWithin l K t (a1) (0) (39)) 3 gX1_has_X8_isWithin_n27 rfl ⟨rfl, rfl⟩ (List.mem_of_getElem? (i := 10) rfl) wX1_has_in27 wX1_has_st27 (by decide) ⟨Nat.le_of_ble_eq_true rfl, Nat.le_of_ble_eq_true rfl⟩ rfl rfl (Nat.le_of_ble_eq_true rfl) dX1_has_4 (fun r1 => ?_)
  refine V_if_eq (tgt := 25) hc dX1_has_7 (by decide) ?_ ?_
  · refine V_iconst (v := 0) hc dX1_has_25 (by decide) ?_
    exact V_nret hc rfl rfl rfl dX1_has_26
  · refine V_aload_n hc dX1_has_10 rfl 0 rfl ?_
    refine V_getl (C := RX1) (T := TX1) (N := 6) hc sP1 rfl qX1_has_RX1 0 rfl (by decide) kX1_has_31 rfl dX1_has_11 ?_
    refine V_iload_n hc dX1_has_14 rfl 1 rfl ?_
    refine V_callN_RI hc (c_X8_holds l K t (gL t 8) (a1)) 2 gX1_has_X8_holds_n35 rfl ⟨rfl, rfl⟩ (List.mem_of_getElem? (i := 0) rfl) wX1_has_in35 wX1_has_st35 (by decide) ⟨Nat.le_of_ble_eq_true rfl, Nat.le_of_ble_eq_true rfl⟩ rfl rfl (Nat.le_of_ble_eq_true rfl) dX1_has_15 (fun r2 => ?_)
    refine V_if_eq (tgt := 25) hc dX1_has_18 (by decide) ?_ ?_
    · refine V_iconst (v := 0) hc dX1_has_25 (by decide) ?_
      exact V_nret hc rfl rfl rfl dX1_has_26
    · refine V_iconst (v := 1) hc dX1_has_21 (by decide) ?_
      refine V_goto (tgt := 26) hc dX1_has_22 (by decide) ?_
      exact V_nret hc rfl rfl rfl dX1_has_26

theorem kX1_drop_31 : Cond.fieldLink RX1 31 RX1 (TX1 0).2.1 (TX1 0).2.2.1 ∈ wsX1_drop := by decide +kernel
theorem qX1_drop_RX1 : ∀ w ∈ u_ws RX1 TX1 6, w ∈ wsX1_drop := by
  first
  | exact fun _ h => List.mem_cons_of_mem _ (List.mem_append_right _ h)
  | exact fun _ h => List.mem_cons_of_mem _ (List.mem_append_left _ (List.mem_append_right _ h))
  | exact fun _ h => List.mem_cons_of_mem _ (List.mem_append_left _ (List.mem_append_left _ (List.mem_append_right _ h)))
  | exact fun _ h => List.mem_cons_of_mem _ (List.mem_append_left _ (List.mem_append_left _ (List.mem_append_left _ (List.mem_append_right _ h))))
  | exact fun _ h => List.mem_cons_of_mem _ (List.mem_append_left _ (List.mem_append_left _ (List.mem_append_left _ (List.mem_append_left _ (List.mem_append_right _ h)))))
  | decide +kernel
theorem wX1_drop_in45 : Cond.initialized yX8_only.cls ∈ wsX1_drop := by decide +kernel
theorem wX1_drop_st45 : Cond.static yX8_only ∈ wsX1_drop := by decide +kernel
theorem wX1_drop_c59 : Cond.constantLong RX1 59 (-1) ∈ wsX1_drop := by decide +kernel
noncomputable def f_X1_drop (t : Sx) (a1 : Int32) : Option Sx := (f_X8_only t (a1)).bind fun r1 => bd (pL t 8 ((gL t 8) &&& (r1 ^^^ -1))) fun t2 => some t2
set_option maxRecDepth 20000 in
set_option maxHeartbeats 4000000 in
theorem c_X1_drop (l : Launch) (K : Kx) (t : Sx) (a1 : Int32) : CT l K yX1_drop wsX1_drop ({ frames := 1, cells := 0, slots := 0, locals := 20 } : Room) [.ref (K.2.2 1), .int a1] t (f_X1_drop t a1) kWV := by
  refine CT_of (cc := cX1_drop) (maxL := 2) (ret := none) (own := RX1) (by decide +kernel) rfl rfl (Nat.le_of_ble_eq_true rfl) ?_
  intro p e s m args below meth c hc
  refine V_sub (lv' := [(0, .ref (K.2.2 1)), (1, .int a1)]) [0, 1] rfl ?_
  unfold f_X1_drop
  refine V_aload_n hc dX1_drop_0 rfl 0 rfl ?_
  refine V_dup hc dX1_drop_1 rfl ?_
  refine V_getl (C := RX1) (T := TX1) (N := 6) hc sP1 rfl qX1_drop_RX1 0 rfl (by decide) kX1_drop_31 rfl dX1_drop_2 ?_
  refine V_iload_n hc dX1_drop_5 rfl 1 rfl ?_
  refine V_callN_RL hc (c_X8_only l K t (a1)) 1 gX1_drop_X8_only_n45 rfl ⟨rfl, rfl⟩ (List.mem_of_getElem? (i := 1) rfl) wX1_drop_in45 wX1_drop_st45 (by decide) ⟨Nat.le_of_ble_eq_true rfl, Nat.le_of_ble_eq_true rfl⟩ rfl rfl (Nat.le_of_ble_eq_true rfl) dX1_drop_6 (fun r1 => ?_)
  refine V_ldc2 (v := -1) hc wX1_drop_c59 dX1_drop_9 ?_
  refine V_lxor hc dX1_drop_12 ?_
  refine V_land hc dX1_drop_13 ?_
  refine V_putl (C := RX1) (T := TX1) (N := 6) hc sP1 rfl qX1_drop_RX1 0 rfl (by decide) kX1_drop_31 rfl tyX1 tyX1_ok nmX1 rfl (tyX1_ok 0 (by decide)) dX1_drop_14 ?_
  refine V_bds (fun t2 => ?_)
  exact V_vret hc rfl rfl dX1_drop_17

theorem kX1_howMany_31 : Cond.fieldLink RX1 31 RX1 (TX1 0).2.1 (TX1 0).2.2.1 ∈ wsX1_howMany := by decide +kernel
theorem qX1_howMany_RX1 : ∀ w ∈ u_ws RX1 TX1 6, w ∈ wsX1_howMany := by
  first
  | exact fun _ h => List.mem_cons_of_mem _ (List.mem_append_right _ h)
  | exact fun _ h => List.mem_cons_of_mem _ (List.mem_append_left _ (List.mem_append_right _ h))
  | exact fun _ h => List.mem_cons_of_mem _ (List.mem_append_left _ (List.mem_append_left _ (List.mem_append_right _ h)))
  | exact fun _ h => List.mem_cons_of_mem _ (List.mem_append_left _ (List.mem_append_left _ (List.mem_append_left _ (List.mem_append_right _ h))))
  | exact fun _ h => List.mem_cons_of_mem _ (List.mem_append_left _ (List.mem_append_left _ (List.mem_append_left _ (List.mem_append_left _ (List.mem_append_right _ h)))))
  | decide +kernel
noncomputable def f_X1_howMany (t : Sx)  : Option Int32 := (f_J13_bitCount_95d88 t (gL t 8)).bind fun r1 => some r1
set_option maxRecDepth 20000 in
set_option maxHeartbeats 4000000 in
theorem c_X1_howMany (l : Launch) (K : Kx) (t : Sx)  : CT l K yX1_howMany wsX1_howMany ({ frames := 1, cells := 0, slots := 0, locals := 21 } : Room) [.ref (K.2.2 1)] t (f_X1_howMany t ) (kRI t) := by
  refine CT_of (cc := cX1_howMany) (maxL := 1) (ret := (some .int)) (own := RX1) (by decide +kernel) rfl rfl (Nat.le_of_ble_eq_true rfl) ?_
  intro p e s m args below meth c hc
  refine V_sub (lv' := [(0, .ref (K.2.2 1))]) [0] rfl ?_
  unfold f_X1_howMany
  refine V_aload_n hc dX1_howMany_0 rfl 0 rfl ?_
  refine V_getl (C := RX1) (T := TX1) (N := 6) hc sP1 rfl qX1_howMany_RX1 0 rfl (by decide) kX1_howMany_31 rfl dX1_howMany_1 ?_
  refine V_callS_RI hc (c_J13_bitCount_95d88 l K t (gL t 8)) 1 gX1_howMany_J13_bitCount_95d88 rfl ⟨rfl, rfl⟩ (by decide) ⟨Nat.le_of_ble_eq_true rfl, Nat.le_of_ble_eq_true rfl⟩ rfl rfl (Nat.le_of_ble_eq_true rfl) dX1_howMany_4 (fun r1 => ?_)
  exact V_iret hc rfl rfl dX1_howMany_7

theorem kX1_digest_9 : Cond.fieldLink RX1 9 RX1 (TX1 1).2.1 (TX1 1).2.2.1 ∈ wsX1_digest := by decide +kernel
theorem qX1_digest_RX1 : ∀ w ∈ u_ws RX1 TX1 6, w ∈ wsX1_digest := by
  first
  | exact fun _ h => List.mem_cons_of_mem _ (List.mem_append_right _ h)
  | exact fun _ h => List.mem_cons_of_mem _ (List.mem_append_left _ (List.mem_append_right _ h))
  | exact fun _ h => List.mem_cons_of_mem _ (List.mem_append_left _ (List.mem_append_left _ (List.mem_append_right _ h)))
  | exact fun _ h => List.mem_cons_of_mem _ (List.mem_append_left _ (List.mem_append_left _ (List.mem_append_left _ (List.mem_append_right _ h))))
  | exact fun _ h => List.mem_cons_of_mem _ (List.mem_append_left _ (List.mem_append_left _ (List.mem_append_left _ (List.mem_append_left _ (List.mem_append_right _ h)))))
  | decide +kernel
noncomputable def f_X1_digest (t : Sx) (a1 : Int32) : Option Int32 := gd (vp_in a1 40) (some (gA t 9 (ix a1)))
set_option maxRecDepth 20000 in
set_option maxHeartbeats 4000000 in
theorem c_X1_digest (l : Launch) (K : Kx) (t : Sx) (a1 : Int32) : CT l K yX1_digest wsX1_digest ({ frames := 0, cells := 0, slots := 0, locals := 0 } : Room) [.ref (K.2.2 1), .int a1] t (f_X1_digest t a1) (kRI t) := by
  refine CT_of (cc := cX1_digest) (maxL := 2) (ret := (some .int)) (own := RX1) (by decide +kernel) rfl rfl (Nat.le_of_ble_eq_true rfl) ?_
  intro p e s m args below meth c hc
  refine V_sub (lv' := [(0, .ref (K.2.2 1)), (1, .int a1)]) [0, 1] rfl ?_
  unfold f_X1_digest
  refine V_aload_n hc dX1_digest_0 rfl 0 rfl ?_
  refine V_getr (C := RX1) (T := TX1) (N := 6) hc sP1 rfl qX1_digest_RX1 1 rfl (by decide) kX1_digest_9 rfl dX1_digest_1 ?_
  refine V_iload_n hc dX1_digest_4 rfl 1 rfl ?_
  refine V_iald hc sP2 dX1_digest_5 ?_
  exact V_iret hc rfl rfl dX1_digest_6

theorem kX1_changeDigest_9 : Cond.fieldLink RX1 9 RX1 (TX1 1).2.1 (TX1 1).2.2.1 ∈ wsX1_changeDigest := by decide +kernel
theorem qX1_changeDigest_RX1 : ∀ w ∈ u_ws RX1 TX1 6, w ∈ wsX1_changeDigest := by
  first
  | exact fun _ h => List.mem_cons_of_mem _ (List.mem_append_right _ h)
  | exact fun _ h => List.mem_cons_of_mem _ (List.mem_append_left _ (List.mem_append_right _ h))
  | exact fun _ h => List.mem_cons_of_mem _ (List.mem_append_left _ (List.mem_append_left _ (List.mem_append_right _ h)))
  | exact fun _ h => List.mem_cons_of_mem _ (List.mem_append_left _ (List.mem_append_left _ (List.mem_append_left _ (List.mem_append_right _ h))))
  | exact fun _ h => List.mem_cons_of_mem _ (List.mem_append_left _ (List.mem_append_left _ (List.mem_append_left _ (List.mem_append_left _ (List.mem_append_right _ h)))))
  | decide +kernel
noncomputable def f_X1_changeDigest (t : Sx) (a1 : Int32) (a2 : Int32) : Option Sx := gd (vp_in a1 40) (bd (pA t 9 (ix a1) a2) fun t1 => some t1)
set_option maxRecDepth 20000 in
set_option maxHeartbeats 4000000 in
theorem c_X1_changeDigest (l : Launch) (K : Kx) (t : Sx) (a1 : Int32) (a2 : Int32) : CT l K yX1_changeDigest wsX1_changeDigest ({ frames := 0, cells := 0, slots := 0, locals := 0 } : Room) [.ref (K.2.2 1), .int a1, .int a2] t (f_X1_changeDigest t a1 a2) kWV := by
  refine CT_of (cc := cX1_changeDigest) (maxL := 3) (ret := none) (own := RX1) (by decide +kernel) rfl rfl (Nat.le_of_ble_eq_true rfl) ?_
  intro p e s m args below meth c hc
  refine V_sub (lv' := [(0, .ref (K.2.2 1)), (1, .int a1), (2, .int a2)]) [0, 1, 2] rfl ?_
  unfold f_X1_changeDigest
  refine V_aload_n hc dX1_changeDigest_0 rfl 0 rfl ?_
  refine V_getr (C := RX1) (T := TX1) (N := 6) hc sP1 rfl qX1_changeDigest_RX1 1 rfl (by decide) kX1_changeDigest_9 rfl dX1_changeDigest_1 ?_
  refine V_iload_n hc dX1_changeDigest_4 rfl 1 rfl ?_
  refine V_iload_n hc dX1_changeDigest_5 rfl 2 rfl ?_
  refine V_iast hc sP2 dX1_changeDigest_6 ?_
  refine V_bds (fun t1 => ?_)
  exact V_vret hc rfl rfl dX1_changeDigest_7

theorem kX1_tell_18 : Cond.fieldLink RX1 18 RX1 (TX1 3).2.1 (TX1 3).2.2.1 ∈ wsX1_tell := by decide +kernel
theorem qX1_tell_RX1 : ∀ w ∈ u_ws RX1 TX1 6, w ∈ wsX1_tell := by
  first
  | exact fun _ h => List.mem_cons_of_mem _ (List.mem_append_right _ h)
  | exact fun _ h => List.mem_cons_of_mem _ (List.mem_append_left _ (List.mem_append_right _ h))
  | exact fun _ h => List.mem_cons_of_mem _ (List.mem_append_left _ (List.mem_append_left _ (List.mem_append_right _ h)))
  | exact fun _ h => List.mem_cons_of_mem _ (List.mem_append_left _ (List.mem_append_left _ (List.mem_append_left _ (List.mem_append_right _ h))))
  | exact fun _ h => List.mem_cons_of_mem _ (List.mem_append_left _ (List.mem_append_left _ (List.mem_append_left _ (List.mem_append_left _ (List.mem_append_right _ h)))))
  | decide +kernel
noncomputable def f_X1_tell (t : Sx) (a1 : Int32) (a2 : Int32) (a3 : Int32) (a4 : Int32) : Option Sx := (f_X1_slot t (a1) (a2) (a3)).bind fun r1 => gd (vp_in r1 720) (bd (pA t 11 (ix r1) a4) fun t2 => some t2)
set_option maxRecDepth 20000 in
set_option maxHeartbeats 4000000 in
theorem c_X1_tell (l : Launch) (K : Kx) (t : Sx) (a1 : Int32) (a2 : Int32) (a3 : Int32) (a4 : Int32) : CT l K yX1_tell wsX1_tell ({ frames := 1, cells := 0, slots := 0, locals := 22 } : Room) [.ref (K.2.2 1), .int a1, .int a2, .int a3, .int a4] t (f_X1_tell t a1 a2 a3 a4) kWV := by
  refine CT_of (cc := cX1_tell) (maxL := 5) (ret := none) (own := RX1) (by decide +kernel) rfl rfl (Nat.le_of_ble_eq_true rfl) ?_
  intro p e s m args below meth c hc
  refine V_sub (lv' := [(0, .ref (K.2.2 1)), (1, .int a1), (2, .int a2), (3, .int a3), (4, .int a4)]) [0, 1, 2, 3, 4] rfl ?_
  unfold f_X1_tell
  refine V_aload_n hc dX1_tell_0 rfl 0 rfl ?_
  refine V_getr (C := RX1) (T := TX1) (N := 6) hc sP1 rfl qX1_tell_RX1 3 rfl (by decide) kX1_tell_18 rfl dX1_tell_1 ?_
  refine V_iload_n hc dX1_tell_4 rfl 1 rfl ?_
  refine V_iload_n hc dX1_tell_5 rfl 2 rfl ?_
  refine V_iload_n hc dX1_tell_6 rfl 3 rfl ?_
  refine V_callS_RI hc (c_X1_slot l K t (a1) (a2) (a3)) 3 gX1_tell_X1_slot rfl ⟨rfl, rfl⟩ (by decide) ⟨Nat.le_of_ble_eq_true rfl, Nat.le_of_ble_eq_true rfl⟩ rfl rfl (Nat.le_of_ble_eq_true rfl) dX1_tell_7 (fun r1 => ?_)
  refine V_iload hc dX1_tell_10 4 rfl ?_
  refine V_iast hc sP4 dX1_tell_12 ?_
  refine V_bds (fun t2 => ?_)
  exact V_vret hc rfl rfl dX1_tell_13

theorem kX1_bytes_15 : Cond.fieldLink RX1 15 RX1 (TX1 2).2.1 (TX1 2).2.2.1 ∈ wsX1_bytes := by decide +kernel
theorem qX1_bytes_RX1 : ∀ w ∈ u_ws RX1 TX1 6, w ∈ wsX1_bytes := by
  first
  | exact fun _ h => List.mem_cons_of_mem _ (List.mem_append_right _ h)
  | exact fun _ h => List.mem_cons_of_mem _ (List.mem_append_left _ (List.mem_append_right _ h))
  | exact fun _ h => List.mem_cons_of_mem _ (List.mem_append_left _ (List.mem_append_left _ (List.mem_append_right _ h)))
  | exact fun _ h => List.mem_cons_of_mem _ (List.mem_append_left _ (List.mem_append_left _ (List.mem_append_left _ (List.mem_append_right _ h))))
  | exact fun _ h => List.mem_cons_of_mem _ (List.mem_append_left _ (List.mem_append_left _ (List.mem_append_left _ (List.mem_append_left _ (List.mem_append_right _ h)))))
  | decide +kernel
noncomputable def f_X1_bytes (t : Sx) (a1 : Int32) : Option Int32 := gd (vp_in a1 40) (some (gA t 10 (ix a1)))
set_option maxRecDepth 20000 in
set_option maxHeartbeats 4000000 in
theorem c_X1_bytes (l : Launch) (K : Kx) (t : Sx) (a1 : Int32) : CT l K yX1_bytes wsX1_bytes ({ frames := 0, cells := 0, slots := 0, locals := 0 } : Room) [.ref (K.2.2 1), .int a1] t (f_X1_bytes t a1) (kRI t) := by
  refine CT_of (cc := cX1_bytes) (maxL := 2) (ret := (some .int)) (own := RX1) (by decide +kernel) rfl rfl (Nat.le_of_ble_eq_true rfl) ?_
  intro p e s m args below meth c hc
  refine V_sub (lv' := [(0, .ref (K.2.2 1)), (1, .int a1)]) [0, 1] rfl ?_
  unfold f_X1_bytes
  refine V_aload_n hc dX1_bytes_0 rfl 0 rfl ?_
  refine V_getr (C := RX1) (T := TX1) (N := 6) hc sP1 rfl qX1_bytes_RX1 2 rfl (by decide) kX1_bytes_15 rfl dX1_bytes_1 ?_
  refine V_iload_n hc dX1_bytes_4 rfl 1 rfl ?_
  refine V_iald hc sP3 dX1_bytes_5 ?_
  exact V_iret hc rfl rfl dX1_bytes_6

theorem kX1_orderCode_24 : Cond.fieldLink RX1 24 RX1 (TX1 5).2.1 (TX1 5).2.2.1 ∈ wsX1_orderCode := by decide +kernel
theorem qX1_orderCode_RX1 : ∀ w ∈ u_ws RX1 TX1 6, w ∈ wsX1_orderCode := by
  first
  | exact fun _ h => List.mem_cons_of_mem _ (List.mem_append_right _ h)
  | exact fun _ h => List.mem_cons_of_mem _ (List.mem_append_left _ (List.mem_append_right _ h))
  | exact fun _ h => List.mem_cons_of_mem _ (List.mem_append_left _ (List.mem_append_left _ (List.mem_append_right _ h)))
  | exact fun _ h => List.mem_cons_of_mem _ (List.mem_append_left _ (List.mem_append_left _ (List.mem_append_left _ (List.mem_append_right _ h))))
  | exact fun _ h => List.mem_cons_of_mem _ (List.mem_append_left _ (List.mem_append_left _ (List.mem_append_left _ (List.mem_append_left _ (List.mem_append_right _ h)))))
  | decide +kernel
noncomputable def f_X1_orderCode (t : Sx)  : Option Int32 := gd (vp_in 0 3) (gd (vp_in 1 3) (bd (((100 * (gA t 13 (ix 0))) + (10 * (gA t 13 (ix 1))))) fun v1 => gd (vp_in 2 3) (some (v1 + (gA t 13 (ix 2))))))
set_option maxRecDepth 20000 in
set_option maxHeartbeats 4000000 in
theorem c_X1_orderCode (l : Launch) (K : Kx) (t : Sx)  : CT l K yX1_orderCode wsX1_orderCode ({ frames := 0, cells := 0, slots := 0, locals := 0 } : Room) [.ref (K.2.2 1)] t (f_X1_orderCode t ) (kRI t) := by
  refine CT_of (cc := cX1_orderCode) (maxL := 1) (ret := (some .int)) (own := RX1) (by decide +kernel) rfl rfl (Nat.le_of_ble_eq_true rfl) ?_
  intro p e s m args below meth c hc
  refine V_sub (lv' := [(0, .ref (K.2.2 1))]) [0] rfl ?_
  unfold f_X1_orderCode
  refine V_bipush (v := 100) hc dX1_orderCode_0 (by decide) ?_
  refine V_aload_n hc dX1_orderCode_2 rfl 0 rfl ?_
  refine V_getr (C := RX1) (T := TX1) (N := 6) hc sP1 rfl qX1_orderCode_RX1 5 rfl (by decide) kX1_orderCode_24 rfl dX1_orderCode_3 ?_
  refine V_iconst (v := 0) hc dX1_orderCode_6 (by decide) ?_
  refine V_iald hc sP6 dX1_orderCode_7 ?_
  refine V_imul hc dX1_orderCode_8 ?_
  refine V_bipush (v := 10) hc dX1_orderCode_9 (by decide) ?_
  refine V_aload_n hc dX1_orderCode_11 rfl 0 rfl ?_
  refine V_getr (C := RX1) (T := TX1) (N := 6) hc sP1 rfl qX1_orderCode_RX1 5 rfl (by decide) kX1_orderCode_24 rfl dX1_orderCode_12 ?_
  refine V_iconst (v := 1) hc dX1_orderCode_15 (by decide) ?_
  refine V_iald hc sP6 dX1_orderCode_16 ?_
  refine V_imul hc dX1_orderCode_17 ?_
  refine V_iadd hc dX1_orderCode_18 ?_
  refine V_bdi (fun v1 => ?_)
  refine V_aload_n hc dX1_orderCode_19 rfl 0 rfl ?_
  refine V_getr (C := RX1) (T := TX1) (N := 6) hc sP1 rfl qX1_orderCode_RX1 5 rfl (by decide) kX1_orderCode_24 rfl dX1_orderCode_20 ?_
  refine V_iconst (v := 2) hc dX1_orderCode_23 (by decide) ?_
  refine V_iald hc sP6 dX1_orderCode_24 ?_
  refine V_iadd hc dX1_orderCode_25 ?_
  exact V_iret hc rfl rfl dX1_orderCode_26

theorem kX1_reorder_24 : Cond.fieldLink RX1 24 RX1 (TX1 5).2.1 (TX1 5).2.2.1 ∈ wsX1_reorder := by decide +kernel
theorem qX1_reorder_RX1 : ∀ w ∈ u_ws RX1 TX1 6, w ∈ wsX1_reorder := by
  first
  | exact fun _ h => List.mem_cons_of_mem _ (List.mem_append_right _ h)
  | exact fun _ h => List.mem_cons_of_mem _ (List.mem_append_left _ (List.mem_append_right _ h))
  | exact fun _ h => List.mem_cons_of_mem _ (List.mem_append_left _ (List.mem_append_left _ (List.mem_append_right _ h)))
  | exact fun _ h => List.mem_cons_of_mem _ (List.mem_append_left _ (List.mem_append_left _ (List.mem_append_left _ (List.mem_append_right _ h))))
  | exact fun _ h => List.mem_cons_of_mem _ (List.mem_append_left _ (List.mem_append_left _ (List.mem_append_left _ (List.mem_append_left _ (List.mem_append_right _ h)))))
  | decide +kernel
noncomputable def f_X1_reorder (t : Sx) (a1 : Int32) (a2 : Int32) (a3 : Int32) : Option Sx := gd (vp_in 0 3) (bd (pA t 13 (ix 0) a1) fun t1 => gd (vp_in 1 3) (bd (pA t1 13 (ix 1) a2) fun t2 => gd (vp_in 2 3) (bd (pA t2 13 (ix 2) a3) fun t3 => some t3)))
set_option maxRecDepth 20000 in
set_option maxHeartbeats 4000000 in
theorem c_X1_reorder (l : Launch) (K : Kx) (t : Sx) (a1 : Int32) (a2 : Int32) (a3 : Int32) : CT l K yX1_reorder wsX1_reorder ({ frames := 0, cells := 0, slots := 0, locals := 0 } : Room) [.ref (K.2.2 1), .int a1, .int a2, .int a3] t (f_X1_reorder t a1 a2 a3) kWV := by
  refine CT_of (cc := cX1_reorder) (maxL := 4) (ret := none) (own := RX1) (by decide +kernel) rfl rfl (Nat.le_of_ble_eq_true rfl) ?_
  intro p e s m args below meth c hc
  refine V_sub (lv' := [(0, .ref (K.2.2 1)), (1, .int a1), (2, .int a2), (3, .int a3)]) [0, 1, 2, 3] rfl ?_
  unfold f_X1_reorder
  refine V_aload_n hc dX1_reorder_0 rfl 0 rfl ?_
  refine V_getr (C := RX1) (T := TX1) (N := 6) hc sP1 rfl qX1_reorder_RX1 5 rfl (by decide) kX1_reorder_24 rfl dX1_reorder_1 ?_
  refine V_iconst (v := 0) hc dX1_reorder_4 (by decide) ?_
  refine V_iload_n hc dX1_reorder_5 rfl 1 rfl ?_
  refine V_iast hc sP6 dX1_reorder_6 ?_
  refine V_bds (fun t1 => ?_)
  refine V_aload_n hc dX1_reorder_7 rfl 0 rfl ?_
  refine V_getr (C := RX1) (T := TX1) (N := 6) hc sP1 rfl qX1_reorder_RX1 5 rfl (by decide) kX1_reorder_24 rfl dX1_reorder_8 ?_
  refine V_iconst (v := 1) hc dX1_reorder_11 (by decide) ?_
  refine V_iload_n hc dX1_reorder_12 rfl 2 rfl ?_
  refine V_iast hc sP6 dX1_reorder_13 ?_
  refine V_bds (fun t2 => ?_)
  refine V_aload_n hc dX1_reorder_14 rfl 0 rfl ?_
  refine V_getr (C := RX1) (T := TX1) (N := 6) hc sP1 rfl qX1_reorder_RX1 5 rfl (by decide) kX1_reorder_24 rfl dX1_reorder_15 ?_
  refine V_iconst (v := 2) hc dX1_reorder_18 (by decide) ?_
  refine V_iload_n hc dX1_reorder_19 rfl 3 rfl ?_
  refine V_iast hc sP6 dX1_reorder_20 ?_
  refine V_bds (fun t3 => ?_)
  exact V_vret hc rfl rfl dX1_reorder_21

theorem wX1_sumOfSizes_in35 : Cond.initialized yX8_holds.cls ∈ wsX1_sumOfSizes := by decide +kernel
theorem wX1_sumOfSizes_st35 : Cond.static yX8_holds ∈ wsX1_sumOfSizes := by decide +kernel
theorem kX1_sumOfSizes_15 : Cond.fieldLink RX1 15 RX1 (TX1 2).2.1 (TX1 2).2.2.1 ∈ wsX1_sumOfSizes := by decide +kernel
theorem qX1_sumOfSizes_RX1 : ∀ w ∈ u_ws RX1 TX1 6, w ∈ wsX1_sumOfSizes := by
  first
  | exact fun _ h => List.mem_cons_of_mem _ (List.mem_append_right _ h)
  | exact fun _ h => List.mem_cons_of_mem _ (List.mem_append_left _ (List.mem_append_right _ h))
  | exact fun _ h => List.mem_cons_of_mem _ (List.mem_append_left _ (List.mem_append_left _ (List.mem_append_right _ h)))
  | exact fun _ h => List.mem_cons_of_mem _ (List.mem_append_left _ (List.mem_append_left _ (List.mem_append_left _ (List.mem_append_right _ h))))
  | exact fun _ h => List.mem_cons_of_mem _ (List.mem_append_left _ (List.mem_append_left _ (List.mem_append_left _ (List.mem_append_left _ (List.mem_append_right _ h)))))
  | decide +kernel
noncomputable def L_X1_sumOfSizes_5 (t0 : Sx) (b1 : Int64) (kont : Int32 → Int32 → Option Int32) : Nat → Int32 → Int32 → Option Int32
  | 0, _, _ => none
  | n + 1, x3 , x4 => if 40 ≤ x4 then kont (x3) (x4) else (f_X8_holds t0 (b1) (x4)).bind fun r1 => if r1 = 0 then L_X1_sumOfSizes_5 t0 b1 kont n (x3) ((x4 + 1)) else gd (vp_in x4 40) (L_X1_sumOfSizes_5 t0 b1 kont n ((x3 + (gA t0 10 (ix x4)))) ((x4 + 1)))
set_option maxRecDepth 20000 in
set_option maxHeartbeats 4000000 in
theorem L_X1_sumOfSizes_5_ok {p : Program} {l : Launch} {K : Kx} {e : Env} {s : State} {m : MethodId} {args : Array Value} {below : List Frame} {meth : Method} {c : Code} (hc : Cx p ({ frames := 1, cells := 0, slots := 0, locals := 22 } : Room) s m args meth c cX1_sumOfSizes 5 wsX1_sumOfSizes RX1 K (aA K s.heap.size) (some .int) 0 0) (t0 : Sx) (b1 : Int64) (kont : Int32 → Int32 → Option Int32) (hk : ∀ x3 x4, V p l e ({ frames := 1, cells := 0, slots := 0, locals := 22 } : Room) s m args below meth c K (aA K s.heap.size) 0 0 5 (QM below K args s (kRI t0)) 37 [(0, .ref (K.2.2 1)), (1, .long b1), (3, .int x3), (4, .int x4)] [] t0 (kont x3 x4)) : ∀ (n : Nat) (x3 : Int32) (x4 : Int32), V p l e ({ frames := 1, cells := 0, slots := 0, locals := 22 } : Room) s m args below meth c K (aA K s.heap.size) 0 0 5 (QM below K args s (kRI t0)) 5 [(0, .ref (K.2.2 1)), (1, .long b1), (3, .int x3), (4, .int x4)] [] t0 (L_X1_sumOfSizes_5 t0 b1 kont n x3 x4) := by
  intro n
  induction n with
  | zero => intro x3 x4; exact V_none
  | succ n ih =>
    intro x3 x4
    rw [L_X1_sumOfSizes_5]
    refine V_iload hc dX1_sumOfSizes_5 3 rfl ?_
    refine V_bipush (v := 40) hc dX1_sumOfSizes_7 (by decide) ?_
    refine V_icmp_ge (tgt := 37) hc dX1_sumOfSizes_9 (by decide) ?_ ?_
    · exact V_sub [0, 1, 2, 3] rfl (hk _ _)
    · refine V_lload_n hc dX1_sumOfSizes_12 rfl 1 rfl ?_
      refine V_iload hc dX1_sumOfSizes_13 3 rfl ?_
      refine V_callN_RI hc (c_X8_holds l K t0 (b1) (x4)) 2 gX1_sumOfSizes_X8_holds_n35 rfl ⟨rfl, rfl⟩ (List.mem_of_getElem? (i := 0) rfl) wX1_sumOfSizes_in35 wX1_sumOfSizes_st35 (by decide) ⟨Nat.le_of_ble_eq_true rfl, Nat.le_of_ble_eq_true rfl⟩ rfl rfl (Nat.le_of_ble_eq_true rfl) dX1_sumOfSizes_15 (fun r1 => ?_)
      refine V_if_eq (tgt := 31) hc dX1_sumOfSizes_18 (by decide) ?_ ?_
      · refine V_iinc (v := (x4 + 1)) (lv' := [(4, .int (x4 + 1)), (0, .ref (K.2.2 1)), (1, .long b1), (3, .int x3)]) hc dX1_sumOfSizes_31 3 rfl rfl (by decide) rfl ?_
        refine V_goto (tgt := 5) hc dX1_sumOfSizes_34 (by decide) ?_
        exact V_sub [1, 2, 3, 0] rfl (ih _ _)
      · refine V_iload_n hc dX1_sumOfSizes_21 rfl 2 rfl ?_
        refine V_aload_n hc dX1_sumOfSizes_22 rfl 0 rfl ?_
        refine V_getr (C := RX1) (T := TX1) (N := 6) hc sP1 rfl qX1_sumOfSizes_RX1 2 rfl (by decide) kX1_sumOfSizes_15 rfl dX1_sumOfSizes_23 ?_
        refine V_iload hc dX1_sumOfSizes_26 3 rfl ?_
        refine V_iald hc sP3 dX1_sumOfSizes_28 ?_
        refine V_iadd hc dX1_sumOfSizes_29 ?_
        refine V_istore_n (lv' := [(3, .int (x3 + (gA t0 10 (ix x4)))), (0, .ref (K.2.2 1)), (1, .long b1), (4, .int x4)]) hc dX1_sumOfSizes_30 rfl (by decide) rfl ?_
        refine V_iinc (v := (x4 + 1)) (lv' := [(4, .int (x4 + 1)), (3, .int (x3 + (gA t0 10 (ix x4)))), (0, .ref (K.2.2 1)), (1, .long b1)]) hc dX1_sumOfSizes_31 3 rfl rfl (by decide) rfl ?_
        refine V_goto (tgt := 5) hc dX1_sumOfSizes_34 (by decide) ?_
        exact V_sub [2, 3, 1, 0] rfl (ih _ _)
noncomputable def f_X1_sumOfSizes (t : Sx) (a1 : Int64) : Option Int32 := L_X1_sumOfSizes_5 t (a1) (fun z2 z3 => some z2) FU (0) (0)
set_option maxRecDepth 20000 in
set_option maxHeartbeats 4000000 in
theorem c_X1_sumOfSizes (l : Launch) (K : Kx) (t : Sx) (a1 : Int64) : CT l K yX1_sumOfSizes wsX1_sumOfSizes ({ frames := 1, cells := 0, slots := 0, locals := 22 } : Room) [.ref (K.2.2 1), .long a1] t (f_X1_sumOfSizes t a1) (kRI t) := by
  refine CT_of (cc := cX1_sumOfSizes) (maxL := 5) (ret := (some .int)) (own := RX1) (by decide +kernel) rfl rfl (Nat.le_of_ble_eq_true rfl) ?_
  intro p e s m args below meth c hc
  refine V_sub (lv' := [(0, .ref (K.2.2 1)), (1, .long a1)]) [0, 1] rfl ?_
  unfold f_X1_sumOfSizes
  refine V_iconst (v := 0) hc dX1_sumOfSizes_0 (by decide) ?_
  refine V_istore_n (lv' := [(3, .int 0), (0, .ref (K.2.2 1)), (1, .long a1)]) hc dX1_sumOfSizes_1 rfl (by decide) rfl ?_
  refine V_iconst (v := 0) hc dX1_sumOfSizes_2 (by decide) ?_
  refine V_istore (lv' := [(4, .int 0), (3, .int 0), (0, .ref (K.2.2 1)), (1, .long a1)]) hc dX1_sumOfSizes_3 (by decide) rfl ?_
  refine V_sub (lv' := [(0, .ref (K.2.2 1)), (1, .long a1), (3, .int 0), (4, .int 0)]) [2, 3, 1, 0] rfl ?_
  refine L_X1_sumOfSizes_5_ok hc t (a1) _ (fun z2 z3 => ?_) FU _ _
  refine V_iload_n hc dX1_sumOfSizes_37 rfl 2 rfl ?_
  exact V_iret hc rfl rfl dX1_sumOfSizes_38


noncomputable def f_X1_union (t : Sx) (a0 : Int32) (a1 : Int32) : Option Int32 := if a0 = (-1) then some a1 else if a1 = (-1) then some a0 else some (a0 ||| a1)
set_option maxRecDepth 20000 in
set_option maxHeartbeats 4000000 in
theorem c_X1_union (l : Launch) (K : Kx) (t : Sx) (a0 : Int32) (a1 : Int32) : CT l K yX1_union wsX1_union ({ frames := 0, cells := 0, slots := 0, locals := 0 } : Room) [.int a0, .int a1] t (f_X1_union t a0 a1) (kRI t) := by
  refine CT_of (cc := cX1_union) (maxL := 2) (ret := (some .int)) (own := RX1) (by decide +kernel) rfl rfl (Nat.le_of_ble_eq_true rfl) ?_
  intro p e s m args below meth c hc
  refine V_sub (lv' := [(0, .int a0), (1, .int a1)]) [0, 1] rfl ?_
  unfold f_X1_union
  refine V_iload_n hc dX1_union_0 rfl 0 rfl ?_
  refine V_iconst (v := (-1)) hc dX1_union_1 (by decide) ?_
  refine V_icmp_ne (tgt := 7) hc dX1_union_2 (by decide) ?_ ?_
  · refine V_iload_n hc dX1_union_7 rfl 1 rfl ?_
    refine V_iconst (v := (-1)) hc dX1_union_8 (by decide) ?_
    refine V_icmp_ne (tgt := 16) hc dX1_union_9 (by decide) ?_ ?_
    · refine V_iload_n hc dX1_union_16 rfl 0 rfl ?_
      refine V_iload_n hc dX1_union_17 rfl 1 rfl ?_
      refine V_ior hc dX1_union_18 ?_
      exact V_iret hc rfl rfl dX1_union_19
    · refine V_iload_n hc dX1_union_12 rfl 0 rfl ?_
      refine V_goto (tgt := 19) hc dX1_union_13 (by decide) ?_
      exact V_iret hc rfl rfl dX1_union_19
  · refine V_iload_n hc dX1_union_5 rfl 1 rfl ?_
    exact V_iret hc rfl rfl dX1_union_6


noncomputable def L_X1_absorbOne_10 (b1 : Int32) (b2 : Int32) (b3 : Int32) (kont : Int32 → Sx → Option Sx) : Nat → Int32 → Sx → Option Sx
  | 0, _, _ => none
  | n + 1, x4, y => if 4 < x4 then kont (x4) (y) else (f_X1_told y (b1) (b3) (x4)).bind fun r1 => if r1 = (-1) then (f_X1_told y (b2) (b3) (x4)).bind fun r2 => (f_X1_tell y (b1) (b3) (x4) (r2)).bind fun r3 => L_X1_absorbOne_10 b1 b2 b3 kont n ((x4 + 1)) (r3) else L_X1_absorbOne_10 b1 b2 b3 kont n ((x4 + 1)) (y)
set_option maxRecDepth 20000 in
set_option maxHeartbeats 4000000 in
theorem L_X1_absorbOne_10_ok {p : Program} {l : Launch} {K : Kx} {e : Env} {s : State} {m : MethodId} {args : Array Value} {below : List Frame} {meth : Method} {c : Code} (hc : Cx p ({ frames := 2, cells := 0, slots := 0, locals := 46 } : Room) s m args meth c cX1_absorbOne 5 wsX1_absorbOne RX1 K (aA K s.heap.size) none 0 0) (b1 : Int32) (b2 : Int32) (b3 : Int32) (kont : Int32 → Sx → Option Sx) (hk : ∀ x4 y, V p l e ({ frames := 2, cells := 0, slots := 0, locals := 46 } : Room) s m args below meth c K (aA K s.heap.size) 0 0 5 (QM below K args s kWV) 50 [(0, .ref (K.2.2 1)), (1, .int b1), (2, .int b2), (3, .int b3), (4, .int x4)] [] y (kont x4 y)) : ∀ (n : Nat) (x4 : Int32) (y : Sx), V p l e ({ frames := 2, cells := 0, slots := 0, locals := 46 } : Room) s m args below meth c K (aA K s.heap.size) 0 0 5 (QM below K args s kWV) 10 [(0, .ref (K.2.2 1)), (1, .int b1), (2, .int b2), (3, .int b3), (4, .int x4)] [] y (L_X1_absorbOne_10 b1 b2 b3 kont n x4 y) := by
  intro n
  induction n with
  | zero => intro x4 y; exact V_none
  | succ n ih =>
    intro x4 y
    rw [L_X1_absorbOne_10]
    refine V_iload hc dX1_absorbOne_10 4 rfl ?_
    refine V_iconst (v := 4) hc dX1_absorbOne_12 (by decide) ?_
    refine V_icmp_gt (tgt := 50) hc dX1_absorbOne_13 (by decide) ?_ ?_
    · exact V_sub [0, 1, 2, 3, 4] rfl (hk _ _)
    · refine V_aload_n hc dX1_absorbOne_16 rfl 0 rfl ?_
      refine V_iload_n hc dX1_absorbOne_17 rfl 1 rfl ?_
      refine V_iload_n hc dX1_absorbOne_18 rfl 3 rfl ?_
      refine V_iload hc dX1_absorbOne_19 4 rfl ?_
      refine V_callV_RI (Cn := RX1) (T := TX1) (N := 6) hc (c_X1_told l K y (b1) (b3) (x4)) sP1 rfl 3 gX1_absorbOne_X1_told rfl ⟨rfl, rfl⟩ (by decide) ⟨Nat.le_of_ble_eq_true rfl, Nat.le_of_ble_eq_true rfl⟩ rfl rfl (Nat.le_of_ble_eq_true rfl) dX1_absorbOne_21 (fun r1 => ?_)
      refine V_iconst (v := (-1)) hc dX1_absorbOne_24 (by decide) ?_
      refine V_icmp_ne (tgt := 44) hc dX1_absorbOne_25 (by decide) ?_ ?_
      · refine V_iinc (v := (x4 + 1)) (lv' := [(4, .int (x4 + 1)), (0, .ref (K.2.2 1)), (1, .int b1), (2, .int b2), (3, .int b3)]) hc dX1_absorbOne_44 4 rfl rfl (by decide) rfl ?_
        refine V_goto (tgt := 10) hc dX1_absorbOne_47 (by decide) ?_
        exact V_sub [1, 2, 3, 4, 0] rfl (ih _ _)
      · refine V_aload_n hc dX1_absorbOne_28 rfl 0 rfl ?_
        refine V_iload_n hc dX1_absorbOne_29 rfl 1 rfl ?_
        refine V_iload_n hc dX1_absorbOne_30 rfl 3 rfl ?_
        refine V_iload hc dX1_absorbOne_31 4 rfl ?_
        refine V_aload_n hc dX1_absorbOne_33 rfl 0 rfl ?_
        refine V_iload_n hc dX1_absorbOne_34 rfl 2 rfl ?_
        refine V_iload_n hc dX1_absorbOne_35 rfl 3 rfl ?_
        refine V_iload hc dX1_absorbOne_36 4 rfl ?_
        refine V_callV_RI (Cn := RX1) (T := TX1) (N := 6) hc (c_X1_told l K y (b2) (b3) (x4)) sP1 rfl 3 gX1_absorbOne_X1_told rfl ⟨rfl, rfl⟩ (by decide) ⟨Nat.le_of_ble_eq_true rfl, Nat.le_of_ble_eq_true rfl⟩ rfl rfl (Nat.le_of_ble_eq_true rfl) dX1_absorbOne_38 (fun r2 => ?_)
        refine V_callV_WV (Cn := RX1) (T := TX1) (N := 6) hc (c_X1_tell l K y (b1) (b3) (x4) (r2)) sP1 rfl 4 gX1_absorbOne_X1_tell rfl ⟨rfl, rfl⟩ (by decide) ⟨Nat.le_of_ble_eq_true rfl, Nat.le_of_ble_eq_true rfl⟩ rfl rfl (Nat.le_of_ble_eq_true rfl) dX1_absorbOne_41 (fun r3 => ?_)
        refine V_iinc (v := (x4 + 1)) (lv' := [(4, .int (x4 + 1)), (0, .ref (K.2.2 1)), (1, .int b1), (2, .int b2), (3, .int b3)]) hc dX1_absorbOne_44 4 rfl rfl (by decide) rfl ?_
        refine V_goto (tgt := 10) hc dX1_absorbOne_47 (by decide) ?_
        exact V_sub [1, 2, 3, 4, 0] rfl (ih _ _)
noncomputable def L_X1_absorbOne_2 (b1 : Int32) (b2 : Int32) (kont : Int32 → Sx → Option Sx) : Nat → Int32 → Sx → Option Sx
  | 0, _, _ => none
  | n + 1, x3, y => if 3 ≤ x3 then kont (x3) (y) else L_X1_absorbOne_10 (b1) (b2) (x3) (fun z4 t5 => (f_X1_told t5 (b1) (x3) (5)).bind fun r6 => (f_X1_told t5 (b2) (x3) (5)).bind fun r7 => (f_X1_union t5 (r6) (r7)).bind fun r8 => (f_X1_tell t5 (b1) (x3) (5) (r8)).bind fun r9 => L_X1_absorbOne_2 b1 b2 kont n ((x3 + 1)) (r9)) FU (0) (y)
set_option maxRecDepth 20000 in
set_option maxHeartbeats 4000000 in
theorem L_X1_absorbOne_2_ok {p : Program} {l : Launch} {K : Kx} {e : Env} {s : State} {m : MethodId} {args : Array Value} {below : List Frame} {meth : Method} {c : Code} (hc : Cx p ({ frames := 2, cells := 0, slots := 0, locals := 46 } : Room) s m args meth c cX1_absorbOne 5 wsX1_absorbOne RX1 K (aA K s.heap.size) none 0 0) (b1 : Int32) (b2 : Int32) (kont : Int32 → Sx → Option Sx) (hk : ∀ x3 y, V p l e ({ frames := 2, cells := 0, slots := 0, locals := 46 } : Room) s m args below meth c K (aA K s.heap.size) 0 0 5 (QM below K args s kWV) 80 [(0, .ref (K.2.2 1)), (1, .int b1), (2, .int b2), (3, .int x3)] [] y (kont x3 y)) : ∀ (n : Nat) (x3 : Int32) (y : Sx), V p l e ({ frames := 2, cells := 0, slots := 0, locals := 46 } : Room) s m args below meth c K (aA K s.heap.size) 0 0 5 (QM below K args s kWV) 2 [(0, .ref (K.2.2 1)), (1, .int b1), (2, .int b2), (3, .int x3)] [] y (L_X1_absorbOne_2 b1 b2 kont n x3 y) := by
  intro n
  induction n with
  | zero => intro x3 y; exact V_none
  | succ n ih =>
    intro x3 y
    rw [L_X1_absorbOne_2]
    refine V_iload_n hc dX1_absorbOne_2 rfl 3 rfl ?_
    refine V_iconst (v := 3) hc dX1_absorbOne_3 (by decide) ?_
    refine V_icmp_ge (tgt := 80) hc dX1_absorbOne_4 (by decide) ?_ ?_
    · exact V_sub [0, 1, 2, 3] rfl (hk _ _)
    · refine V_iconst (v := 0) hc dX1_absorbOne_7 (by decide) ?_
      refine V_istore (lv' := [(4, .int 0), (0, .ref (K.2.2 1)), (1, .int b1), (2, .int b2), (3, .int x3)]) hc dX1_absorbOne_8 (by decide) rfl ?_
      refine V_sub (lv' := [(0, .ref (K.2.2 1)), (1, .int b1), (2, .int b2), (3, .int x3), (4, .int 0)]) [1, 2, 3, 4, 0] rfl ?_
      refine L_X1_absorbOne_10_ok hc (b1) (b2) (x3) _ (fun z4 t5 => ?_) FU _ _
      refine V_aload_n hc dX1_absorbOne_50 rfl 0 rfl ?_
      refine V_iload_n hc dX1_absorbOne_51 rfl 1 rfl ?_
      refine V_iload_n hc dX1_absorbOne_52 rfl 3 rfl ?_
      refine V_iconst (v := 5) hc dX1_absorbOne_53 (by decide) ?_
      refine V_aload_n hc dX1_absorbOne_54 rfl 0 rfl ?_
      refine V_iload_n hc dX1_absorbOne_55 rfl 1 rfl ?_
      refine V_iload_n hc dX1_absorbOne_56 rfl 3 rfl ?_
      refine V_iconst (v := 5) hc dX1_absorbOne_57 (by decide) ?_
      refine V_callV_RI (Cn := RX1) (T := TX1) (N := 6) hc (c_X1_told l K t5 (b1) (x3) (5)) sP1 rfl 3 gX1_absorbOne_X1_told rfl ⟨rfl, rfl⟩ (by decide) ⟨Nat.le_of_ble_eq_true rfl, Nat.le_of_ble_eq_true rfl⟩ rfl rfl (Nat.le_of_ble_eq_true rfl) dX1_absorbOne_58 (fun r6 => ?_)
      refine V_aload_n hc dX1_absorbOne_61 rfl 0 rfl ?_
      refine V_iload_n hc dX1_absorbOne_62 rfl 2 rfl ?_
      refine V_iload_n hc dX1_absorbOne_63 rfl 3 rfl ?_
      refine V_iconst (v := 5) hc dX1_absorbOne_64 (by decide) ?_
      refine V_callV_RI (Cn := RX1) (T := TX1) (N := 6) hc (c_X1_told l K t5 (b2) (x3) (5)) sP1 rfl 3 gX1_absorbOne_X1_told rfl ⟨rfl, rfl⟩ (by decide) ⟨Nat.le_of_ble_eq_true rfl, Nat.le_of_ble_eq_true rfl⟩ rfl rfl (Nat.le_of_ble_eq_true rfl) dX1_absorbOne_65 (fun r7 => ?_)
      refine V_callS_RI hc (c_X1_union l K t5 (r6) (r7)) 2 gX1_absorbOne_X1_union rfl ⟨rfl, rfl⟩ (by decide) ⟨Nat.le_of_ble_eq_true rfl, Nat.le_of_ble_eq_true rfl⟩ rfl rfl (Nat.le_of_ble_eq_true rfl) dX1_absorbOne_68 (fun r8 => ?_)
      refine V_callV_WV (Cn := RX1) (T := TX1) (N := 6) hc (c_X1_tell l K t5 (b1) (x3) (5) (r8)) sP1 rfl 4 gX1_absorbOne_X1_tell rfl ⟨rfl, rfl⟩ (by decide) ⟨Nat.le_of_ble_eq_true rfl, Nat.le_of_ble_eq_true rfl⟩ rfl rfl (Nat.le_of_ble_eq_true rfl) dX1_absorbOne_71 (fun r9 => ?_)
      refine V_iinc (v := (x3 + 1)) (lv' := [(3, .int (x3 + 1)), (0, .ref (K.2.2 1)), (1, .int b1), (2, .int b2), (4, .int z4)]) hc dX1_absorbOne_74 3 rfl rfl (by decide) rfl ?_
      refine V_goto (tgt := 2) hc dX1_absorbOne_77 (by decide) ?_
      exact V_sub [1, 2, 3, 0] rfl (ih _ _)
noncomputable def f_X1_absorbOne (t : Sx) (a1 : Int32) (a2 : Int32) : Option Sx := L_X1_absorbOne_2 (a1) (a2) (fun z10 t11 => some t11) FU (0) (t)
set_option maxRecDepth 20000 in
set_option maxHeartbeats 4000000 in
theorem c_X1_absorbOne (l : Launch) (K : Kx) (t : Sx) (a1 : Int32) (a2 : Int32) : CT l K yX1_absorbOne wsX1_absorbOne ({ frames := 2, cells := 0, slots := 0, locals := 46 } : Room) [.ref (K.2.2 1), .int a1, .int a2] t (f_X1_absorbOne t a1 a2) kWV := by
  refine CT_of (cc := cX1_absorbOne) (maxL := 5) (ret := none) (own := RX1) (by decide +kernel) rfl rfl (Nat.le_of_ble_eq_true rfl) ?_
  intro p e s m args below meth c hc
  refine V_sub (lv' := [(0, .ref (K.2.2 1)), (1, .int a1), (2, .int a2)]) [0, 1, 2] rfl ?_
  unfold f_X1_absorbOne
  refine V_iconst (v := 0) hc dX1_absorbOne_0 (by decide) ?_
  refine V_istore_n (lv' := [(3, .int 0), (0, .ref (K.2.2 1)), (1, .int a1), (2, .int a2)]) hc dX1_absorbOne_1 rfl (by decide) rfl ?_
  refine V_sub (lv' := [(0, .ref (K.2.2 1)), (1, .int a1), (2, .int a2), (3, .int 0)]) [1, 2, 3, 0] rfl ?_
  refine L_X1_absorbOne_2_ok hc (a1) (a2) _ (fun z10 t11 => ?_) FU _ _
  exact V_vret hc rfl rfl dX1_absorbOne_80

theorem wX1_absorb_in35 : Cond.initialized yX8_holds.cls ∈ wsX1_absorb := by decide +kernel
theorem wX1_absorb_st35 : Cond.static yX8_holds ∈ wsX1_absorb := by decide +kernel
noncomputable def L_X1_absorb_3 (b1 : Int32) (b2 : Int64) (kont : Int32 → Sx → Option Sx) : Nat → Int32 → Sx → Option Sx
  | 0, _, _ => none
  | n + 1, x4, y => if 40 ≤ x4 then kont (x4) (y) else (f_X8_holds y (b2) (x4)).bind fun r1 => if r1 = 0 then L_X1_absorb_3 b1 b2 kont n ((x4 + 1)) (y) else (f_X1_absorbOne y (b1) (x4)).bind fun r2 => L_X1_absorb_3 b1 b2 kont n ((x4 + 1)) (r2)
set_option maxRecDepth 20000 in
set_option maxHeartbeats 4000000 in
theorem L_X1_absorb_3_ok {p : Program} {l : Launch} {K : Kx} {e : Env} {s : State} {m : MethodId} {args : Array Value} {below : List Frame} {meth : Method} {c : Code} (hc : Cx p ({ frames := 3, cells := 0, slots := 0, locals := 70 } : Room) s m args meth c cX1_absorb 5 wsX1_absorb RX1 K (aA K s.heap.size) none 0 0) (b1 : Int32) (b2 : Int64) (kont : Int32 → Sx → Option Sx) (hk : ∀ x4 y, V p l e ({ frames := 3, cells := 0, slots := 0, locals := 70 } : Room) s m args below meth c K (aA K s.heap.size) 0 0 5 (QM below K args s kWV) 32 [(0, .ref (K.2.2 1)), (1, .int b1), (2, .long b2), (4, .int x4)] [] y (kont x4 y)) : ∀ (n : Nat) (x4 : Int32) (y : Sx), V p l e ({ frames := 3, cells := 0, slots := 0, locals := 70 } : Room) s m args below meth c K (aA K s.heap.size) 0 0 5 (QM below K args s kWV) 3 [(0, .ref (K.2.2 1)), (1, .int b1), (2, .long b2), (4, .int x4)] [] y (L_X1_absorb_3 b1 b2 kont n x4 y) := by
  intro n
  induction n with
  | zero => intro x4 y; exact V_none
  | succ n ih =>
    intro x4 y
    rw [L_X1_absorb_3]
    refine V_iload hc dX1_absorb_3 3 rfl ?_
    refine V_bipush (v := 40) hc dX1_absorb_5 (by decide) ?_
    refine V_icmp_ge (tgt := 32) hc dX1_absorb_7 (by decide) ?_ ?_
    · exact V_sub [0, 1, 2, 3] rfl (hk _ _)
    · refine V_lload_n hc dX1_absorb_10 rfl 2 rfl ?_
      refine V_iload hc dX1_absorb_11 3 rfl ?_
      refine V_callN_RI hc (c_X8_holds l K y (b2) (x4)) 2 gX1_absorb_X8_holds_n35 rfl ⟨rfl, rfl⟩ (List.mem_of_getElem? (i := 0) rfl) wX1_absorb_in35 wX1_absorb_st35 (by decide) ⟨Nat.le_of_ble_eq_true rfl, Nat.le_of_ble_eq_true rfl⟩ rfl rfl (Nat.le_of_ble_eq_true rfl) dX1_absorb_13 (fun r1 => ?_)
      refine V_if_eq (tgt := 26) hc dX1_absorb_16 (by decide) ?_ ?_
      · refine V_iinc (v := (x4 + 1)) (lv' := [(4, .int (x4 + 1)), (0, .ref (K.2.2 1)), (1, .int b1), (2, .long b2)]) hc dX1_absorb_26 3 rfl rfl (by decide) rfl ?_
        refine V_goto (tgt := 3) hc dX1_absorb_29 (by decide) ?_
        exact V_sub [1, 2, 3, 0] rfl (ih _ _)
      · refine V_aload_n hc dX1_absorb_19 rfl 0 rfl ?_
        refine V_iload_n hc dX1_absorb_20 rfl 1 rfl ?_
        refine V_iload hc dX1_absorb_21 3 rfl ?_
        refine V_callV_WV (Cn := RX1) (T := TX1) (N := 6) hc (c_X1_absorbOne l K y (b1) (x4)) sP1 rfl 2 gX1_absorb_X1_absorbOne rfl ⟨rfl, rfl⟩ (by decide) ⟨Nat.le_of_ble_eq_true rfl, Nat.le_of_ble_eq_true rfl⟩ rfl rfl (Nat.le_of_ble_eq_true rfl) dX1_absorb_23 (fun r2 => ?_)
        refine V_iinc (v := (x4 + 1)) (lv' := [(4, .int (x4 + 1)), (0, .ref (K.2.2 1)), (1, .int b1), (2, .long b2)]) hc dX1_absorb_26 3 rfl rfl (by decide) rfl ?_
        refine V_goto (tgt := 3) hc dX1_absorb_29 (by decide) ?_
        exact V_sub [1, 2, 3, 0] rfl (ih _ _)
noncomputable def f_X1_absorb (t : Sx) (a1 : Int32) (a2 : Int64) : Option Sx := L_X1_absorb_3 (a1) (a2) (fun z3 t4 => some t4) FU (0) (t)
set_option maxRecDepth 20000 in
set_option maxHeartbeats 4000000 in
theorem c_X1_absorb (l : Launch) (K : Kx) (t : Sx) (a1 : Int32) (a2 : Int64) : CT l K yX1_absorb wsX1_absorb ({ frames := 3, cells := 0, slots := 0, locals := 70 } : Room) [.ref (K.2.2 1), .int a1, .long a2] t (f_X1_absorb t a1 a2) kWV := by
  refine CT_of (cc := cX1_absorb) (maxL := 5) (ret := none) (own := RX1) (by decide +kernel) rfl rfl (Nat.le_of_ble_eq_true rfl) ?_
  intro p e s m args below meth c hc
  refine V_sub (lv' := [(0, .ref (K.2.2 1)), (1, .int a1), (2, .long a2)]) [0, 1, 2] rfl ?_
  unfold f_X1_absorb
  refine V_iconst (v := 0) hc dX1_absorb_0 (by decide) ?_
  refine V_istore (lv' := [(4, .int 0), (0, .ref (K.2.2 1)), (1, .int a1), (2, .long a2)]) hc dX1_absorb_1 (by decide) rfl ?_
  refine V_sub (lv' := [(0, .ref (K.2.2 1)), (1, .int a1), (2, .long a2), (4, .int 0)]) [1, 2, 3, 0] rfl ?_
  refine L_X1_absorb_3_ok hc (a1) (a2) _ (fun z3 t4 => ?_) FU _ _
  exact V_vret hc rfl rfl dX1_absorb_32
