theorem kX8_clearRule_35 : Cond.fieldLink RX8 35 RX8 (TX8 3).2.1 (TX8 3).2.2.1 ∈ wsX8_clearRule := by decide +kernel
theorem qX8_clearRule_RX8 : ∀ w ∈ u_ws RX8 TX8 8, w ∈ wsX8_clearRule := by
  first
  | exact fun _ h => List.mem_cons_of_mem _ (List.mem_append_right _ h)
  | exact fun _ h => List.mem_cons_of_mem _ (List.mem_append_left _ (List.mem_append_right _ h))
  | exact fun _ h => List.mem_cons_of_mem _ (List.mem_append_left _ (List.mem_append_left _ (List.mem_append_right _ h)))
  | exact fun _ h => List.mem_cons_of_mem _ (List.mem_append_left _ (List.mem_append_left _ (List.mem_append_left _ (List.mem_append_right _ h))))
  | exact fun _ h => List.mem_cons_of_mem _ (List.mem_append_left _ (List.mem_append_left _ (List.mem_append_left _ (List.mem_append_left _ (List.mem_append_right _ h)))))
  | decide +kernel
noncomputable def f_X8_clearRule (t : Sx)  : Option (Int32 × Sx) := (f_X5_length t (8)).bind fun r1 => (f_X5_empty t (8)).bind fun r2 => some (r1, r2)
set_option maxRecDepth 20000 in
set_option maxHeartbeats 4000000 in
theorem c_X8_clearRule (l : Launch) (K : Kx) (t : Sx)  : CT l K yX8_clearRule wsX8_clearRule ({ frames := 1, cells := 0, slots := 0, locals := 20 } : Room) [.ref (K.2.2 0)] t (f_X8_clearRule t ) kWI := by
  refine CT_of (cc := cX8_clearRule) (maxL := 2) (ret := (some .int)) (own := RX8) (by decide +kernel) rfl rfl (Nat.le_of_ble_eq_true rfl) ?_
  intro p e s m args below meth c hc
  refine V_sub (lv' := [(0, .ref (K.2.2 0))]) [0] rfl ?_
  unfold f_X8_clearRule
  refine V_aload_n hc dX8_clearRule_0 rfl 0 rfl ?_
  refine V_getr (C := RX8) (T := TX8) (N := 8) hc sP0 rfl qX8_clearRule_RX8 3 rfl (by decide) kX8_clearRule_35 rfl dX8_clearRule_1 ?_
  refine V_callV_RI (Cn := RX5) (T := TX5) (N := 2) hc (c_X5_length l K t (8) (by decide)) (sh_rtx (by decide)) rfl 0 gX8_clearRule_X5_length rfl ⟨rfl, rfl⟩ (by decide) ⟨Nat.le_of_ble_eq_true rfl, Nat.le_of_ble_eq_true rfl⟩ rfl rfl (Nat.le_of_ble_eq_true rfl) dX8_clearRule_4 (fun r1 => ?_)
  refine V_istore_n (lv' := [(1, .int r1), (0, .ref (K.2.2 0))]) hc dX8_clearRule_7 rfl (by decide) rfl ?_
  refine V_aload_n hc dX8_clearRule_8 rfl 1 rfl ?_
  refine V_getr (C := RX8) (T := TX8) (N := 8) hc sP0 rfl qX8_clearRule_RX8 3 rfl (by decide) kX8_clearRule_35 rfl dX8_clearRule_9 ?_
  refine V_callV_WV (Cn := RX5) (T := TX5) (N := 2) hc (c_X5_empty l K t (8) (by decide)) (sh_rtx (by decide)) rfl 0 gX8_clearRule_X5_empty rfl ⟨rfl, rfl⟩ (by decide) ⟨Nat.le_of_ble_eq_true rfl, Nat.le_of_ble_eq_true rfl⟩ rfl rfl (Nat.le_of_ble_eq_true rfl) dX8_clearRule_12 (fun r2 => ?_)
  refine V_iload_n hc dX8_clearRule_15 rfl 0 rfl ?_
  exact V_iret hc rfl rfl dX8_clearRule_16

theorem kX8_isTextUsable_35 : Cond.fieldLink RX8 35 RX8 (TX8 3).2.1 (TX8 3).2.2.1 ∈ wsX8_isTextUsable := by decide +kernel
theorem qX8_isTextUsable_RX8 : ∀ w ∈ u_ws RX8 TX8 8, w ∈ wsX8_isTextUsable := by
  first
  | exact fun _ h => List.mem_cons_of_mem _ (List.mem_append_right _ h)
  | exact fun _ h => List.mem_cons_of_mem _ (List.mem_append_left _ (List.mem_append_right _ h))
  | exact fun _ h => List.mem_cons_of_mem _ (List.mem_append_left _ (List.mem_append_left _ (List.mem_append_right _ h)))
  | exact fun _ h => List.mem_cons_of_mem _ (List.mem_append_left _ (List.mem_append_left _ (List.mem_append_left _ (List.mem_append_right _ h))))
  | exact fun _ h => List.mem_cons_of_mem _ (List.mem_append_left _ (List.mem_append_left _ (List.mem_append_left _ (List.mem_append_left _ (List.mem_append_right _ h)))))
  | decide +kernel
noncomputable def L_X8_isTextUsable_15 (t0 : Sx) (b1 : Int32) (kont : Int32 → Option Int32) : Nat → Int32 → Option Int32
  | 0, _ => none
  | n + 1, x2 => if 9 < x2 then kont (x2) else (f_X5_names t0 (8) (x2)).bind fun r2 => if r2 = 0 then L_X8_isTextUsable_15 t0 b1 kont n ((x2 + 1)) else if b1 ≤ x2 then some 0 else (f_X8_hasAlbum t0 (x2)).bind fun r3 => if r3 = 0 then some 0 else L_X8_isTextUsable_15 t0 b1 kont n ((x2 + 1))
set_option maxRecDepth 20000 in
set_option maxHeartbeats 4000000 in
theorem L_X8_isTextUsable_15_ok {p : Program} {l : Launch} {K : Kx} {e : Env} {s : State} {m : MethodId} {args : Array Value} {below : List Frame} {meth : Method} {c : Code} (hc : Cx p ({ frames := 4, cells := 0, slots := 0, locals := 90 } : Room) s m args meth c cX8_isTextUsable 3 wsX8_isTextUsable RX8 K (aA K s.heap.size) (some .boolean) 0 0) (t0 : Sx) (b1 : Int32) (kont : Int32 → Option Int32) (hk : ∀ x2, V p l e ({ frames := 4, cells := 0, slots := 0, locals := 90 } : Room) s m args below meth c K (aA K s.heap.size) 0 0 3 (QM below K args s (kRI t0)) 53 [(0, .ref (K.2.2 0)), (1, .int b1), (2, .int x2)] [] t0 (kont x2)) : ∀ (n : Nat) (x2 : Int32), V p l e ({ frames := 4, cells := 0, slots := 0, locals := 90 } : Room) s m args below meth c K (aA K s.heap.size) 0 0 3 (QM below K args s (kRI t0)) 15 [(0, .ref (K.2.2 0)), (1, .int b1), (2, .int x2)] [] t0 (L_X8_isTextUsable_15 t0 b1 kont n x2) := by
  intro n
  induction n with
  | zero => intro x2; exact V_none
  | succ n ih =>
    intro x2
    rw [L_X8_isTextUsable_15]
    refine V_iload_n hc dX8_isTextUsable_15 rfl 2 rfl ?_
    refine V_bipush (v := 9) hc dX8_isTextUsable_16 (by decide) ?_
    refine V_icmp_gt (tgt := 53) hc dX8_isTextUsable_18 (by decide) ?_ ?_
    · exact V_sub [0, 1, 2] rfl (hk _)
    · refine V_aload_n hc dX8_isTextUsable_21 rfl 0 rfl ?_
      refine V_getr (C := RX8) (T := TX8) (N := 8) hc sP0 rfl qX8_isTextUsable_RX8 3 rfl (by decide) kX8_isTextUsable_35 rfl dX8_isTextUsable_22 ?_
      refine V_iload_n hc dX8_isTextUsable_25 rfl 2 rfl ?_
      refine V_callV_RI (Cn := RX5) (T := TX5) (N := 2) hc (c_X5_names l K t0 (8) (x2) (by decide)) (sh_rtx (by decide)) rfl 1 gX8_isTextUsable_X5_names rfl ⟨rfl, rfl⟩ (by decide) ⟨Nat.le_of_ble_eq_true rfl, Nat.le_of_ble_eq_true rfl⟩ rfl rfl (Nat.le_of_ble_eq_true rfl) dX8_isTextUsable_26 (fun r2 => ?_)
      refine V_if_eq (tgt := 47) hc dX8_isTextUsable_29 (by decide) ?_ ?_
      · refine V_iinc (v := (x2 + 1)) (lv' := [(2, .int (x2 + 1)), (0, .ref (K.2.2 0)), (1, .int b1)]) hc dX8_isTextUsable_47 2 rfl rfl (by decide) rfl ?_
        refine V_goto (tgt := 15) hc dX8_isTextUsable_50 (by decide) ?_
        exact V_sub [1, 2, 0] rfl (ih _)
      · refine V_iload_n hc dX8_isTextUsable_32 rfl 2 rfl ?_
        refine V_iload_n hc dX8_isTextUsable_33 rfl 1 rfl ?_
        refine V_icmp_ge (tgt := 45) hc dX8_isTextUsable_34 (by decide) ?_ ?_
        · refine V_iconst (v := 0) hc dX8_isTextUsable_45 (by decide) ?_
          exact V_nret hc rfl rfl rfl dX8_isTextUsable_46
        · refine V_aload_n hc dX8_isTextUsable_37 rfl 0 rfl ?_
          refine V_iload_n hc dX8_isTextUsable_38 rfl 2 rfl ?_
          refine V_callV_RI (Cn := RX8) (T := TX8) (N := 8) hc (c_X8_hasAlbum l K t0 (x2)) sP0 rfl 1 gX8_isTextUsable_X8_hasAlbum rfl ⟨rfl, rfl⟩ (by decide) ⟨Nat.le_of_ble_eq_true rfl, Nat.le_of_ble_eq_true rfl⟩ rfl rfl (Nat.le_of_ble_eq_true rfl) dX8_isTextUsable_39 (fun r3 => ?_)
          refine V_if_ne (tgt := 47) hc dX8_isTextUsable_42 (by decide) ?_ ?_
          · refine V_iinc (v := (x2 + 1)) (lv' := [(2, .int (x2 + 1)), (0, .ref (K.2.2 0)), (1, .int b1)]) hc dX8_isTextUsable_47 2 rfl rfl (by decide) rfl ?_
            refine V_goto (tgt := 15) hc dX8_isTextUsable_50 (by decide) ?_
            exact V_sub [1, 2, 0] rfl (ih _)
          · refine V_iconst (v := 0) hc dX8_isTextUsable_45 (by decide) ?_
            exact V_nret hc rfl rfl rfl dX8_isTextUsable_46
noncomputable def f_X8_isTextUsable (t : Sx) (a1 : Int32) : Option Int32 := (f_X5_firstFault t (8)).bind fun r1 => if r1 = (-1) then L_X8_isTextUsable_15 t (a1) (fun z4 => some 1) FU (0) else some 0
set_option maxRecDepth 20000 in
set_option maxHeartbeats 4000000 in
theorem c_X8_isTextUsable (l : Launch) (K : Kx) (t : Sx) (a1 : Int32) : CT l K yX8_isTextUsable wsX8_isTextUsable ({ frames := 4, cells := 0, slots := 0, locals := 90 } : Room) [.ref (K.2.2 0), .int a1] t (f_X8_isTextUsable t a1) (kRI t) := by
  refine CT_of (cc := cX8_isTextUsable) (maxL := 3) (ret := (some .boolean)) (own := RX8) (by decide +kernel) rfl rfl (Nat.le_of_ble_eq_true rfl) ?_
  intro p e s m args below meth c hc
  refine V_sub (lv' := [(0, .ref (K.2.2 0)), (1, .int a1)]) [0, 1] rfl ?_
  unfold f_X8_isTextUsable
  refine V_aload_n hc dX8_isTextUsable_0 rfl 0 rfl ?_
  refine V_getr (C := RX8) (T := TX8) (N := 8) hc sP0 rfl qX8_isTextUsable_RX8 3 rfl (by decide) kX8_isTextUsable_35 rfl dX8_isTextUsable_1 ?_
  refine V_callV_RI (Cn := RX5) (T := TX5) (N := 2) hc (c_X5_firstFault l K t (8) (by decide)) (sh_rtx (by decide)) rfl 0 gX8_isTextUsable_X5_firstFault rfl ⟨rfl, rfl⟩ (by decide) ⟨Nat.le_of_ble_eq_true rfl, Nat.le_of_ble_eq_true rfl⟩ rfl rfl (Nat.le_of_ble_eq_true rfl) dX8_isTextUsable_4 (fun r1 => ?_)
  refine V_iconst (v := (-1)) hc dX8_isTextUsable_7 (by decide) ?_
  refine V_icmp_eq (tgt := 13) hc dX8_isTextUsable_8 (by decide) ?_ ?_
  · refine V_iconst (v := 0) hc dX8_isTextUsable_13 (by decide) ?_
    refine V_istore_n (lv' := [(2, .int 0), (0, .ref (K.2.2 0)), (1, .int a1)]) hc dX8_isTextUsable_14 rfl (by decide) rfl ?_
    refine V_sub (lv' := [(0, .ref (K.2.2 0)), (1, .int a1), (2, .int 0)]) [1, 2, 0] rfl ?_
    refine L_X8_isTextUsable_15_ok hc t (a1) _ (fun z4 => ?_) FU _
    refine V_iconst (v := 1) hc dX8_isTextUsable_53 (by decide) ?_
    exact V_nret hc rfl rfl rfl dX8_isTextUsable_54
  · refine V_iconst (v := 0) hc dX8_isTextUsable_11 (by decide) ?_
    exact V_nret hc rfl rfl rfl dX8_isTextUsable_12

theorem kX8_satisfies_10 : Cond.fieldLink RX8 10 RX8 (TX8 0).2.1 (TX8 0).2.2.1 ∈ wsX8_satisfies := by decide +kernel
theorem qX8_satisfies_RX8 : ∀ w ∈ u_ws RX8 TX8 8, w ∈ wsX8_satisfies := by
  first
  | exact fun _ h => List.mem_cons_of_mem _ (List.mem_append_right _ h)
  | exact fun _ h => List.mem_cons_of_mem _ (List.mem_append_left _ (List.mem_append_right _ h))
  | exact fun _ h => List.mem_cons_of_mem _ (List.mem_append_left _ (List.mem_append_left _ (List.mem_append_right _ h)))
  | exact fun _ h => List.mem_cons_of_mem _ (List.mem_append_left _ (List.mem_append_left _ (List.mem_append_left _ (List.mem_append_right _ h))))
  | exact fun _ h => List.mem_cons_of_mem _ (List.mem_append_left _ (List.mem_append_left _ (List.mem_append_left _ (List.mem_append_left _ (List.mem_append_right _ h)))))
  | decide +kernel
theorem kX8_satisfies_51 : Cond.fieldLink RX8 51 RX8 (TX8 5).2.1 (TX8 5).2.2.1 ∈ wsX8_satisfies := by decide +kernel
theorem kX8_satisfies_35 : Cond.fieldLink RX8 35 RX8 (TX8 3).2.1 (TX8 3).2.2.1 ∈ wsX8_satisfies := by decide +kernel
noncomputable def f_X8_satisfies (t : Sx) (a1 : Int32) : Option (Int32 × Sx) := (f_X1_has t (a1)).bind fun r1 => if r1 = 0 then some ((-1), t) else (f_X8_isTextUsable t (8)).bind fun r2 => if r2 = 0 then some ((-2), t) else (f_X4_filesFor t (8)).bind fun r3 => (f_X8_holds r3.2 (r3.1) (a1)).bind fun r4 => if r4 = 0 then some (0, r3.2) else some (1, r3.2)
set_option maxRecDepth 20000 in
set_option maxHeartbeats 4000000 in
theorem c_X8_satisfies (l : Launch) (K : Kx) (t : Sx) (a1 : Int32) : CT l K yX8_satisfies wsX8_satisfies ({ frames := 5, cells := 0, slots := 0, locals := 118 } : Room) [.ref (K.2.2 0), .int a1] t (f_X8_satisfies t a1) kWI := by
  refine CT_of (cc := cX8_satisfies) (maxL := 2) (ret := (some .int)) (own := RX8) (by decide +kernel) rfl rfl (Nat.le_of_ble_eq_true rfl) ?_
  intro p e s m args below meth c hc
  refine V_sub (lv' := [(0, .ref (K.2.2 0)), (1, .int a1)]) [0, 1] rfl ?_
  unfold f_X8_satisfies
  refine V_aload_n hc dX8_satisfies_0 rfl 0 rfl ?_
  refine V_getr (C := RX8) (T := TX8) (N := 8) hc sP0 rfl qX8_satisfies_RX8 0 rfl (by decide) kX8_satisfies_10 rfl dX8_satisfies_1 ?_
  refine V_iload_n hc dX8_satisfies_4 rfl 1 rfl ?_
  refine V_callV_RI (Cn := RX1) (T := TX1) (N := 6) hc (c_X1_has l K t (a1)) sP1 rfl 1 gX8_satisfies_X1_has rfl ⟨rfl, rfl⟩ (by decide) ⟨Nat.le_of_ble_eq_true rfl, Nat.le_of_ble_eq_true rfl⟩ rfl rfl (Nat.le_of_ble_eq_true rfl) dX8_satisfies_5 (fun r1 => ?_)
  refine V_if_ne (tgt := 13) hc dX8_satisfies_8 (by decide) ?_ ?_
  · refine V_aload_n hc dX8_satisfies_13 rfl 0 rfl ?_
    refine V_bipush (v := 8) hc dX8_satisfies_14 (by decide) ?_
    refine V_callV_RI (Cn := RX8) (T := TX8) (N := 8) hc (c_X8_isTextUsable l K t (8)) sP0 rfl 1 gX8_satisfies_X8_isTextUsable rfl ⟨rfl, rfl⟩ (by decide) ⟨Nat.le_of_ble_eq_true rfl, Nat.le_of_ble_eq_true rfl⟩ rfl rfl (Nat.le_of_ble_eq_true rfl) dX8_satisfies_16 (fun r2 => ?_)
    refine V_if_ne (tgt := 25) hc dX8_satisfies_19 (by decide) ?_ ?_
    · refine V_aload_n hc dX8_satisfies_25 rfl 0 rfl ?_
      refine V_getr (C := RX8) (T := TX8) (N := 8) hc sP0 rfl qX8_satisfies_RX8 5 rfl (by decide) kX8_satisfies_51 rfl dX8_satisfies_26 ?_
      refine V_aload_n hc dX8_satisfies_29 rfl 0 rfl ?_
      refine V_getr (C := RX8) (T := TX8) (N := 8) hc sP0 rfl qX8_satisfies_RX8 3 rfl (by decide) kX8_satisfies_35 rfl dX8_satisfies_30 ?_
      refine V_callV_WL (Cn := RX4) (T := TX4) (N := 8) hc (c_X4_filesFor l K t (8) (by decide)) sP15 rfl 1 gX8_satisfies_X4_filesFor rfl ⟨rfl, rfl⟩ (by decide) ⟨Nat.le_of_ble_eq_true rfl, Nat.le_of_ble_eq_true rfl⟩ rfl rfl (Nat.le_of_ble_eq_true rfl) dX8_satisfies_33 (fun r3 => ?_)
      refine V_iload_n hc dX8_satisfies_36 rfl 1 rfl ?_
      refine V_callS_RI hc (c_X8_holds l K r3.2 (r3.1) (a1)) 2 gX8_satisfies_X8_holds rfl ⟨rfl, rfl⟩ (by decide) ⟨Nat.le_of_ble_eq_true rfl, Nat.le_of_ble_eq_true rfl⟩ rfl rfl (Nat.le_of_ble_eq_true rfl) dX8_satisfies_37 (fun r4 => ?_)
      refine V_if_eq (tgt := 47) hc dX8_satisfies_40 (by decide) ?_ ?_
      · refine V_iconst (v := 0) hc dX8_satisfies_47 (by decide) ?_
        exact V_iret hc rfl rfl dX8_satisfies_48
      · refine V_iconst (v := 1) hc dX8_satisfies_43 (by decide) ?_
        refine V_goto (tgt := 48) hc dX8_satisfies_44 (by decide) ?_
        exact V_iret hc rfl rfl dX8_satisfies_48
    · refine V_bipush (v := (-2)) hc dX8_satisfies_22 (by decide) ?_
      exact V_iret hc rfl rfl dX8_satisfies_24
  · refine V_iconst (v := (-1)) hc dX8_satisfies_11 (by decide) ?_
    exact V_iret hc rfl rfl dX8_satisfies_12

theorem kX8_select_51 : Cond.fieldLink RX8 51 RX8 (TX8 5).2.1 (TX8 5).2.2.1 ∈ wsX8_select := by decide +kernel
theorem qX8_select_RX8 : ∀ w ∈ u_ws RX8 TX8 8, w ∈ wsX8_select := by
  first
  | exact fun _ h => List.mem_cons_of_mem _ (List.mem_append_right _ h)
  | exact fun _ h => List.mem_cons_of_mem _ (List.mem_append_left _ (List.mem_append_right _ h))
  | exact fun _ h => List.mem_cons_of_mem _ (List.mem_append_left _ (List.mem_append_left _ (List.mem_append_right _ h)))
  | exact fun _ h => List.mem_cons_of_mem _ (List.mem_append_left _ (List.mem_append_left _ (List.mem_append_left _ (List.mem_append_right _ h))))
  | exact fun _ h => List.mem_cons_of_mem _ (List.mem_append_left _ (List.mem_append_left _ (List.mem_append_left _ (List.mem_append_left _ (List.mem_append_right _ h)))))
  | decide +kernel
theorem kX8_select_35 : Cond.fieldLink RX8 35 RX8 (TX8 3).2.1 (TX8 3).2.2.1 ∈ wsX8_select := by decide +kernel
noncomputable def f_X8_select (t : Sx)  : Option (Int32 × Sx) := (f_X8_isTextUsable t (8)).bind fun r1 => if r1 = 0 then some ((-2), t) else (f_X4_filesFor t (8)).bind fun r2 => (f_J13_bitCount_95d88 r2.2 (r2.1)).bind fun r3 => some (r3, r2.2)
set_option maxRecDepth 20000 in
set_option maxHeartbeats 4000000 in
theorem c_X8_select (l : Launch) (K : Kx) (t : Sx)  : CT l K yX8_select wsX8_select ({ frames := 5, cells := 0, slots := 0, locals := 118 } : Room) [.ref (K.2.2 0)] t (f_X8_select t ) kWI := by
  refine CT_of (cc := cX8_select) (maxL := 1) (ret := (some .int)) (own := RX8) (by decide +kernel) rfl rfl (Nat.le_of_ble_eq_true rfl) ?_
  intro p e s m args below meth c hc
  refine V_sub (lv' := [(0, .ref (K.2.2 0))]) [0] rfl ?_
  unfold f_X8_select
  refine V_aload_n hc dX8_select_0 rfl 0 rfl ?_
  refine V_bipush (v := 8) hc dX8_select_1 (by decide) ?_
  refine V_callV_RI (Cn := RX8) (T := TX8) (N := 8) hc (c_X8_isTextUsable l K t (8)) sP0 rfl 1 gX8_select_X8_isTextUsable rfl ⟨rfl, rfl⟩ (by decide) ⟨Nat.le_of_ble_eq_true rfl, Nat.le_of_ble_eq_true rfl⟩ rfl rfl (Nat.le_of_ble_eq_true rfl) dX8_select_3 (fun r1 => ?_)
  refine V_if_ne (tgt := 12) hc dX8_select_6 (by decide) ?_ ?_
  · refine V_aload_n hc dX8_select_12 rfl 0 rfl ?_
    refine V_getr (C := RX8) (T := TX8) (N := 8) hc sP0 rfl qX8_select_RX8 5 rfl (by decide) kX8_select_51 rfl dX8_select_13 ?_
    refine V_aload_n hc dX8_select_16 rfl 0 rfl ?_
    refine V_getr (C := RX8) (T := TX8) (N := 8) hc sP0 rfl qX8_select_RX8 3 rfl (by decide) kX8_select_35 rfl dX8_select_17 ?_
    refine V_callV_WL (Cn := RX4) (T := TX4) (N := 8) hc (c_X4_filesFor l K t (8) (by decide)) sP15 rfl 1 gX8_select_X4_filesFor rfl ⟨rfl, rfl⟩ (by decide) ⟨Nat.le_of_ble_eq_true rfl, Nat.le_of_ble_eq_true rfl⟩ rfl rfl (Nat.le_of_ble_eq_true rfl) dX8_select_20 (fun r2 => ?_)
    refine V_callS_RI hc (c_J13_bitCount_95d88 l K r2.2 (r2.1)) 1 gX8_select_J13_bitCount_95d88 rfl ⟨rfl, rfl⟩ (by decide) ⟨Nat.le_of_ble_eq_true rfl, Nat.le_of_ble_eq_true rfl⟩ rfl rfl (Nat.le_of_ble_eq_true rfl) dX8_select_23 (fun r3 => ?_)
    exact V_iret hc rfl rfl dX8_select_26
  · refine V_bipush (v := (-2)) hc dX8_select_9 (by decide) ?_
    exact V_iret hc rfl rfl dX8_select_11


noncomputable def L_X8_freeAlbum_2 (t0 : Sx) (kont : Int32 → Option Int32) : Nat → Int32 → Option Int32
  | 0, _ => none
  | n + 1, x1 => if 8 ≤ x1 then kont (x1) else (f_X8_hasAlbum t0 (x1)).bind fun r1 => if r1 = 0 then kont (x1) else L_X8_freeAlbum_2 t0 kont n ((x1 + 1))
set_option maxRecDepth 20000 in
set_option maxHeartbeats 4000000 in
theorem L_X8_freeAlbum_2_ok {p : Program} {l : Launch} {K : Kx} {e : Env} {s : State} {m : MethodId} {args : Array Value} {below : List Frame} {meth : Method} {c : Code} (hc : Cx p ({ frames := 2, cells := 0, slots := 0, locals := 43 } : Room) s m args meth c cX8_freeAlbum 2 wsX8_freeAlbum RX8 K (aA K s.heap.size) (some .int) 0 0) (t0 : Sx) (kont : Int32 → Option Int32) (hk : ∀ x1, V p l e ({ frames := 2, cells := 0, slots := 0, locals := 43 } : Room) s m args below meth c K (aA K s.heap.size) 0 0 2 (QM below K args s (kRI t0)) 22 [(0, .ref (K.2.2 0)), (1, .int x1)] [] t0 (kont x1)) : ∀ (n : Nat) (x1 : Int32), V p l e ({ frames := 2, cells := 0, slots := 0, locals := 43 } : Room) s m args below meth c K (aA K s.heap.size) 0 0 2 (QM below K args s (kRI t0)) 2 [(0, .ref (K.2.2 0)), (1, .int x1)] [] t0 (L_X8_freeAlbum_2 t0 kont n x1) := by
  intro n
  induction n with
  | zero => intro x1; exact V_none
  | succ n ih =>
    intro x1
    rw [L_X8_freeAlbum_2]
    refine V_iload_n hc dX8_freeAlbum_2 rfl 1 rfl ?_
    refine V_bipush (v := 8) hc dX8_freeAlbum_3 (by decide) ?_
    refine V_icmp_ge (tgt := 22) hc dX8_freeAlbum_5 (by decide) ?_ ?_
    · exact V_sub [0, 1] rfl (hk _)
    · refine V_aload_n hc dX8_freeAlbum_8 rfl 0 rfl ?_
      refine V_iload_n hc dX8_freeAlbum_9 rfl 1 rfl ?_
      refine V_callV_RI (Cn := RX8) (T := TX8) (N := 8) hc (c_X8_hasAlbum l K t0 (x1)) sP0 rfl 1 gX8_freeAlbum_X8_hasAlbum rfl ⟨rfl, rfl⟩ (by decide) ⟨Nat.le_of_ble_eq_true rfl, Nat.le_of_ble_eq_true rfl⟩ rfl rfl (Nat.le_of_ble_eq_true rfl) dX8_freeAlbum_10 (fun r1 => ?_)
      refine V_if_eq (tgt := 22) hc dX8_freeAlbum_13 (by decide) ?_ ?_
      · exact V_sub [0, 1] rfl (hk _)
      · refine V_iinc (v := (x1 + 1)) (lv' := [(1, .int (x1 + 1)), (0, .ref (K.2.2 0))]) hc dX8_freeAlbum_16 1 rfl rfl (by decide) rfl ?_
        refine V_goto (tgt := 2) hc dX8_freeAlbum_19 (by decide) ?_
        exact V_sub [1, 0] rfl (ih _)
noncomputable def f_X8_freeAlbum (t : Sx)  : Option Int32 := L_X8_freeAlbum_2 t (fun z2 => some z2) FU (0)
set_option maxRecDepth 20000 in
set_option maxHeartbeats 4000000 in
theorem c_X8_freeAlbum (l : Launch) (K : Kx) (t : Sx)  : CT l K yX8_freeAlbum wsX8_freeAlbum ({ frames := 2, cells := 0, slots := 0, locals := 43 } : Room) [.ref (K.2.2 0)] t (f_X8_freeAlbum t ) (kRI t) := by
  refine CT_of (cc := cX8_freeAlbum) (maxL := 2) (ret := (some .int)) (own := RX8) (by decide +kernel) rfl rfl (Nat.le_of_ble_eq_true rfl) ?_
  intro p e s m args below meth c hc
  refine V_sub (lv' := [(0, .ref (K.2.2 0))]) [0] rfl ?_
  unfold f_X8_freeAlbum
  refine V_iconst (v := 0) hc dX8_freeAlbum_0 (by decide) ?_
  refine V_istore_n (lv' := [(1, .int 0), (0, .ref (K.2.2 0))]) hc dX8_freeAlbum_1 rfl (by decide) rfl ?_
  refine V_sub (lv' := [(0, .ref (K.2.2 0)), (1, .int 0)]) [1, 0] rfl ?_
  refine L_X8_freeAlbum_2_ok hc t _ (fun z2 => ?_) FU _
  refine V_iload_n hc dX8_freeAlbum_22 rfl 1 rfl ?_
  exact V_iret hc rfl rfl dX8_freeAlbum_23

theorem kX8_makeAlbum_41 : Cond.fieldLink RX8 41 RX8 (TX8 4).2.1 (TX8 4).2.2.1 ∈ wsX8_makeAlbum := by decide +kernel
theorem qX8_makeAlbum_RX8 : ∀ w ∈ u_ws RX8 TX8 8, w ∈ wsX8_makeAlbum := by
  first
  | exact fun _ h => List.mem_cons_of_mem _ (List.mem_append_right _ h)
  | exact fun _ h => List.mem_cons_of_mem _ (List.mem_append_left _ (List.mem_append_right _ h))
  | exact fun _ h => List.mem_cons_of_mem _ (List.mem_append_left _ (List.mem_append_left _ (List.mem_append_right _ h)))
  | exact fun _ h => List.mem_cons_of_mem _ (List.mem_append_left _ (List.mem_append_left _ (List.mem_append_left _ (List.mem_append_right _ h))))
  | exact fun _ h => List.mem_cons_of_mem _ (List.mem_append_left _ (List.mem_append_left _ (List.mem_append_left _ (List.mem_append_left _ (List.mem_append_right _ h)))))
  | decide +kernel
theorem kX8_makeAlbum_35 : Cond.fieldLink RX8 35 RX8 (TX8 3).2.1 (TX8 3).2.2.1 ∈ wsX8_makeAlbum := by decide +kernel
noncomputable def f_X8_makeAlbum (t : Sx)  : Option (Int32 × Sx) := (f_X8_freeAlbum t ).bind fun r1 => (f_X8_isTextUsable t (r1)).bind fun r2 => if r2 = 0 then some ((-2), t) else if r1 = 8 then some ((-3), t) else gd (vp_in r1 8) ((f_X0_begin t (ix r1) (8)).bind fun r4 => (f_X8_settle r4 ).bind fun r5 => some (r1, r5))
set_option maxRecDepth 20000 in
set_option maxHeartbeats 4000000 in
theorem c_X8_makeAlbum (l : Launch) (K : Kx) (t : Sx)  : CT l K yX8_makeAlbum wsX8_makeAlbum ({ frames := 6, cells := 0, slots := 0, locals := 141 } : Room) [.ref (K.2.2 0)] t (f_X8_makeAlbum t ) kWI := by
  refine CT_of (cc := cX8_makeAlbum) (maxL := 2) (ret := (some .int)) (own := RX8) (by decide +kernel) rfl rfl (Nat.le_of_ble_eq_true rfl) ?_
  intro p e s m args below meth c hc
  refine V_sub (lv' := [(0, .ref (K.2.2 0))]) [0] rfl ?_
  unfold f_X8_makeAlbum
  refine V_aload_n hc dX8_makeAlbum_0 rfl 0 rfl ?_
  refine V_callV_RI (Cn := RX8) (T := TX8) (N := 8) hc (c_X8_freeAlbum l K t ) sP0 rfl 0 gX8_makeAlbum_X8_freeAlbum rfl ⟨rfl, rfl⟩ (by decide) ⟨Nat.le_of_ble_eq_true rfl, Nat.le_of_ble_eq_true rfl⟩ rfl rfl (Nat.le_of_ble_eq_true rfl) dX8_makeAlbum_1 (fun r1 => ?_)
  refine V_istore_n (lv' := [(1, .int r1), (0, .ref (K.2.2 0))]) hc dX8_makeAlbum_4 rfl (by decide) rfl ?_
  refine V_aload_n hc dX8_makeAlbum_5 rfl 1 rfl ?_
  refine V_iload_n hc dX8_makeAlbum_6 rfl 0 rfl ?_
  refine V_callV_RI (Cn := RX8) (T := TX8) (N := 8) hc (c_X8_isTextUsable l K t (r1)) sP0 rfl 1 gX8_makeAlbum_X8_isTextUsable rfl ⟨rfl, rfl⟩ (by decide) ⟨Nat.le_of_ble_eq_true rfl, Nat.le_of_ble_eq_true rfl⟩ rfl rfl (Nat.le_of_ble_eq_true rfl) dX8_makeAlbum_7 (fun r2 => ?_)
  refine V_if_ne (tgt := 16) hc dX8_makeAlbum_10 (by decide) ?_ ?_
  · refine V_iload_n hc dX8_makeAlbum_16 rfl 0 rfl ?_
    refine V_bipush (v := 8) hc dX8_makeAlbum_17 (by decide) ?_
    refine V_icmp_ne (tgt := 25) hc dX8_makeAlbum_19 (by decide) ?_ ?_
    · refine V_aload_n hc dX8_makeAlbum_25 rfl 1 rfl ?_
      refine V_getr (C := RX8) (T := TX8) (N := 8) hc sP0 rfl qX8_makeAlbum_RX8 4 rfl (by decide) kX8_makeAlbum_41 rfl dX8_makeAlbum_26 ?_
      refine V_iload_n hc dX8_makeAlbum_29 rfl 0 rfl ?_
      refine V_aald hc sP14 dX8_makeAlbum_30 (fun h3 => ?_)
      refine V_aload_n hc dX8_makeAlbum_31 rfl 1 rfl ?_
      refine V_getr (C := RX8) (T := TX8) (N := 8) hc sP0 rfl qX8_makeAlbum_RX8 3 rfl (by decide) kX8_makeAlbum_35 rfl dX8_makeAlbum_32 ?_
      refine V_callV_WV (Cn := RX0) (T := TX0) (N := 7) hc (c_X0_begin l K t (ix r1) (8) h3 (by decide)) (sh_alb h3) rfl 1 gX8_makeAlbum_X0_begin rfl ⟨rfl, rfl⟩ (by decide) ⟨Nat.le_of_ble_eq_true rfl, Nat.le_of_ble_eq_true rfl⟩ rfl rfl (Nat.le_of_ble_eq_true rfl) dX8_makeAlbum_35 (fun r4 => ?_)
      refine V_aload_n hc dX8_makeAlbum_38 rfl 1 rfl ?_
      refine V_callV_WV (Cn := RX8) (T := TX8) (N := 8) hc (c_X8_settle l K r4 ) sP0 rfl 0 gX8_makeAlbum_X8_settle rfl ⟨rfl, rfl⟩ (by decide) ⟨Nat.le_of_ble_eq_true rfl, Nat.le_of_ble_eq_true rfl⟩ rfl rfl (Nat.le_of_ble_eq_true rfl) dX8_makeAlbum_39 (fun r5 => ?_)
      refine V_iload_n hc dX8_makeAlbum_42 rfl 0 rfl ?_
      exact V_iret hc rfl rfl dX8_makeAlbum_43
    · refine V_bipush (v := (-3)) hc dX8_makeAlbum_22 (by decide) ?_
      exact V_iret hc rfl rfl dX8_makeAlbum_24
  · refine V_bipush (v := (-2)) hc dX8_makeAlbum_13 (by decide) ?_
    exact V_iret hc rfl rfl dX8_makeAlbum_15

theorem kX8_albumSize_41 : Cond.fieldLink RX8 41 RX8 (TX8 4).2.1 (TX8 4).2.2.1 ∈ wsX8_albumSize := by decide +kernel
theorem qX8_albumSize_RX8 : ∀ w ∈ u_ws RX8 TX8 8, w ∈ wsX8_albumSize := by
  first
  | exact fun _ h => List.mem_cons_of_mem _ (List.mem_append_right _ h)
  | exact fun _ h => List.mem_cons_of_mem _ (List.mem_append_left _ (List.mem_append_right _ h))
  | exact fun _ h => List.mem_cons_of_mem _ (List.mem_append_left _ (List.mem_append_left _ (List.mem_append_right _ h)))
  | exact fun _ h => List.mem_cons_of_mem _ (List.mem_append_left _ (List.mem_append_left _ (List.mem_append_left _ (List.mem_append_right _ h))))
  | exact fun _ h => List.mem_cons_of_mem _ (List.mem_append_left _ (List.mem_append_left _ (List.mem_append_left _ (List.mem_append_left _ (List.mem_append_right _ h)))))
  | decide +kernel
noncomputable def f_X8_albumSize (t : Sx) (a1 : Int32) : Option Int32 := (f_X8_hasAlbum t (a1)).bind fun r1 => if r1 = 0 then some (-1) else gd (vp_in a1 8) ((f_X0_members t (ix a1)).bind fun r3 => (f_J13_bitCount_95d88 t (r3)).bind fun r4 => some r4)
set_option maxRecDepth 20000 in
set_option maxHeartbeats 4000000 in
theorem c_X8_albumSize (l : Launch) (K : Kx) (t : Sx) (a1 : Int32) : CT l K yX8_albumSize wsX8_albumSize ({ frames := 2, cells := 0, slots := 0, locals := 43 } : Room) [.ref (K.2.2 0), .int a1] t (f_X8_albumSize t a1) (kRI t) := by
  refine CT_of (cc := cX8_albumSize) (maxL := 2) (ret := (some .int)) (own := RX8) (by decide +kernel) rfl rfl (Nat.le_of_ble_eq_true rfl) ?_
  intro p e s m args below meth c hc
  refine V_sub (lv' := [(0, .ref (K.2.2 0)), (1, .int a1)]) [0, 1] rfl ?_
  unfold f_X8_albumSize
  refine V_aload_n hc dX8_albumSize_0 rfl 0 rfl ?_
  refine V_iload_n hc dX8_albumSize_1 rfl 1 rfl ?_
  refine V_callV_RI (Cn := RX8) (T := TX8) (N := 8) hc (c_X8_hasAlbum l K t (a1)) sP0 rfl 1 gX8_albumSize_X8_hasAlbum rfl ⟨rfl, rfl⟩ (by decide) ⟨Nat.le_of_ble_eq_true rfl, Nat.le_of_ble_eq_true rfl⟩ rfl rfl (Nat.le_of_ble_eq_true rfl) dX8_albumSize_2 (fun r1 => ?_)
  refine V_if_ne (tgt := 10) hc dX8_albumSize_5 (by decide) ?_ ?_
  · refine V_aload_n hc dX8_albumSize_10 rfl 0 rfl ?_
    refine V_getr (C := RX8) (T := TX8) (N := 8) hc sP0 rfl qX8_albumSize_RX8 4 rfl (by decide) kX8_albumSize_41 rfl dX8_albumSize_11 ?_
    refine V_iload_n hc dX8_albumSize_14 rfl 1 rfl ?_
    refine V_aald hc sP14 dX8_albumSize_15 (fun h2 => ?_)
    refine V_callV_RL (Cn := RX0) (T := TX0) (N := 7) hc (c_X0_members l K t (ix a1) h2) (sh_alb h2) rfl 0 gX8_albumSize_X0_members rfl ⟨rfl, rfl⟩ (by decide) ⟨Nat.le_of_ble_eq_true rfl, Nat.le_of_ble_eq_true rfl⟩ rfl rfl (Nat.le_of_ble_eq_true rfl) dX8_albumSize_16 (fun r3 => ?_)
    refine V_callS_RI hc (c_J13_bitCount_95d88 l K t (r3)) 1 gX8_albumSize_J13_bitCount_95d88 rfl ⟨rfl, rfl⟩ (by decide) ⟨Nat.le_of_ble_eq_true rfl, Nat.le_of_ble_eq_true rfl⟩ rfl rfl (Nat.le_of_ble_eq_true rfl) dX8_albumSize_19 (fun r4 => ?_)
    exact V_iret hc rfl rfl dX8_albumSize_22
  · refine V_iconst (v := (-1)) hc dX8_albumSize_8 (by decide) ?_
    exact V_iret hc rfl rfl dX8_albumSize_9

theorem kX8_isIn_10 : Cond.fieldLink RX8 10 RX8 (TX8 0).2.1 (TX8 0).2.2.1 ∈ wsX8_isIn := by decide +kernel
theorem qX8_isIn_RX8 : ∀ w ∈ u_ws RX8 TX8 8, w ∈ wsX8_isIn := by
  first
  | exact fun _ h => List.mem_cons_of_mem _ (List.mem_append_right _ h)
  | exact fun _ h => List.mem_cons_of_mem _ (List.mem_append_left _ (List.mem_append_right _ h))
  | exact fun _ h => List.mem_cons_of_mem _ (List.mem_append_left _ (List.mem_append_left _ (List.mem_append_right _ h)))
  | exact fun _ h => List.mem_cons_of_mem _ (List.mem_append_left _ (List.mem_append_left _ (List.mem_append_left _ (List.mem_append_right _ h))))
  | exact fun _ h => List.mem_cons_of_mem _ (List.mem_append_left _ (List.mem_append_left _ (List.mem_append_left _ (List.mem_append_left _ (List.mem_append_right _ h)))))
  | decide +kernel
theorem kX8_isIn_41 : Cond.fieldLink RX8 41 RX8 (TX8 4).2.1 (TX8 4).2.2.1 ∈ wsX8_isIn := by decide +kernel
noncomputable def f_X8_isIn (t : Sx) (a1 : Int32) (a2 : Int32) : Option Int32 := (f_X8_hasAlbum t (a1)).bind fun r1 => if r1 = 0 then some (-1) else (f_X1_has t (a2)).bind fun r2 => if r2 = 0 then some (-1) else gd (vp_in a1 8) ((f_X0_members t (ix a1)).bind fun r4 => (f_X8_holds t (r4) (a2)).bind fun r5 => if r5 = 0 then some 0 else some 1)
set_option maxRecDepth 20000 in
set_option maxHeartbeats 4000000 in
theorem c_X8_isIn (l : Launch) (K : Kx) (t : Sx) (a1 : Int32) (a2 : Int32) : CT l K yX8_isIn wsX8_isIn ({ frames := 2, cells := 0, slots := 0, locals := 43 } : Room) [.ref (K.2.2 0), .int a1, .int a2] t (f_X8_isIn t a1 a2) (kRI t) := by
  refine CT_of (cc := cX8_isIn) (maxL := 3) (ret := (some .int)) (own := RX8) (by decide +kernel) rfl rfl (Nat.le_of_ble_eq_true rfl) ?_
  intro p e s m args below meth c hc
  refine V_sub (lv' := [(0, .ref (K.2.2 0)), (1, .int a1), (2, .int a2)]) [0, 1, 2] rfl ?_
  unfold f_X8_isIn
  refine V_aload_n hc dX8_isIn_0 rfl 0 rfl ?_
  refine V_iload_n hc dX8_isIn_1 rfl 1 rfl ?_
  refine V_callV_RI (Cn := RX8) (T := TX8) (N := 8) hc (c_X8_hasAlbum l K t (a1)) sP0 rfl 1 gX8_isIn_X8_hasAlbum rfl ⟨rfl, rfl⟩ (by decide) ⟨Nat.le_of_ble_eq_true rfl, Nat.le_of_ble_eq_true rfl⟩ rfl rfl (Nat.le_of_ble_eq_true rfl) dX8_isIn_2 (fun r1 => ?_)
  refine V_if_eq (tgt := 19) hc dX8_isIn_5 (by decide) ?_ ?_
  · refine V_iconst (v := (-1)) hc dX8_isIn_19 (by decide) ?_
    exact V_iret hc rfl rfl dX8_isIn_20
  · refine V_aload_n hc dX8_isIn_8 rfl 0 rfl ?_
    refine V_getr (C := RX8) (T := TX8) (N := 8) hc sP0 rfl qX8_isIn_RX8 0 rfl (by decide) kX8_isIn_10 rfl dX8_isIn_9 ?_
    refine V_iload_n hc dX8_isIn_12 rfl 2 rfl ?_
    refine V_callV_RI (Cn := RX1) (T := TX1) (N := 6) hc (c_X1_has l K t (a2)) sP1 rfl 1 gX8_isIn_X1_has rfl ⟨rfl, rfl⟩ (by decide) ⟨Nat.le_of_ble_eq_true rfl, Nat.le_of_ble_eq_true rfl⟩ rfl rfl (Nat.le_of_ble_eq_true rfl) dX8_isIn_13 (fun r2 => ?_)
    refine V_if_ne (tgt := 21) hc dX8_isIn_16 (by decide) ?_ ?_
    · refine V_aload_n hc dX8_isIn_21 rfl 0 rfl ?_
      refine V_getr (C := RX8) (T := TX8) (N := 8) hc sP0 rfl qX8_isIn_RX8 4 rfl (by decide) kX8_isIn_41 rfl dX8_isIn_22 ?_
      refine V_iload_n hc dX8_isIn_25 rfl 1 rfl ?_
      refine V_aald hc sP14 dX8_isIn_26 (fun h3 => ?_)
      refine V_callV_RL (Cn := RX0) (T := TX0) (N := 7) hc (c_X0_members l K t (ix a1) h3) (sh_alb h3) rfl 0 gX8_isIn_X0_members rfl ⟨rfl, rfl⟩ (by decide) ⟨Nat.le_of_ble_eq_true rfl, Nat.le_of_ble_eq_true rfl⟩ rfl rfl (Nat.le_of_ble_eq_true rfl) dX8_isIn_27 (fun r4 => ?_)
      refine V_iload_n hc dX8_isIn_30 rfl 2 rfl ?_
      refine V_callS_RI hc (c_X8_holds l K t (r4) (a2)) 2 gX8_isIn_X8_holds rfl ⟨rfl, rfl⟩ (by decide) ⟨Nat.le_of_ble_eq_true rfl, Nat.le_of_ble_eq_true rfl⟩ rfl rfl (Nat.le_of_ble_eq_true rfl) dX8_isIn_31 (fun r5 => ?_)
      refine V_if_eq (tgt := 41) hc dX8_isIn_34 (by decide) ?_ ?_
      · refine V_iconst (v := 0) hc dX8_isIn_41 (by decide) ?_
        exact V_iret hc rfl rfl dX8_isIn_42
      · refine V_iconst (v := 1) hc dX8_isIn_37 (by decide) ?_
        refine V_goto (tgt := 42) hc dX8_isIn_38 (by decide) ?_
        exact V_iret hc rfl rfl dX8_isIn_42
    · refine V_iconst (v := (-1)) hc dX8_isIn_19 (by decide) ?_
      exact V_iret hc rfl rfl dX8_isIn_20

theorem kX8_viewSize_60 : Cond.fieldLink RX8 60 RX8 (TX8 6).2.1 (TX8 6).2.2.1 ∈ wsX8_viewSize := by decide +kernel
theorem qX8_viewSize_RX8 : ∀ w ∈ u_ws RX8 TX8 8, w ∈ wsX8_viewSize := by
  first
  | exact fun _ h => List.mem_cons_of_mem _ (List.mem_append_right _ h)
  | exact fun _ h => List.mem_cons_of_mem _ (List.mem_append_left _ (List.mem_append_right _ h))
  | exact fun _ h => List.mem_cons_of_mem _ (List.mem_append_left _ (List.mem_append_left _ (List.mem_append_right _ h)))
  | exact fun _ h => List.mem_cons_of_mem _ (List.mem_append_left _ (List.mem_append_left _ (List.mem_append_left _ (List.mem_append_right _ h))))
  | exact fun _ h => List.mem_cons_of_mem _ (List.mem_append_left _ (List.mem_append_left _ (List.mem_append_left _ (List.mem_append_left _ (List.mem_append_right _ h)))))
  | decide +kernel
theorem kX8_viewSize_41 : Cond.fieldLink RX8 41 RX8 (TX8 4).2.1 (TX8 4).2.2.1 ∈ wsX8_viewSize := by decide +kernel
noncomputable def f_X8_viewSize (t : Sx) (a1 : Int32) : Option Int32 := (f_X8_hasAlbum t (a1)).bind fun r1 => if r1 = 0 then some (-1) else gd (vp_in a1 8) ((f_X7_shown t (ix a1)).bind fun r3 => (f_J13_bitCount_95d88 t (r3)).bind fun r4 => some r4)
set_option maxRecDepth 20000 in
set_option maxHeartbeats 4000000 in
theorem c_X8_viewSize (l : Launch) (K : Kx) (t : Sx) (a1 : Int32) : CT l K yX8_viewSize wsX8_viewSize ({ frames := 4, cells := 0, slots := 0, locals := 98 } : Room) [.ref (K.2.2 0), .int a1] t (f_X8_viewSize t a1) (kRI t) := by
  refine CT_of (cc := cX8_viewSize) (maxL := 2) (ret := (some .int)) (own := RX8) (by decide +kernel) rfl rfl (Nat.le_of_ble_eq_true rfl) ?_
  intro p e s m args below meth c hc
  refine V_sub (lv' := [(0, .ref (K.2.2 0)), (1, .int a1)]) [0, 1] rfl ?_
  unfold f_X8_viewSize
  refine V_aload_n hc dX8_viewSize_0 rfl 0 rfl ?_
  refine V_iload_n hc dX8_viewSize_1 rfl 1 rfl ?_
  refine V_callV_RI (Cn := RX8) (T := TX8) (N := 8) hc (c_X8_hasAlbum l K t (a1)) sP0 rfl 1 gX8_viewSize_X8_hasAlbum rfl ⟨rfl, rfl⟩ (by decide) ⟨Nat.le_of_ble_eq_true rfl, Nat.le_of_ble_eq_true rfl⟩ rfl rfl (Nat.le_of_ble_eq_true rfl) dX8_viewSize_2 (fun r1 => ?_)
  refine V_if_ne (tgt := 10) hc dX8_viewSize_5 (by decide) ?_ ?_
  · refine V_aload_n hc dX8_viewSize_10 rfl 0 rfl ?_
    refine V_getr (C := RX8) (T := TX8) (N := 8) hc sP0 rfl qX8_viewSize_RX8 6 rfl (by decide) kX8_viewSize_60 rfl dX8_viewSize_11 ?_
    refine V_aload_n hc dX8_viewSize_14 rfl 0 rfl ?_
    refine V_getr (C := RX8) (T := TX8) (N := 8) hc sP0 rfl qX8_viewSize_RX8 4 rfl (by decide) kX8_viewSize_41 rfl dX8_viewSize_15 ?_
    refine V_iload_n hc dX8_viewSize_18 rfl 1 rfl ?_
    refine V_aald hc sP14 dX8_viewSize_19 (fun h2 => ?_)
    refine V_callV_RL (Cn := RX7) (T := TX7) (N := 2) hc (c_X7_shown l K t (ix a1) h2) sP19 rfl 1 gX8_viewSize_X7_shown rfl ⟨rfl, rfl⟩ (by decide) ⟨Nat.le_of_ble_eq_true rfl, Nat.le_of_ble_eq_true rfl⟩ rfl rfl (Nat.le_of_ble_eq_true rfl) dX8_viewSize_20 (fun r3 => ?_)
    refine V_callS_RI hc (c_J13_bitCount_95d88 l K t (r3)) 1 gX8_viewSize_J13_bitCount_95d88 rfl ⟨rfl, rfl⟩ (by decide) ⟨Nat.le_of_ble_eq_true rfl, Nat.le_of_ble_eq_true rfl⟩ rfl rfl (Nat.le_of_ble_eq_true rfl) dX8_viewSize_23 (fun r4 => ?_)
    exact V_iret hc rfl rfl dX8_viewSize_26
  · refine V_iconst (v := (-1)) hc dX8_viewSize_8 (by decide) ?_
    exact V_iret hc rfl rfl dX8_viewSize_9

theorem kX8_viewAt_60 : Cond.fieldLink RX8 60 RX8 (TX8 6).2.1 (TX8 6).2.2.1 ∈ wsX8_viewAt := by decide +kernel
theorem qX8_viewAt_RX8 : ∀ w ∈ u_ws RX8 TX8 8, w ∈ wsX8_viewAt := by
  first
  | exact fun _ h => List.mem_cons_of_mem _ (List.mem_append_right _ h)
  | exact fun _ h => List.mem_cons_of_mem _ (List.mem_append_left _ (List.mem_append_right _ h))
  | exact fun _ h => List.mem_cons_of_mem _ (List.mem_append_left _ (List.mem_append_left _ (List.mem_append_right _ h)))
  | exact fun _ h => List.mem_cons_of_mem _ (List.mem_append_left _ (List.mem_append_left _ (List.mem_append_left _ (List.mem_append_right _ h))))
  | exact fun _ h => List.mem_cons_of_mem _ (List.mem_append_left _ (List.mem_append_left _ (List.mem_append_left _ (List.mem_append_left _ (List.mem_append_right _ h)))))
  | decide +kernel
theorem kX8_viewAt_41 : Cond.fieldLink RX8 41 RX8 (TX8 4).2.1 (TX8 4).2.2.1 ∈ wsX8_viewAt := by decide +kernel
noncomputable def f_X8_viewAt (t : Sx) (a1 : Int32) (a2 : Int32) : Option Int32 := (f_X8_hasAlbum t (a1)).bind fun r1 => if r1 = 0 then some (-1) else if 0 ≤ a2 then gd (vp_in a1 8) ((f_X7_fileAt t (ix a1) (a2)).bind fun r3 => (f_X8_orNotFound t (r3)).bind fun r4 => some r4) else some (-1)
set_option maxRecDepth 20000 in
set_option maxHeartbeats 4000000 in
theorem c_X8_viewAt (l : Launch) (K : Kx) (t : Sx) (a1 : Int32) (a2 : Int32) : CT l K yX8_viewAt wsX8_viewAt ({ frames := 5, cells := 0, slots := 0, locals := 123 } : Room) [.ref (K.2.2 0), .int a1, .int a2] t (f_X8_viewAt t a1 a2) (kRI t) := by
  refine CT_of (cc := cX8_viewAt) (maxL := 3) (ret := (some .int)) (own := RX8) (by decide +kernel) rfl rfl (Nat.le_of_ble_eq_true rfl) ?_
  intro p e s m args below meth c hc
  refine V_sub (lv' := [(0, .ref (K.2.2 0)), (1, .int a1), (2, .int a2)]) [0, 1, 2] rfl ?_
  unfold f_X8_viewAt
  refine V_aload_n hc dX8_viewAt_0 rfl 0 rfl ?_
  refine V_iload_n hc dX8_viewAt_1 rfl 1 rfl ?_
  refine V_callV_RI (Cn := RX8) (T := TX8) (N := 8) hc (c_X8_hasAlbum l K t (a1)) sP0 rfl 1 gX8_viewAt_X8_hasAlbum rfl ⟨rfl, rfl⟩ (by decide) ⟨Nat.le_of_ble_eq_true rfl, Nat.le_of_ble_eq_true rfl⟩ rfl rfl (Nat.le_of_ble_eq_true rfl) dX8_viewAt_2 (fun r1 => ?_)
  refine V_if_eq (tgt := 12) hc dX8_viewAt_5 (by decide) ?_ ?_
  · refine V_iconst (v := (-1)) hc dX8_viewAt_12 (by decide) ?_
    exact V_iret hc rfl rfl dX8_viewAt_13
  · refine V_iload_n hc dX8_viewAt_8 rfl 2 rfl ?_
    refine V_if_ge (tgt := 14) hc dX8_viewAt_9 (by decide) ?_ ?_
    · refine V_aload_n hc dX8_viewAt_14 rfl 0 rfl ?_
      refine V_getr (C := RX8) (T := TX8) (N := 8) hc sP0 rfl qX8_viewAt_RX8 6 rfl (by decide) kX8_viewAt_60 rfl dX8_viewAt_15 ?_
      refine V_aload_n hc dX8_viewAt_18 rfl 0 rfl ?_
      refine V_getr (C := RX8) (T := TX8) (N := 8) hc sP0 rfl qX8_viewAt_RX8 4 rfl (by decide) kX8_viewAt_41 rfl dX8_viewAt_19 ?_
      refine V_iload_n hc dX8_viewAt_22 rfl 1 rfl ?_
      refine V_aald hc sP14 dX8_viewAt_23 (fun h2 => ?_)
      refine V_iload_n hc dX8_viewAt_24 rfl 2 rfl ?_
      refine V_callV_RI (Cn := RX7) (T := TX7) (N := 2) hc (c_X7_fileAt l K t (ix a1) (a2) h2) sP19 rfl 2 gX8_viewAt_X7_fileAt rfl ⟨rfl, rfl⟩ (by decide) ⟨Nat.le_of_ble_eq_true rfl, Nat.le_of_ble_eq_true rfl⟩ rfl rfl (Nat.le_of_ble_eq_true rfl) dX8_viewAt_25 (fun r3 => ?_)
      refine V_callS_RI hc (c_X8_orNotFound l K t (r3)) 1 gX8_viewAt_X8_orNotFound rfl ⟨rfl, rfl⟩ (by decide) ⟨Nat.le_of_ble_eq_true rfl, Nat.le_of_ble_eq_true rfl⟩ rfl rfl (Nat.le_of_ble_eq_true rfl) dX8_viewAt_28 (fun r4 => ?_)
      exact V_iret hc rfl rfl dX8_viewAt_31
    · refine V_iconst (v := (-1)) hc dX8_viewAt_12 (by decide) ?_
      exact V_iret hc rfl rfl dX8_viewAt_13

theorem kX8_journalSize_67 : Cond.fieldLink RX8 67 RX8 (TX8 7).2.1 (TX8 7).2.2.1 ∈ wsX8_journalSize := by decide +kernel
theorem qX8_journalSize_RX8 : ∀ w ∈ u_ws RX8 TX8 8, w ∈ wsX8_journalSize := by
  first
  | exact fun _ h => List.mem_cons_of_mem _ (List.mem_append_right _ h)
  | exact fun _ h => List.mem_cons_of_mem _ (List.mem_append_left _ (List.mem_append_right _ h))
  | exact fun _ h => List.mem_cons_of_mem _ (List.mem_append_left _ (List.mem_append_left _ (List.mem_append_right _ h)))
  | exact fun _ h => List.mem_cons_of_mem _ (List.mem_append_left _ (List.mem_append_left _ (List.mem_append_left _ (List.mem_append_right _ h))))
  | exact fun _ h => List.mem_cons_of_mem _ (List.mem_append_left _ (List.mem_append_left _ (List.mem_append_left _ (List.mem_append_left _ (List.mem_append_right _ h)))))
  | decide +kernel
noncomputable def f_X8_journalSize (t : Sx)  : Option Int32 := (f_X3_length t ).bind fun r1 => some r1
set_option maxRecDepth 20000 in
set_option maxHeartbeats 4000000 in
theorem c_X8_journalSize (l : Launch) (K : Kx) (t : Sx)  : CT l K yX8_journalSize wsX8_journalSize ({ frames := 1, cells := 0, slots := 0, locals := 20 } : Room) [.ref (K.2.2 0)] t (f_X8_journalSize t ) (kRI t) := by
  refine CT_of (cc := cX8_journalSize) (maxL := 1) (ret := (some .int)) (own := RX8) (by decide +kernel) rfl rfl (Nat.le_of_ble_eq_true rfl) ?_
  intro p e s m args below meth c hc
  refine V_sub (lv' := [(0, .ref (K.2.2 0))]) [0] rfl ?_
  unfold f_X8_journalSize
  refine V_aload_n hc dX8_journalSize_0 rfl 0 rfl ?_
  refine V_getr (C := RX8) (T := TX8) (N := 8) hc sP0 rfl qX8_journalSize_RX8 7 rfl (by decide) kX8_journalSize_67 rfl dX8_journalSize_1 ?_
  refine V_callV_RI (Cn := RX3) (T := TX3) (N := 5) hc (c_X3_length l K t ) sP20 rfl 0 gX8_journalSize_X3_length rfl ⟨rfl, rfl⟩ (by decide) ⟨Nat.le_of_ble_eq_true rfl, Nat.le_of_ble_eq_true rfl⟩ rfl rfl (Nat.le_of_ble_eq_true rfl) dX8_journalSize_4 (fun r1 => ?_)
  exact V_iret hc rfl rfl dX8_journalSize_7

theorem kX8_turnover_41 : Cond.fieldLink RX8 41 RX8 (TX8 4).2.1 (TX8 4).2.2.1 ∈ wsX8_turnover := by decide +kernel
theorem qX8_turnover_RX8 : ∀ w ∈ u_ws RX8 TX8 8, w ∈ wsX8_turnover := by
  first
  | exact fun _ h => List.mem_cons_of_mem _ (List.mem_append_right _ h)
  | exact fun _ h => List.mem_cons_of_mem _ (List.mem_append_left _ (List.mem_append_right _ h))
  | exact fun _ h => List.mem_cons_of_mem _ (List.mem_append_left _ (List.mem_append_left _ (List.mem_append_right _ h)))
  | exact fun _ h => List.mem_cons_of_mem _ (List.mem_append_left _ (List.mem_append_left _ (List.mem_append_left _ (List.mem_append_right _ h))))
  | exact fun _ h => List.mem_cons_of_mem _ (List.mem_append_left _ (List.mem_append_left _ (List.mem_append_left _ (List.mem_append_left _ (List.mem_append_right _ h)))))
  | decide +kernel
noncomputable def f_X8_turnover (t : Sx) (a1 : Int32) (a2 : Int32) : Option Int32 := (f_X8_hasAlbum t (a1)).bind fun r1 => if r1 = 0 then some (-1) else (f_X8_isWithin t (a2) (0) (1)).bind fun r2 => if r2 = 0 then some (-1) else if a2 = 1 then gd (vp_in a1 8) ((f_X0_joined t (ix a1)).bind fun r6 => some r6) else gd (vp_in a1 8) ((f_X0_left t (ix a1)).bind fun r4 => some r4)
set_option maxRecDepth 20000 in
set_option maxHeartbeats 4000000 in
theorem c_X8_turnover (l : Launch) (K : Kx) (t : Sx) (a1 : Int32) (a2 : Int32) : CT l K yX8_turnover wsX8_turnover ({ frames := 2, cells := 0, slots := 0, locals := 43 } : Room) [.ref (K.2.2 0), .int a1, .int a2] t (f_X8_turnover t a1 a2) (kRI t) := by
  refine CT_of (cc := cX8_turnover) (maxL := 3) (ret := (some .int)) (own := RX8) (by decide +kernel) rfl rfl (Nat.le_of_ble_eq_true rfl) ?_
  intro p e s m args below meth c hc
  refine V_sub (lv' := [(0, .ref (K.2.2 0)), (1, .int a1), (2, .int a2)]) [0, 1, 2] rfl ?_
  unfold f_X8_turnover
  refine V_aload_n hc dX8_turnover_0 rfl 0 rfl ?_
  refine V_iload_n hc dX8_turnover_1 rfl 1 rfl ?_
  refine V_callV_RI (Cn := RX8) (T := TX8) (N := 8) hc (c_X8_hasAlbum l K t (a1)) sP0 rfl 1 gX8_turnover_X8_hasAlbum rfl ⟨rfl, rfl⟩ (by decide) ⟨Nat.le_of_ble_eq_true rfl, Nat.le_of_ble_eq_true rfl⟩ rfl rfl (Nat.le_of_ble_eq_true rfl) dX8_turnover_2 (fun r1 => ?_)
  refine V_if_eq (tgt := 17) hc dX8_turnover_5 (by decide) ?_ ?_
  · refine V_iconst (v := (-1)) hc dX8_turnover_17 (by decide) ?_
    exact V_iret hc rfl rfl dX8_turnover_18
  · refine V_iload_n hc dX8_turnover_8 rfl 2 rfl ?_
    refine V_iconst (v := 0) hc dX8_turnover_9 (by decide) ?_
    refine V_iconst (v := 1) hc dX8_turnover_10 (by decide) ?_
    refine V_callS_RI hc (c_X8_isWithin l K t (a2) (0) (1)) 3 gX8_turnover_X8_isWithin rfl ⟨rfl, rfl⟩ (by decide) ⟨Nat.le_of_ble_eq_true rfl, Nat.le_of_ble_eq_true rfl⟩ rfl rfl (Nat.le_of_ble_eq_true rfl) dX8_turnover_11 (fun r2 => ?_)
    refine V_if_ne (tgt := 19) hc dX8_turnover_14 (by decide) ?_ ?_
    · refine V_iload_n hc dX8_turnover_19 rfl 2 rfl ?_
      refine V_iconst (v := 1) hc dX8_turnover_20 (by decide) ?_
      refine V_icmp_ne (tgt := 36) hc dX8_turnover_21 (by decide) ?_ ?_
      · refine V_aload_n hc dX8_turnover_36 rfl 0 rfl ?_
        refine V_getr (C := RX8) (T := TX8) (N := 8) hc sP0 rfl qX8_turnover_RX8 4 rfl (by decide) kX8_turnover_41 rfl dX8_turnover_37 ?_
        refine V_iload_n hc dX8_turnover_40 rfl 1 rfl ?_
        refine V_aald hc sP14 dX8_turnover_41 (fun h3 => ?_)
        refine V_callV_RI (Cn := RX0) (T := TX0) (N := 7) hc (c_X0_left l K t (ix a1) h3) (sh_alb h3) rfl 0 gX8_turnover_X0_left rfl ⟨rfl, rfl⟩ (by decide) ⟨Nat.le_of_ble_eq_true rfl, Nat.le_of_ble_eq_true rfl⟩ rfl rfl (Nat.le_of_ble_eq_true rfl) dX8_turnover_42 (fun r4 => ?_)
        exact V_iret hc rfl rfl dX8_turnover_45
      · refine V_aload_n hc dX8_turnover_24 rfl 0 rfl ?_
        refine V_getr (C := RX8) (T := TX8) (N := 8) hc sP0 rfl qX8_turnover_RX8 4 rfl (by decide) kX8_turnover_41 rfl dX8_turnover_25 ?_
        refine V_iload_n hc dX8_turnover_28 rfl 1 rfl ?_
        refine V_aald hc sP14 dX8_turnover_29 (fun h5 => ?_)
        refine V_callV_RI (Cn := RX0) (T := TX0) (N := 7) hc (c_X0_joined l K t (ix a1) h5) (sh_alb h5) rfl 0 gX8_turnover_X0_joined rfl ⟨rfl, rfl⟩ (by decide) ⟨Nat.le_of_ble_eq_true rfl, Nat.le_of_ble_eq_true rfl⟩ rfl rfl (Nat.le_of_ble_eq_true rfl) dX8_turnover_30 (fun r6 => ?_)
        refine V_goto (tgt := 45) hc dX8_turnover_33 (by decide) ?_
        exact V_iret hc rfl rfl dX8_turnover_45
    · refine V_iconst (v := (-1)) hc dX8_turnover_17 (by decide) ?_
      exact V_iret hc rfl rfl dX8_turnover_18


noncomputable def L_X8_albumCount_4 (t0 : Sx) (kont : Int32 → Int32 → Option Int32) : Nat → Int32 → Int32 → Option Int32
  | 0, _, _ => none
  | n + 1, x1 , x2 => if 8 ≤ x2 then kont (x1) (x2) else (f_X8_hasAlbum t0 (x2)).bind fun r1 => if r1 = 0 then L_X8_albumCount_4 t0 kont n (x1) ((x2 + 1)) else L_X8_albumCount_4 t0 kont n ((x1 + 1)) ((x2 + 1))
set_option maxRecDepth 20000 in
set_option maxHeartbeats 4000000 in
theorem L_X8_albumCount_4_ok {p : Program} {l : Launch} {K : Kx} {e : Env} {s : State} {m : MethodId} {args : Array Value} {below : List Frame} {meth : Method} {c : Code} (hc : Cx p ({ frames := 2, cells := 0, slots := 0, locals := 43 } : Room) s m args meth c cX8_albumCount 3 wsX8_albumCount RX8 K (aA K s.heap.size) (some .int) 0 0) (t0 : Sx) (kont : Int32 → Int32 → Option Int32) (hk : ∀ x1 x2, V p l e ({ frames := 2, cells := 0, slots := 0, locals := 43 } : Room) s m args below meth c K (aA K s.heap.size) 0 0 3 (QM below K args s (kRI t0)) 27 [(0, .ref (K.2.2 0)), (1, .int x1), (2, .int x2)] [] t0 (kont x1 x2)) : ∀ (n : Nat) (x1 : Int32) (x2 : Int32), V p l e ({ frames := 2, cells := 0, slots := 0, locals := 43 } : Room) s m args below meth c K (aA K s.heap.size) 0 0 3 (QM below K args s (kRI t0)) 4 [(0, .ref (K.2.2 0)), (1, .int x1), (2, .int x2)] [] t0 (L_X8_albumCount_4 t0 kont n x1 x2) := by
  intro n
  induction n with
  | zero => intro x1 x2; exact V_none
  | succ n ih =>
    intro x1 x2
    rw [L_X8_albumCount_4]
    refine V_iload_n hc dX8_albumCount_4 rfl 2 rfl ?_
    refine V_bipush (v := 8) hc dX8_albumCount_5 (by decide) ?_
    refine V_icmp_ge (tgt := 27) hc dX8_albumCount_7 (by decide) ?_ ?_
    · exact V_sub [0, 1, 2] rfl (hk _ _)
    · refine V_aload_n hc dX8_albumCount_10 rfl 0 rfl ?_
      refine V_iload_n hc dX8_albumCount_11 rfl 2 rfl ?_
      refine V_callV_RI (Cn := RX8) (T := TX8) (N := 8) hc (c_X8_hasAlbum l K t0 (x2)) sP0 rfl 1 gX8_albumCount_X8_hasAlbum rfl ⟨rfl, rfl⟩ (by decide) ⟨Nat.le_of_ble_eq_true rfl, Nat.le_of_ble_eq_true rfl⟩ rfl rfl (Nat.le_of_ble_eq_true rfl) dX8_albumCount_12 (fun r1 => ?_)
      refine V_if_eq (tgt := 21) hc dX8_albumCount_15 (by decide) ?_ ?_
      · refine V_iinc (v := (x2 + 1)) (lv' := [(2, .int (x2 + 1)), (0, .ref (K.2.2 0)), (1, .int x1)]) hc dX8_albumCount_21 2 rfl rfl (by decide) rfl ?_
        refine V_goto (tgt := 4) hc dX8_albumCount_24 (by decide) ?_
        exact V_sub [1, 2, 0] rfl (ih _ _)
      · refine V_iinc (v := (x1 + 1)) (lv' := [(1, .int (x1 + 1)), (0, .ref (K.2.2 0)), (2, .int x2)]) hc dX8_albumCount_18 1 rfl rfl (by decide) rfl ?_
        refine V_iinc (v := (x2 + 1)) (lv' := [(2, .int (x2 + 1)), (1, .int (x1 + 1)), (0, .ref (K.2.2 0))]) hc dX8_albumCount_21 2 rfl rfl (by decide) rfl ?_
        refine V_goto (tgt := 4) hc dX8_albumCount_24 (by decide) ?_
        exact V_sub [2, 1, 0] rfl (ih _ _)
noncomputable def f_X8_albumCount (t : Sx)  : Option Int32 := L_X8_albumCount_4 t (fun z2 z3 => some z2) FU (0) (0)
set_option maxRecDepth 20000 in
set_option maxHeartbeats 4000000 in
theorem c_X8_albumCount (l : Launch) (K : Kx) (t : Sx)  : CT l K yX8_albumCount wsX8_albumCount ({ frames := 2, cells := 0, slots := 0, locals := 43 } : Room) [.ref (K.2.2 0)] t (f_X8_albumCount t ) (kRI t) := by
  refine CT_of (cc := cX8_albumCount) (maxL := 3) (ret := (some .int)) (own := RX8) (by decide +kernel) rfl rfl (Nat.le_of_ble_eq_true rfl) ?_
  intro p e s m args below meth c hc
  refine V_sub (lv' := [(0, .ref (K.2.2 0))]) [0] rfl ?_
  unfold f_X8_albumCount
  refine V_iconst (v := 0) hc dX8_albumCount_0 (by decide) ?_
  refine V_istore_n (lv' := [(1, .int 0), (0, .ref (K.2.2 0))]) hc dX8_albumCount_1 rfl (by decide) rfl ?_
  refine V_iconst (v := 0) hc dX8_albumCount_2 (by decide) ?_
  refine V_istore_n (lv' := [(2, .int 0), (1, .int 0), (0, .ref (K.2.2 0))]) hc dX8_albumCount_3 rfl (by decide) rfl ?_
  refine V_sub (lv' := [(0, .ref (K.2.2 0)), (1, .int 0), (2, .int 0)]) [2, 1, 0] rfl ?_
  refine L_X8_albumCount_4_ok hc t _ (fun z2 z3 => ?_) FU _ _
  refine V_iload_n hc dX8_albumCount_27 rfl 1 rfl ?_
  exact V_iret hc rfl rfl dX8_albumCount_28

theorem kX8_count_28 : Cond.fieldLink RX8 28 RX8 (TX8 2).2.1 (TX8 2).2.2.1 ∈ wsX8_count := by decide +kernel
theorem qX8_count_RX8 : ∀ w ∈ u_ws RX8 TX8 8, w ∈ wsX8_count := by
  first
  | exact fun _ h => List.mem_cons_of_mem _ (List.mem_append_right _ h)
  | exact fun _ h => List.mem_cons_of_mem _ (List.mem_append_left _ (List.mem_append_right _ h))
  | exact fun _ h => List.mem_cons_of_mem _ (List.mem_append_left _ (List.mem_append_left _ (List.mem_append_right _ h)))
  | exact fun _ h => List.mem_cons_of_mem _ (List.mem_append_left _ (List.mem_append_left _ (List.mem_append_left _ (List.mem_append_right _ h))))
  | exact fun _ h => List.mem_cons_of_mem _ (List.mem_append_left _ (List.mem_append_left _ (List.mem_append_left _ (List.mem_append_left _ (List.mem_append_right _ h)))))
  | decide +kernel
theorem kX8_count_21 : Cond.fieldLink RX8 21 RX8 (TX8 1).2.1 (TX8 1).2.2.1 ∈ wsX8_count := by decide +kernel
theorem kX8_count_10 : Cond.fieldLink RX8 10 RX8 (TX8 0).2.1 (TX8 0).2.2.1 ∈ wsX8_count := by decide +kernel
noncomputable def f_X8_count (t : Sx) (a1 : Int32) : Option Int32 := if a1 = 0 then (f_X6_howMany t ).bind fun r2 => some r2 else if a1 = 1 then (f_X8_albumCount t ).bind fun r4 => some r4 else if a1 = 2 then (f_X2_keepers t ).bind fun r6 => (f_X2_duplicates t ).bind fun r7 => (f_J13_bitCount_95d88 t (r6 &&& r7)).bind fun r8 => some r8 else if a1 = 3 then (f_X6_stacked t ).bind fun r10 => (f_J13_bitCount_95d88 t (r10)).bind fun r11 => some r11 else if a1 = 4 then (f_X1_all t ).bind fun r13 => (f_X1_sumOfSizes t (r13)).bind fun r14 => some r14 else some (-1)
set_option maxRecDepth 20000 in
set_option maxHeartbeats 4000000 in
theorem c_X8_count (l : Launch) (K : Kx) (t : Sx) (a1 : Int32) : CT l K yX8_count wsX8_count ({ frames := 3, cells := 0, slots := 0, locals := 65 } : Room) [.ref (K.2.2 0), .int a1] t (f_X8_count t a1) (kRI t) := by
  refine CT_of (cc := cX8_count) (maxL := 2) (ret := (some .int)) (own := RX8) (by decide +kernel) rfl rfl (Nat.le_of_ble_eq_true rfl) ?_
  intro p e s m args below meth c hc
  refine V_sub (lv' := [(0, .ref (K.2.2 0)), (1, .int a1)]) [0, 1] rfl ?_
  unfold f_X8_count
  refine V_iload_n hc dX8_count_0 rfl 1 rfl ?_
  refine V_ite (fun h1 => ?_) (fun h1 => ?_)
  · refine V_tsIn (tgt := 36) hc dX8_count_1 (by rw [h1] <;> decide) (by rw [h1] <;> decide) (by rw [h1] <;> rfl) (by decide) ?_
    refine V_aload_n hc dX8_count_36 rfl 0 rfl ?_
    refine V_getr (C := RX8) (T := TX8) (N := 8) hc sP0 rfl qX8_count_RX8 2 rfl (by decide) kX8_count_28 rfl dX8_count_37 ?_
    refine V_callV_RI (Cn := RX6) (T := TX6) (N := 8) hc (c_X6_howMany l K t ) sP8 rfl 0 gX8_count_X6_howMany rfl ⟨rfl, rfl⟩ (by decide) ⟨Nat.le_of_ble_eq_true rfl, Nat.le_of_ble_eq_true rfl⟩ rfl rfl (Nat.le_of_ble_eq_true rfl) dX8_count_40 (fun r2 => ?_)
    exact V_iret hc rfl rfl dX8_count_43
  · refine V_ite (fun h3 => ?_) (fun h3 => ?_)
    · refine V_tsIn (tgt := 44) hc dX8_count_1 (by rw [h3] <;> decide) (by rw [h3] <;> decide) (by rw [h3] <;> rfl) (by decide) ?_
      refine V_aload_n hc dX8_count_44 rfl 0 rfl ?_
      refine V_callV_RI (Cn := RX8) (T := TX8) (N := 8) hc (c_X8_albumCount l K t ) sP0 rfl 0 gX8_count_X8_albumCount rfl ⟨rfl, rfl⟩ (by decide) ⟨Nat.le_of_ble_eq_true rfl, Nat.le_of_ble_eq_true rfl⟩ rfl rfl (Nat.le_of_ble_eq_true rfl) dX8_count_45 (fun r4 => ?_)
      exact V_iret hc rfl rfl dX8_count_48
    · refine V_ite (fun h5 => ?_) (fun h5 => ?_)
      · refine V_tsIn (tgt := 49) hc dX8_count_1 (by rw [h5] <;> decide) (by rw [h5] <;> decide) (by rw [h5] <;> rfl) (by decide) ?_
        refine V_aload_n hc dX8_count_49 rfl 0 rfl ?_
        refine V_getr (C := RX8) (T := TX8) (N := 8) hc sP0 rfl qX8_count_RX8 1 rfl (by decide) kX8_count_21 rfl dX8_count_50 ?_
        refine V_callV_RL (Cn := RX2) (T := TX2) (N := 3) hc (c_X2_keepers l K t ) sP7 rfl 0 gX8_count_X2_keepers rfl ⟨rfl, rfl⟩ (by decide) ⟨Nat.le_of_ble_eq_true rfl, Nat.le_of_ble_eq_true rfl⟩ rfl rfl (Nat.le_of_ble_eq_true rfl) dX8_count_53 (fun r6 => ?_)
        refine V_aload_n hc dX8_count_56 rfl 0 rfl ?_
        refine V_getr (C := RX8) (T := TX8) (N := 8) hc sP0 rfl qX8_count_RX8 1 rfl (by decide) kX8_count_21 rfl dX8_count_57 ?_
        refine V_callV_RL (Cn := RX2) (T := TX2) (N := 3) hc (c_X2_duplicates l K t ) sP7 rfl 0 gX8_count_X2_duplicates rfl ⟨rfl, rfl⟩ (by decide) ⟨Nat.le_of_ble_eq_true rfl, Nat.le_of_ble_eq_true rfl⟩ rfl rfl (Nat.le_of_ble_eq_true rfl) dX8_count_60 (fun r7 => ?_)
        refine V_land hc dX8_count_63 ?_
        refine V_callS_RI hc (c_J13_bitCount_95d88 l K t (r6 &&& r7)) 1 gX8_count_J13_bitCount_95d88 rfl ⟨rfl, rfl⟩ (by decide) ⟨Nat.le_of_ble_eq_true rfl, Nat.le_of_ble_eq_true rfl⟩ rfl rfl (Nat.le_of_ble_eq_true rfl) dX8_count_64 (fun r8 => ?_)
        exact V_iret hc rfl rfl dX8_count_67
      · refine V_ite (fun h9 => ?_) (fun h9 => ?_)
        · refine V_tsIn (tgt := 68) hc dX8_count_1 (by rw [h9] <;> decide) (by rw [h9] <;> decide) (by rw [h9] <;> rfl) (by decide) ?_
          refine V_aload_n hc dX8_count_68 rfl 0 rfl ?_
          refine V_getr (C := RX8) (T := TX8) (N := 8) hc sP0 rfl qX8_count_RX8 2 rfl (by decide) kX8_count_28 rfl dX8_count_69 ?_
          refine V_callV_RL (Cn := RX6) (T := TX6) (N := 8) hc (c_X6_stacked l K t ) sP8 rfl 0 gX8_count_X6_stacked rfl ⟨rfl, rfl⟩ (by decide) ⟨Nat.le_of_ble_eq_true rfl, Nat.le_of_ble_eq_true rfl⟩ rfl rfl (Nat.le_of_ble_eq_true rfl) dX8_count_72 (fun r10 => ?_)
          refine V_callS_RI hc (c_J13_bitCount_95d88 l K t (r10)) 1 gX8_count_J13_bitCount_95d88 rfl ⟨rfl, rfl⟩ (by decide) ⟨Nat.le_of_ble_eq_true rfl, Nat.le_of_ble_eq_true rfl⟩ rfl rfl (Nat.le_of_ble_eq_true rfl) dX8_count_75 (fun r11 => ?_)
          exact V_iret hc rfl rfl dX8_count_78
        · refine V_ite (fun h12 => ?_) (fun h12 => ?_)
          · refine V_tsIn (tgt := 79) hc dX8_count_1 (by rw [h12] <;> decide) (by rw [h12] <;> decide) (by rw [h12] <;> rfl) (by decide) ?_
            refine V_aload_n hc dX8_count_79 rfl 0 rfl ?_
            refine V_getr (C := RX8) (T := TX8) (N := 8) hc sP0 rfl qX8_count_RX8 0 rfl (by decide) kX8_count_10 rfl dX8_count_80 ?_
            refine V_aload_n hc dX8_count_83 rfl 0 rfl ?_
            refine V_getr (C := RX8) (T := TX8) (N := 8) hc sP0 rfl qX8_count_RX8 0 rfl (by decide) kX8_count_10 rfl dX8_count_84 ?_
            refine V_callV_RL (Cn := RX1) (T := TX1) (N := 6) hc (c_X1_all l K t ) sP1 rfl 0 gX8_count_X1_all rfl ⟨rfl, rfl⟩ (by decide) ⟨Nat.le_of_ble_eq_true rfl, Nat.le_of_ble_eq_true rfl⟩ rfl rfl (Nat.le_of_ble_eq_true rfl) dX8_count_87 (fun r13 => ?_)
            refine V_callV_RI (Cn := RX1) (T := TX1) (N := 6) hc (c_X1_sumOfSizes l K t (r13)) sP1 rfl 1 gX8_count_X1_sumOfSizes rfl ⟨rfl, rfl⟩ (by decide) ⟨Nat.le_of_ble_eq_true rfl, Nat.le_of_ble_eq_true rfl⟩ rfl rfl (Nat.le_of_ble_eq_true rfl) dX8_count_90 (fun r14 => ?_)
            exact V_iret hc rfl rfl dX8_count_93
          · refine V_tsOut (tgt := 94) hc dX8_count_1 (ts_out (lo := 0) (n := 5) (fun i hi => match i, hi with | 0, _ => h1 | 1, _ => h3 | 2, _ => h5 | 3, _ => h9 | 4, _ => h12 | _ + 5, hi => absurd hi (by omega))) (by decide) ?_
            refine V_iconst (v := (-1)) hc dX8_count_94 (by decide) ?_
            exact V_iret hc rfl rfl dX8_count_95
