theorem kX8_hasAlbum_41 : Cond.fieldLink RX8 41 RX8 (TX8 4).2.1 (TX8 4).2.2.1 ∈ wsX8_hasAlbum := by decide +kernel
theorem qX8_hasAlbum_RX8 : ∀ w ∈ u_ws RX8 TX8 8, w ∈ wsX8_hasAlbum := by
  first
  | exact fun _ h => List.mem_cons_of_mem _ (List.mem_append_right _ h)
  | exact fun _ h => List.mem_cons_of_mem _ (List.mem_append_left _ (List.mem_append_right _ h))
  | exact fun _ h => List.mem_cons_of_mem _ (List.mem_append_left _ (List.mem_append_left _ (List.mem_append_right _ h)))
  | exact fun _ h => List.mem_cons_of_mem _ (List.mem_append_left _ (List.mem_append_left _ (List.mem_append_left _ (List.mem_append_right _ h))))
  | exact fun _ h => List.mem_cons_of_mem _ (List.mem_append_left _ (List.mem_append_left _ (List.mem_append_left _ (List.mem_append_left _ (List.mem_append_right _ h)))))
  | decide +kernel
noncomputable def f_X8_hasAlbum (t : Sx) (a1 : Int32) : Option Int32 := (f_X8_isWithin t (a1) (0) (7)).bind fun r1 => if r1 = 0 then some 0 else gd (vp_in a1 8) ((f_X0_exists t (ix a1)).bind fun r3 => if r3 = 0 then some 0 else some 1)
set_option maxRecDepth 20000 in
set_option maxHeartbeats 4000000 in
theorem c_X8_hasAlbum (l : Launch) (K : Kx) (t : Sx) (a1 : Int32) : CT l K yX8_hasAlbum wsX8_hasAlbum ({ frames := 1, cells := 0, slots := 0, locals := 22 } : Room) [.ref (K.2.2 0), .int a1] t (f_X8_hasAlbum t a1) (kRI t) := by
  refine CT_of (cc := cX8_hasAlbum) (maxL := 2) (ret := (some .boolean)) (own := RX8) (by decide +kernel) rfl rfl (Nat.le_of_ble_eq_true rfl) ?_
  intro p e s m args below meth c hc
  refine V_sub (lv' := [(0, .ref (K.2.2 0)), (1, .int a1)]) [0, 1] rfl ?_
  unfold f_X8_hasAlbum
  refine V_iload_n hc dX8_hasAlbum_0 rfl 1 rfl ?_
  refine V_iconst (v := 0) hc dX8_hasAlbum_1 (by decide) ?_
  refine V_bipush (v := 7) hc dX8_hasAlbum_2 (by decide) ?_
  refine V_callS_RI hc (c_X8_isWithin l K t (a1) (0) (7)) 3 gX8_hasAlbum_X8_isWithin rfl ⟨rfl, rfl⟩ (by decide) ⟨Nat.le_of_ble_eq_true rfl, Nat.le_of_ble_eq_true rfl⟩ rfl rfl (Nat.le_of_ble_eq_true rfl) dX8_hasAlbum_4 (fun r1 => ?_)
  refine V_if_eq (tgt := 26) hc dX8_hasAlbum_7 (by decide) ?_ ?_
  · refine V_iconst (v := 0) hc dX8_hasAlbum_26 (by decide) ?_
    exact V_nret hc rfl rfl rfl dX8_hasAlbum_27
  · refine V_aload_n hc dX8_hasAlbum_10 rfl 0 rfl ?_
    refine V_getr (C := RX8) (T := TX8) (N := 8) hc sP0 rfl qX8_hasAlbum_RX8 4 rfl (by decide) kX8_hasAlbum_41 rfl dX8_hasAlbum_11 ?_
    refine V_iload_n hc dX8_hasAlbum_14 rfl 1 rfl ?_
    refine V_aald hc sP14 dX8_hasAlbum_15 (fun h2 => ?_)
    refine V_callV_RI (Cn := RX0) (T := TX0) (N := 7) hc (c_X0_exists l K t (ix a1) h2) (sh_alb h2) rfl 0 gX8_hasAlbum_X0_exists rfl ⟨rfl, rfl⟩ (by decide) ⟨Nat.le_of_ble_eq_true rfl, Nat.le_of_ble_eq_true rfl⟩ rfl rfl (Nat.le_of_ble_eq_true rfl) dX8_hasAlbum_16 (fun r3 => ?_)
    refine V_if_eq (tgt := 26) hc dX8_hasAlbum_19 (by decide) ?_ ?_
    · refine V_iconst (v := 0) hc dX8_hasAlbum_26 (by decide) ?_
      exact V_nret hc rfl rfl rfl dX8_hasAlbum_27
    · refine V_iconst (v := 1) hc dX8_hasAlbum_22 (by decide) ?_
      refine V_goto (tgt := 27) hc dX8_hasAlbum_23 (by decide) ?_
      exact V_nret hc rfl rfl rfl dX8_hasAlbum_27

theorem kX8_settle_10 : Cond.fieldLink RX8 10 RX8 (TX8 0).2.1 (TX8 0).2.2.1 ∈ wsX8_settle := by decide +kernel
theorem qX8_settle_RX8 : ∀ w ∈ u_ws RX8 TX8 8, w ∈ wsX8_settle := by
  first
  | exact fun _ h => List.mem_cons_of_mem _ (List.mem_append_right _ h)
  | exact fun _ h => List.mem_cons_of_mem _ (List.mem_append_left _ (List.mem_append_right _ h))
  | exact fun _ h => List.mem_cons_of_mem _ (List.mem_append_left _ (List.mem_append_left _ (List.mem_append_right _ h)))
  | exact fun _ h => List.mem_cons_of_mem _ (List.mem_append_left _ (List.mem_append_left _ (List.mem_append_left _ (List.mem_append_right _ h))))
  | exact fun _ h => List.mem_cons_of_mem _ (List.mem_append_left _ (List.mem_append_left _ (List.mem_append_left _ (List.mem_append_left _ (List.mem_append_right _ h)))))
  | decide +kernel
theorem kX8_settle_21 : Cond.fieldLink RX8 21 RX8 (TX8 1).2.1 (TX8 1).2.2.1 ∈ wsX8_settle := by decide +kernel
theorem kX8_settle_28 : Cond.fieldLink RX8 28 RX8 (TX8 2).2.1 (TX8 2).2.2.1 ∈ wsX8_settle := by decide +kernel
theorem kX8_settle_51 : Cond.fieldLink RX8 51 RX8 (TX8 5).2.1 (TX8 5).2.2.1 ∈ wsX8_settle := by decide +kernel
theorem kX8_settle_41 : Cond.fieldLink RX8 41 RX8 (TX8 4).2.1 (TX8 4).2.2.1 ∈ wsX8_settle := by decide +kernel
theorem kX8_settle_67 : Cond.fieldLink RX8 67 RX8 (TX8 7).2.1 (TX8 7).2.2.1 ∈ wsX8_settle := by decide +kernel
noncomputable def L_X8_settle_23  (kont : Int32 → Sx → Option Sx) : Nat → Int32 → Sx → Option Sx
  | 0, _, _ => none
  | n + 1, x1, y => if 8 ≤ x1 then kont (x1) (y) else (f_X8_hasAlbum y (x1)).bind fun r4 => if r4 = 0 then L_X8_settle_23  kont n ((x1 + 1)) (y) else gd (vp_in x1 8) ((f_X4_filesFor y (ix x1)).bind fun r7 => gd (vp_in x1 8) ((f_X0_become r7.2 (ix x1) (r7.1) (x1)).bind fun r9 => L_X8_settle_23  kont n ((x1 + 1)) (r9)))
set_option maxRecDepth 20000 in
set_option maxHeartbeats 4000000 in
theorem L_X8_settle_23_ok {p : Program} {l : Launch} {K : Kx} {e : Env} {s : State} {m : MethodId} {args : Array Value} {below : List Frame} {meth : Method} {c : Code} (hc : Cx p ({ frames := 5, cells := 0, slots := 0, locals := 118 } : Room) s m args meth c cX8_settle 4 wsX8_settle RX8 K (aA K s.heap.size) none 0 0)  (kont : Int32 → Sx → Option Sx) (hk : ∀ x1 y, V p l e ({ frames := 5, cells := 0, slots := 0, locals := 118 } : Room) s m args below meth c K (aA K s.heap.size) 0 0 4 (QM below K args s kWV) 75 [(0, .ref (K.2.2 0)), (1, .int x1)] [] y (kont x1 y)) : ∀ (n : Nat) (x1 : Int32) (y : Sx), V p l e ({ frames := 5, cells := 0, slots := 0, locals := 118 } : Room) s m args below meth c K (aA K s.heap.size) 0 0 4 (QM below K args s kWV) 23 [(0, .ref (K.2.2 0)), (1, .int x1)] [] y (L_X8_settle_23  kont n x1 y) := by
  intro n
  induction n with
  | zero => intro x1 y; exact V_none
  | succ n ih =>
    intro x1 y
    rw [L_X8_settle_23]
    refine V_iload_n hc dX8_settle_23 rfl 1 rfl ?_
    refine V_bipush (v := 8) hc dX8_settle_24 (by decide) ?_
    refine V_icmp_ge (tgt := 75) hc dX8_settle_26 (by decide) ?_ ?_
    · exact V_sub [0, 1] rfl (hk _ _)
    · refine V_aload_n hc dX8_settle_29 rfl 0 rfl ?_
      refine V_iload_n hc dX8_settle_30 rfl 1 rfl ?_
      refine V_callV_RI (Cn := RX8) (T := TX8) (N := 8) hc (c_X8_hasAlbum l K y (x1)) sP0 rfl 1 gX8_settle_X8_hasAlbum rfl ⟨rfl, rfl⟩ (by decide) ⟨Nat.le_of_ble_eq_true rfl, Nat.le_of_ble_eq_true rfl⟩ rfl rfl (Nat.le_of_ble_eq_true rfl) dX8_settle_31 (fun r4 => ?_)
      refine V_if_eq (tgt := 69) hc dX8_settle_34 (by decide) ?_ ?_
      · refine V_iinc (v := (x1 + 1)) (lv' := [(1, .int (x1 + 1)), (0, .ref (K.2.2 0))]) hc dX8_settle_69 1 rfl rfl (by decide) rfl ?_
        refine V_goto (tgt := 23) hc dX8_settle_72 (by decide) ?_
        exact V_sub [1, 0] rfl (ih _ _)
      · refine V_aload_n hc dX8_settle_37 rfl 0 rfl ?_
        refine V_getr (C := RX8) (T := TX8) (N := 8) hc sP0 rfl qX8_settle_RX8 5 rfl (by decide) kX8_settle_51 rfl dX8_settle_38 ?_
        refine V_aload_n hc dX8_settle_41 rfl 0 rfl ?_
        refine V_getr (C := RX8) (T := TX8) (N := 8) hc sP0 rfl qX8_settle_RX8 4 rfl (by decide) kX8_settle_41 rfl dX8_settle_42 ?_
        refine V_iload_n hc dX8_settle_45 rfl 1 rfl ?_
        refine V_aald hc sP14 dX8_settle_46 (fun h5 => ?_)
        refine V_callV_RC (Cn := RX0) (T := TX0) (N := 7) hc (c_X0_rule l K y (ix x1) h5) (sh_alb h5) rfl 0 gX8_settle_X0_rule rfl ⟨rfl, rfl⟩ (by decide) ⟨Nat.le_of_ble_eq_true rfl, Nat.le_of_ble_eq_true rfl⟩ rfl rfl (Nat.le_of_ble_eq_true rfl) dX8_settle_47 ?_
        refine V_callV_WL (Cn := RX4) (T := TX4) (N := 8) hc (c_X4_filesFor l K y (ix x1) (Nat.lt_succ_of_lt h5)) sP15 rfl 1 gX8_settle_X4_filesFor rfl ⟨rfl, rfl⟩ (by decide) ⟨Nat.le_of_ble_eq_true rfl, Nat.le_of_ble_eq_true rfl⟩ rfl rfl (Nat.le_of_ble_eq_true rfl) dX8_settle_50 (fun r7 => ?_)
        refine V_lstore_n (lv' := [(2, .long r7.1), (0, .ref (K.2.2 0)), (1, .int x1)]) hc dX8_settle_53 rfl (by decide) rfl ?_
        refine V_aload_n hc dX8_settle_54 rfl 1 rfl ?_
        refine V_getr (C := RX8) (T := TX8) (N := 8) hc sP0 rfl qX8_settle_RX8 4 rfl (by decide) kX8_settle_41 rfl dX8_settle_55 ?_
        refine V_iload_n hc dX8_settle_58 rfl 2 rfl ?_
        refine V_aald hc sP14 dX8_settle_59 (fun h8 => ?_)
        refine V_lload_n hc dX8_settle_60 rfl 0 rfl ?_
        refine V_iload_n hc dX8_settle_61 rfl 2 rfl ?_
        refine V_aload_n hc dX8_settle_62 rfl 1 rfl ?_
        refine V_getr (C := RX8) (T := TX8) (N := 8) hc sP0 rfl qX8_settle_RX8 7 rfl (by decide) kX8_settle_67 rfl dX8_settle_63 ?_
        refine V_callV_WV (Cn := RX0) (T := TX0) (N := 7) hc (c_X0_become l K r7.2 (ix x1) (r7.1) (x1) h8) (sh_alb h8) rfl 3 gX8_settle_X0_become rfl ⟨rfl, rfl⟩ (by decide) ⟨Nat.le_of_ble_eq_true rfl, Nat.le_of_ble_eq_true rfl⟩ rfl rfl (Nat.le_of_ble_eq_true rfl) dX8_settle_66 (fun r9 => ?_)
        refine V_iinc (v := (x1 + 1)) (lv' := [(1, .int (x1 + 1)), (2, .long r7.1), (0, .ref (K.2.2 0))]) hc dX8_settle_69 2 rfl rfl (by decide) rfl ?_
        refine V_goto (tgt := 23) hc dX8_settle_72 (by decide) ?_
        exact V_sub [2, 0] rfl (ih _ _)
noncomputable def f_X8_settle (t : Sx)  : Option Sx := (f_X1_settleValues t ).bind fun r1 => (f_X2_regroup r1 ).bind fun r2 => (f_X6_findCovers r2 ).bind fun r3 => L_X8_settle_23  (fun z10 t11 => some t11) FU (0) (r3)
set_option maxRecDepth 20000 in
set_option maxHeartbeats 4000000 in
theorem c_X8_settle (l : Launch) (K : Kx) (t : Sx)  : CT l K yX8_settle wsX8_settle ({ frames := 5, cells := 0, slots := 0, locals := 118 } : Room) [.ref (K.2.2 0)] t (f_X8_settle t ) kWV := by
  refine CT_of (cc := cX8_settle) (maxL := 4) (ret := none) (own := RX8) (by decide +kernel) rfl rfl (Nat.le_of_ble_eq_true rfl) ?_
  intro p e s m args below meth c hc
  refine V_sub (lv' := [(0, .ref (K.2.2 0))]) [0] rfl ?_
  unfold f_X8_settle
  refine V_aload_n hc dX8_settle_0 rfl 0 rfl ?_
  refine V_getr (C := RX8) (T := TX8) (N := 8) hc sP0 rfl qX8_settle_RX8 0 rfl (by decide) kX8_settle_10 rfl dX8_settle_1 ?_
  refine V_callV_WV (Cn := RX1) (T := TX1) (N := 6) hc (c_X1_settleValues l K t ) sP1 rfl 0 gX8_settle_X1_settleValues rfl ⟨rfl, rfl⟩ (by decide) ⟨Nat.le_of_ble_eq_true rfl, Nat.le_of_ble_eq_true rfl⟩ rfl rfl (Nat.le_of_ble_eq_true rfl) dX8_settle_4 (fun r1 => ?_)
  refine V_aload_n hc dX8_settle_7 rfl 0 rfl ?_
  refine V_getr (C := RX8) (T := TX8) (N := 8) hc sP0 rfl qX8_settle_RX8 1 rfl (by decide) kX8_settle_21 rfl dX8_settle_8 ?_
  refine V_callV_WV (Cn := RX2) (T := TX2) (N := 3) hc (c_X2_regroup l K r1 ) sP7 rfl 0 gX8_settle_X2_regroup rfl ⟨rfl, rfl⟩ (by decide) ⟨Nat.le_of_ble_eq_true rfl, Nat.le_of_ble_eq_true rfl⟩ rfl rfl (Nat.le_of_ble_eq_true rfl) dX8_settle_11 (fun r2 => ?_)
  refine V_aload_n hc dX8_settle_14 rfl 0 rfl ?_
  refine V_getr (C := RX8) (T := TX8) (N := 8) hc sP0 rfl qX8_settle_RX8 2 rfl (by decide) kX8_settle_28 rfl dX8_settle_15 ?_
  refine V_callV_WV (Cn := RX6) (T := TX6) (N := 8) hc (c_X6_findCovers l K r2 ) sP8 rfl 0 gX8_settle_X6_findCovers rfl ⟨rfl, rfl⟩ (by decide) ⟨Nat.le_of_ble_eq_true rfl, Nat.le_of_ble_eq_true rfl⟩ rfl rfl (Nat.le_of_ble_eq_true rfl) dX8_settle_18 (fun r3 => ?_)
  refine V_iconst (v := 0) hc dX8_settle_21 (by decide) ?_
  refine V_istore_n (lv' := [(1, .int 0), (0, .ref (K.2.2 0))]) hc dX8_settle_22 rfl (by decide) rfl ?_
  refine V_sub (lv' := [(0, .ref (K.2.2 0)), (1, .int 0)]) [1, 0] rfl ?_
  refine L_X8_settle_23_ok hc  _ (fun z10 t11 => ?_) FU _ _
  exact V_vret hc rfl rfl dX8_settle_75

theorem wX8_add_c75 : Cond.constant RX8 75 (100000) ∈ wsX8_add := by decide +kernel
theorem kX8_add_10 : Cond.fieldLink RX8 10 RX8 (TX8 0).2.1 (TX8 0).2.2.1 ∈ wsX8_add := by decide +kernel
theorem qX8_add_RX8 : ∀ w ∈ u_ws RX8 TX8 8, w ∈ wsX8_add := by
  first
  | exact fun _ h => List.mem_cons_of_mem _ (List.mem_append_right _ h)
  | exact fun _ h => List.mem_cons_of_mem _ (List.mem_append_left _ (List.mem_append_right _ h))
  | exact fun _ h => List.mem_cons_of_mem _ (List.mem_append_left _ (List.mem_append_left _ (List.mem_append_right _ h)))
  | exact fun _ h => List.mem_cons_of_mem _ (List.mem_append_left _ (List.mem_append_left _ (List.mem_append_left _ (List.mem_append_right _ h))))
  | exact fun _ h => List.mem_cons_of_mem _ (List.mem_append_left _ (List.mem_append_left _ (List.mem_append_left _ (List.mem_append_left _ (List.mem_append_right _ h)))))
  | decide +kernel
noncomputable def f_X8_add (t : Sx) (a1 : Int32) (a2 : Int32) : Option (Int32 × Sx) := (f_X8_isWithin t (a1) (0) (9999)).bind fun r1 => if r1 = 0 then some ((-1), t) else (f_X8_isWithin t (a2) (1) (100000)).bind fun r2 => if r2 = 0 then some ((-1), t) else (f_X1_freeNumber t ).bind fun r3 => if r3 = (-1) then some ((-3), t) else (f_X1_enter t (r3) (a1) (a2)).bind fun r4 => (f_X8_settle r4 ).bind fun r5 => some (r3, r5)
set_option maxRecDepth 20000 in
set_option maxHeartbeats 4000000 in
theorem c_X8_add (l : Launch) (K : Kx) (t : Sx) (a1 : Int32) (a2 : Int32) : CT l K yX8_add wsX8_add ({ frames := 6, cells := 0, slots := 0, locals := 141 } : Room) [.ref (K.2.2 0), .int a1, .int a2] t (f_X8_add t a1 a2) kWI := by
  refine CT_of (cc := cX8_add) (maxL := 4) (ret := (some .int)) (own := RX8) (by decide +kernel) rfl rfl (Nat.le_of_ble_eq_true rfl) ?_
  intro p e s m args below meth c hc
  refine V_sub (lv' := [(0, .ref (K.2.2 0)), (1, .int a1), (2, .int a2)]) [0, 1, 2] rfl ?_
  unfold f_X8_add
  refine V_iload_n hc dX8_add_0 rfl 1 rfl ?_
  refine V_iconst (v := 0) hc dX8_add_1 (by decide) ?_
  refine V_sipush (v := 9999) hc dX8_add_2 (by decide) ?_
  refine V_callS_RI hc (c_X8_isWithin l K t (a1) (0) (9999)) 3 gX8_add_X8_isWithin rfl ⟨rfl, rfl⟩ (by decide) ⟨Nat.le_of_ble_eq_true rfl, Nat.le_of_ble_eq_true rfl⟩ rfl rfl (Nat.le_of_ble_eq_true rfl) dX8_add_5 (fun r1 => ?_)
  refine V_if_eq (tgt := 21) hc dX8_add_8 (by decide) ?_ ?_
  · refine V_iconst (v := (-1)) hc dX8_add_21 (by decide) ?_
    exact V_iret hc rfl rfl dX8_add_22
  · refine V_iload_n hc dX8_add_11 rfl 2 rfl ?_
    refine V_iconst (v := 1) hc dX8_add_12 (by decide) ?_
    refine V_ldc (v := 100000) hc wX8_add_c75 dX8_add_13 ?_
    refine V_callS_RI hc (c_X8_isWithin l K t (a2) (1) (100000)) 3 gX8_add_X8_isWithin rfl ⟨rfl, rfl⟩ (by decide) ⟨Nat.le_of_ble_eq_true rfl, Nat.le_of_ble_eq_true rfl⟩ rfl rfl (Nat.le_of_ble_eq_true rfl) dX8_add_15 (fun r2 => ?_)
    refine V_if_ne (tgt := 23) hc dX8_add_18 (by decide) ?_ ?_
    · refine V_aload_n hc dX8_add_23 rfl 0 rfl ?_
      refine V_getr (C := RX8) (T := TX8) (N := 8) hc sP0 rfl qX8_add_RX8 0 rfl (by decide) kX8_add_10 rfl dX8_add_24 ?_
      refine V_callV_RI (Cn := RX1) (T := TX1) (N := 6) hc (c_X1_freeNumber l K t ) sP1 rfl 0 gX8_add_X1_freeNumber rfl ⟨rfl, rfl⟩ (by decide) ⟨Nat.le_of_ble_eq_true rfl, Nat.le_of_ble_eq_true rfl⟩ rfl rfl (Nat.le_of_ble_eq_true rfl) dX8_add_27 (fun r3 => ?_)
      refine V_istore_n (lv' := [(3, .int r3), (0, .ref (K.2.2 0)), (1, .int a1), (2, .int a2)]) hc dX8_add_30 rfl (by decide) rfl ?_
      refine V_iload_n hc dX8_add_31 rfl 0 rfl ?_
      refine V_iconst (v := (-1)) hc dX8_add_32 (by decide) ?_
      refine V_icmp_ne (tgt := 39) hc dX8_add_33 (by decide) ?_ ?_
      · refine V_aload_n hc dX8_add_39 rfl 1 rfl ?_
        refine V_getr (C := RX8) (T := TX8) (N := 8) hc sP0 rfl qX8_add_RX8 0 rfl (by decide) kX8_add_10 rfl dX8_add_40 ?_
        refine V_iload_n hc dX8_add_43 rfl 0 rfl ?_
        refine V_iload_n hc dX8_add_44 rfl 2 rfl ?_
        refine V_iload_n hc dX8_add_45 rfl 3 rfl ?_
        refine V_callV_WV (Cn := RX1) (T := TX1) (N := 6) hc (c_X1_enter l K t (r3) (a1) (a2)) sP1 rfl 3 gX8_add_X1_enter rfl ⟨rfl, rfl⟩ (by decide) ⟨Nat.le_of_ble_eq_true rfl, Nat.le_of_ble_eq_true rfl⟩ rfl rfl (Nat.le_of_ble_eq_true rfl) dX8_add_46 (fun r4 => ?_)
        refine V_aload_n hc dX8_add_49 rfl 1 rfl ?_
        refine V_callV_WV (Cn := RX8) (T := TX8) (N := 8) hc (c_X8_settle l K r4 ) sP0 rfl 0 gX8_add_X8_settle rfl ⟨rfl, rfl⟩ (by decide) ⟨Nat.le_of_ble_eq_true rfl, Nat.le_of_ble_eq_true rfl⟩ rfl rfl (Nat.le_of_ble_eq_true rfl) dX8_add_50 (fun r5 => ?_)
        refine V_iload_n hc dX8_add_53 rfl 0 rfl ?_
        exact V_iret hc rfl rfl dX8_add_54
      · refine V_bipush (v := (-3)) hc dX8_add_36 (by decide) ?_
        exact V_iret hc rfl rfl dX8_add_38
    · refine V_iconst (v := (-1)) hc dX8_add_21 (by decide) ?_
      exact V_iret hc rfl rfl dX8_add_22

theorem kX8_discard_28 : Cond.fieldLink RX8 28 RX8 (TX8 2).2.1 (TX8 2).2.2.1 ∈ wsX8_discard := by decide +kernel
theorem qX8_discard_RX8 : ∀ w ∈ u_ws RX8 TX8 8, w ∈ wsX8_discard := by
  first
  | exact fun _ h => List.mem_cons_of_mem _ (List.mem_append_right _ h)
  | exact fun _ h => List.mem_cons_of_mem _ (List.mem_append_left _ (List.mem_append_right _ h))
  | exact fun _ h => List.mem_cons_of_mem _ (List.mem_append_left _ (List.mem_append_left _ (List.mem_append_right _ h)))
  | exact fun _ h => List.mem_cons_of_mem _ (List.mem_append_left _ (List.mem_append_left _ (List.mem_append_left _ (List.mem_append_right _ h))))
  | exact fun _ h => List.mem_cons_of_mem _ (List.mem_append_left _ (List.mem_append_left _ (List.mem_append_left _ (List.mem_append_left _ (List.mem_append_right _ h)))))
  | decide +kernel
theorem kX8_discard_10 : Cond.fieldLink RX8 10 RX8 (TX8 0).2.1 (TX8 0).2.2.1 ∈ wsX8_discard := by decide +kernel
noncomputable def f_X8_discard (t : Sx) (a1 : Int32) : Option Sx := (f_X6_release t (a1)).bind fun r1 => (f_X1_drop r1 (a1)).bind fun r2 => some r2
set_option maxRecDepth 20000 in
set_option maxHeartbeats 4000000 in
theorem c_X8_discard (l : Launch) (K : Kx) (t : Sx) (a1 : Int32) : CT l K yX8_discard wsX8_discard ({ frames := 3, cells := 0, slots := 0, locals := 68 } : Room) [.ref (K.2.2 0), .int a1] t (f_X8_discard t a1) kWV := by
  refine CT_of (cc := cX8_discard) (maxL := 2) (ret := none) (own := RX8) (by decide +kernel) rfl rfl (Nat.le_of_ble_eq_true rfl) ?_
  intro p e s m args below meth c hc
  refine V_sub (lv' := [(0, .ref (K.2.2 0)), (1, .int a1)]) [0, 1] rfl ?_
  unfold f_X8_discard
  refine V_aload_n hc dX8_discard_0 rfl 0 rfl ?_
  refine V_getr (C := RX8) (T := TX8) (N := 8) hc sP0 rfl qX8_discard_RX8 2 rfl (by decide) kX8_discard_28 rfl dX8_discard_1 ?_
  refine V_iload_n hc dX8_discard_4 rfl 1 rfl ?_
  refine V_callV_WV (Cn := RX6) (T := TX6) (N := 8) hc (c_X6_release l K t (a1)) sP8 rfl 1 gX8_discard_X6_release rfl ⟨rfl, rfl⟩ (by decide) ⟨Nat.le_of_ble_eq_true rfl, Nat.le_of_ble_eq_true rfl⟩ rfl rfl (Nat.le_of_ble_eq_true rfl) dX8_discard_5 (fun r1 => ?_)
  refine V_aload_n hc dX8_discard_8 rfl 0 rfl ?_
  refine V_getr (C := RX8) (T := TX8) (N := 8) hc sP0 rfl qX8_discard_RX8 0 rfl (by decide) kX8_discard_10 rfl dX8_discard_9 ?_
  refine V_iload_n hc dX8_discard_12 rfl 1 rfl ?_
  refine V_callV_WV (Cn := RX1) (T := TX1) (N := 6) hc (c_X1_drop l K r1 (a1)) sP1 rfl 1 gX8_discard_X1_drop rfl ⟨rfl, rfl⟩ (by decide) ⟨Nat.le_of_ble_eq_true rfl, Nat.le_of_ble_eq_true rfl⟩ rfl rfl (Nat.le_of_ble_eq_true rfl) dX8_discard_13 (fun r2 => ?_)
  exact V_vret hc rfl rfl dX8_discard_16

theorem kX8_remove_10 : Cond.fieldLink RX8 10 RX8 (TX8 0).2.1 (TX8 0).2.2.1 ∈ wsX8_remove := by decide +kernel
theorem qX8_remove_RX8 : ∀ w ∈ u_ws RX8 TX8 8, w ∈ wsX8_remove := by
  first
  | exact fun _ h => List.mem_cons_of_mem _ (List.mem_append_right _ h)
  | exact fun _ h => List.mem_cons_of_mem _ (List.mem_append_left _ (List.mem_append_right _ h))
  | exact fun _ h => List.mem_cons_of_mem _ (List.mem_append_left _ (List.mem_append_left _ (List.mem_append_right _ h)))
  | exact fun _ h => List.mem_cons_of_mem _ (List.mem_append_left _ (List.mem_append_left _ (List.mem_append_left _ (List.mem_append_right _ h))))
  | exact fun _ h => List.mem_cons_of_mem _ (List.mem_append_left _ (List.mem_append_left _ (List.mem_append_left _ (List.mem_append_left _ (List.mem_append_right _ h)))))
  | decide +kernel
noncomputable def f_X8_remove (t : Sx) (a1 : Int32) : Option (Int32 × Sx) := (f_X1_has t (a1)).bind fun r1 => if r1 = 0 then some ((-1), t) else (f_X8_discard t (a1)).bind fun r2 => (f_X8_settle r2 ).bind fun r3 => (f_X1_howMany r3 ).bind fun r4 => some (r4, r3)
set_option maxRecDepth 20000 in
set_option maxHeartbeats 4000000 in
theorem c_X8_remove (l : Launch) (K : Kx) (t : Sx) (a1 : Int32) : CT l K yX8_remove wsX8_remove ({ frames := 6, cells := 0, slots := 0, locals := 141 } : Room) [.ref (K.2.2 0), .int a1] t (f_X8_remove t a1) kWI := by
  refine CT_of (cc := cX8_remove) (maxL := 2) (ret := (some .int)) (own := RX8) (by decide +kernel) rfl rfl (Nat.le_of_ble_eq_true rfl) ?_
  intro p e s m args below meth c hc
  refine V_sub (lv' := [(0, .ref (K.2.2 0)), (1, .int a1)]) [0, 1] rfl ?_
  unfold f_X8_remove
  refine V_aload_n hc dX8_remove_0 rfl 0 rfl ?_
  refine V_getr (C := RX8) (T := TX8) (N := 8) hc sP0 rfl qX8_remove_RX8 0 rfl (by decide) kX8_remove_10 rfl dX8_remove_1 ?_
  refine V_iload_n hc dX8_remove_4 rfl 1 rfl ?_
  refine V_callV_RI (Cn := RX1) (T := TX1) (N := 6) hc (c_X1_has l K t (a1)) sP1 rfl 1 gX8_remove_X1_has rfl ⟨rfl, rfl⟩ (by decide) ⟨Nat.le_of_ble_eq_true rfl, Nat.le_of_ble_eq_true rfl⟩ rfl rfl (Nat.le_of_ble_eq_true rfl) dX8_remove_5 (fun r1 => ?_)
  refine V_if_ne (tgt := 13) hc dX8_remove_8 (by decide) ?_ ?_
  · refine V_aload_n hc dX8_remove_13 rfl 0 rfl ?_
    refine V_iload_n hc dX8_remove_14 rfl 1 rfl ?_
    refine V_callV_WV (Cn := RX8) (T := TX8) (N := 8) hc (c_X8_discard l K t (a1)) sP0 rfl 1 gX8_remove_X8_discard rfl ⟨rfl, rfl⟩ (by decide) ⟨Nat.le_of_ble_eq_true rfl, Nat.le_of_ble_eq_true rfl⟩ rfl rfl (Nat.le_of_ble_eq_true rfl) dX8_remove_15 (fun r2 => ?_)
    refine V_aload_n hc dX8_remove_18 rfl 0 rfl ?_
    refine V_callV_WV (Cn := RX8) (T := TX8) (N := 8) hc (c_X8_settle l K r2 ) sP0 rfl 0 gX8_remove_X8_settle rfl ⟨rfl, rfl⟩ (by decide) ⟨Nat.le_of_ble_eq_true rfl, Nat.le_of_ble_eq_true rfl⟩ rfl rfl (Nat.le_of_ble_eq_true rfl) dX8_remove_19 (fun r3 => ?_)
    refine V_aload_n hc dX8_remove_22 rfl 0 rfl ?_
    refine V_getr (C := RX8) (T := TX8) (N := 8) hc sP0 rfl qX8_remove_RX8 0 rfl (by decide) kX8_remove_10 rfl dX8_remove_23 ?_
    refine V_callV_RI (Cn := RX1) (T := TX1) (N := 6) hc (c_X1_howMany l K r3 ) sP1 rfl 0 gX8_remove_X1_howMany rfl ⟨rfl, rfl⟩ (by decide) ⟨Nat.le_of_ble_eq_true rfl, Nat.le_of_ble_eq_true rfl⟩ rfl rfl (Nat.le_of_ble_eq_true rfl) dX8_remove_26 (fun r4 => ?_)
    exact V_iret hc rfl rfl dX8_remove_29
  · refine V_iconst (v := (-1)) hc dX8_remove_11 (by decide) ?_
    exact V_iret hc rfl rfl dX8_remove_12

theorem kX8_fileCount_10 : Cond.fieldLink RX8 10 RX8 (TX8 0).2.1 (TX8 0).2.2.1 ∈ wsX8_fileCount := by decide +kernel
theorem qX8_fileCount_RX8 : ∀ w ∈ u_ws RX8 TX8 8, w ∈ wsX8_fileCount := by
  first
  | exact fun _ h => List.mem_cons_of_mem _ (List.mem_append_right _ h)
  | exact fun _ h => List.mem_cons_of_mem _ (List.mem_append_left _ (List.mem_append_right _ h))
  | exact fun _ h => List.mem_cons_of_mem _ (List.mem_append_left _ (List.mem_append_left _ (List.mem_append_right _ h)))
  | exact fun _ h => List.mem_cons_of_mem _ (List.mem_append_left _ (List.mem_append_left _ (List.mem_append_left _ (List.mem_append_right _ h))))
  | exact fun _ h => List.mem_cons_of_mem _ (List.mem_append_left _ (List.mem_append_left _ (List.mem_append_left _ (List.mem_append_left _ (List.mem_append_right _ h)))))
  | decide +kernel
noncomputable def f_X8_fileCount (t : Sx)  : Option Int32 := (f_X1_howMany t ).bind fun r1 => some r1
set_option maxRecDepth 20000 in
set_option maxHeartbeats 4000000 in
theorem c_X8_fileCount (l : Launch) (K : Kx) (t : Sx)  : CT l K yX8_fileCount wsX8_fileCount ({ frames := 2, cells := 0, slots := 0, locals := 41 } : Room) [.ref (K.2.2 0)] t (f_X8_fileCount t ) (kRI t) := by
  refine CT_of (cc := cX8_fileCount) (maxL := 1) (ret := (some .int)) (own := RX8) (by decide +kernel) rfl rfl (Nat.le_of_ble_eq_true rfl) ?_
  intro p e s m args below meth c hc
  refine V_sub (lv' := [(0, .ref (K.2.2 0))]) [0] rfl ?_
  unfold f_X8_fileCount
  refine V_aload_n hc dX8_fileCount_0 rfl 0 rfl ?_
  refine V_getr (C := RX8) (T := TX8) (N := 8) hc sP0 rfl qX8_fileCount_RX8 0 rfl (by decide) kX8_fileCount_10 rfl dX8_fileCount_1 ?_
  refine V_callV_RI (Cn := RX1) (T := TX1) (N := 6) hc (c_X1_howMany l K t ) sP1 rfl 0 gX8_fileCount_X1_howMany rfl ⟨rfl, rfl⟩ (by decide) ⟨Nat.le_of_ble_eq_true rfl, Nat.le_of_ble_eq_true rfl⟩ rfl rfl (Nat.le_of_ble_eq_true rfl) dX8_fileCount_4 (fun r1 => ?_)
  exact V_iret hc rfl rfl dX8_fileCount_7

theorem kX8_setDigest_10 : Cond.fieldLink RX8 10 RX8 (TX8 0).2.1 (TX8 0).2.2.1 ∈ wsX8_setDigest := by decide +kernel
theorem qX8_setDigest_RX8 : ∀ w ∈ u_ws RX8 TX8 8, w ∈ wsX8_setDigest := by
  first
  | exact fun _ h => List.mem_cons_of_mem _ (List.mem_append_right _ h)
  | exact fun _ h => List.mem_cons_of_mem _ (List.mem_append_left _ (List.mem_append_right _ h))
  | exact fun _ h => List.mem_cons_of_mem _ (List.mem_append_left _ (List.mem_append_left _ (List.mem_append_right _ h)))
  | exact fun _ h => List.mem_cons_of_mem _ (List.mem_append_left _ (List.mem_append_left _ (List.mem_append_left _ (List.mem_append_right _ h))))
  | exact fun _ h => List.mem_cons_of_mem _ (List.mem_append_left _ (List.mem_append_left _ (List.mem_append_left _ (List.mem_append_left _ (List.mem_append_right _ h)))))
  | decide +kernel
noncomputable def f_X8_setDigest (t : Sx) (a1 : Int32) (a2 : Int32) : Option (Int32 × Sx) := (f_X1_has t (a1)).bind fun r1 => if r1 = 0 then some ((-1), t) else (f_X8_isWithin t (a2) (0) (9999)).bind fun r2 => if r2 = 0 then some ((-1), t) else (f_X1_digest t (a1)).bind fun r3 => (f_X1_changeDigest t (a1) (a2)).bind fun r4 => (f_X8_settle r4 ).bind fun r5 => some (r3, r5)
set_option maxRecDepth 20000 in
set_option maxHeartbeats 4000000 in
theorem c_X8_setDigest (l : Launch) (K : Kx) (t : Sx) (a1 : Int32) (a2 : Int32) : CT l K yX8_setDigest wsX8_setDigest ({ frames := 6, cells := 0, slots := 0, locals := 141 } : Room) [.ref (K.2.2 0), .int a1, .int a2] t (f_X8_setDigest t a1 a2) kWI := by
  refine CT_of (cc := cX8_setDigest) (maxL := 4) (ret := (some .int)) (own := RX8) (by decide +kernel) rfl rfl (Nat.le_of_ble_eq_true rfl) ?_
  intro p e s m args below meth c hc
  refine V_sub (lv' := [(0, .ref (K.2.2 0)), (1, .int a1), (2, .int a2)]) [0, 1, 2] rfl ?_
  unfold f_X8_setDigest
  refine V_aload_n hc dX8_setDigest_0 rfl 0 rfl ?_
  refine V_getr (C := RX8) (T := TX8) (N := 8) hc sP0 rfl qX8_setDigest_RX8 0 rfl (by decide) kX8_setDigest_10 rfl dX8_setDigest_1 ?_
  refine V_iload_n hc dX8_setDigest_4 rfl 1 rfl ?_
  refine V_callV_RI (Cn := RX1) (T := TX1) (N := 6) hc (c_X1_has l K t (a1)) sP1 rfl 1 gX8_setDigest_X1_has rfl ⟨rfl, rfl⟩ (by decide) ⟨Nat.le_of_ble_eq_true rfl, Nat.le_of_ble_eq_true rfl⟩ rfl rfl (Nat.le_of_ble_eq_true rfl) dX8_setDigest_5 (fun r1 => ?_)
  refine V_if_eq (tgt := 22) hc dX8_setDigest_8 (by decide) ?_ ?_
  · refine V_iconst (v := (-1)) hc dX8_setDigest_22 (by decide) ?_
    exact V_iret hc rfl rfl dX8_setDigest_23
  · refine V_iload_n hc dX8_setDigest_11 rfl 2 rfl ?_
    refine V_iconst (v := 0) hc dX8_setDigest_12 (by decide) ?_
    refine V_sipush (v := 9999) hc dX8_setDigest_13 (by decide) ?_
    refine V_callS_RI hc (c_X8_isWithin l K t (a2) (0) (9999)) 3 gX8_setDigest_X8_isWithin rfl ⟨rfl, rfl⟩ (by decide) ⟨Nat.le_of_ble_eq_true rfl, Nat.le_of_ble_eq_true rfl⟩ rfl rfl (Nat.le_of_ble_eq_true rfl) dX8_setDigest_16 (fun r2 => ?_)
    refine V_if_ne (tgt := 24) hc dX8_setDigest_19 (by decide) ?_ ?_
    · refine V_aload_n hc dX8_setDigest_24 rfl 0 rfl ?_
      refine V_getr (C := RX8) (T := TX8) (N := 8) hc sP0 rfl qX8_setDigest_RX8 0 rfl (by decide) kX8_setDigest_10 rfl dX8_setDigest_25 ?_
      refine V_iload_n hc dX8_setDigest_28 rfl 1 rfl ?_
      refine V_callV_RI (Cn := RX1) (T := TX1) (N := 6) hc (c_X1_digest l K t (a1)) sP1 rfl 1 gX8_setDigest_X1_digest rfl ⟨rfl, rfl⟩ (by decide) ⟨Nat.le_of_ble_eq_true rfl, Nat.le_of_ble_eq_true rfl⟩ rfl rfl (Nat.le_of_ble_eq_true rfl) dX8_setDigest_29 (fun r3 => ?_)
      refine V_istore_n (lv' := [(3, .int r3), (0, .ref (K.2.2 0)), (1, .int a1), (2, .int a2)]) hc dX8_setDigest_32 rfl (by decide) rfl ?_
      refine V_aload_n hc dX8_setDigest_33 rfl 1 rfl ?_
      refine V_getr (C := RX8) (T := TX8) (N := 8) hc sP0 rfl qX8_setDigest_RX8 0 rfl (by decide) kX8_setDigest_10 rfl dX8_setDigest_34 ?_
      refine V_iload_n hc dX8_setDigest_37 rfl 2 rfl ?_
      refine V_iload_n hc dX8_setDigest_38 rfl 3 rfl ?_
      refine V_callV_WV (Cn := RX1) (T := TX1) (N := 6) hc (c_X1_changeDigest l K t (a1) (a2)) sP1 rfl 2 gX8_setDigest_X1_changeDigest rfl ⟨rfl, rfl⟩ (by decide) ⟨Nat.le_of_ble_eq_true rfl, Nat.le_of_ble_eq_true rfl⟩ rfl rfl (Nat.le_of_ble_eq_true rfl) dX8_setDigest_39 (fun r4 => ?_)
      refine V_aload_n hc dX8_setDigest_42 rfl 1 rfl ?_
      refine V_callV_WV (Cn := RX8) (T := TX8) (N := 8) hc (c_X8_settle l K r4 ) sP0 rfl 0 gX8_setDigest_X8_settle rfl ⟨rfl, rfl⟩ (by decide) ⟨Nat.le_of_ble_eq_true rfl, Nat.le_of_ble_eq_true rfl⟩ rfl rfl (Nat.le_of_ble_eq_true rfl) dX8_setDigest_43 (fun r5 => ?_)
      refine V_iload_n hc dX8_setDigest_46 rfl 0 rfl ?_
      exact V_iret hc rfl rfl dX8_setDigest_47
    · refine V_iconst (v := (-1)) hc dX8_setDigest_22 (by decide) ?_
      exact V_iret hc rfl rfl dX8_setDigest_23

theorem kX8_isSlot_10 : Cond.fieldLink RX8 10 RX8 (TX8 0).2.1 (TX8 0).2.2.1 ∈ wsX8_isSlot := by decide +kernel
theorem qX8_isSlot_RX8 : ∀ w ∈ u_ws RX8 TX8 8, w ∈ wsX8_isSlot := by
  first
  | exact fun _ h => List.mem_cons_of_mem _ (List.mem_append_right _ h)
  | exact fun _ h => List.mem_cons_of_mem _ (List.mem_append_left _ (List.mem_append_right _ h))
  | exact fun _ h => List.mem_cons_of_mem _ (List.mem_append_left _ (List.mem_append_left _ (List.mem_append_right _ h)))
  | exact fun _ h => List.mem_cons_of_mem _ (List.mem_append_left _ (List.mem_append_left _ (List.mem_append_left _ (List.mem_append_right _ h))))
  | exact fun _ h => List.mem_cons_of_mem _ (List.mem_append_left _ (List.mem_append_left _ (List.mem_append_left _ (List.mem_append_left _ (List.mem_append_right _ h)))))
  | decide +kernel
noncomputable def f_X8_isSlot (t : Sx) (a1 : Int32) (a2 : Int32) (a3 : Int32) : Option Int32 := (f_X1_has t (a1)).bind fun r1 => if r1 = 0 then some 0 else (f_X8_isSource t (a2)).bind fun r2 => if r2 = 0 then some 0 else (f_X8_isWithin t (a3) (0) (5)).bind fun r3 => if r3 = 0 then some 0 else some 1
set_option maxRecDepth 20000 in
set_option maxHeartbeats 4000000 in
theorem c_X8_isSlot (l : Launch) (K : Kx) (t : Sx) (a1 : Int32) (a2 : Int32) (a3 : Int32) : CT l K yX8_isSlot wsX8_isSlot ({ frames := 2, cells := 0, slots := 0, locals := 43 } : Room) [.ref (K.2.2 0), .int a1, .int a2, .int a3] t (f_X8_isSlot t a1 a2 a3) (kRI t) := by
  refine CT_of (cc := cX8_isSlot) (maxL := 4) (ret := (some .boolean)) (own := RX8) (by decide +kernel) rfl rfl (Nat.le_of_ble_eq_true rfl) ?_
  intro p e s m args below meth c hc
  refine V_sub (lv' := [(0, .ref (K.2.2 0)), (1, .int a1), (2, .int a2), (3, .int a3)]) [0, 1, 2, 3] rfl ?_
  unfold f_X8_isSlot
  refine V_aload_n hc dX8_isSlot_0 rfl 0 rfl ?_
  refine V_getr (C := RX8) (T := TX8) (N := 8) hc sP0 rfl qX8_isSlot_RX8 0 rfl (by decide) kX8_isSlot_10 rfl dX8_isSlot_1 ?_
  refine V_iload_n hc dX8_isSlot_4 rfl 1 rfl ?_
  refine V_callV_RI (Cn := RX1) (T := TX1) (N := 6) hc (c_X1_has l K t (a1)) sP1 rfl 1 gX8_isSlot_X1_has rfl ⟨rfl, rfl⟩ (by decide) ⟨Nat.le_of_ble_eq_true rfl, Nat.le_of_ble_eq_true rfl⟩ rfl rfl (Nat.le_of_ble_eq_true rfl) dX8_isSlot_5 (fun r1 => ?_)
  refine V_if_eq (tgt := 31) hc dX8_isSlot_8 (by decide) ?_ ?_
  · refine V_iconst (v := 0) hc dX8_isSlot_31 (by decide) ?_
    exact V_nret hc rfl rfl rfl dX8_isSlot_32
  · refine V_iload_n hc dX8_isSlot_11 rfl 2 rfl ?_
    refine V_callS_RI hc (c_X8_isSource l K t (a2)) 1 gX8_isSlot_X8_isSource rfl ⟨rfl, rfl⟩ (by decide) ⟨Nat.le_of_ble_eq_true rfl, Nat.le_of_ble_eq_true rfl⟩ rfl rfl (Nat.le_of_ble_eq_true rfl) dX8_isSlot_12 (fun r2 => ?_)
    refine V_if_eq (tgt := 31) hc dX8_isSlot_15 (by decide) ?_ ?_
    · refine V_iconst (v := 0) hc dX8_isSlot_31 (by decide) ?_
      exact V_nret hc rfl rfl rfl dX8_isSlot_32
    · refine V_iload_n hc dX8_isSlot_18 rfl 3 rfl ?_
      refine V_iconst (v := 0) hc dX8_isSlot_19 (by decide) ?_
      refine V_iconst (v := 5) hc dX8_isSlot_20 (by decide) ?_
      refine V_callS_RI hc (c_X8_isWithin l K t (a3) (0) (5)) 3 gX8_isSlot_X8_isWithin rfl ⟨rfl, rfl⟩ (by decide) ⟨Nat.le_of_ble_eq_true rfl, Nat.le_of_ble_eq_true rfl⟩ rfl rfl (Nat.le_of_ble_eq_true rfl) dX8_isSlot_21 (fun r3 => ?_)
      refine V_if_eq (tgt := 31) hc dX8_isSlot_24 (by decide) ?_ ?_
      · refine V_iconst (v := 0) hc dX8_isSlot_31 (by decide) ?_
        exact V_nret hc rfl rfl rfl dX8_isSlot_32
      · refine V_iconst (v := 1) hc dX8_isSlot_27 (by decide) ?_
        refine V_goto (tgt := 32) hc dX8_isSlot_28 (by decide) ?_
        exact V_nret hc rfl rfl rfl dX8_isSlot_32

theorem wX8_setValue_s109 : Cond.fieldLink RX8 109 RX8 "LEAST_VALUES" "[I" ∈ wsX8_setValue := by decide +kernel
theorem wX8_setValue_s113 : Cond.fieldLink RX8 113 RX8 "GREATEST_VALUES" "[I" ∈ wsX8_setValue := by decide +kernel
theorem kX8_setValue_10 : Cond.fieldLink RX8 10 RX8 (TX8 0).2.1 (TX8 0).2.2.1 ∈ wsX8_setValue := by decide +kernel
theorem qX8_setValue_RX8 : ∀ w ∈ u_ws RX8 TX8 8, w ∈ wsX8_setValue := by
  first
  | exact fun _ h => List.mem_cons_of_mem _ (List.mem_append_right _ h)
  | exact fun _ h => List.mem_cons_of_mem _ (List.mem_append_left _ (List.mem_append_right _ h))
  | exact fun _ h => List.mem_cons_of_mem _ (List.mem_append_left _ (List.mem_append_left _ (List.mem_append_right _ h)))
  | exact fun _ h => List.mem_cons_of_mem _ (List.mem_append_left _ (List.mem_append_left _ (List.mem_append_left _ (List.mem_append_right _ h))))
  | exact fun _ h => List.mem_cons_of_mem _ (List.mem_append_left _ (List.mem_append_left _ (List.mem_append_left _ (List.mem_append_left _ (List.mem_append_right _ h)))))
  | decide +kernel
noncomputable def f_X8_setValue (t : Sx) (a1 : Int32) (a2 : Int32) (a3 : Int32) (a4 : Int32) : Option (Int32 × Sx) := (f_X8_isSlot t (a1) (a2) (a3)).bind fun r1 => if r1 = 0 then some ((-1), t) else gd (vp_in a3 6) (gd (vp_in a3 6) ((f_X8_isWithin t (a4) (lstV (ix a3)) (grtV (ix a3))).bind fun r2 => if r2 = 0 then some ((-1), t) else (f_X1_told t (a1) (a2) (a3)).bind fun r3 => (f_X1_tell t (a1) (a2) (a3) (a4)).bind fun r4 => (f_X8_settle r4 ).bind fun r5 => (f_X8_orNotFound r5 (r3)).bind fun r6 => some (r6, r5)))
set_option maxRecDepth 20000 in
set_option maxHeartbeats 4000000 in
theorem c_X8_setValue (l : Launch) (K : Kx) (t : Sx) (a1 : Int32) (a2 : Int32) (a3 : Int32) (a4 : Int32) : CT l K yX8_setValue wsX8_setValue ({ frames := 6, cells := 0, slots := 0, locals := 141 } : Room) [.ref (K.2.2 0), .int a1, .int a2, .int a3, .int a4] t (f_X8_setValue t a1 a2 a3 a4) kWI := by
  refine CT_of (cc := cX8_setValue) (maxL := 6) (ret := (some .int)) (own := RX8) (by decide +kernel) rfl rfl (Nat.le_of_ble_eq_true rfl) ?_
  intro p e s m args below meth c hc
  refine V_sub (lv' := [(0, .ref (K.2.2 0)), (1, .int a1), (2, .int a2), (3, .int a3), (4, .int a4)]) [0, 1, 2, 3, 4] rfl ?_
  unfold f_X8_setValue
  refine V_aload_n hc dX8_setValue_0 rfl 0 rfl ?_
  refine V_iload_n hc dX8_setValue_1 rfl 1 rfl ?_
  refine V_iload_n hc dX8_setValue_2 rfl 2 rfl ?_
  refine V_iload_n hc dX8_setValue_3 rfl 3 rfl ?_
  refine V_callV_RI (Cn := RX8) (T := TX8) (N := 8) hc (c_X8_isSlot l K t (a1) (a2) (a3)) sP0 rfl 3 gX8_setValue_X8_isSlot rfl ⟨rfl, rfl⟩ (by decide) ⟨Nat.le_of_ble_eq_true rfl, Nat.le_of_ble_eq_true rfl⟩ rfl rfl (Nat.le_of_ble_eq_true rfl) dX8_setValue_4 (fun r1 => ?_)
  refine V_if_eq (tgt := 28) hc dX8_setValue_7 (by decide) ?_ ?_
  · refine V_iconst (v := (-1)) hc dX8_setValue_28 (by decide) ?_
    exact V_iret hc rfl rfl dX8_setValue_29
  · refine V_iload hc dX8_setValue_10 4 rfl ?_
    refine V_gets_lst hc wX8_setValue_s109 dX8_setValue_12 ?_
    refine V_iload_n hc dX8_setValue_15 rfl 3 rfl ?_
    refine V_tld_lst hc dX8_setValue_16 ?_
    refine V_gets_grt hc wX8_setValue_s113 dX8_setValue_17 ?_
    refine V_iload_n hc dX8_setValue_20 rfl 3 rfl ?_
    refine V_tld_grt hc dX8_setValue_21 ?_
    refine V_callS_RI hc (c_X8_isWithin l K t (a4) (lstV (ix a3)) (grtV (ix a3))) 3 gX8_setValue_X8_isWithin rfl ⟨rfl, rfl⟩ (by decide) ⟨Nat.le_of_ble_eq_true rfl, Nat.le_of_ble_eq_true rfl⟩ rfl rfl (Nat.le_of_ble_eq_true rfl) dX8_setValue_22 (fun r2 => ?_)
    refine V_if_ne (tgt := 30) hc dX8_setValue_25 (by decide) ?_ ?_
    · refine V_aload_n hc dX8_setValue_30 rfl 0 rfl ?_
      refine V_getr (C := RX8) (T := TX8) (N := 8) hc sP0 rfl qX8_setValue_RX8 0 rfl (by decide) kX8_setValue_10 rfl dX8_setValue_31 ?_
      refine V_iload_n hc dX8_setValue_34 rfl 1 rfl ?_
      refine V_iload_n hc dX8_setValue_35 rfl 2 rfl ?_
      refine V_iload_n hc dX8_setValue_36 rfl 3 rfl ?_
      refine V_callV_RI (Cn := RX1) (T := TX1) (N := 6) hc (c_X1_told l K t (a1) (a2) (a3)) sP1 rfl 3 gX8_setValue_X1_told rfl ⟨rfl, rfl⟩ (by decide) ⟨Nat.le_of_ble_eq_true rfl, Nat.le_of_ble_eq_true rfl⟩ rfl rfl (Nat.le_of_ble_eq_true rfl) dX8_setValue_37 (fun r3 => ?_)
      refine V_istore (lv' := [(5, .int r3), (0, .ref (K.2.2 0)), (1, .int a1), (2, .int a2), (3, .int a3), (4, .int a4)]) hc dX8_setValue_40 (by decide) rfl ?_
      refine V_aload_n hc dX8_setValue_42 rfl 1 rfl ?_
      refine V_getr (C := RX8) (T := TX8) (N := 8) hc sP0 rfl qX8_setValue_RX8 0 rfl (by decide) kX8_setValue_10 rfl dX8_setValue_43 ?_
      refine V_iload_n hc dX8_setValue_46 rfl 2 rfl ?_
      refine V_iload_n hc dX8_setValue_47 rfl 3 rfl ?_
      refine V_iload_n hc dX8_setValue_48 rfl 4 rfl ?_
      refine V_iload hc dX8_setValue_49 5 rfl ?_
      refine V_callV_WV (Cn := RX1) (T := TX1) (N := 6) hc (c_X1_tell l K t (a1) (a2) (a3) (a4)) sP1 rfl 4 gX8_setValue_X1_tell rfl ⟨rfl, rfl⟩ (by decide) ⟨Nat.le_of_ble_eq_true rfl, Nat.le_of_ble_eq_true rfl⟩ rfl rfl (Nat.le_of_ble_eq_true rfl) dX8_setValue_51 (fun r4 => ?_)
      refine V_aload_n hc dX8_setValue_54 rfl 1 rfl ?_
      refine V_callV_WV (Cn := RX8) (T := TX8) (N := 8) hc (c_X8_settle l K r4 ) sP0 rfl 0 gX8_setValue_X8_settle rfl ⟨rfl, rfl⟩ (by decide) ⟨Nat.le_of_ble_eq_true rfl, Nat.le_of_ble_eq_true rfl⟩ rfl rfl (Nat.le_of_ble_eq_true rfl) dX8_setValue_55 (fun r5 => ?_)
      refine V_iload hc dX8_setValue_58 0 rfl ?_
      refine V_callS_RI hc (c_X8_orNotFound l K r5 (r3)) 1 gX8_setValue_X8_orNotFound rfl ⟨rfl, rfl⟩ (by decide) ⟨Nat.le_of_ble_eq_true rfl, Nat.le_of_ble_eq_true rfl⟩ rfl rfl (Nat.le_of_ble_eq_true rfl) dX8_setValue_60 (fun r6 => ?_)
      exact V_iret hc rfl rfl dX8_setValue_63
    · refine V_iconst (v := (-1)) hc dX8_setValue_28 (by decide) ?_
      exact V_iret hc rfl rfl dX8_setValue_29

theorem kX8_clearValue_10 : Cond.fieldLink RX8 10 RX8 (TX8 0).2.1 (TX8 0).2.2.1 ∈ wsX8_clearValue := by decide +kernel
theorem qX8_clearValue_RX8 : ∀ w ∈ u_ws RX8 TX8 8, w ∈ wsX8_clearValue := by
  first
  | exact fun _ h => List.mem_cons_of_mem _ (List.mem_append_right _ h)
  | exact fun _ h => List.mem_cons_of_mem _ (List.mem_append_left _ (List.mem_append_right _ h))
  | exact fun _ h => List.mem_cons_of_mem _ (List.mem_append_left _ (List.mem_append_left _ (List.mem_append_right _ h)))
  | exact fun _ h => List.mem_cons_of_mem _ (List.mem_append_left _ (List.mem_append_left _ (List.mem_append_left _ (List.mem_append_right _ h))))
  | exact fun _ h => List.mem_cons_of_mem _ (List.mem_append_left _ (List.mem_append_left _ (List.mem_append_left _ (List.mem_append_left _ (List.mem_append_right _ h)))))
  | decide +kernel
noncomputable def f_X8_clearValue (t : Sx) (a1 : Int32) (a2 : Int32) (a3 : Int32) : Option (Int32 × Sx) := (f_X8_isSlot t (a1) (a2) (a3)).bind fun r1 => if r1 = 0 then some ((-1), t) else (f_X1_told t (a1) (a2) (a3)).bind fun r2 => if r2 = (-1) then some ((-4), t) else (f_X1_tell t (a1) (a2) (a3) (-1)).bind fun r3 => (f_X8_settle r3 ).bind fun r4 => some (r2, r4)
set_option maxRecDepth 20000 in
set_option maxHeartbeats 4000000 in
theorem c_X8_clearValue (l : Launch) (K : Kx) (t : Sx) (a1 : Int32) (a2 : Int32) (a3 : Int32) : CT l K yX8_clearValue wsX8_clearValue ({ frames := 6, cells := 0, slots := 0, locals := 141 } : Room) [.ref (K.2.2 0), .int a1, .int a2, .int a3] t (f_X8_clearValue t a1 a2 a3) kWI := by
  refine CT_of (cc := cX8_clearValue) (maxL := 5) (ret := (some .int)) (own := RX8) (by decide +kernel) rfl rfl (Nat.le_of_ble_eq_true rfl) ?_
  intro p e s m args below meth c hc
  refine V_sub (lv' := [(0, .ref (K.2.2 0)), (1, .int a1), (2, .int a2), (3, .int a3)]) [0, 1, 2, 3] rfl ?_
  unfold f_X8_clearValue
  refine V_aload_n hc dX8_clearValue_0 rfl 0 rfl ?_
  refine V_iload_n hc dX8_clearValue_1 rfl 1 rfl ?_
  refine V_iload_n hc dX8_clearValue_2 rfl 2 rfl ?_
  refine V_iload_n hc dX8_clearValue_3 rfl 3 rfl ?_
  refine V_callV_RI (Cn := RX8) (T := TX8) (N := 8) hc (c_X8_isSlot l K t (a1) (a2) (a3)) sP0 rfl 3 gX8_clearValue_X8_isSlot rfl ⟨rfl, rfl⟩ (by decide) ⟨Nat.le_of_ble_eq_true rfl, Nat.le_of_ble_eq_true rfl⟩ rfl rfl (Nat.le_of_ble_eq_true rfl) dX8_clearValue_4 (fun r1 => ?_)
  refine V_if_ne (tgt := 12) hc dX8_clearValue_7 (by decide) ?_ ?_
  · refine V_aload_n hc dX8_clearValue_12 rfl 0 rfl ?_
    refine V_getr (C := RX8) (T := TX8) (N := 8) hc sP0 rfl qX8_clearValue_RX8 0 rfl (by decide) kX8_clearValue_10 rfl dX8_clearValue_13 ?_
    refine V_iload_n hc dX8_clearValue_16 rfl 1 rfl ?_
    refine V_iload_n hc dX8_clearValue_17 rfl 2 rfl ?_
    refine V_iload_n hc dX8_clearValue_18 rfl 3 rfl ?_
    refine V_callV_RI (Cn := RX1) (T := TX1) (N := 6) hc (c_X1_told l K t (a1) (a2) (a3)) sP1 rfl 3 gX8_clearValue_X1_told rfl ⟨rfl, rfl⟩ (by decide) ⟨Nat.le_of_ble_eq_true rfl, Nat.le_of_ble_eq_true rfl⟩ rfl rfl (Nat.le_of_ble_eq_true rfl) dX8_clearValue_19 (fun r2 => ?_)
    refine V_istore (lv' := [(4, .int r2), (0, .ref (K.2.2 0)), (1, .int a1), (2, .int a2), (3, .int a3)]) hc dX8_clearValue_22 (by decide) rfl ?_
    refine V_iload hc dX8_clearValue_24 0 rfl ?_
    refine V_iconst (v := (-1)) hc dX8_clearValue_26 (by decide) ?_
    refine V_icmp_ne (tgt := 33) hc dX8_clearValue_27 (by decide) ?_ ?_
    · refine V_aload_n hc dX8_clearValue_33 rfl 1 rfl ?_
      refine V_getr (C := RX8) (T := TX8) (N := 8) hc sP0 rfl qX8_clearValue_RX8 0 rfl (by decide) kX8_clearValue_10 rfl dX8_clearValue_34 ?_
      refine V_iload_n hc dX8_clearValue_37 rfl 2 rfl ?_
      refine V_iload_n hc dX8_clearValue_38 rfl 3 rfl ?_
      refine V_iload_n hc dX8_clearValue_39 rfl 4 rfl ?_
      refine V_iconst (v := (-1)) hc dX8_clearValue_40 (by decide) ?_
      refine V_callV_WV (Cn := RX1) (T := TX1) (N := 6) hc (c_X1_tell l K t (a1) (a2) (a3) (-1)) sP1 rfl 4 gX8_clearValue_X1_tell rfl ⟨rfl, rfl⟩ (by decide) ⟨Nat.le_of_ble_eq_true rfl, Nat.le_of_ble_eq_true rfl⟩ rfl rfl (Nat.le_of_ble_eq_true rfl) dX8_clearValue_41 (fun r3 => ?_)
      refine V_aload_n hc dX8_clearValue_44 rfl 1 rfl ?_
      refine V_callV_WV (Cn := RX8) (T := TX8) (N := 8) hc (c_X8_settle l K r3 ) sP0 rfl 0 gX8_clearValue_X8_settle rfl ⟨rfl, rfl⟩ (by decide) ⟨Nat.le_of_ble_eq_true rfl, Nat.le_of_ble_eq_true rfl⟩ rfl rfl (Nat.le_of_ble_eq_true rfl) dX8_clearValue_45 (fun r4 => ?_)
      refine V_iload hc dX8_clearValue_48 0 rfl ?_
      exact V_iret hc rfl rfl dX8_clearValue_50
    · refine V_bipush (v := (-4)) hc dX8_clearValue_30 (by decide) ?_
      exact V_iret hc rfl rfl dX8_clearValue_32
  · refine V_iconst (v := (-1)) hc dX8_clearValue_10 (by decide) ?_
    exact V_iret hc rfl rfl dX8_clearValue_11

theorem kX8_value_10 : Cond.fieldLink RX8 10 RX8 (TX8 0).2.1 (TX8 0).2.2.1 ∈ wsX8_value := by decide +kernel
theorem qX8_value_RX8 : ∀ w ∈ u_ws RX8 TX8 8, w ∈ wsX8_value := by
  first
  | exact fun _ h => List.mem_cons_of_mem _ (List.mem_append_right _ h)
  | exact fun _ h => List.mem_cons_of_mem _ (List.mem_append_left _ (List.mem_append_right _ h))
  | exact fun _ h => List.mem_cons_of_mem _ (List.mem_append_left _ (List.mem_append_left _ (List.mem_append_right _ h)))
  | exact fun _ h => List.mem_cons_of_mem _ (List.mem_append_left _ (List.mem_append_left _ (List.mem_append_left _ (List.mem_append_right _ h))))
  | exact fun _ h => List.mem_cons_of_mem _ (List.mem_append_left _ (List.mem_append_left _ (List.mem_append_left _ (List.mem_append_left _ (List.mem_append_right _ h)))))
  | decide +kernel
noncomputable def f_X8_value (t : Sx) (a1 : Int32) (a2 : Int32) : Option Int32 := (f_X1_has t (a1)).bind fun r1 => if r1 = 0 then some (-1) else (f_X8_isWithin t (a2) (0) (7)).bind fun r2 => if r2 = 0 then some (-1) else if a2 = 6 then (f_X1_digest t (a1)).bind fun r4 => some r4 else if a2 = 7 then (f_X1_bytes t (a1)).bind fun r6 => some r6 else (f_X1_settledValue t (a1) (a2)).bind fun r7 => (f_X8_orNotFound t (r7)).bind fun r8 => some r8
set_option maxRecDepth 20000 in
set_option maxHeartbeats 4000000 in
theorem c_X8_value (l : Launch) (K : Kx) (t : Sx) (a1 : Int32) (a2 : Int32) : CT l K yX8_value wsX8_value ({ frames := 2, cells := 0, slots := 0, locals := 43 } : Room) [.ref (K.2.2 0), .int a1, .int a2] t (f_X8_value t a1 a2) (kRI t) := by
  refine CT_of (cc := cX8_value) (maxL := 3) (ret := (some .int)) (own := RX8) (by decide +kernel) rfl rfl (Nat.le_of_ble_eq_true rfl) ?_
  intro p e s m args below meth c hc
  refine V_sub (lv' := [(0, .ref (K.2.2 0)), (1, .int a1), (2, .int a2)]) [0, 1, 2] rfl ?_
  unfold f_X8_value
  refine V_aload_n hc dX8_value_0 rfl 0 rfl ?_
  refine V_getr (C := RX8) (T := TX8) (N := 8) hc sP0 rfl qX8_value_RX8 0 rfl (by decide) kX8_value_10 rfl dX8_value_1 ?_
  refine V_iload_n hc dX8_value_4 rfl 1 rfl ?_
  refine V_callV_RI (Cn := RX1) (T := TX1) (N := 6) hc (c_X1_has l K t (a1)) sP1 rfl 1 gX8_value_X1_has rfl ⟨rfl, rfl⟩ (by decide) ⟨Nat.le_of_ble_eq_true rfl, Nat.le_of_ble_eq_true rfl⟩ rfl rfl (Nat.le_of_ble_eq_true rfl) dX8_value_5 (fun r1 => ?_)
  refine V_if_eq (tgt := 21) hc dX8_value_8 (by decide) ?_ ?_
  · refine V_iconst (v := (-1)) hc dX8_value_21 (by decide) ?_
    exact V_iret hc rfl rfl dX8_value_22
  · refine V_iload_n hc dX8_value_11 rfl 2 rfl ?_
    refine V_iconst (v := 0) hc dX8_value_12 (by decide) ?_
    refine V_bipush (v := 7) hc dX8_value_13 (by decide) ?_
    refine V_callS_RI hc (c_X8_isWithin l K t (a2) (0) (7)) 3 gX8_value_X8_isWithin rfl ⟨rfl, rfl⟩ (by decide) ⟨Nat.le_of_ble_eq_true rfl, Nat.le_of_ble_eq_true rfl⟩ rfl rfl (Nat.le_of_ble_eq_true rfl) dX8_value_15 (fun r2 => ?_)
    refine V_if_ne (tgt := 23) hc dX8_value_18 (by decide) ?_ ?_
    · refine V_iload_n hc dX8_value_23 rfl 2 rfl ?_
      refine V_ite (fun h3 => ?_) (fun h3 => ?_)
      · refine V_lks (tgt := 52) hc dX8_value_24 (by decide) (by rw [h3] <;> rfl) (by decide) ?_
        refine V_aload_n hc dX8_value_52 rfl 0 rfl ?_
        refine V_getr (C := RX8) (T := TX8) (N := 8) hc sP0 rfl qX8_value_RX8 0 rfl (by decide) kX8_value_10 rfl dX8_value_53 ?_
        refine V_iload_n hc dX8_value_56 rfl 1 rfl ?_
        refine V_callV_RI (Cn := RX1) (T := TX1) (N := 6) hc (c_X1_digest l K t (a1)) sP1 rfl 1 gX8_value_X1_digest rfl ⟨rfl, rfl⟩ (by decide) ⟨Nat.le_of_ble_eq_true rfl, Nat.le_of_ble_eq_true rfl⟩ rfl rfl (Nat.le_of_ble_eq_true rfl) dX8_value_57 (fun r4 => ?_)
        exact V_iret hc rfl rfl dX8_value_60
      · refine V_ite (fun h5 => ?_) (fun h5 => ?_)
        · refine V_lks (tgt := 61) hc dX8_value_24 (by decide) (by rw [h5] <;> rfl) (by decide) ?_
          refine V_aload_n hc dX8_value_61 rfl 0 rfl ?_
          refine V_getr (C := RX8) (T := TX8) (N := 8) hc sP0 rfl qX8_value_RX8 0 rfl (by decide) kX8_value_10 rfl dX8_value_62 ?_
          refine V_iload_n hc dX8_value_65 rfl 1 rfl ?_
          refine V_callV_RI (Cn := RX1) (T := TX1) (N := 6) hc (c_X1_bytes l K t (a1)) sP1 rfl 1 gX8_value_X1_bytes rfl ⟨rfl, rfl⟩ (by decide) ⟨Nat.le_of_ble_eq_true rfl, Nat.le_of_ble_eq_true rfl⟩ rfl rfl (Nat.le_of_ble_eq_true rfl) dX8_value_66 (fun r6 => ?_)
          exact V_iret hc rfl rfl dX8_value_69
        · refine V_lks (tgt := 70) hc dX8_value_24 (by decide) (lks_dflt (List.forall_mem_cons.mpr ⟨toInt_ne h3, (List.forall_mem_cons.mpr ⟨toInt_ne h5, (fun _ h => absurd h List.not_mem_nil)⟩)⟩)) (by decide) ?_
          refine V_aload_n hc dX8_value_70 rfl 0 rfl ?_
          refine V_getr (C := RX8) (T := TX8) (N := 8) hc sP0 rfl qX8_value_RX8 0 rfl (by decide) kX8_value_10 rfl dX8_value_71 ?_
          refine V_iload_n hc dX8_value_74 rfl 1 rfl ?_
          refine V_iload_n hc dX8_value_75 rfl 2 rfl ?_
          refine V_callV_RI (Cn := RX1) (T := TX1) (N := 6) hc (c_X1_settledValue l K t (a1) (a2)) sP1 rfl 2 gX8_value_X1_settledValue rfl ⟨rfl, rfl⟩ (by decide) ⟨Nat.le_of_ble_eq_true rfl, Nat.le_of_ble_eq_true rfl⟩ rfl rfl (Nat.le_of_ble_eq_true rfl) dX8_value_76 (fun r7 => ?_)
          refine V_callS_RI hc (c_X8_orNotFound l K t (r7)) 1 gX8_value_X8_orNotFound rfl ⟨rfl, rfl⟩ (by decide) ⟨Nat.le_of_ble_eq_true rfl, Nat.le_of_ble_eq_true rfl⟩ rfl rfl (Nat.le_of_ble_eq_true rfl) dX8_value_79 (fun r8 => ?_)
          exact V_iret hc rfl rfl dX8_value_82
    · refine V_iconst (v := (-1)) hc dX8_value_21 (by decide) ?_
      exact V_iret hc rfl rfl dX8_value_22

theorem kX8_setOrder_10 : Cond.fieldLink RX8 10 RX8 (TX8 0).2.1 (TX8 0).2.2.1 ∈ wsX8_setOrder := by decide +kernel
theorem qX8_setOrder_RX8 : ∀ w ∈ u_ws RX8 TX8 8, w ∈ wsX8_setOrder := by
  first
  | exact fun _ h => List.mem_cons_of_mem _ (List.mem_append_right _ h)
  | exact fun _ h => List.mem_cons_of_mem _ (List.mem_append_left _ (List.mem_append_right _ h))
  | exact fun _ h => List.mem_cons_of_mem _ (List.mem_append_left _ (List.mem_append_left _ (List.mem_append_right _ h)))
  | exact fun _ h => List.mem_cons_of_mem _ (List.mem_append_left _ (List.mem_append_left _ (List.mem_append_left _ (List.mem_append_right _ h))))
  | exact fun _ h => List.mem_cons_of_mem _ (List.mem_append_left _ (List.mem_append_left _ (List.mem_append_left _ (List.mem_append_left _ (List.mem_append_right _ h)))))
  | decide +kernel
noncomputable def f_X8_setOrder (t : Sx) (a1 : Int32) (a2 : Int32) (a3 : Int32) : Option (Int32 × Sx) := (f_X8_isSource t (a1)).bind fun r1 => if r1 = 0 then some ((-1), t) else (f_X8_isSource t (a2)).bind fun r2 => if r2 = 0 then some ((-1), t) else (f_X8_isSource t (a3)).bind fun r3 => if r3 = 0 then some ((-1), t) else if a1 = a2 then some ((-1), t) else if a1 = a3 then some ((-1), t) else if a2 = a3 then some ((-1), t) else (f_X1_orderCode t ).bind fun r4 => (f_X1_reorder t (a1) (a2) (a3)).bind fun r5 => (f_X8_settle r5 ).bind fun r6 => some (r4, r6)
set_option maxRecDepth 20000 in
set_option maxHeartbeats 4000000 in
theorem c_X8_setOrder (l : Launch) (K : Kx) (t : Sx) (a1 : Int32) (a2 : Int32) (a3 : Int32) : CT l K yX8_setOrder wsX8_setOrder ({ frames := 6, cells := 0, slots := 0, locals := 141 } : Room) [.ref (K.2.2 0), .int a1, .int a2, .int a3] t (f_X8_setOrder t a1 a2 a3) kWI := by
  refine CT_of (cc := cX8_setOrder) (maxL := 5) (ret := (some .int)) (own := RX8) (by decide +kernel) rfl rfl (Nat.le_of_ble_eq_true rfl) ?_
  intro p e s m args below meth c hc
  refine V_sub (lv' := [(0, .ref (K.2.2 0)), (1, .int a1), (2, .int a2), (3, .int a3)]) [0, 1, 2, 3] rfl ?_
  unfold f_X8_setOrder
  refine V_iload_n hc dX8_setOrder_0 rfl 1 rfl ?_
  refine V_callS_RI hc (c_X8_isSource l K t (a1)) 1 gX8_setOrder_X8_isSource rfl ⟨rfl, rfl⟩ (by decide) ⟨Nat.le_of_ble_eq_true rfl, Nat.le_of_ble_eq_true rfl⟩ rfl rfl (Nat.le_of_ble_eq_true rfl) dX8_setOrder_1 (fun r1 => ?_)
  refine V_if_eq (tgt := 36) hc dX8_setOrder_4 (by decide) ?_ ?_
  · refine V_iconst (v := (-1)) hc dX8_setOrder_36 (by decide) ?_
    exact V_iret hc rfl rfl dX8_setOrder_37
  · refine V_iload_n hc dX8_setOrder_7 rfl 2 rfl ?_
    refine V_callS_RI hc (c_X8_isSource l K t (a2)) 1 gX8_setOrder_X8_isSource rfl ⟨rfl, rfl⟩ (by decide) ⟨Nat.le_of_ble_eq_true rfl, Nat.le_of_ble_eq_true rfl⟩ rfl rfl (Nat.le_of_ble_eq_true rfl) dX8_setOrder_8 (fun r2 => ?_)
    refine V_if_eq (tgt := 36) hc dX8_setOrder_11 (by decide) ?_ ?_
    · refine V_iconst (v := (-1)) hc dX8_setOrder_36 (by decide) ?_
      exact V_iret hc rfl rfl dX8_setOrder_37
    · refine V_iload_n hc dX8_setOrder_14 rfl 3 rfl ?_
      refine V_callS_RI hc (c_X8_isSource l K t (a3)) 1 gX8_setOrder_X8_isSource rfl ⟨rfl, rfl⟩ (by decide) ⟨Nat.le_of_ble_eq_true rfl, Nat.le_of_ble_eq_true rfl⟩ rfl rfl (Nat.le_of_ble_eq_true rfl) dX8_setOrder_15 (fun r3 => ?_)
      refine V_if_eq (tgt := 36) hc dX8_setOrder_18 (by decide) ?_ ?_
      · refine V_iconst (v := (-1)) hc dX8_setOrder_36 (by decide) ?_
        exact V_iret hc rfl rfl dX8_setOrder_37
      · refine V_iload_n hc dX8_setOrder_21 rfl 1 rfl ?_
        refine V_iload_n hc dX8_setOrder_22 rfl 2 rfl ?_
        refine V_icmp_eq (tgt := 36) hc dX8_setOrder_23 (by decide) ?_ ?_
        · refine V_iconst (v := (-1)) hc dX8_setOrder_36 (by decide) ?_
          exact V_iret hc rfl rfl dX8_setOrder_37
        · refine V_iload_n hc dX8_setOrder_26 rfl 1 rfl ?_
          refine V_iload_n hc dX8_setOrder_27 rfl 3 rfl ?_
          refine V_icmp_eq (tgt := 36) hc dX8_setOrder_28 (by decide) ?_ ?_
          · refine V_iconst (v := (-1)) hc dX8_setOrder_36 (by decide) ?_
            exact V_iret hc rfl rfl dX8_setOrder_37
          · refine V_iload_n hc dX8_setOrder_31 rfl 2 rfl ?_
            refine V_iload_n hc dX8_setOrder_32 rfl 3 rfl ?_
            refine V_icmp_ne (tgt := 38) hc dX8_setOrder_33 (by decide) ?_ ?_
            · refine V_aload_n hc dX8_setOrder_38 rfl 0 rfl ?_
              refine V_getr (C := RX8) (T := TX8) (N := 8) hc sP0 rfl qX8_setOrder_RX8 0 rfl (by decide) kX8_setOrder_10 rfl dX8_setOrder_39 ?_
              refine V_callV_RI (Cn := RX1) (T := TX1) (N := 6) hc (c_X1_orderCode l K t ) sP1 rfl 0 gX8_setOrder_X1_orderCode rfl ⟨rfl, rfl⟩ (by decide) ⟨Nat.le_of_ble_eq_true rfl, Nat.le_of_ble_eq_true rfl⟩ rfl rfl (Nat.le_of_ble_eq_true rfl) dX8_setOrder_42 (fun r4 => ?_)
              refine V_istore (lv' := [(4, .int r4), (0, .ref (K.2.2 0)), (1, .int a1), (2, .int a2), (3, .int a3)]) hc dX8_setOrder_45 (by decide) rfl ?_
              refine V_aload_n hc dX8_setOrder_47 rfl 1 rfl ?_
              refine V_getr (C := RX8) (T := TX8) (N := 8) hc sP0 rfl qX8_setOrder_RX8 0 rfl (by decide) kX8_setOrder_10 rfl dX8_setOrder_48 ?_
              refine V_iload_n hc dX8_setOrder_51 rfl 2 rfl ?_
              refine V_iload_n hc dX8_setOrder_52 rfl 3 rfl ?_
              refine V_iload_n hc dX8_setOrder_53 rfl 4 rfl ?_
              refine V_callV_WV (Cn := RX1) (T := TX1) (N := 6) hc (c_X1_reorder l K t (a1) (a2) (a3)) sP1 rfl 3 gX8_setOrder_X1_reorder rfl ⟨rfl, rfl⟩ (by decide) ⟨Nat.le_of_ble_eq_true rfl, Nat.le_of_ble_eq_true rfl⟩ rfl rfl (Nat.le_of_ble_eq_true rfl) dX8_setOrder_54 (fun r5 => ?_)
              refine V_aload_n hc dX8_setOrder_57 rfl 1 rfl ?_
              refine V_callV_WV (Cn := RX8) (T := TX8) (N := 8) hc (c_X8_settle l K r5 ) sP0 rfl 0 gX8_setOrder_X8_settle rfl ⟨rfl, rfl⟩ (by decide) ⟨Nat.le_of_ble_eq_true rfl, Nat.le_of_ble_eq_true rfl⟩ rfl rfl (Nat.le_of_ble_eq_true rfl) dX8_setOrder_58 (fun r6 => ?_)
              refine V_iload hc dX8_setOrder_61 0 rfl ?_
              exact V_iret hc rfl rfl dX8_setOrder_63
            · refine V_iconst (v := (-1)) hc dX8_setOrder_36 (by decide) ?_
              exact V_iret hc rfl rfl dX8_setOrder_37

theorem kX8_keeperOf_10 : Cond.fieldLink RX8 10 RX8 (TX8 0).2.1 (TX8 0).2.2.1 ∈ wsX8_keeperOf := by decide +kernel
theorem qX8_keeperOf_RX8 : ∀ w ∈ u_ws RX8 TX8 8, w ∈ wsX8_keeperOf := by
  first
  | exact fun _ h => List.mem_cons_of_mem _ (List.mem_append_right _ h)
  | exact fun _ h => List.mem_cons_of_mem _ (List.mem_append_left _ (List.mem_append_right _ h))
  | exact fun _ h => List.mem_cons_of_mem _ (List.mem_append_left _ (List.mem_append_left _ (List.mem_append_right _ h)))
  | exact fun _ h => List.mem_cons_of_mem _ (List.mem_append_left _ (List.mem_append_left _ (List.mem_append_left _ (List.mem_append_right _ h))))
  | exact fun _ h => List.mem_cons_of_mem _ (List.mem_append_left _ (List.mem_append_left _ (List.mem_append_left _ (List.mem_append_left _ (List.mem_append_right _ h)))))
  | decide +kernel
theorem kX8_keeperOf_21 : Cond.fieldLink RX8 21 RX8 (TX8 1).2.1 (TX8 1).2.2.1 ∈ wsX8_keeperOf := by decide +kernel
noncomputable def f_X8_keeperOf (t : Sx) (a1 : Int32) : Option Int32 := (f_X1_has t (a1)).bind fun r1 => if r1 = 0 then some (-1) else (f_X2_keeper t (a1)).bind fun r2 => some r2
set_option maxRecDepth 20000 in
set_option maxHeartbeats 4000000 in
theorem c_X8_keeperOf (l : Launch) (K : Kx) (t : Sx) (a1 : Int32) : CT l K yX8_keeperOf wsX8_keeperOf ({ frames := 5, cells := 0, slots := 0, locals := 113 } : Room) [.ref (K.2.2 0), .int a1] t (f_X8_keeperOf t a1) (kRI t) := by
  refine CT_of (cc := cX8_keeperOf) (maxL := 2) (ret := (some .int)) (own := RX8) (by decide +kernel) rfl rfl (Nat.le_of_ble_eq_true rfl) ?_
  intro p e s m args below meth c hc
  refine V_sub (lv' := [(0, .ref (K.2.2 0)), (1, .int a1)]) [0, 1] rfl ?_
  unfold f_X8_keeperOf
  refine V_aload_n hc dX8_keeperOf_0 rfl 0 rfl ?_
  refine V_getr (C := RX8) (T := TX8) (N := 8) hc sP0 rfl qX8_keeperOf_RX8 0 rfl (by decide) kX8_keeperOf_10 rfl dX8_keeperOf_1 ?_
  refine V_iload_n hc dX8_keeperOf_4 rfl 1 rfl ?_
  refine V_callV_RI (Cn := RX1) (T := TX1) (N := 6) hc (c_X1_has l K t (a1)) sP1 rfl 1 gX8_keeperOf_X1_has rfl ⟨rfl, rfl⟩ (by decide) ⟨Nat.le_of_ble_eq_true rfl, Nat.le_of_ble_eq_true rfl⟩ rfl rfl (Nat.le_of_ble_eq_true rfl) dX8_keeperOf_5 (fun r1 => ?_)
  refine V_if_ne (tgt := 13) hc dX8_keeperOf_8 (by decide) ?_ ?_
  · refine V_aload_n hc dX8_keeperOf_13 rfl 0 rfl ?_
    refine V_getr (C := RX8) (T := TX8) (N := 8) hc sP0 rfl qX8_keeperOf_RX8 1 rfl (by decide) kX8_keeperOf_21 rfl dX8_keeperOf_14 ?_
    refine V_iload_n hc dX8_keeperOf_17 rfl 1 rfl ?_
    refine V_callV_RI (Cn := RX2) (T := TX2) (N := 3) hc (c_X2_keeper l K t (a1)) sP7 rfl 1 gX8_keeperOf_X2_keeper rfl ⟨rfl, rfl⟩ (by decide) ⟨Nat.le_of_ble_eq_true rfl, Nat.le_of_ble_eq_true rfl⟩ rfl rfl (Nat.le_of_ble_eq_true rfl) dX8_keeperOf_18 (fun r2 => ?_)
    exact V_iret hc rfl rfl dX8_keeperOf_21
  · refine V_iconst (v := (-1)) hc dX8_keeperOf_11 (by decide) ?_
    exact V_iret hc rfl rfl dX8_keeperOf_12

theorem kX8_groupSize_10 : Cond.fieldLink RX8 10 RX8 (TX8 0).2.1 (TX8 0).2.2.1 ∈ wsX8_groupSize := by decide +kernel
theorem qX8_groupSize_RX8 : ∀ w ∈ u_ws RX8 TX8 8, w ∈ wsX8_groupSize := by
  first
  | exact fun _ h => List.mem_cons_of_mem _ (List.mem_append_right _ h)
  | exact fun _ h => List.mem_cons_of_mem _ (List.mem_append_left _ (List.mem_append_right _ h))
  | exact fun _ h => List.mem_cons_of_mem _ (List.mem_append_left _ (List.mem_append_left _ (List.mem_append_right _ h)))
  | exact fun _ h => List.mem_cons_of_mem _ (List.mem_append_left _ (List.mem_append_left _ (List.mem_append_left _ (List.mem_append_right _ h))))
  | exact fun _ h => List.mem_cons_of_mem _ (List.mem_append_left _ (List.mem_append_left _ (List.mem_append_left _ (List.mem_append_left _ (List.mem_append_right _ h)))))
  | decide +kernel
noncomputable def f_X8_groupSize (t : Sx) (a1 : Int32) : Option Int32 := (f_X1_has t (a1)).bind fun r1 => if r1 = 0 then some (-1) else (f_X1_alike t (a1)).bind fun r2 => (f_J13_bitCount_95d88 t (r2)).bind fun r3 => some r3
set_option maxRecDepth 20000 in
set_option maxHeartbeats 4000000 in
theorem c_X8_groupSize (l : Launch) (K : Kx) (t : Sx) (a1 : Int32) : CT l K yX8_groupSize wsX8_groupSize ({ frames := 2, cells := 0, slots := 0, locals := 46 } : Room) [.ref (K.2.2 0), .int a1] t (f_X8_groupSize t a1) (kRI t) := by
  refine CT_of (cc := cX8_groupSize) (maxL := 2) (ret := (some .int)) (own := RX8) (by decide +kernel) rfl rfl (Nat.le_of_ble_eq_true rfl) ?_
  intro p e s m args below meth c hc
  refine V_sub (lv' := [(0, .ref (K.2.2 0)), (1, .int a1)]) [0, 1] rfl ?_
  unfold f_X8_groupSize
  refine V_aload_n hc dX8_groupSize_0 rfl 0 rfl ?_
  refine V_getr (C := RX8) (T := TX8) (N := 8) hc sP0 rfl qX8_groupSize_RX8 0 rfl (by decide) kX8_groupSize_10 rfl dX8_groupSize_1 ?_
  refine V_iload_n hc dX8_groupSize_4 rfl 1 rfl ?_
  refine V_callV_RI (Cn := RX1) (T := TX1) (N := 6) hc (c_X1_has l K t (a1)) sP1 rfl 1 gX8_groupSize_X1_has rfl ⟨rfl, rfl⟩ (by decide) ⟨Nat.le_of_ble_eq_true rfl, Nat.le_of_ble_eq_true rfl⟩ rfl rfl (Nat.le_of_ble_eq_true rfl) dX8_groupSize_5 (fun r1 => ?_)
  refine V_if_ne (tgt := 13) hc dX8_groupSize_8 (by decide) ?_ ?_
  · refine V_aload_n hc dX8_groupSize_13 rfl 0 rfl ?_
    refine V_getr (C := RX8) (T := TX8) (N := 8) hc sP0 rfl qX8_groupSize_RX8 0 rfl (by decide) kX8_groupSize_10 rfl dX8_groupSize_14 ?_
    refine V_iload_n hc dX8_groupSize_17 rfl 1 rfl ?_
    refine V_callV_RL (Cn := RX1) (T := TX1) (N := 6) hc (c_X1_alike l K t (a1)) sP1 rfl 1 gX8_groupSize_X1_alike rfl ⟨rfl, rfl⟩ (by decide) ⟨Nat.le_of_ble_eq_true rfl, Nat.le_of_ble_eq_true rfl⟩ rfl rfl (Nat.le_of_ble_eq_true rfl) dX8_groupSize_18 (fun r2 => ?_)
    refine V_callS_RI hc (c_J13_bitCount_95d88 l K t (r2)) 1 gX8_groupSize_J13_bitCount_95d88 rfl ⟨rfl, rfl⟩ (by decide) ⟨Nat.le_of_ble_eq_true rfl, Nat.le_of_ble_eq_true rfl⟩ rfl rfl (Nat.le_of_ble_eq_true rfl) dX8_groupSize_21 (fun r3 => ?_)
    exact V_iret hc rfl rfl dX8_groupSize_24
  · refine V_iconst (v := (-1)) hc dX8_groupSize_11 (by decide) ?_
    exact V_iret hc rfl rfl dX8_groupSize_12

theorem kX8_wasted_10 : Cond.fieldLink RX8 10 RX8 (TX8 0).2.1 (TX8 0).2.2.1 ∈ wsX8_wasted := by decide +kernel
theorem qX8_wasted_RX8 : ∀ w ∈ u_ws RX8 TX8 8, w ∈ wsX8_wasted := by
  first
  | exact fun _ h => List.mem_cons_of_mem _ (List.mem_append_right _ h)
  | exact fun _ h => List.mem_cons_of_mem _ (List.mem_append_left _ (List.mem_append_right _ h))
  | exact fun _ h => List.mem_cons_of_mem _ (List.mem_append_left _ (List.mem_append_left _ (List.mem_append_right _ h)))
  | exact fun _ h => List.mem_cons_of_mem _ (List.mem_append_left _ (List.mem_append_left _ (List.mem_append_left _ (List.mem_append_right _ h))))
  | exact fun _ h => List.mem_cons_of_mem _ (List.mem_append_left _ (List.mem_append_left _ (List.mem_append_left _ (List.mem_append_left _ (List.mem_append_right _ h)))))
  | decide +kernel
theorem kX8_wasted_21 : Cond.fieldLink RX8 21 RX8 (TX8 1).2.1 (TX8 1).2.2.1 ∈ wsX8_wasted := by decide +kernel
theorem wX8_wasted_c166 : Cond.constantLong RX8 166 (-1) ∈ wsX8_wasted := by decide +kernel
noncomputable def f_X8_wasted (t : Sx)  : Option Int32 := (f_X1_all t ).bind fun r1 => (f_X2_keepers t ).bind fun r2 => (f_X1_sumOfSizes t (r1 &&& (r2 ^^^ -1))).bind fun r3 => some r3
set_option maxRecDepth 20000 in
set_option maxHeartbeats 4000000 in
theorem c_X8_wasted (l : Launch) (K : Kx) (t : Sx)  : CT l K yX8_wasted wsX8_wasted ({ frames := 2, cells := 0, slots := 0, locals := 46 } : Room) [.ref (K.2.2 0)] t (f_X8_wasted t ) (kRI t) := by
  refine CT_of (cc := cX8_wasted) (maxL := 1) (ret := (some .int)) (own := RX8) (by decide +kernel) rfl rfl (Nat.le_of_ble_eq_true rfl) ?_
  intro p e s m args below meth c hc
  refine V_sub (lv' := [(0, .ref (K.2.2 0))]) [0] rfl ?_
  unfold f_X8_wasted
  refine V_aload_n hc dX8_wasted_0 rfl 0 rfl ?_
  refine V_getr (C := RX8) (T := TX8) (N := 8) hc sP0 rfl qX8_wasted_RX8 0 rfl (by decide) kX8_wasted_10 rfl dX8_wasted_1 ?_
  refine V_aload_n hc dX8_wasted_4 rfl 0 rfl ?_
  refine V_getr (C := RX8) (T := TX8) (N := 8) hc sP0 rfl qX8_wasted_RX8 0 rfl (by decide) kX8_wasted_10 rfl dX8_wasted_5 ?_
  refine V_callV_RL (Cn := RX1) (T := TX1) (N := 6) hc (c_X1_all l K t ) sP1 rfl 0 gX8_wasted_X1_all rfl ⟨rfl, rfl⟩ (by decide) ⟨Nat.le_of_ble_eq_true rfl, Nat.le_of_ble_eq_true rfl⟩ rfl rfl (Nat.le_of_ble_eq_true rfl) dX8_wasted_8 (fun r1 => ?_)
  refine V_aload_n hc dX8_wasted_11 rfl 0 rfl ?_
  refine V_getr (C := RX8) (T := TX8) (N := 8) hc sP0 rfl qX8_wasted_RX8 1 rfl (by decide) kX8_wasted_21 rfl dX8_wasted_12 ?_
  refine V_callV_RL (Cn := RX2) (T := TX2) (N := 3) hc (c_X2_keepers l K t ) sP7 rfl 0 gX8_wasted_X2_keepers rfl ⟨rfl, rfl⟩ (by decide) ⟨Nat.le_of_ble_eq_true rfl, Nat.le_of_ble_eq_true rfl⟩ rfl rfl (Nat.le_of_ble_eq_true rfl) dX8_wasted_15 (fun r2 => ?_)
  refine V_ldc2 (v := -1) hc wX8_wasted_c166 dX8_wasted_18 ?_
  refine V_lxor hc dX8_wasted_21 ?_
  refine V_land hc dX8_wasted_22 ?_
  refine V_callV_RI (Cn := RX1) (T := TX1) (N := 6) hc (c_X1_sumOfSizes l K t (r1 &&& (r2 ^^^ -1))) sP1 rfl 1 gX8_wasted_X1_sumOfSizes rfl ⟨rfl, rfl⟩ (by decide) ⟨Nat.le_of_ble_eq_true rfl, Nat.le_of_ble_eq_true rfl⟩ rfl rfl (Nat.le_of_ble_eq_true rfl) dX8_wasted_23 (fun r3 => ?_)
  exact V_iret hc rfl rfl dX8_wasted_26

theorem kX8_merge_10 : Cond.fieldLink RX8 10 RX8 (TX8 0).2.1 (TX8 0).2.2.1 ∈ wsX8_merge := by decide +kernel
theorem qX8_merge_RX8 : ∀ w ∈ u_ws RX8 TX8 8, w ∈ wsX8_merge := by
  first
  | exact fun _ h => List.mem_cons_of_mem _ (List.mem_append_right _ h)
  | exact fun _ h => List.mem_cons_of_mem _ (List.mem_append_left _ (List.mem_append_right _ h))
  | exact fun _ h => List.mem_cons_of_mem _ (List.mem_append_left _ (List.mem_append_left _ (List.mem_append_right _ h)))
  | exact fun _ h => List.mem_cons_of_mem _ (List.mem_append_left _ (List.mem_append_left _ (List.mem_append_left _ (List.mem_append_right _ h))))
  | exact fun _ h => List.mem_cons_of_mem _ (List.mem_append_left _ (List.mem_append_left _ (List.mem_append_left _ (List.mem_append_left _ (List.mem_append_right _ h)))))
  | decide +kernel
theorem kX8_merge_21 : Cond.fieldLink RX8 21 RX8 (TX8 1).2.1 (TX8 1).2.2.1 ∈ wsX8_merge := by decide +kernel
theorem wX8_merge_c166 : Cond.constantLong RX8 166 (-1) ∈ wsX8_merge := by decide +kernel
noncomputable def L_X8_merge_61 (b1 : Int32) (b2 : Int32) (b3 : Int64) (kont : Int32 → Sx → Option (Int32 × Sx)) : Nat → Int32 → Sx → Option (Int32 × Sx)
  | 0, _, _ => none
  | n + 1, x5, y => if 40 ≤ x5 then kont (x5) (y) else (f_X8_holds y (b3) (x5)).bind fun r6 => if r6 = 0 then L_X8_merge_61 b1 b2 b3 kont n ((x5 + 1)) (y) else (f_X8_discard y (x5)).bind fun r7 => L_X8_merge_61 b1 b2 b3 kont n ((x5 + 1)) (r7)
set_option maxRecDepth 20000 in
set_option maxHeartbeats 4000000 in
theorem L_X8_merge_61_ok {p : Program} {l : Launch} {K : Kx} {e : Env} {s : State} {m : MethodId} {args : Array Value} {below : List Frame} {meth : Method} {c : Code} (hc : Cx p ({ frames := 6, cells := 0, slots := 0, locals := 141 } : Room) s m args meth c cX8_merge 6 wsX8_merge RX8 K (aA K s.heap.size) (some .int) 0 0) (b1 : Int32) (b2 : Int32) (b3 : Int64) (kont : Int32 → Sx → Option (Int32 × Sx)) (hk : ∀ x5 y, V p l e ({ frames := 6, cells := 0, slots := 0, locals := 141 } : Room) s m args below meth c K (aA K s.heap.size) 0 0 6 (QM below K args s kWI) 89 [(0, .ref (K.2.2 0)), (1, .int b1), (2, .int b2), (3, .long b3), (5, .int x5)] [] y (kont x5 y)) : ∀ (n : Nat) (x5 : Int32) (y : Sx), V p l e ({ frames := 6, cells := 0, slots := 0, locals := 141 } : Room) s m args below meth c K (aA K s.heap.size) 0 0 6 (QM below K args s kWI) 61 [(0, .ref (K.2.2 0)), (1, .int b1), (2, .int b2), (3, .long b3), (5, .int x5)] [] y (L_X8_merge_61 b1 b2 b3 kont n x5 y) := by
  intro n
  induction n with
  | zero => intro x5 y; exact V_none
  | succ n ih =>
    intro x5 y
    rw [L_X8_merge_61]
    refine V_iload hc dX8_merge_61 4 rfl ?_
    refine V_bipush (v := 40) hc dX8_merge_63 (by decide) ?_
    refine V_icmp_ge (tgt := 89) hc dX8_merge_65 (by decide) ?_ ?_
    · exact V_sub [0, 1, 2, 3, 4] rfl (hk _ _)
    · refine V_lload_n hc dX8_merge_68 rfl 3 rfl ?_
      refine V_iload hc dX8_merge_69 4 rfl ?_
      refine V_callS_RI hc (c_X8_holds l K y (b3) (x5)) 2 gX8_merge_X8_holds rfl ⟨rfl, rfl⟩ (by decide) ⟨Nat.le_of_ble_eq_true rfl, Nat.le_of_ble_eq_true rfl⟩ rfl rfl (Nat.le_of_ble_eq_true rfl) dX8_merge_71 (fun r6 => ?_)
      refine V_if_eq (tgt := 83) hc dX8_merge_74 (by decide) ?_ ?_
      · refine V_iinc (v := (x5 + 1)) (lv' := [(5, .int (x5 + 1)), (0, .ref (K.2.2 0)), (1, .int b1), (2, .int b2), (3, .long b3)]) hc dX8_merge_83 4 rfl rfl (by decide) rfl ?_
        refine V_goto (tgt := 61) hc dX8_merge_86 (by decide) ?_
        exact V_sub [1, 2, 3, 4, 0] rfl (ih _ _)
      · refine V_aload_n hc dX8_merge_77 rfl 0 rfl ?_
        refine V_iload hc dX8_merge_78 4 rfl ?_
        refine V_callV_WV (Cn := RX8) (T := TX8) (N := 8) hc (c_X8_discard l K y (x5)) sP0 rfl 1 gX8_merge_X8_discard rfl ⟨rfl, rfl⟩ (by decide) ⟨Nat.le_of_ble_eq_true rfl, Nat.le_of_ble_eq_true rfl⟩ rfl rfl (Nat.le_of_ble_eq_true rfl) dX8_merge_80 (fun r7 => ?_)
        refine V_iinc (v := (x5 + 1)) (lv' := [(5, .int (x5 + 1)), (0, .ref (K.2.2 0)), (1, .int b1), (2, .int b2), (3, .long b3)]) hc dX8_merge_83 4 rfl rfl (by decide) rfl ?_
        refine V_goto (tgt := 61) hc dX8_merge_86 (by decide) ?_
        exact V_sub [1, 2, 3, 4, 0] rfl (ih _ _)
noncomputable def f_X8_merge (t : Sx) (a1 : Int32) : Option (Int32 × Sx) := (f_X1_has t (a1)).bind fun r1 => if r1 = 0 then some ((-1), t) else (f_X2_keeper t (a1)).bind fun r2 => (f_X1_alike t (a1)).bind fun r3 => (f_X8_only t (r2)).bind fun r4 => if (lg_cmp (r3 &&& (r4 ^^^ -1)) 0) = 0 then some ((-2), t) else (f_X1_absorb t (r2) (r3 &&& (r4 ^^^ -1))).bind fun r5 => L_X8_merge_61 (a1) (r2) ((r3 &&& (r4 ^^^ -1))) (fun z8 t9 => (f_X8_settle t9 ).bind fun r10 => (f_J13_bitCount_95d88 r10 (r3 &&& (r4 ^^^ -1))).bind fun r11 => some (r11, r10)) FU (0) (r5)
set_option maxRecDepth 20000 in
set_option maxHeartbeats 4000000 in
theorem c_X8_merge (l : Launch) (K : Kx) (t : Sx) (a1 : Int32) : CT l K yX8_merge wsX8_merge ({ frames := 6, cells := 0, slots := 0, locals := 141 } : Room) [.ref (K.2.2 0), .int a1] t (f_X8_merge t a1) kWI := by
  refine CT_of (cc := cX8_merge) (maxL := 6) (ret := (some .int)) (own := RX8) (by decide +kernel) rfl rfl (Nat.le_of_ble_eq_true rfl) ?_
  intro p e s m args below meth c hc
  refine V_sub (lv' := [(0, .ref (K.2.2 0)), (1, .int a1)]) [0, 1] rfl ?_
  unfold f_X8_merge
  refine V_aload_n hc dX8_merge_0 rfl 0 rfl ?_
  refine V_getr (C := RX8) (T := TX8) (N := 8) hc sP0 rfl qX8_merge_RX8 0 rfl (by decide) kX8_merge_10 rfl dX8_merge_1 ?_
  refine V_iload_n hc dX8_merge_4 rfl 1 rfl ?_
  refine V_callV_RI (Cn := RX1) (T := TX1) (N := 6) hc (c_X1_has l K t (a1)) sP1 rfl 1 gX8_merge_X1_has rfl ⟨rfl, rfl⟩ (by decide) ⟨Nat.le_of_ble_eq_true rfl, Nat.le_of_ble_eq_true rfl⟩ rfl rfl (Nat.le_of_ble_eq_true rfl) dX8_merge_5 (fun r1 => ?_)
  refine V_if_ne (tgt := 13) hc dX8_merge_8 (by decide) ?_ ?_
  · refine V_aload_n hc dX8_merge_13 rfl 0 rfl ?_
    refine V_getr (C := RX8) (T := TX8) (N := 8) hc sP0 rfl qX8_merge_RX8 1 rfl (by decide) kX8_merge_21 rfl dX8_merge_14 ?_
    refine V_iload_n hc dX8_merge_17 rfl 1 rfl ?_
    refine V_callV_RI (Cn := RX2) (T := TX2) (N := 3) hc (c_X2_keeper l K t (a1)) sP7 rfl 1 gX8_merge_X2_keeper rfl ⟨rfl, rfl⟩ (by decide) ⟨Nat.le_of_ble_eq_true rfl, Nat.le_of_ble_eq_true rfl⟩ rfl rfl (Nat.le_of_ble_eq_true rfl) dX8_merge_18 (fun r2 => ?_)
    refine V_istore_n (lv' := [(2, .int r2), (0, .ref (K.2.2 0)), (1, .int a1)]) hc dX8_merge_21 rfl (by decide) rfl ?_
    refine V_aload_n hc dX8_merge_22 rfl 1 rfl ?_
    refine V_getr (C := RX8) (T := TX8) (N := 8) hc sP0 rfl qX8_merge_RX8 0 rfl (by decide) kX8_merge_10 rfl dX8_merge_23 ?_
    refine V_iload_n hc dX8_merge_26 rfl 2 rfl ?_
    refine V_callV_RL (Cn := RX1) (T := TX1) (N := 6) hc (c_X1_alike l K t (a1)) sP1 rfl 1 gX8_merge_X1_alike rfl ⟨rfl, rfl⟩ (by decide) ⟨Nat.le_of_ble_eq_true rfl, Nat.le_of_ble_eq_true rfl⟩ rfl rfl (Nat.le_of_ble_eq_true rfl) dX8_merge_27 (fun r3 => ?_)
    refine V_iload_n hc dX8_merge_30 rfl 0 rfl ?_
    refine V_callS_RL hc (c_X8_only l K t (r2)) 1 gX8_merge_X8_only rfl ⟨rfl, rfl⟩ (by decide) ⟨Nat.le_of_ble_eq_true rfl, Nat.le_of_ble_eq_true rfl⟩ rfl rfl (Nat.le_of_ble_eq_true rfl) dX8_merge_31 (fun r4 => ?_)
    refine V_ldc2 (v := -1) hc wX8_merge_c166 dX8_merge_34 ?_
    refine V_lxor hc dX8_merge_37 ?_
    refine V_land hc dX8_merge_38 ?_
    refine V_lstore_n (lv' := [(3, .long (r3 &&& (r4 ^^^ -1))), (2, .int r2), (0, .ref (K.2.2 0)), (1, .int a1)]) hc dX8_merge_39 rfl (by decide) rfl ?_
    refine V_lload_n hc dX8_merge_40 rfl 0 rfl ?_
    refine V_lconst (v := 0) hc dX8_merge_41 (by decide) ?_
    refine V_lcmp hc dX8_merge_42 ?_
    refine V_if_ne (tgt := 49) hc dX8_merge_43 (by decide) ?_ ?_
    · refine V_aload_n hc dX8_merge_49 rfl 2 rfl ?_
      refine V_getr (C := RX8) (T := TX8) (N := 8) hc sP0 rfl qX8_merge_RX8 0 rfl (by decide) kX8_merge_10 rfl dX8_merge_50 ?_
      refine V_iload_n hc dX8_merge_53 rfl 1 rfl ?_
      refine V_lload_n hc dX8_merge_54 rfl 0 rfl ?_
      refine V_callV_WV (Cn := RX1) (T := TX1) (N := 6) hc (c_X1_absorb l K t (r2) (r3 &&& (r4 ^^^ -1))) sP1 rfl 2 gX8_merge_X1_absorb rfl ⟨rfl, rfl⟩ (by decide) ⟨Nat.le_of_ble_eq_true rfl, Nat.le_of_ble_eq_true rfl⟩ rfl rfl (Nat.le_of_ble_eq_true rfl) dX8_merge_55 (fun r5 => ?_)
      refine V_iconst (v := 0) hc dX8_merge_58 (by decide) ?_
      refine V_istore (lv' := [(5, .int 0), (3, .long (r3 &&& (r4 ^^^ -1))), (2, .int r2), (0, .ref (K.2.2 0)), (1, .int a1)]) hc dX8_merge_59 (by decide) rfl ?_
      refine V_sub (lv' := [(0, .ref (K.2.2 0)), (1, .int a1), (2, .int r2), (3, .long (r3 &&& (r4 ^^^ -1))), (5, .int 0)]) [3, 4, 2, 1, 0] rfl ?_
      refine L_X8_merge_61_ok hc (a1) (r2) ((r3 &&& (r4 ^^^ -1))) _ (fun z8 t9 => ?_) FU _ _
      refine V_aload_n hc dX8_merge_89 rfl 0 rfl ?_
      refine V_callV_WV (Cn := RX8) (T := TX8) (N := 8) hc (c_X8_settle l K t9 ) sP0 rfl 0 gX8_merge_X8_settle rfl ⟨rfl, rfl⟩ (by decide) ⟨Nat.le_of_ble_eq_true rfl, Nat.le_of_ble_eq_true rfl⟩ rfl rfl (Nat.le_of_ble_eq_true rfl) dX8_merge_90 (fun r10 => ?_)
      refine V_lload_n hc dX8_merge_93 rfl 3 rfl ?_
      refine V_callS_RI hc (c_J13_bitCount_95d88 l K r10 (r3 &&& (r4 ^^^ -1))) 1 gX8_merge_J13_bitCount_95d88 rfl ⟨rfl, rfl⟩ (by decide) ⟨Nat.le_of_ble_eq_true rfl, Nat.le_of_ble_eq_true rfl⟩ rfl rfl (Nat.le_of_ble_eq_true rfl) dX8_merge_94 (fun r11 => ?_)
      exact V_iret hc rfl rfl dX8_merge_97
    · refine V_bipush (v := (-2)) hc dX8_merge_46 (by decide) ?_
      exact V_iret hc rfl rfl dX8_merge_48
  · refine V_iconst (v := (-1)) hc dX8_merge_11 (by decide) ?_
    exact V_iret hc rfl rfl dX8_merge_12

theorem kX8_stack_10 : Cond.fieldLink RX8 10 RX8 (TX8 0).2.1 (TX8 0).2.2.1 ∈ wsX8_stack := by decide +kernel
theorem qX8_stack_RX8 : ∀ w ∈ u_ws RX8 TX8 8, w ∈ wsX8_stack := by
  first
  | exact fun _ h => List.mem_cons_of_mem _ (List.mem_append_right _ h)
  | exact fun _ h => List.mem_cons_of_mem _ (List.mem_append_left _ (List.mem_append_right _ h))
  | exact fun _ h => List.mem_cons_of_mem _ (List.mem_append_left _ (List.mem_append_left _ (List.mem_append_right _ h)))
  | exact fun _ h => List.mem_cons_of_mem _ (List.mem_append_left _ (List.mem_append_left _ (List.mem_append_left _ (List.mem_append_right _ h))))
  | exact fun _ h => List.mem_cons_of_mem _ (List.mem_append_left _ (List.mem_append_left _ (List.mem_append_left _ (List.mem_append_left _ (List.mem_append_right _ h)))))
  | decide +kernel
theorem kX8_stack_28 : Cond.fieldLink RX8 28 RX8 (TX8 2).2.1 (TX8 2).2.2.1 ∈ wsX8_stack := by decide +kernel
noncomputable def f_X8_stack (t : Sx) (a1 : Int32) (a2 : Int32) : Option (Int32 × Sx) := (f_X1_has t (a1)).bind fun r1 => if r1 = 0 then some ((-1), t) else (f_X1_has t (a2)).bind fun r2 => if r2 = 0 then some ((-1), t) else if a1 = a2 then some ((-1), t) else (f_X6_home t (a1)).bind fun r3 => if r3 = (-1) then (f_X6_home t (a2)).bind fun r4 => if r4 = (-1) then (f_X6_freeNumber t ).bind fun r5 => if r5 = (-1) then some ((-3), t) else (f_X6_begin t (r5) (a1) (a2)).bind fun r6 => (f_X8_settle r6 ).bind fun r7 => some (r5, r7) else some ((-2), t) else some ((-2), t)
set_option maxRecDepth 20000 in
set_option maxHeartbeats 4000000 in
theorem c_X8_stack (l : Launch) (K : Kx) (t : Sx) (a1 : Int32) (a2 : Int32) : CT l K yX8_stack wsX8_stack ({ frames := 6, cells := 0, slots := 0, locals := 141 } : Room) [.ref (K.2.2 0), .int a1, .int a2] t (f_X8_stack t a1 a2) kWI := by
  refine CT_of (cc := cX8_stack) (maxL := 4) (ret := (some .int)) (own := RX8) (by decide +kernel) rfl rfl (Nat.le_of_ble_eq_true rfl) ?_
  intro p e s m args below meth c hc
  refine V_sub (lv' := [(0, .ref (K.2.2 0)), (1, .int a1), (2, .int a2)]) [0, 1, 2] rfl ?_
  unfold f_X8_stack
  refine V_aload_n hc dX8_stack_0 rfl 0 rfl ?_
  refine V_getr (C := RX8) (T := TX8) (N := 8) hc sP0 rfl qX8_stack_RX8 0 rfl (by decide) kX8_stack_10 rfl dX8_stack_1 ?_
  refine V_iload_n hc dX8_stack_4 rfl 1 rfl ?_
  refine V_callV_RI (Cn := RX1) (T := TX1) (N := 6) hc (c_X1_has l K t (a1)) sP1 rfl 1 gX8_stack_X1_has rfl ⟨rfl, rfl⟩ (by decide) ⟨Nat.le_of_ble_eq_true rfl, Nat.le_of_ble_eq_true rfl⟩ rfl rfl (Nat.le_of_ble_eq_true rfl) dX8_stack_5 (fun r1 => ?_)
  refine V_if_eq (tgt := 27) hc dX8_stack_8 (by decide) ?_ ?_
  · refine V_iconst (v := (-1)) hc dX8_stack_27 (by decide) ?_
    exact V_iret hc rfl rfl dX8_stack_28
  · refine V_aload_n hc dX8_stack_11 rfl 0 rfl ?_
    refine V_getr (C := RX8) (T := TX8) (N := 8) hc sP0 rfl qX8_stack_RX8 0 rfl (by decide) kX8_stack_10 rfl dX8_stack_12 ?_
    refine V_iload_n hc dX8_stack_15 rfl 2 rfl ?_
    refine V_callV_RI (Cn := RX1) (T := TX1) (N := 6) hc (c_X1_has l K t (a2)) sP1 rfl 1 gX8_stack_X1_has rfl ⟨rfl, rfl⟩ (by decide) ⟨Nat.le_of_ble_eq_true rfl, Nat.le_of_ble_eq_true rfl⟩ rfl rfl (Nat.le_of_ble_eq_true rfl) dX8_stack_16 (fun r2 => ?_)
    refine V_if_eq (tgt := 27) hc dX8_stack_19 (by decide) ?_ ?_
    · refine V_iconst (v := (-1)) hc dX8_stack_27 (by decide) ?_
      exact V_iret hc rfl rfl dX8_stack_28
    · refine V_iload_n hc dX8_stack_22 rfl 1 rfl ?_
      refine V_iload_n hc dX8_stack_23 rfl 2 rfl ?_
      refine V_icmp_ne (tgt := 29) hc dX8_stack_24 (by decide) ?_ ?_
      · refine V_aload_n hc dX8_stack_29 rfl 0 rfl ?_
        refine V_getr (C := RX8) (T := TX8) (N := 8) hc sP0 rfl qX8_stack_RX8 2 rfl (by decide) kX8_stack_28 rfl dX8_stack_30 ?_
        refine V_iload_n hc dX8_stack_33 rfl 1 rfl ?_
        refine V_callV_RI (Cn := RX6) (T := TX6) (N := 8) hc (c_X6_home l K t (a1)) sP8 rfl 1 gX8_stack_X6_home rfl ⟨rfl, rfl⟩ (by decide) ⟨Nat.le_of_ble_eq_true rfl, Nat.le_of_ble_eq_true rfl⟩ rfl rfl (Nat.le_of_ble_eq_true rfl) dX8_stack_34 (fun r3 => ?_)
        refine V_iconst (v := (-1)) hc dX8_stack_37 (by decide) ?_
        refine V_icmp_ne (tgt := 53) hc dX8_stack_38 (by decide) ?_ ?_
        · refine V_bipush (v := (-2)) hc dX8_stack_53 (by decide) ?_
          exact V_iret hc rfl rfl dX8_stack_55
        · refine V_aload_n hc dX8_stack_41 rfl 0 rfl ?_
          refine V_getr (C := RX8) (T := TX8) (N := 8) hc sP0 rfl qX8_stack_RX8 2 rfl (by decide) kX8_stack_28 rfl dX8_stack_42 ?_
          refine V_iload_n hc dX8_stack_45 rfl 2 rfl ?_
          refine V_callV_RI (Cn := RX6) (T := TX6) (N := 8) hc (c_X6_home l K t (a2)) sP8 rfl 1 gX8_stack_X6_home rfl ⟨rfl, rfl⟩ (by decide) ⟨Nat.le_of_ble_eq_true rfl, Nat.le_of_ble_eq_true rfl⟩ rfl rfl (Nat.le_of_ble_eq_true rfl) dX8_stack_46 (fun r4 => ?_)
          refine V_iconst (v := (-1)) hc dX8_stack_49 (by decide) ?_
          refine V_icmp_eq (tgt := 56) hc dX8_stack_50 (by decide) ?_ ?_
          · refine V_aload_n hc dX8_stack_56 rfl 0 rfl ?_
            refine V_getr (C := RX8) (T := TX8) (N := 8) hc sP0 rfl qX8_stack_RX8 2 rfl (by decide) kX8_stack_28 rfl dX8_stack_57 ?_
            refine V_callV_RI (Cn := RX6) (T := TX6) (N := 8) hc (c_X6_freeNumber l K t ) sP8 rfl 0 gX8_stack_X6_freeNumber rfl ⟨rfl, rfl⟩ (by decide) ⟨Nat.le_of_ble_eq_true rfl, Nat.le_of_ble_eq_true rfl⟩ rfl rfl (Nat.le_of_ble_eq_true rfl) dX8_stack_60 (fun r5 => ?_)
            refine V_istore_n (lv' := [(3, .int r5), (0, .ref (K.2.2 0)), (1, .int a1), (2, .int a2)]) hc dX8_stack_63 rfl (by decide) rfl ?_
            refine V_iload_n hc dX8_stack_64 rfl 0 rfl ?_
            refine V_iconst (v := (-1)) hc dX8_stack_65 (by decide) ?_
            refine V_icmp_ne (tgt := 72) hc dX8_stack_66 (by decide) ?_ ?_
            · refine V_aload_n hc dX8_stack_72 rfl 1 rfl ?_
              refine V_getr (C := RX8) (T := TX8) (N := 8) hc sP0 rfl qX8_stack_RX8 2 rfl (by decide) kX8_stack_28 rfl dX8_stack_73 ?_
              refine V_iload_n hc dX8_stack_76 rfl 0 rfl ?_
              refine V_iload_n hc dX8_stack_77 rfl 2 rfl ?_
              refine V_iload_n hc dX8_stack_78 rfl 3 rfl ?_
              refine V_callV_WV (Cn := RX6) (T := TX6) (N := 8) hc (c_X6_begin l K t (r5) (a1) (a2)) sP8 rfl 3 gX8_stack_X6_begin rfl ⟨rfl, rfl⟩ (by decide) ⟨Nat.le_of_ble_eq_true rfl, Nat.le_of_ble_eq_true rfl⟩ rfl rfl (Nat.le_of_ble_eq_true rfl) dX8_stack_79 (fun r6 => ?_)
              refine V_aload_n hc dX8_stack_82 rfl 1 rfl ?_
              refine V_callV_WV (Cn := RX8) (T := TX8) (N := 8) hc (c_X8_settle l K r6 ) sP0 rfl 0 gX8_stack_X8_settle rfl ⟨rfl, rfl⟩ (by decide) ⟨Nat.le_of_ble_eq_true rfl, Nat.le_of_ble_eq_true rfl⟩ rfl rfl (Nat.le_of_ble_eq_true rfl) dX8_stack_83 (fun r7 => ?_)
              refine V_iload_n hc dX8_stack_86 rfl 0 rfl ?_
              exact V_iret hc rfl rfl dX8_stack_87
            · refine V_bipush (v := (-3)) hc dX8_stack_69 (by decide) ?_
              exact V_iret hc rfl rfl dX8_stack_71
          · refine V_bipush (v := (-2)) hc dX8_stack_53 (by decide) ?_
            exact V_iret hc rfl rfl dX8_stack_55
      · refine V_iconst (v := (-1)) hc dX8_stack_27 (by decide) ?_
        exact V_iret hc rfl rfl dX8_stack_28

theorem kX8_putInto_28 : Cond.fieldLink RX8 28 RX8 (TX8 2).2.1 (TX8 2).2.2.1 ∈ wsX8_putInto := by decide +kernel
theorem qX8_putInto_RX8 : ∀ w ∈ u_ws RX8 TX8 8, w ∈ wsX8_putInto := by
  first
  | exact fun _ h => List.mem_cons_of_mem _ (List.mem_append_right _ h)
  | exact fun _ h => List.mem_cons_of_mem _ (List.mem_append_left _ (List.mem_append_right _ h))
  | exact fun _ h => List.mem_cons_of_mem _ (List.mem_append_left _ (List.mem_append_left _ (List.mem_append_right _ h)))
  | exact fun _ h => List.mem_cons_of_mem _ (List.mem_append_left _ (List.mem_append_left _ (List.mem_append_left _ (List.mem_append_right _ h))))
  | exact fun _ h => List.mem_cons_of_mem _ (List.mem_append_left _ (List.mem_append_left _ (List.mem_append_left _ (List.mem_append_left _ (List.mem_append_right _ h)))))
  | decide +kernel
theorem kX8_putInto_10 : Cond.fieldLink RX8 10 RX8 (TX8 0).2.1 (TX8 0).2.2.1 ∈ wsX8_putInto := by decide +kernel
noncomputable def f_X8_putInto (t : Sx) (a1 : Int32) (a2 : Int32) (a3 : Int32) : Option (Int32 × Sx) := (f_X6_has t (a1)).bind fun r1 => if r1 = 0 then some ((-1), t) else (f_X1_has t (a2)).bind fun r2 => if r2 = 0 then some ((-1), t) else (f_X6_height t (a1)).bind fun r3 => (f_X8_isWithin t (a3) (0) (r3)).bind fun r4 => if r4 = 0 then some ((-1), t) else (f_X6_home t (a2)).bind fun r5 => if r5 = (-1) then (f_X6_height t (a1)).bind fun r6 => if r6 = 8 then some ((-3), t) else (f_X6_insert t (a1) (a2) (a3)).bind fun r7 => (f_X8_settle r7 ).bind fun r8 => (f_X6_height r8 (a1)).bind fun r9 => some (r9, r8) else some ((-2), t)
set_option maxRecDepth 20000 in
set_option maxHeartbeats 4000000 in
theorem c_X8_putInto (l : Launch) (K : Kx) (t : Sx) (a1 : Int32) (a2 : Int32) (a3 : Int32) : CT l K yX8_putInto wsX8_putInto ({ frames := 6, cells := 0, slots := 0, locals := 141 } : Room) [.ref (K.2.2 0), .int a1, .int a2, .int a3] t (f_X8_putInto t a1 a2 a3) kWI := by
  refine CT_of (cc := cX8_putInto) (maxL := 4) (ret := (some .int)) (own := RX8) (by decide +kernel) rfl rfl (Nat.le_of_ble_eq_true rfl) ?_
  intro p e s m args below meth c hc
  refine V_sub (lv' := [(0, .ref (K.2.2 0)), (1, .int a1), (2, .int a2), (3, .int a3)]) [0, 1, 2, 3] rfl ?_
  unfold f_X8_putInto
  refine V_aload_n hc dX8_putInto_0 rfl 0 rfl ?_
  refine V_getr (C := RX8) (T := TX8) (N := 8) hc sP0 rfl qX8_putInto_RX8 2 rfl (by decide) kX8_putInto_28 rfl dX8_putInto_1 ?_
  refine V_iload_n hc dX8_putInto_4 rfl 1 rfl ?_
  refine V_callV_RI (Cn := RX6) (T := TX6) (N := 8) hc (c_X6_has l K t (a1)) sP8 rfl 1 gX8_putInto_X6_has rfl ⟨rfl, rfl⟩ (by decide) ⟨Nat.le_of_ble_eq_true rfl, Nat.le_of_ble_eq_true rfl⟩ rfl rfl (Nat.le_of_ble_eq_true rfl) dX8_putInto_5 (fun r1 => ?_)
  refine V_if_eq (tgt := 38) hc dX8_putInto_8 (by decide) ?_ ?_
  · refine V_iconst (v := (-1)) hc dX8_putInto_38 (by decide) ?_
    exact V_iret hc rfl rfl dX8_putInto_39
  · refine V_aload_n hc dX8_putInto_11 rfl 0 rfl ?_
    refine V_getr (C := RX8) (T := TX8) (N := 8) hc sP0 rfl qX8_putInto_RX8 0 rfl (by decide) kX8_putInto_10 rfl dX8_putInto_12 ?_
    refine V_iload_n hc dX8_putInto_15 rfl 2 rfl ?_
    refine V_callV_RI (Cn := RX1) (T := TX1) (N := 6) hc (c_X1_has l K t (a2)) sP1 rfl 1 gX8_putInto_X1_has rfl ⟨rfl, rfl⟩ (by decide) ⟨Nat.le_of_ble_eq_true rfl, Nat.le_of_ble_eq_true rfl⟩ rfl rfl (Nat.le_of_ble_eq_true rfl) dX8_putInto_16 (fun r2 => ?_)
    refine V_if_eq (tgt := 38) hc dX8_putInto_19 (by decide) ?_ ?_
    · refine V_iconst (v := (-1)) hc dX8_putInto_38 (by decide) ?_
      exact V_iret hc rfl rfl dX8_putInto_39
    · refine V_iload_n hc dX8_putInto_22 rfl 3 rfl ?_
      refine V_iconst (v := 0) hc dX8_putInto_23 (by decide) ?_
      refine V_aload_n hc dX8_putInto_24 rfl 0 rfl ?_
      refine V_getr (C := RX8) (T := TX8) (N := 8) hc sP0 rfl qX8_putInto_RX8 2 rfl (by decide) kX8_putInto_28 rfl dX8_putInto_25 ?_
      refine V_iload_n hc dX8_putInto_28 rfl 1 rfl ?_
      refine V_callV_RI (Cn := RX6) (T := TX6) (N := 8) hc (c_X6_height l K t (a1)) sP8 rfl 1 gX8_putInto_X6_height rfl ⟨rfl, rfl⟩ (by decide) ⟨Nat.le_of_ble_eq_true rfl, Nat.le_of_ble_eq_true rfl⟩ rfl rfl (Nat.le_of_ble_eq_true rfl) dX8_putInto_29 (fun r3 => ?_)
      refine V_callS_RI hc (c_X8_isWithin l K t (a3) (0) (r3)) 3 gX8_putInto_X8_isWithin rfl ⟨rfl, rfl⟩ (by decide) ⟨Nat.le_of_ble_eq_true rfl, Nat.le_of_ble_eq_true rfl⟩ rfl rfl (Nat.le_of_ble_eq_true rfl) dX8_putInto_32 (fun r4 => ?_)
      refine V_if_ne (tgt := 40) hc dX8_putInto_35 (by decide) ?_ ?_
      · refine V_aload_n hc dX8_putInto_40 rfl 0 rfl ?_
        refine V_getr (C := RX8) (T := TX8) (N := 8) hc sP0 rfl qX8_putInto_RX8 2 rfl (by decide) kX8_putInto_28 rfl dX8_putInto_41 ?_
        refine V_iload_n hc dX8_putInto_44 rfl 2 rfl ?_
        refine V_callV_RI (Cn := RX6) (T := TX6) (N := 8) hc (c_X6_home l K t (a2)) sP8 rfl 1 gX8_putInto_X6_home rfl ⟨rfl, rfl⟩ (by decide) ⟨Nat.le_of_ble_eq_true rfl, Nat.le_of_ble_eq_true rfl⟩ rfl rfl (Nat.le_of_ble_eq_true rfl) dX8_putInto_45 (fun r5 => ?_)
        refine V_iconst (v := (-1)) hc dX8_putInto_48 (by decide) ?_
        refine V_icmp_eq (tgt := 55) hc dX8_putInto_49 (by decide) ?_ ?_
        · refine V_aload_n hc dX8_putInto_55 rfl 0 rfl ?_
          refine V_getr (C := RX8) (T := TX8) (N := 8) hc sP0 rfl qX8_putInto_RX8 2 rfl (by decide) kX8_putInto_28 rfl dX8_putInto_56 ?_
          refine V_iload_n hc dX8_putInto_59 rfl 1 rfl ?_
          refine V_callV_RI (Cn := RX6) (T := TX6) (N := 8) hc (c_X6_height l K t (a1)) sP8 rfl 1 gX8_putInto_X6_height rfl ⟨rfl, rfl⟩ (by decide) ⟨Nat.le_of_ble_eq_true rfl, Nat.le_of_ble_eq_true rfl⟩ rfl rfl (Nat.le_of_ble_eq_true rfl) dX8_putInto_60 (fun r6 => ?_)
          refine V_bipush (v := 8) hc dX8_putInto_63 (by decide) ?_
          refine V_icmp_ne (tgt := 71) hc dX8_putInto_65 (by decide) ?_ ?_
          · refine V_aload_n hc dX8_putInto_71 rfl 0 rfl ?_
            refine V_getr (C := RX8) (T := TX8) (N := 8) hc sP0 rfl qX8_putInto_RX8 2 rfl (by decide) kX8_putInto_28 rfl dX8_putInto_72 ?_
            refine V_iload_n hc dX8_putInto_75 rfl 1 rfl ?_
            refine V_iload_n hc dX8_putInto_76 rfl 2 rfl ?_
            refine V_iload_n hc dX8_putInto_77 rfl 3 rfl ?_
            refine V_callV_WV (Cn := RX6) (T := TX6) (N := 8) hc (c_X6_insert l K t (a1) (a2) (a3)) sP8 rfl 3 gX8_putInto_X6_insert rfl ⟨rfl, rfl⟩ (by decide) ⟨Nat.le_of_ble_eq_true rfl, Nat.le_of_ble_eq_true rfl⟩ rfl rfl (Nat.le_of_ble_eq_true rfl) dX8_putInto_78 (fun r7 => ?_)
            refine V_aload_n hc dX8_putInto_81 rfl 0 rfl ?_
            refine V_callV_WV (Cn := RX8) (T := TX8) (N := 8) hc (c_X8_settle l K r7 ) sP0 rfl 0 gX8_putInto_X8_settle rfl ⟨rfl, rfl⟩ (by decide) ⟨Nat.le_of_ble_eq_true rfl, Nat.le_of_ble_eq_true rfl⟩ rfl rfl (Nat.le_of_ble_eq_true rfl) dX8_putInto_82 (fun r8 => ?_)
            refine V_aload_n hc dX8_putInto_85 rfl 0 rfl ?_
            refine V_getr (C := RX8) (T := TX8) (N := 8) hc sP0 rfl qX8_putInto_RX8 2 rfl (by decide) kX8_putInto_28 rfl dX8_putInto_86 ?_
            refine V_iload_n hc dX8_putInto_89 rfl 1 rfl ?_
            refine V_callV_RI (Cn := RX6) (T := TX6) (N := 8) hc (c_X6_height l K r8 (a1)) sP8 rfl 1 gX8_putInto_X6_height rfl ⟨rfl, rfl⟩ (by decide) ⟨Nat.le_of_ble_eq_true rfl, Nat.le_of_ble_eq_true rfl⟩ rfl rfl (Nat.le_of_ble_eq_true rfl) dX8_putInto_90 (fun r9 => ?_)
            exact V_iret hc rfl rfl dX8_putInto_93
          · refine V_bipush (v := (-3)) hc dX8_putInto_68 (by decide) ?_
            exact V_iret hc rfl rfl dX8_putInto_70
        · refine V_bipush (v := (-2)) hc dX8_putInto_52 (by decide) ?_
          exact V_iret hc rfl rfl dX8_putInto_54
      · refine V_iconst (v := (-1)) hc dX8_putInto_38 (by decide) ?_
        exact V_iret hc rfl rfl dX8_putInto_39

theorem kX8_takeOut_10 : Cond.fieldLink RX8 10 RX8 (TX8 0).2.1 (TX8 0).2.2.1 ∈ wsX8_takeOut := by decide +kernel
theorem qX8_takeOut_RX8 : ∀ w ∈ u_ws RX8 TX8 8, w ∈ wsX8_takeOut := by
  first
  | exact fun _ h => List.mem_cons_of_mem _ (List.mem_append_right _ h)
  | exact fun _ h => List.mem_cons_of_mem _ (List.mem_append_left _ (List.mem_append_right _ h))
  | exact fun _ h => List.mem_cons_of_mem _ (List.mem_append_left _ (List.mem_append_left _ (List.mem_append_right _ h)))
  | exact fun _ h => List.mem_cons_of_mem _ (List.mem_append_left _ (List.mem_append_left _ (List.mem_append_left _ (List.mem_append_right _ h))))
  | exact fun _ h => List.mem_cons_of_mem _ (List.mem_append_left _ (List.mem_append_left _ (List.mem_append_left _ (List.mem_append_left _ (List.mem_append_right _ h)))))
  | decide +kernel
theorem kX8_takeOut_28 : Cond.fieldLink RX8 28 RX8 (TX8 2).2.1 (TX8 2).2.2.1 ∈ wsX8_takeOut := by decide +kernel
noncomputable def f_X8_takeOut (t : Sx) (a1 : Int32) : Option (Int32 × Sx) := (f_X1_has t (a1)).bind fun r1 => if r1 = 0 then some ((-1), t) else (f_X6_home t (a1)).bind fun r2 => if r2 = (-1) then some ((-2), t) else (f_X6_release t (a1)).bind fun r3 => (f_X8_settle r3 ).bind fun r4 => (f_X6_height r4 (r2)).bind fun r5 => some (r5, r4)
set_option maxRecDepth 20000 in
set_option maxHeartbeats 4000000 in
theorem c_X8_takeOut (l : Launch) (K : Kx) (t : Sx) (a1 : Int32) : CT l K yX8_takeOut wsX8_takeOut ({ frames := 6, cells := 0, slots := 0, locals := 141 } : Room) [.ref (K.2.2 0), .int a1] t (f_X8_takeOut t a1) kWI := by
  refine CT_of (cc := cX8_takeOut) (maxL := 3) (ret := (some .int)) (own := RX8) (by decide +kernel) rfl rfl (Nat.le_of_ble_eq_true rfl) ?_
  intro p e s m args below meth c hc
  refine V_sub (lv' := [(0, .ref (K.2.2 0)), (1, .int a1)]) [0, 1] rfl ?_
  unfold f_X8_takeOut
  refine V_aload_n hc dX8_takeOut_0 rfl 0 rfl ?_
  refine V_getr (C := RX8) (T := TX8) (N := 8) hc sP0 rfl qX8_takeOut_RX8 0 rfl (by decide) kX8_takeOut_10 rfl dX8_takeOut_1 ?_
  refine V_iload_n hc dX8_takeOut_4 rfl 1 rfl ?_
  refine V_callV_RI (Cn := RX1) (T := TX1) (N := 6) hc (c_X1_has l K t (a1)) sP1 rfl 1 gX8_takeOut_X1_has rfl ⟨rfl, rfl⟩ (by decide) ⟨Nat.le_of_ble_eq_true rfl, Nat.le_of_ble_eq_true rfl⟩ rfl rfl (Nat.le_of_ble_eq_true rfl) dX8_takeOut_5 (fun r1 => ?_)
  refine V_if_ne (tgt := 13) hc dX8_takeOut_8 (by decide) ?_ ?_
  · refine V_aload_n hc dX8_takeOut_13 rfl 0 rfl ?_
    refine V_getr (C := RX8) (T := TX8) (N := 8) hc sP0 rfl qX8_takeOut_RX8 2 rfl (by decide) kX8_takeOut_28 rfl dX8_takeOut_14 ?_
    refine V_iload_n hc dX8_takeOut_17 rfl 1 rfl ?_
    refine V_callV_RI (Cn := RX6) (T := TX6) (N := 8) hc (c_X6_home l K t (a1)) sP8 rfl 1 gX8_takeOut_X6_home rfl ⟨rfl, rfl⟩ (by decide) ⟨Nat.le_of_ble_eq_true rfl, Nat.le_of_ble_eq_true rfl⟩ rfl rfl (Nat.le_of_ble_eq_true rfl) dX8_takeOut_18 (fun r2 => ?_)
    refine V_istore_n (lv' := [(2, .int r2), (0, .ref (K.2.2 0)), (1, .int a1)]) hc dX8_takeOut_21 rfl (by decide) rfl ?_
    refine V_iload_n hc dX8_takeOut_22 rfl 0 rfl ?_
    refine V_iconst (v := (-1)) hc dX8_takeOut_23 (by decide) ?_
    refine V_icmp_ne (tgt := 30) hc dX8_takeOut_24 (by decide) ?_ ?_
    · refine V_aload_n hc dX8_takeOut_30 rfl 1 rfl ?_
      refine V_getr (C := RX8) (T := TX8) (N := 8) hc sP0 rfl qX8_takeOut_RX8 2 rfl (by decide) kX8_takeOut_28 rfl dX8_takeOut_31 ?_
      refine V_iload_n hc dX8_takeOut_34 rfl 2 rfl ?_
      refine V_callV_WV (Cn := RX6) (T := TX6) (N := 8) hc (c_X6_release l K t (a1)) sP8 rfl 1 gX8_takeOut_X6_release rfl ⟨rfl, rfl⟩ (by decide) ⟨Nat.le_of_ble_eq_true rfl, Nat.le_of_ble_eq_true rfl⟩ rfl rfl (Nat.le_of_ble_eq_true rfl) dX8_takeOut_35 (fun r3 => ?_)
      refine V_aload_n hc dX8_takeOut_38 rfl 1 rfl ?_
      refine V_callV_WV (Cn := RX8) (T := TX8) (N := 8) hc (c_X8_settle l K r3 ) sP0 rfl 0 gX8_takeOut_X8_settle rfl ⟨rfl, rfl⟩ (by decide) ⟨Nat.le_of_ble_eq_true rfl, Nat.le_of_ble_eq_true rfl⟩ rfl rfl (Nat.le_of_ble_eq_true rfl) dX8_takeOut_39 (fun r4 => ?_)
      refine V_aload_n hc dX8_takeOut_42 rfl 1 rfl ?_
      refine V_getr (C := RX8) (T := TX8) (N := 8) hc sP0 rfl qX8_takeOut_RX8 2 rfl (by decide) kX8_takeOut_28 rfl dX8_takeOut_43 ?_
      refine V_iload_n hc dX8_takeOut_46 rfl 0 rfl ?_
      refine V_callV_RI (Cn := RX6) (T := TX6) (N := 8) hc (c_X6_height l K r4 (r2)) sP8 rfl 1 gX8_takeOut_X6_height rfl ⟨rfl, rfl⟩ (by decide) ⟨Nat.le_of_ble_eq_true rfl, Nat.le_of_ble_eq_true rfl⟩ rfl rfl (Nat.le_of_ble_eq_true rfl) dX8_takeOut_47 (fun r5 => ?_)
      exact V_iret hc rfl rfl dX8_takeOut_50
    · refine V_bipush (v := (-2)) hc dX8_takeOut_27 (by decide) ?_
      exact V_iret hc rfl rfl dX8_takeOut_29
  · refine V_iconst (v := (-1)) hc dX8_takeOut_11 (by decide) ?_
    exact V_iret hc rfl rfl dX8_takeOut_12

theorem kX8_chooseCover_28 : Cond.fieldLink RX8 28 RX8 (TX8 2).2.1 (TX8 2).2.2.1 ∈ wsX8_chooseCover := by decide +kernel
theorem qX8_chooseCover_RX8 : ∀ w ∈ u_ws RX8 TX8 8, w ∈ wsX8_chooseCover := by
  first
  | exact fun _ h => List.mem_cons_of_mem _ (List.mem_append_right _ h)
  | exact fun _ h => List.mem_cons_of_mem _ (List.mem_append_left _ (List.mem_append_right _ h))
  | exact fun _ h => List.mem_cons_of_mem _ (List.mem_append_left _ (List.mem_append_left _ (List.mem_append_right _ h)))
  | exact fun _ h => List.mem_cons_of_mem _ (List.mem_append_left _ (List.mem_append_left _ (List.mem_append_left _ (List.mem_append_right _ h))))
  | exact fun _ h => List.mem_cons_of_mem _ (List.mem_append_left _ (List.mem_append_left _ (List.mem_append_left _ (List.mem_append_left _ (List.mem_append_right _ h)))))
  | decide +kernel
theorem kX8_chooseCover_10 : Cond.fieldLink RX8 10 RX8 (TX8 0).2.1 (TX8 0).2.2.1 ∈ wsX8_chooseCover := by decide +kernel
noncomputable def f_X8_chooseCover (t : Sx) (a1 : Int32) (a2 : Int32) : Option (Int32 × Sx) := (f_X6_has t (a1)).bind fun r1 => if r1 = 0 then some ((-1), t) else if a2 = (-1) then if a2 = (-1) then (f_X6_choose t (a1) (a2)).bind fun r2 => (f_X8_settle r2 ).bind fun r3 => (f_X6_cover r3 (a1)).bind fun r4 => some (r4, r3) else (f_X6_home t (a2)).bind fun r5 => if r5 = a1 then (f_X6_choose t (a1) (a2)).bind fun r6 => (f_X8_settle r6 ).bind fun r7 => (f_X6_cover r7 (a1)).bind fun r8 => some (r8, r7) else some ((-2), t) else (f_X1_has t (a2)).bind fun r9 => if r9 = 0 then some ((-1), t) else if a2 = (-1) then (f_X6_choose t (a1) (a2)).bind fun r10 => (f_X8_settle r10 ).bind fun r11 => (f_X6_cover r11 (a1)).bind fun r12 => some (r12, r11) else (f_X6_home t (a2)).bind fun r13 => if r13 = a1 then (f_X6_choose t (a1) (a2)).bind fun r14 => (f_X8_settle r14 ).bind fun r15 => (f_X6_cover r15 (a1)).bind fun r16 => some (r16, r15) else some ((-2), t)
set_option maxRecDepth 20000 in
set_option maxHeartbeats 4000000 in
theorem c_X8_chooseCover (l : Launch) (K : Kx) (t : Sx) (a1 : Int32) (a2 : Int32) : CT l K yX8_chooseCover wsX8_chooseCover ({ frames := 6, cells := 0, slots := 0, locals := 141 } : Room) [.ref (K.2.2 0), .int a1, .int a2] t (f_X8_chooseCover t a1 a2) kWI := by
  refine CT_of (cc := cX8_chooseCover) (maxL := 3) (ret := (some .int)) (own := RX8) (by decide +kernel) rfl rfl (Nat.le_of_ble_eq_true rfl) ?_
  intro p e s m args below meth c hc
  refine V_sub (lv' := [(0, .ref (K.2.2 0)), (1, .int a1), (2, .int a2)]) [0, 1, 2] rfl ?_
  unfold f_X8_chooseCover
  refine V_aload_n hc dX8_chooseCover_0 rfl 0 rfl ?_
  refine V_getr (C := RX8) (T := TX8) (N := 8) hc sP0 rfl qX8_chooseCover_RX8 2 rfl (by decide) kX8_chooseCover_28 rfl dX8_chooseCover_1 ?_
  refine V_iload_n hc dX8_chooseCover_4 rfl 1 rfl ?_
  refine V_callV_RI (Cn := RX6) (T := TX6) (N := 8) hc (c_X6_has l K t (a1)) sP8 rfl 1 gX8_chooseCover_X6_has rfl ⟨rfl, rfl⟩ (by decide) ⟨Nat.le_of_ble_eq_true rfl, Nat.le_of_ble_eq_true rfl⟩ rfl rfl (Nat.le_of_ble_eq_true rfl) dX8_chooseCover_5 (fun r1 => ?_)
  refine V_if_eq (tgt := 27) hc dX8_chooseCover_8 (by decide) ?_ ?_
  · refine V_iconst (v := (-1)) hc dX8_chooseCover_27 (by decide) ?_
    exact V_iret hc rfl rfl dX8_chooseCover_28
  · refine V_iload_n hc dX8_chooseCover_11 rfl 2 rfl ?_
    refine V_iconst (v := (-1)) hc dX8_chooseCover_12 (by decide) ?_
    refine V_icmp_eq (tgt := 29) hc dX8_chooseCover_13 (by decide) ?_ ?_
    · refine V_iload_n hc dX8_chooseCover_29 rfl 2 rfl ?_
      refine V_iconst (v := (-1)) hc dX8_chooseCover_30 (by decide) ?_
      refine V_icmp_eq (tgt := 49) hc dX8_chooseCover_31 (by decide) ?_ ?_
      · refine V_aload_n hc dX8_chooseCover_49 rfl 0 rfl ?_
        refine V_getr (C := RX8) (T := TX8) (N := 8) hc sP0 rfl qX8_chooseCover_RX8 2 rfl (by decide) kX8_chooseCover_28 rfl dX8_chooseCover_50 ?_
        refine V_iload_n hc dX8_chooseCover_53 rfl 1 rfl ?_
        refine V_iload_n hc dX8_chooseCover_54 rfl 2 rfl ?_
        refine V_callV_WV (Cn := RX6) (T := TX6) (N := 8) hc (c_X6_choose l K t (a1) (a2)) sP8 rfl 2 gX8_chooseCover_X6_choose rfl ⟨rfl, rfl⟩ (by decide) ⟨Nat.le_of_ble_eq_true rfl, Nat.le_of_ble_eq_true rfl⟩ rfl rfl (Nat.le_of_ble_eq_true rfl) dX8_chooseCover_55 (fun r2 => ?_)
        refine V_aload_n hc dX8_chooseCover_58 rfl 0 rfl ?_
        refine V_callV_WV (Cn := RX8) (T := TX8) (N := 8) hc (c_X8_settle l K r2 ) sP0 rfl 0 gX8_chooseCover_X8_settle rfl ⟨rfl, rfl⟩ (by decide) ⟨Nat.le_of_ble_eq_true rfl, Nat.le_of_ble_eq_true rfl⟩ rfl rfl (Nat.le_of_ble_eq_true rfl) dX8_chooseCover_59 (fun r3 => ?_)
        refine V_aload_n hc dX8_chooseCover_62 rfl 0 rfl ?_
        refine V_getr (C := RX8) (T := TX8) (N := 8) hc sP0 rfl qX8_chooseCover_RX8 2 rfl (by decide) kX8_chooseCover_28 rfl dX8_chooseCover_63 ?_
        refine V_iload_n hc dX8_chooseCover_66 rfl 1 rfl ?_
        refine V_callV_RI (Cn := RX6) (T := TX6) (N := 8) hc (c_X6_cover l K r3 (a1)) sP8 rfl 1 gX8_chooseCover_X6_cover rfl ⟨rfl, rfl⟩ (by decide) ⟨Nat.le_of_ble_eq_true rfl, Nat.le_of_ble_eq_true rfl⟩ rfl rfl (Nat.le_of_ble_eq_true rfl) dX8_chooseCover_67 (fun r4 => ?_)
        exact V_iret hc rfl rfl dX8_chooseCover_70
      · refine V_aload_n hc dX8_chooseCover_34 rfl 0 rfl ?_
        refine V_getr (C := RX8) (T := TX8) (N := 8) hc sP0 rfl qX8_chooseCover_RX8 2 rfl (by decide) kX8_chooseCover_28 rfl dX8_chooseCover_35 ?_
        refine V_iload_n hc dX8_chooseCover_38 rfl 2 rfl ?_
        refine V_callV_RI (Cn := RX6) (T := TX6) (N := 8) hc (c_X6_home l K t (a2)) sP8 rfl 1 gX8_chooseCover_X6_home rfl ⟨rfl, rfl⟩ (by decide) ⟨Nat.le_of_ble_eq_true rfl, Nat.le_of_ble_eq_true rfl⟩ rfl rfl (Nat.le_of_ble_eq_true rfl) dX8_chooseCover_39 (fun r5 => ?_)
        refine V_iload_n hc dX8_chooseCover_42 rfl 1 rfl ?_
        refine V_icmp_eq (tgt := 49) hc dX8_chooseCover_43 (by decide) ?_ ?_
        · refine V_aload_n hc dX8_chooseCover_49 rfl 0 rfl ?_
          refine V_getr (C := RX8) (T := TX8) (N := 8) hc sP0 rfl qX8_chooseCover_RX8 2 rfl (by decide) kX8_chooseCover_28 rfl dX8_chooseCover_50 ?_
          refine V_iload_n hc dX8_chooseCover_53 rfl 1 rfl ?_
          refine V_iload_n hc dX8_chooseCover_54 rfl 2 rfl ?_
          refine V_callV_WV (Cn := RX6) (T := TX6) (N := 8) hc (c_X6_choose l K t (a1) (a2)) sP8 rfl 2 gX8_chooseCover_X6_choose rfl ⟨rfl, rfl⟩ (by decide) ⟨Nat.le_of_ble_eq_true rfl, Nat.le_of_ble_eq_true rfl⟩ rfl rfl (Nat.le_of_ble_eq_true rfl) dX8_chooseCover_55 (fun r6 => ?_)
          refine V_aload_n hc dX8_chooseCover_58 rfl 0 rfl ?_
          refine V_callV_WV (Cn := RX8) (T := TX8) (N := 8) hc (c_X8_settle l K r6 ) sP0 rfl 0 gX8_chooseCover_X8_settle rfl ⟨rfl, rfl⟩ (by decide) ⟨Nat.le_of_ble_eq_true rfl, Nat.le_of_ble_eq_true rfl⟩ rfl rfl (Nat.le_of_ble_eq_true rfl) dX8_chooseCover_59 (fun r7 => ?_)
          refine V_aload_n hc dX8_chooseCover_62 rfl 0 rfl ?_
          refine V_getr (C := RX8) (T := TX8) (N := 8) hc sP0 rfl qX8_chooseCover_RX8 2 rfl (by decide) kX8_chooseCover_28 rfl dX8_chooseCover_63 ?_
          refine V_iload_n hc dX8_chooseCover_66 rfl 1 rfl ?_
          refine V_callV_RI (Cn := RX6) (T := TX6) (N := 8) hc (c_X6_cover l K r7 (a1)) sP8 rfl 1 gX8_chooseCover_X6_cover rfl ⟨rfl, rfl⟩ (by decide) ⟨Nat.le_of_ble_eq_true rfl, Nat.le_of_ble_eq_true rfl⟩ rfl rfl (Nat.le_of_ble_eq_true rfl) dX8_chooseCover_67 (fun r8 => ?_)
          exact V_iret hc rfl rfl dX8_chooseCover_70
        · refine V_bipush (v := (-2)) hc dX8_chooseCover_46 (by decide) ?_
          exact V_iret hc rfl rfl dX8_chooseCover_48
    · refine V_aload_n hc dX8_chooseCover_16 rfl 0 rfl ?_
      refine V_getr (C := RX8) (T := TX8) (N := 8) hc sP0 rfl qX8_chooseCover_RX8 0 rfl (by decide) kX8_chooseCover_10 rfl dX8_chooseCover_17 ?_
      refine V_iload_n hc dX8_chooseCover_20 rfl 2 rfl ?_
      refine V_callV_RI (Cn := RX1) (T := TX1) (N := 6) hc (c_X1_has l K t (a2)) sP1 rfl 1 gX8_chooseCover_X1_has rfl ⟨rfl, rfl⟩ (by decide) ⟨Nat.le_of_ble_eq_true rfl, Nat.le_of_ble_eq_true rfl⟩ rfl rfl (Nat.le_of_ble_eq_true rfl) dX8_chooseCover_21 (fun r9 => ?_)
      refine V_if_ne (tgt := 29) hc dX8_chooseCover_24 (by decide) ?_ ?_
      · refine V_iload_n hc dX8_chooseCover_29 rfl 2 rfl ?_
        refine V_iconst (v := (-1)) hc dX8_chooseCover_30 (by decide) ?_
        refine V_icmp_eq (tgt := 49) hc dX8_chooseCover_31 (by decide) ?_ ?_
        · refine V_aload_n hc dX8_chooseCover_49 rfl 0 rfl ?_
          refine V_getr (C := RX8) (T := TX8) (N := 8) hc sP0 rfl qX8_chooseCover_RX8 2 rfl (by decide) kX8_chooseCover_28 rfl dX8_chooseCover_50 ?_
          refine V_iload_n hc dX8_chooseCover_53 rfl 1 rfl ?_
          refine V_iload_n hc dX8_chooseCover_54 rfl 2 rfl ?_
          refine V_callV_WV (Cn := RX6) (T := TX6) (N := 8) hc (c_X6_choose l K t (a1) (a2)) sP8 rfl 2 gX8_chooseCover_X6_choose rfl ⟨rfl, rfl⟩ (by decide) ⟨Nat.le_of_ble_eq_true rfl, Nat.le_of_ble_eq_true rfl⟩ rfl rfl (Nat.le_of_ble_eq_true rfl) dX8_chooseCover_55 (fun r10 => ?_)
          refine V_aload_n hc dX8_chooseCover_58 rfl 0 rfl ?_
          refine V_callV_WV (Cn := RX8) (T := TX8) (N := 8) hc (c_X8_settle l K r10 ) sP0 rfl 0 gX8_chooseCover_X8_settle rfl ⟨rfl, rfl⟩ (by decide) ⟨Nat.le_of_ble_eq_true rfl, Nat.le_of_ble_eq_true rfl⟩ rfl rfl (Nat.le_of_ble_eq_true rfl) dX8_chooseCover_59 (fun r11 => ?_)
          refine V_aload_n hc dX8_chooseCover_62 rfl 0 rfl ?_
          refine V_getr (C := RX8) (T := TX8) (N := 8) hc sP0 rfl qX8_chooseCover_RX8 2 rfl (by decide) kX8_chooseCover_28 rfl dX8_chooseCover_63 ?_
          refine V_iload_n hc dX8_chooseCover_66 rfl 1 rfl ?_
          refine V_callV_RI (Cn := RX6) (T := TX6) (N := 8) hc (c_X6_cover l K r11 (a1)) sP8 rfl 1 gX8_chooseCover_X6_cover rfl ⟨rfl, rfl⟩ (by decide) ⟨Nat.le_of_ble_eq_true rfl, Nat.le_of_ble_eq_true rfl⟩ rfl rfl (Nat.le_of_ble_eq_true rfl) dX8_chooseCover_67 (fun r12 => ?_)
          exact V_iret hc rfl rfl dX8_chooseCover_70
        · refine V_aload_n hc dX8_chooseCover_34 rfl 0 rfl ?_
          refine V_getr (C := RX8) (T := TX8) (N := 8) hc sP0 rfl qX8_chooseCover_RX8 2 rfl (by decide) kX8_chooseCover_28 rfl dX8_chooseCover_35 ?_
          refine V_iload_n hc dX8_chooseCover_38 rfl 2 rfl ?_
          refine V_callV_RI (Cn := RX6) (T := TX6) (N := 8) hc (c_X6_home l K t (a2)) sP8 rfl 1 gX8_chooseCover_X6_home rfl ⟨rfl, rfl⟩ (by decide) ⟨Nat.le_of_ble_eq_true rfl, Nat.le_of_ble_eq_true rfl⟩ rfl rfl (Nat.le_of_ble_eq_true rfl) dX8_chooseCover_39 (fun r13 => ?_)
          refine V_iload_n hc dX8_chooseCover_42 rfl 1 rfl ?_
          refine V_icmp_eq (tgt := 49) hc dX8_chooseCover_43 (by decide) ?_ ?_
          · refine V_aload_n hc dX8_chooseCover_49 rfl 0 rfl ?_
            refine V_getr (C := RX8) (T := TX8) (N := 8) hc sP0 rfl qX8_chooseCover_RX8 2 rfl (by decide) kX8_chooseCover_28 rfl dX8_chooseCover_50 ?_
            refine V_iload_n hc dX8_chooseCover_53 rfl 1 rfl ?_
            refine V_iload_n hc dX8_chooseCover_54 rfl 2 rfl ?_
            refine V_callV_WV (Cn := RX6) (T := TX6) (N := 8) hc (c_X6_choose l K t (a1) (a2)) sP8 rfl 2 gX8_chooseCover_X6_choose rfl ⟨rfl, rfl⟩ (by decide) ⟨Nat.le_of_ble_eq_true rfl, Nat.le_of_ble_eq_true rfl⟩ rfl rfl (Nat.le_of_ble_eq_true rfl) dX8_chooseCover_55 (fun r14 => ?_)
            refine V_aload_n hc dX8_chooseCover_58 rfl 0 rfl ?_
            refine V_callV_WV (Cn := RX8) (T := TX8) (N := 8) hc (c_X8_settle l K r14 ) sP0 rfl 0 gX8_chooseCover_X8_settle rfl ⟨rfl, rfl⟩ (by decide) ⟨Nat.le_of_ble_eq_true rfl, Nat.le_of_ble_eq_true rfl⟩ rfl rfl (Nat.le_of_ble_eq_true rfl) dX8_chooseCover_59 (fun r15 => ?_)
            refine V_aload_n hc dX8_chooseCover_62 rfl 0 rfl ?_
            refine V_getr (C := RX8) (T := TX8) (N := 8) hc sP0 rfl qX8_chooseCover_RX8 2 rfl (by decide) kX8_chooseCover_28 rfl dX8_chooseCover_63 ?_
            refine V_iload_n hc dX8_chooseCover_66 rfl 1 rfl ?_
            refine V_callV_RI (Cn := RX6) (T := TX6) (N := 8) hc (c_X6_cover l K r15 (a1)) sP8 rfl 1 gX8_chooseCover_X6_cover rfl ⟨rfl, rfl⟩ (by decide) ⟨Nat.le_of_ble_eq_true rfl, Nat.le_of_ble_eq_true rfl⟩ rfl rfl (Nat.le_of_ble_eq_true rfl) dX8_chooseCover_67 (fun r16 => ?_)
            exact V_iret hc rfl rfl dX8_chooseCover_70
          · refine V_bipush (v := (-2)) hc dX8_chooseCover_46 (by decide) ?_
            exact V_iret hc rfl rfl dX8_chooseCover_48
      · refine V_iconst (v := (-1)) hc dX8_chooseCover_27 (by decide) ?_
        exact V_iret hc rfl rfl dX8_chooseCover_28

theorem kX8_collapse_28 : Cond.fieldLink RX8 28 RX8 (TX8 2).2.1 (TX8 2).2.2.1 ∈ wsX8_collapse := by decide +kernel
theorem qX8_collapse_RX8 : ∀ w ∈ u_ws RX8 TX8 8, w ∈ wsX8_collapse := by
  first
  | exact fun _ h => List.mem_cons_of_mem _ (List.mem_append_right _ h)
  | exact fun _ h => List.mem_cons_of_mem _ (List.mem_append_left _ (List.mem_append_right _ h))
  | exact fun _ h => List.mem_cons_of_mem _ (List.mem_append_left _ (List.mem_append_left _ (List.mem_append_right _ h)))
  | exact fun _ h => List.mem_cons_of_mem _ (List.mem_append_left _ (List.mem_append_left _ (List.mem_append_left _ (List.mem_append_right _ h))))
  | exact fun _ h => List.mem_cons_of_mem _ (List.mem_append_left _ (List.mem_append_left _ (List.mem_append_left _ (List.mem_append_left _ (List.mem_append_right _ h)))))
  | decide +kernel
noncomputable def f_X8_collapse (t : Sx) (a1 : Int32) (a2 : Int32) : Option (Int32 × Sx) := (f_X6_has t (a1)).bind fun r1 => if r1 = 0 then some ((-1), t) else (f_X8_isWithin t (a2) (0) (1)).bind fun r2 => if r2 = 0 then some ((-1), t) else (f_X6_isCollapsed t (a1)).bind fun r3 => if r3 = 0 then if a2 = 1 then (f_X6_fold t (a1) (1)).bind fun r5 => some (0, r5) else (f_X6_fold t (a1) (0)).bind fun r4 => some (0, r4) else if a2 = 1 then (f_X6_fold t (a1) (1)).bind fun r7 => some (1, r7) else (f_X6_fold t (a1) (0)).bind fun r6 => some (1, r6)
set_option maxRecDepth 20000 in
set_option maxHeartbeats 4000000 in
theorem c_X8_collapse (l : Launch) (K : Kx) (t : Sx) (a1 : Int32) (a2 : Int32) : CT l K yX8_collapse wsX8_collapse ({ frames := 2, cells := 0, slots := 0, locals := 43 } : Room) [.ref (K.2.2 0), .int a1, .int a2] t (f_X8_collapse t a1 a2) kWI := by
  refine CT_of (cc := cX8_collapse) (maxL := 4) (ret := (some .int)) (own := RX8) (by decide +kernel) rfl rfl (Nat.le_of_ble_eq_true rfl) ?_
  intro p e s m args below meth c hc
  refine V_sub (lv' := [(0, .ref (K.2.2 0)), (1, .int a1), (2, .int a2)]) [0, 1, 2] rfl ?_
  unfold f_X8_collapse
  refine V_aload_n hc dX8_collapse_0 rfl 0 rfl ?_
  refine V_getr (C := RX8) (T := TX8) (N := 8) hc sP0 rfl qX8_collapse_RX8 2 rfl (by decide) kX8_collapse_28 rfl dX8_collapse_1 ?_
  refine V_iload_n hc dX8_collapse_4 rfl 1 rfl ?_
  refine V_callV_RI (Cn := RX6) (T := TX6) (N := 8) hc (c_X6_has l K t (a1)) sP8 rfl 1 gX8_collapse_X6_has rfl ⟨rfl, rfl⟩ (by decide) ⟨Nat.le_of_ble_eq_true rfl, Nat.le_of_ble_eq_true rfl⟩ rfl rfl (Nat.le_of_ble_eq_true rfl) dX8_collapse_5 (fun r1 => ?_)
  refine V_if_eq (tgt := 20) hc dX8_collapse_8 (by decide) ?_ ?_
  · refine V_iconst (v := (-1)) hc dX8_collapse_20 (by decide) ?_
    exact V_iret hc rfl rfl dX8_collapse_21
  · refine V_iload_n hc dX8_collapse_11 rfl 2 rfl ?_
    refine V_iconst (v := 0) hc dX8_collapse_12 (by decide) ?_
    refine V_iconst (v := 1) hc dX8_collapse_13 (by decide) ?_
    refine V_callS_RI hc (c_X8_isWithin l K t (a2) (0) (1)) 3 gX8_collapse_X8_isWithin rfl ⟨rfl, rfl⟩ (by decide) ⟨Nat.le_of_ble_eq_true rfl, Nat.le_of_ble_eq_true rfl⟩ rfl rfl (Nat.le_of_ble_eq_true rfl) dX8_collapse_14 (fun r2 => ?_)
    refine V_if_ne (tgt := 22) hc dX8_collapse_17 (by decide) ?_ ?_
    · refine V_aload_n hc dX8_collapse_22 rfl 0 rfl ?_
      refine V_getr (C := RX8) (T := TX8) (N := 8) hc sP0 rfl qX8_collapse_RX8 2 rfl (by decide) kX8_collapse_28 rfl dX8_collapse_23 ?_
      refine V_iload_n hc dX8_collapse_26 rfl 1 rfl ?_
      refine V_callV_RI (Cn := RX6) (T := TX6) (N := 8) hc (c_X6_isCollapsed l K t (a1)) sP8 rfl 1 gX8_collapse_X6_isCollapsed rfl ⟨rfl, rfl⟩ (by decide) ⟨Nat.le_of_ble_eq_true rfl, Nat.le_of_ble_eq_true rfl⟩ rfl rfl (Nat.le_of_ble_eq_true rfl) dX8_collapse_27 (fun r3 => ?_)
      refine V_if_eq (tgt := 37) hc dX8_collapse_30 (by decide) ?_ ?_
      · refine V_iconst (v := 0) hc dX8_collapse_37 (by decide) ?_
        refine V_istore_n (lv' := [(3, .int 0), (0, .ref (K.2.2 0)), (1, .int a1), (2, .int a2)]) hc dX8_collapse_38 rfl (by decide) rfl ?_
        refine V_aload_n hc dX8_collapse_39 rfl 1 rfl ?_
        refine V_getr (C := RX8) (T := TX8) (N := 8) hc sP0 rfl qX8_collapse_RX8 2 rfl (by decide) kX8_collapse_28 rfl dX8_collapse_40 ?_
        refine V_iload_n hc dX8_collapse_43 rfl 2 rfl ?_
        refine V_iload_n hc dX8_collapse_44 rfl 3 rfl ?_
        refine V_iconst (v := 1) hc dX8_collapse_45 (by decide) ?_
        refine V_icmp_ne (tgt := 53) hc dX8_collapse_46 (by decide) ?_ ?_
        · refine V_iconst (v := 0) hc dX8_collapse_53 (by decide) ?_
          refine V_callV_WV (Cn := RX6) (T := TX6) (N := 8) hc (c_X6_fold l K t (a1) (0)) sP8 rfl 2 gX8_collapse_X6_fold rfl ⟨rfl, rfl⟩ (by decide) ⟨Nat.le_of_ble_eq_true rfl, Nat.le_of_ble_eq_true rfl⟩ rfl rfl (Nat.le_of_ble_eq_true rfl) dX8_collapse_54 (fun r4 => ?_)
          refine V_iload_n hc dX8_collapse_57 rfl 0 rfl ?_
          exact V_iret hc rfl rfl dX8_collapse_58
        · refine V_iconst (v := 1) hc dX8_collapse_49 (by decide) ?_
          refine V_goto (tgt := 54) hc dX8_collapse_50 (by decide) ?_
          refine V_callV_WV (Cn := RX6) (T := TX6) (N := 8) hc (c_X6_fold l K t (a1) (1)) sP8 rfl 2 gX8_collapse_X6_fold rfl ⟨rfl, rfl⟩ (by decide) ⟨Nat.le_of_ble_eq_true rfl, Nat.le_of_ble_eq_true rfl⟩ rfl rfl (Nat.le_of_ble_eq_true rfl) dX8_collapse_54 (fun r5 => ?_)
          refine V_iload_n hc dX8_collapse_57 rfl 0 rfl ?_
          exact V_iret hc rfl rfl dX8_collapse_58
      · refine V_iconst (v := 1) hc dX8_collapse_33 (by decide) ?_
        refine V_goto (tgt := 38) hc dX8_collapse_34 (by decide) ?_
        refine V_istore_n (lv' := [(3, .int 1), (0, .ref (K.2.2 0)), (1, .int a1), (2, .int a2)]) hc dX8_collapse_38 rfl (by decide) rfl ?_
        refine V_aload_n hc dX8_collapse_39 rfl 1 rfl ?_
        refine V_getr (C := RX8) (T := TX8) (N := 8) hc sP0 rfl qX8_collapse_RX8 2 rfl (by decide) kX8_collapse_28 rfl dX8_collapse_40 ?_
        refine V_iload_n hc dX8_collapse_43 rfl 2 rfl ?_
        refine V_iload_n hc dX8_collapse_44 rfl 3 rfl ?_
        refine V_iconst (v := 1) hc dX8_collapse_45 (by decide) ?_
        refine V_icmp_ne (tgt := 53) hc dX8_collapse_46 (by decide) ?_ ?_
        · refine V_iconst (v := 0) hc dX8_collapse_53 (by decide) ?_
          refine V_callV_WV (Cn := RX6) (T := TX6) (N := 8) hc (c_X6_fold l K t (a1) (0)) sP8 rfl 2 gX8_collapse_X6_fold rfl ⟨rfl, rfl⟩ (by decide) ⟨Nat.le_of_ble_eq_true rfl, Nat.le_of_ble_eq_true rfl⟩ rfl rfl (Nat.le_of_ble_eq_true rfl) dX8_collapse_54 (fun r6 => ?_)
          refine V_iload_n hc dX8_collapse_57 rfl 0 rfl ?_
          exact V_iret hc rfl rfl dX8_collapse_58
        · refine V_iconst (v := 1) hc dX8_collapse_49 (by decide) ?_
          refine V_goto (tgt := 54) hc dX8_collapse_50 (by decide) ?_
          refine V_callV_WV (Cn := RX6) (T := TX6) (N := 8) hc (c_X6_fold l K t (a1) (1)) sP8 rfl 2 gX8_collapse_X6_fold rfl ⟨rfl, rfl⟩ (by decide) ⟨Nat.le_of_ble_eq_true rfl, Nat.le_of_ble_eq_true rfl⟩ rfl rfl (Nat.le_of_ble_eq_true rfl) dX8_collapse_54 (fun r7 => ?_)
          refine V_iload_n hc dX8_collapse_57 rfl 0 rfl ?_
          exact V_iret hc rfl rfl dX8_collapse_58
    · refine V_iconst (v := (-1)) hc dX8_collapse_20 (by decide) ?_
      exact V_iret hc rfl rfl dX8_collapse_21

theorem kX8_stackOf_10 : Cond.fieldLink RX8 10 RX8 (TX8 0).2.1 (TX8 0).2.2.1 ∈ wsX8_stackOf := by decide +kernel
theorem qX8_stackOf_RX8 : ∀ w ∈ u_ws RX8 TX8 8, w ∈ wsX8_stackOf := by
  first
  | exact fun _ h => List.mem_cons_of_mem _ (List.mem_append_right _ h)
  | exact fun _ h => List.mem_cons_of_mem _ (List.mem_append_left _ (List.mem_append_right _ h))
  | exact fun _ h => List.mem_cons_of_mem _ (List.mem_append_left _ (List.mem_append_left _ (List.mem_append_right _ h)))
  | exact fun _ h => List.mem_cons_of_mem _ (List.mem_append_left _ (List.mem_append_left _ (List.mem_append_left _ (List.mem_append_right _ h))))
  | exact fun _ h => List.mem_cons_of_mem _ (List.mem_append_left _ (List.mem_append_left _ (List.mem_append_left _ (List.mem_append_left _ (List.mem_append_right _ h)))))
  | decide +kernel
theorem kX8_stackOf_28 : Cond.fieldLink RX8 28 RX8 (TX8 2).2.1 (TX8 2).2.2.1 ∈ wsX8_stackOf := by decide +kernel
noncomputable def f_X8_stackOf (t : Sx) (a1 : Int32) : Option Int32 := (f_X1_has t (a1)).bind fun r1 => if r1 = 0 then some (-1) else (f_X6_home t (a1)).bind fun r2 => (f_X8_orNotFound t (r2)).bind fun r3 => some r3
set_option maxRecDepth 20000 in
set_option maxHeartbeats 4000000 in
theorem c_X8_stackOf (l : Launch) (K : Kx) (t : Sx) (a1 : Int32) : CT l K yX8_stackOf wsX8_stackOf ({ frames := 2, cells := 0, slots := 0, locals := 43 } : Room) [.ref (K.2.2 0), .int a1] t (f_X8_stackOf t a1) (kRI t) := by
  refine CT_of (cc := cX8_stackOf) (maxL := 2) (ret := (some .int)) (own := RX8) (by decide +kernel) rfl rfl (Nat.le_of_ble_eq_true rfl) ?_
  intro p e s m args below meth c hc
  refine V_sub (lv' := [(0, .ref (K.2.2 0)), (1, .int a1)]) [0, 1] rfl ?_
  unfold f_X8_stackOf
  refine V_aload_n hc dX8_stackOf_0 rfl 0 rfl ?_
  refine V_getr (C := RX8) (T := TX8) (N := 8) hc sP0 rfl qX8_stackOf_RX8 0 rfl (by decide) kX8_stackOf_10 rfl dX8_stackOf_1 ?_
  refine V_iload_n hc dX8_stackOf_4 rfl 1 rfl ?_
  refine V_callV_RI (Cn := RX1) (T := TX1) (N := 6) hc (c_X1_has l K t (a1)) sP1 rfl 1 gX8_stackOf_X1_has rfl ⟨rfl, rfl⟩ (by decide) ⟨Nat.le_of_ble_eq_true rfl, Nat.le_of_ble_eq_true rfl⟩ rfl rfl (Nat.le_of_ble_eq_true rfl) dX8_stackOf_5 (fun r1 => ?_)
  refine V_if_ne (tgt := 13) hc dX8_stackOf_8 (by decide) ?_ ?_
  · refine V_aload_n hc dX8_stackOf_13 rfl 0 rfl ?_
    refine V_getr (C := RX8) (T := TX8) (N := 8) hc sP0 rfl qX8_stackOf_RX8 2 rfl (by decide) kX8_stackOf_28 rfl dX8_stackOf_14 ?_
    refine V_iload_n hc dX8_stackOf_17 rfl 1 rfl ?_
    refine V_callV_RI (Cn := RX6) (T := TX6) (N := 8) hc (c_X6_home l K t (a1)) sP8 rfl 1 gX8_stackOf_X6_home rfl ⟨rfl, rfl⟩ (by decide) ⟨Nat.le_of_ble_eq_true rfl, Nat.le_of_ble_eq_true rfl⟩ rfl rfl (Nat.le_of_ble_eq_true rfl) dX8_stackOf_18 (fun r2 => ?_)
    refine V_callS_RI hc (c_X8_orNotFound l K t (r2)) 1 gX8_stackOf_X8_orNotFound rfl ⟨rfl, rfl⟩ (by decide) ⟨Nat.le_of_ble_eq_true rfl, Nat.le_of_ble_eq_true rfl⟩ rfl rfl (Nat.le_of_ble_eq_true rfl) dX8_stackOf_21 (fun r3 => ?_)
    exact V_iret hc rfl rfl dX8_stackOf_24
  · refine V_iconst (v := (-1)) hc dX8_stackOf_11 (by decide) ?_
    exact V_iret hc rfl rfl dX8_stackOf_12

theorem kX8_coverOf_28 : Cond.fieldLink RX8 28 RX8 (TX8 2).2.1 (TX8 2).2.2.1 ∈ wsX8_coverOf := by decide +kernel
theorem qX8_coverOf_RX8 : ∀ w ∈ u_ws RX8 TX8 8, w ∈ wsX8_coverOf := by
  first
  | exact fun _ h => List.mem_cons_of_mem _ (List.mem_append_right _ h)
  | exact fun _ h => List.mem_cons_of_mem _ (List.mem_append_left _ (List.mem_append_right _ h))
  | exact fun _ h => List.mem_cons_of_mem _ (List.mem_append_left _ (List.mem_append_left _ (List.mem_append_right _ h)))
  | exact fun _ h => List.mem_cons_of_mem _ (List.mem_append_left _ (List.mem_append_left _ (List.mem_append_left _ (List.mem_append_right _ h))))
  | exact fun _ h => List.mem_cons_of_mem _ (List.mem_append_left _ (List.mem_append_left _ (List.mem_append_left _ (List.mem_append_left _ (List.mem_append_right _ h)))))
  | decide +kernel
noncomputable def f_X8_coverOf (t : Sx) (a1 : Int32) : Option Int32 := (f_X6_has t (a1)).bind fun r1 => if r1 = 0 then some (-1) else (f_X6_cover t (a1)).bind fun r2 => some r2
set_option maxRecDepth 20000 in
set_option maxHeartbeats 4000000 in
theorem c_X8_coverOf (l : Launch) (K : Kx) (t : Sx) (a1 : Int32) : CT l K yX8_coverOf wsX8_coverOf ({ frames := 2, cells := 0, slots := 0, locals := 46 } : Room) [.ref (K.2.2 0), .int a1] t (f_X8_coverOf t a1) (kRI t) := by
  refine CT_of (cc := cX8_coverOf) (maxL := 2) (ret := (some .int)) (own := RX8) (by decide +kernel) rfl rfl (Nat.le_of_ble_eq_true rfl) ?_
  intro p e s m args below meth c hc
  refine V_sub (lv' := [(0, .ref (K.2.2 0)), (1, .int a1)]) [0, 1] rfl ?_
  unfold f_X8_coverOf
  refine V_aload_n hc dX8_coverOf_0 rfl 0 rfl ?_
  refine V_getr (C := RX8) (T := TX8) (N := 8) hc sP0 rfl qX8_coverOf_RX8 2 rfl (by decide) kX8_coverOf_28 rfl dX8_coverOf_1 ?_
  refine V_iload_n hc dX8_coverOf_4 rfl 1 rfl ?_
  refine V_callV_RI (Cn := RX6) (T := TX6) (N := 8) hc (c_X6_has l K t (a1)) sP8 rfl 1 gX8_coverOf_X6_has rfl ⟨rfl, rfl⟩ (by decide) ⟨Nat.le_of_ble_eq_true rfl, Nat.le_of_ble_eq_true rfl⟩ rfl rfl (Nat.le_of_ble_eq_true rfl) dX8_coverOf_5 (fun r1 => ?_)
  refine V_if_ne (tgt := 13) hc dX8_coverOf_8 (by decide) ?_ ?_
  · refine V_aload_n hc dX8_coverOf_13 rfl 0 rfl ?_
    refine V_getr (C := RX8) (T := TX8) (N := 8) hc sP0 rfl qX8_coverOf_RX8 2 rfl (by decide) kX8_coverOf_28 rfl dX8_coverOf_14 ?_
    refine V_iload_n hc dX8_coverOf_17 rfl 1 rfl ?_
    refine V_callV_RI (Cn := RX6) (T := TX6) (N := 8) hc (c_X6_cover l K t (a1)) sP8 rfl 1 gX8_coverOf_X6_cover rfl ⟨rfl, rfl⟩ (by decide) ⟨Nat.le_of_ble_eq_true rfl, Nat.le_of_ble_eq_true rfl⟩ rfl rfl (Nat.le_of_ble_eq_true rfl) dX8_coverOf_18 (fun r2 => ?_)
    exact V_iret hc rfl rfl dX8_coverOf_21
  · refine V_iconst (v := (-1)) hc dX8_coverOf_11 (by decide) ?_
    exact V_iret hc rfl rfl dX8_coverOf_12

theorem kX8_stackAt_28 : Cond.fieldLink RX8 28 RX8 (TX8 2).2.1 (TX8 2).2.2.1 ∈ wsX8_stackAt := by decide +kernel
theorem qX8_stackAt_RX8 : ∀ w ∈ u_ws RX8 TX8 8, w ∈ wsX8_stackAt := by
  first
  | exact fun _ h => List.mem_cons_of_mem _ (List.mem_append_right _ h)
  | exact fun _ h => List.mem_cons_of_mem _ (List.mem_append_left _ (List.mem_append_right _ h))
  | exact fun _ h => List.mem_cons_of_mem _ (List.mem_append_left _ (List.mem_append_left _ (List.mem_append_right _ h)))
  | exact fun _ h => List.mem_cons_of_mem _ (List.mem_append_left _ (List.mem_append_left _ (List.mem_append_left _ (List.mem_append_right _ h))))
  | exact fun _ h => List.mem_cons_of_mem _ (List.mem_append_left _ (List.mem_append_left _ (List.mem_append_left _ (List.mem_append_left _ (List.mem_append_right _ h)))))
  | decide +kernel
noncomputable def f_X8_stackAt (t : Sx) (a1 : Int32) (a2 : Int32) : Option Int32 := (f_X6_has t (a1)).bind fun r1 => if r1 = 0 then some (-1) else if 0 ≤ a2 then (f_X6_fileAt t (a1) (a2)).bind fun r2 => (f_X8_orNotFound t (r2)).bind fun r3 => some r3 else some (-1)
set_option maxRecDepth 20000 in
set_option maxHeartbeats 4000000 in
theorem c_X8_stackAt (l : Launch) (K : Kx) (t : Sx) (a1 : Int32) (a2 : Int32) : CT l K yX8_stackAt wsX8_stackAt ({ frames := 2, cells := 0, slots := 0, locals := 43 } : Room) [.ref (K.2.2 0), .int a1, .int a2] t (f_X8_stackAt t a1 a2) (kRI t) := by
  refine CT_of (cc := cX8_stackAt) (maxL := 3) (ret := (some .int)) (own := RX8) (by decide +kernel) rfl rfl (Nat.le_of_ble_eq_true rfl) ?_
  intro p e s m args below meth c hc
  refine V_sub (lv' := [(0, .ref (K.2.2 0)), (1, .int a1), (2, .int a2)]) [0, 1, 2] rfl ?_
  unfold f_X8_stackAt
  refine V_aload_n hc dX8_stackAt_0 rfl 0 rfl ?_
  refine V_getr (C := RX8) (T := TX8) (N := 8) hc sP0 rfl qX8_stackAt_RX8 2 rfl (by decide) kX8_stackAt_28 rfl dX8_stackAt_1 ?_
  refine V_iload_n hc dX8_stackAt_4 rfl 1 rfl ?_
  refine V_callV_RI (Cn := RX6) (T := TX6) (N := 8) hc (c_X6_has l K t (a1)) sP8 rfl 1 gX8_stackAt_X6_has rfl ⟨rfl, rfl⟩ (by decide) ⟨Nat.le_of_ble_eq_true rfl, Nat.le_of_ble_eq_true rfl⟩ rfl rfl (Nat.le_of_ble_eq_true rfl) dX8_stackAt_5 (fun r1 => ?_)
  refine V_if_eq (tgt := 15) hc dX8_stackAt_8 (by decide) ?_ ?_
  · refine V_iconst (v := (-1)) hc dX8_stackAt_15 (by decide) ?_
    exact V_iret hc rfl rfl dX8_stackAt_16
  · refine V_iload_n hc dX8_stackAt_11 rfl 2 rfl ?_
    refine V_if_ge (tgt := 17) hc dX8_stackAt_12 (by decide) ?_ ?_
    · refine V_aload_n hc dX8_stackAt_17 rfl 0 rfl ?_
      refine V_getr (C := RX8) (T := TX8) (N := 8) hc sP0 rfl qX8_stackAt_RX8 2 rfl (by decide) kX8_stackAt_28 rfl dX8_stackAt_18 ?_
      refine V_iload_n hc dX8_stackAt_21 rfl 1 rfl ?_
      refine V_iload_n hc dX8_stackAt_22 rfl 2 rfl ?_
      refine V_callV_RI (Cn := RX6) (T := TX6) (N := 8) hc (c_X6_fileAt l K t (a1) (a2)) sP8 rfl 2 gX8_stackAt_X6_fileAt rfl ⟨rfl, rfl⟩ (by decide) ⟨Nat.le_of_ble_eq_true rfl, Nat.le_of_ble_eq_true rfl⟩ rfl rfl (Nat.le_of_ble_eq_true rfl) dX8_stackAt_23 (fun r2 => ?_)
      refine V_callS_RI hc (c_X8_orNotFound l K t (r2)) 1 gX8_stackAt_X8_orNotFound rfl ⟨rfl, rfl⟩ (by decide) ⟨Nat.le_of_ble_eq_true rfl, Nat.le_of_ble_eq_true rfl⟩ rfl rfl (Nat.le_of_ble_eq_true rfl) dX8_stackAt_26 (fun r3 => ?_)
      exact V_iret hc rfl rfl dX8_stackAt_29
    · refine V_iconst (v := (-1)) hc dX8_stackAt_15 (by decide) ?_
      exact V_iret hc rfl rfl dX8_stackAt_16

theorem kX8_type_35 : Cond.fieldLink RX8 35 RX8 (TX8 3).2.1 (TX8 3).2.2.1 ∈ wsX8_type := by decide +kernel
theorem qX8_type_RX8 : ∀ w ∈ u_ws RX8 TX8 8, w ∈ wsX8_type := by
  first
  | exact fun _ h => List.mem_cons_of_mem _ (List.mem_append_right _ h)
  | exact fun _ h => List.mem_cons_of_mem _ (List.mem_append_left _ (List.mem_append_right _ h))
  | exact fun _ h => List.mem_cons_of_mem _ (List.mem_append_left _ (List.mem_append_left _ (List.mem_append_right _ h)))
  | exact fun _ h => List.mem_cons_of_mem _ (List.mem_append_left _ (List.mem_append_left _ (List.mem_append_left _ (List.mem_append_right _ h))))
  | exact fun _ h => List.mem_cons_of_mem _ (List.mem_append_left _ (List.mem_append_left _ (List.mem_append_left _ (List.mem_append_left _ (List.mem_append_right _ h)))))
  | decide +kernel
noncomputable def f_X8_type (t : Sx) (a1 : Int32) : Option (Int32 × Sx) := (f_X8_isWithin t (a1) (33) (126)).bind fun r1 => if r1 = 0 then some ((-1), t) else (f_X5_length t (8)).bind fun r2 => if r2 = 80 then some ((-3), t) else (f_X5_append t (8) (i2c a1)).bind fun r3 => (f_X5_length r3 (8)).bind fun r4 => some (r4, r3)
set_option maxRecDepth 20000 in
set_option maxHeartbeats 4000000 in
theorem c_X8_type (l : Launch) (K : Kx) (t : Sx) (a1 : Int32) : CT l K yX8_type wsX8_type ({ frames := 1, cells := 0, slots := 0, locals := 22 } : Room) [.ref (K.2.2 0), .int a1] t (f_X8_type t a1) kWI := by
  refine CT_of (cc := cX8_type) (maxL := 2) (ret := (some .int)) (own := RX8) (by decide +kernel) rfl rfl (Nat.le_of_ble_eq_true rfl) ?_
  intro p e s m args below meth c hc
  refine V_sub (lv' := [(0, .ref (K.2.2 0)), (1, .int a1)]) [0, 1] rfl ?_
  unfold f_X8_type
  refine V_iload_n hc dX8_type_0 rfl 1 rfl ?_
  refine V_bipush (v := 33) hc dX8_type_1 (by decide) ?_
  refine V_bipush (v := 126) hc dX8_type_3 (by decide) ?_
  refine V_callS_RI hc (c_X8_isWithin l K t (a1) (33) (126)) 3 gX8_type_X8_isWithin rfl ⟨rfl, rfl⟩ (by decide) ⟨Nat.le_of_ble_eq_true rfl, Nat.le_of_ble_eq_true rfl⟩ rfl rfl (Nat.le_of_ble_eq_true rfl) dX8_type_5 (fun r1 => ?_)
  refine V_if_ne (tgt := 13) hc dX8_type_8 (by decide) ?_ ?_
  · refine V_aload_n hc dX8_type_13 rfl 0 rfl ?_
    refine V_getr (C := RX8) (T := TX8) (N := 8) hc sP0 rfl qX8_type_RX8 3 rfl (by decide) kX8_type_35 rfl dX8_type_14 ?_
    refine V_callV_RI (Cn := RX5) (T := TX5) (N := 2) hc (c_X5_length l K t (8) (by decide)) (sh_rtx (by decide)) rfl 0 gX8_type_X5_length rfl ⟨rfl, rfl⟩ (by decide) ⟨Nat.le_of_ble_eq_true rfl, Nat.le_of_ble_eq_true rfl⟩ rfl rfl (Nat.le_of_ble_eq_true rfl) dX8_type_17 (fun r2 => ?_)
    refine V_bipush (v := 80) hc dX8_type_20 (by decide) ?_
    refine V_icmp_ne (tgt := 28) hc dX8_type_22 (by decide) ?_ ?_
    · refine V_aload_n hc dX8_type_28 rfl 0 rfl ?_
      refine V_getr (C := RX8) (T := TX8) (N := 8) hc sP0 rfl qX8_type_RX8 3 rfl (by decide) kX8_type_35 rfl dX8_type_29 ?_
      refine V_iload_n hc dX8_type_32 rfl 1 rfl ?_
      refine V_i2c hc dX8_type_33 ?_
      refine V_callV_WV (Cn := RX5) (T := TX5) (N := 2) hc (c_X5_append l K t (8) (i2c a1) (by decide)) (sh_rtx (by decide)) rfl 1 gX8_type_X5_append rfl ⟨rfl, rfl⟩ (by decide) ⟨Nat.le_of_ble_eq_true rfl, Nat.le_of_ble_eq_true rfl⟩ rfl rfl (Nat.le_of_ble_eq_true rfl) dX8_type_34 (fun r3 => ?_)
      refine V_aload_n hc dX8_type_37 rfl 0 rfl ?_
      refine V_getr (C := RX8) (T := TX8) (N := 8) hc sP0 rfl qX8_type_RX8 3 rfl (by decide) kX8_type_35 rfl dX8_type_38 ?_
      refine V_callV_RI (Cn := RX5) (T := TX5) (N := 2) hc (c_X5_length l K r3 (8) (by decide)) (sh_rtx (by decide)) rfl 0 gX8_type_X5_length rfl ⟨rfl, rfl⟩ (by decide) ⟨Nat.le_of_ble_eq_true rfl, Nat.le_of_ble_eq_true rfl⟩ rfl rfl (Nat.le_of_ble_eq_true rfl) dX8_type_41 (fun r4 => ?_)
      exact V_iret hc rfl rfl dX8_type_44
    · refine V_bipush (v := (-3)) hc dX8_type_25 (by decide) ?_
      exact V_iret hc rfl rfl dX8_type_27
  · refine V_iconst (v := (-1)) hc dX8_type_11 (by decide) ?_
    exact V_iret hc rfl rfl dX8_type_12
