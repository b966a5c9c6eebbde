
noncomputable def f_X9_in (t : Sx) (a0 : Int32) (a1 : Int32) (a2 : Int32) : Option Int32 := if a0 < a1 then some 0 else if a2 < a0 then some 0 else some 1
set_option maxRecDepth 20000 in
set_option maxHeartbeats 4000000 in
theorem c_X9_in (l : Launch) (K : Kx) (t : Sx) (a0 : Int32) (a1 : Int32) (a2 : Int32) : CT l K yX9_in wsX9_in ({ frames := 0, cells := 0, slots := 0, locals := 0 } : Room) [.int a0, .int a1, .int a2] t (f_X9_in t a0 a1 a2) (kRI t) := by
  refine CT_of (cc := cX9_in) (maxL := 3) (ret := (some .boolean)) (own := RX9) (by decide +kernel) rfl rfl (Nat.le_of_ble_eq_true rfl) ?_
  intro p e s m args below meth c hc
  refine V_sub (lv' := [(0, .int a0), (1, .int a1), (2, .int a2)]) [0, 1, 2] rfl ?_
  unfold f_X9_in
  refine V_iload_n hc dX9_in_0 rfl 0 rfl ?_
  refine V_iload_n hc dX9_in_1 rfl 1 rfl ?_
  refine V_icmp_lt (tgt := 14) hc dX9_in_2 (by decide) ?_ ?_
  · refine V_iconst (v := 0) hc dX9_in_14 (by decide) ?_
    exact V_nret hc rfl rfl rfl dX9_in_15
  · refine V_iload_n hc dX9_in_5 rfl 0 rfl ?_
    refine V_iload_n hc dX9_in_6 rfl 2 rfl ?_
    refine V_icmp_gt (tgt := 14) hc dX9_in_7 (by decide) ?_ ?_
    · refine V_iconst (v := 0) hc dX9_in_14 (by decide) ?_
      exact V_nret hc rfl rfl rfl dX9_in_15
    · refine V_iconst (v := 1) hc dX9_in_10 (by decide) ?_
      refine V_goto (tgt := 15) hc dX9_in_11 (by decide) ?_
      exact V_nret hc rfl rfl rfl dX9_in_15

theorem kX9_there_7 : Cond.fieldLink RX9 7 RX9 (TX9 0).2.1 (TX9 0).2.2.1 ∈ wsX9_there := by decide +kernel
theorem qX9_there_RX9 : ∀ w ∈ u_ws RX9 TX9 28, w ∈ wsX9_there := by
  first
  | exact fun _ h => List.mem_cons_of_mem _ (List.mem_append_right _ h)
  | exact fun _ h => List.mem_cons_of_mem _ (List.mem_append_left _ (List.mem_append_right _ h))
  | exact fun _ h => List.mem_cons_of_mem _ (List.mem_append_left _ (List.mem_append_left _ (List.mem_append_right _ h)))
  | exact fun _ h => List.mem_cons_of_mem _ (List.mem_append_left _ (List.mem_append_left _ (List.mem_append_left _ (List.mem_append_right _ h))))
  | exact fun _ h => List.mem_cons_of_mem _ (List.mem_append_left _ (List.mem_append_left _ (List.mem_append_left _ (List.mem_append_left _ (List.mem_append_right _ h)))))
  | decide +kernel
noncomputable def f_X9_there (t : Sx) (a1 : Int32) : Option Int32 := (f_X9_in t (a1) (0) (39)).bind fun r1 => if r1 = 0 then some 0 else gd (vp_in a1 40) (if (gA t 23 (ix a1)) = 0 then some 0 else some 1)
set_option maxRecDepth 20000 in
set_option maxHeartbeats 4000000 in
theorem c_X9_there (l : Launch) (K : Kx) (t : Sx) (a1 : Int32) : CT l K yX9_there wsX9_there ({ frames := 1, cells := 0, slots := 0, locals := 22 } : Room) [.ref (K.2.2 24), .int a1] t (f_X9_there t a1) (kRI t) := by
  refine CT_of (cc := cX9_there) (maxL := 2) (ret := (some .boolean)) (own := RX9) (by decide +kernel) rfl rfl (Nat.le_of_ble_eq_true rfl) ?_
  intro p e s m args below meth c hc
  refine V_sub (lv' := [(0, .ref (K.2.2 24)), (1, .int a1)]) [0, 1] rfl ?_
  unfold f_X9_there
  refine V_iload_n hc dX9_there_0 rfl 1 rfl ?_
  refine V_iconst (v := 0) hc dX9_there_1 (by decide) ?_
  refine V_bipush (v := 39) hc dX9_there_2 (by decide) ?_
  refine V_callS_RI hc (c_X9_in l K t (a1) (0) (39)) 3 gX9_there_X9_in rfl ⟨rfl, rfl⟩ (by decide) ⟨Nat.le_of_ble_eq_true rfl, Nat.le_of_ble_eq_true rfl⟩ rfl rfl (Nat.le_of_ble_eq_true rfl) dX9_there_4 (fun r1 => ?_)
  refine V_if_eq (tgt := 23) hc dX9_there_7 (by decide) ?_ ?_
  · refine V_iconst (v := 0) hc dX9_there_23 (by decide) ?_
    exact V_nret hc rfl rfl rfl dX9_there_24
  · refine V_aload_n hc dX9_there_10 rfl 0 rfl ?_
    refine V_getr (C := RX9) (T := TX9) (N := 28) hc sP24 rfl qX9_there_RX9 0 rfl (by decide) kX9_there_7 rfl dX9_there_11 ?_
    refine V_iload_n hc dX9_there_14 rfl 1 rfl ?_
    refine V_zald hc sP25 dX9_there_15 ?_
    refine V_if_eq (tgt := 23) hc dX9_there_16 (by decide) ?_ ?_
    · refine V_iconst (v := 0) hc dX9_there_23 (by decide) ?_
      exact V_nret hc rfl rfl rfl dX9_there_24
    · refine V_iconst (v := 1) hc dX9_there_19 (by decide) ?_
      refine V_goto (tgt := 24) hc dX9_there_20 (by decide) ?_
      exact V_nret hc rfl rfl rfl dX9_there_24

theorem kX9_source_20 : Cond.fieldLink RX9 20 RX9 (TX9 3).2.1 (TX9 3).2.2.1 ∈ wsX9_source := by decide +kernel
theorem qX9_source_RX9 : ∀ w ∈ u_ws RX9 TX9 28, w ∈ wsX9_source := by
  first
  | exact fun _ h => List.mem_cons_of_mem _ (List.mem_append_right _ h)
  | exact fun _ h => List.mem_cons_of_mem _ (List.mem_append_left _ (List.mem_append_right _ h))
  | exact fun _ h => List.mem_cons_of_mem _ (List.mem_append_left _ (List.mem_append_left _ (List.mem_append_right _ h)))
  | exact fun _ h => List.mem_cons_of_mem _ (List.mem_append_left _ (List.mem_append_left _ (List.mem_append_left _ (List.mem_append_right _ h))))
  | exact fun _ h => List.mem_cons_of_mem _ (List.mem_append_left _ (List.mem_append_left _ (List.mem_append_left _ (List.mem_append_left _ (List.mem_append_right _ h)))))
  | decide +kernel
theorem kX9_source_26 : Cond.fieldLink RX9 26 RX9 (TX9 5).2.1 (TX9 5).2.2.1 ∈ wsX9_source := by decide +kernel
noncomputable def L_X9_source_2 (t0 : Sx) (b1 : Int32) (b2 : Int32) (kont : Int32 → Option Int32) : Nat → Int32 → Option Int32
  | 0, _ => none
  | n + 1, x3 => if 3 ≤ x3 then kont (x3) else gd (vp_in x3 3) (gd (vp_in (((18 * b1) + (6 * (gA t0 28 (ix x3)))) + b2) 720) (bd ((gA t0 26 (ix (((18 * b1) + (6 * (gA t0 28 (ix x3)))) + b2)))) fun v1 => if v1 = 0 then L_X9_source_2 t0 b1 b2 kont n ((x3 + 1)) else gd (vp_in x3 3) (some (gA t0 28 (ix x3)))))
set_option maxRecDepth 20000 in
set_option maxHeartbeats 4000000 in
theorem L_X9_source_2_ok {p : Program} {l : Launch} {K : Kx} {e : Env} {s : State} {m : MethodId} {args : Array Value} {below : List Frame} {meth : Method} {c : Code} (hc : Cx p ({ frames := 0, cells := 0, slots := 0, locals := 0 } : Room) s m args meth c cX9_source 4 wsX9_source RX9 K (aA K s.heap.size) (some .int) 0 0) (t0 : Sx) (b1 : Int32) (b2 : Int32) (kont : Int32 → Option Int32) (hk : ∀ x3, V p l e ({ frames := 0, cells := 0, slots := 0, locals := 0 } : Room) s m args below meth c K (aA K s.heap.size) 0 0 4 (QM below K args s (kRI t0)) 44 [(0, .ref (K.2.2 24)), (1, .int b1), (2, .int b2), (3, .int x3)] [] t0 (kont x3)) : ∀ (n : Nat) (x3 : Int32), V p l e ({ frames := 0, cells := 0, slots := 0, locals := 0 } : Room) s m args below meth c K (aA K s.heap.size) 0 0 4 (QM below K args s (kRI t0)) 2 [(0, .ref (K.2.2 24)), (1, .int b1), (2, .int b2), (3, .int x3)] [] t0 (L_X9_source_2 t0 b1 b2 kont n x3) := by
  intro n
  induction n with
  | zero => intro x3; exact V_none
  | succ n ih =>
    intro x3
    rw [L_X9_source_2]
    refine V_iload_n hc dX9_source_2 rfl 3 rfl ?_
    refine V_iconst (v := 3) hc dX9_source_3 (by decide) ?_
    refine V_icmp_ge (tgt := 44) hc dX9_source_4 (by decide) ?_ ?_
    · exact V_sub [0, 1, 2, 3] rfl (hk _)
    · refine V_aload_n hc dX9_source_7 rfl 0 rfl ?_
      refine V_getr (C := RX9) (T := TX9) (N := 28) hc sP24 rfl qX9_source_RX9 3 rfl (by decide) kX9_source_20 rfl dX9_source_8 ?_
      refine V_bipush (v := 18) hc dX9_source_11 (by decide) ?_
      refine V_iload_n hc dX9_source_13 rfl 1 rfl ?_
      refine V_imul hc dX9_source_14 ?_
      refine V_bipush (v := 6) hc dX9_source_15 (by decide) ?_
      refine V_aload_n hc dX9_source_17 rfl 0 rfl ?_
      refine V_getr (C := RX9) (T := TX9) (N := 28) hc sP24 rfl qX9_source_RX9 5 rfl (by decide) kX9_source_26 rfl dX9_source_18 ?_
      refine V_iload_n hc dX9_source_21 rfl 3 rfl ?_
      refine V_iald hc sP30 dX9_source_22 ?_
      refine V_imul hc dX9_source_23 ?_
      refine V_iadd hc dX9_source_24 ?_
      refine V_iload_n hc dX9_source_25 rfl 2 rfl ?_
      refine V_iadd hc dX9_source_26 ?_
      refine V_zald hc sP28 dX9_source_27 ?_
      refine V_bdi (fun v1 => ?_)
      refine V_if_eq (tgt := 38) hc dX9_source_28 (by decide) ?_ ?_
      · refine V_iinc (v := (x3 + 1)) (lv' := [(3, .int (x3 + 1)), (0, .ref (K.2.2 24)), (1, .int b1), (2, .int b2)]) hc dX9_source_38 3 rfl rfl (by decide) rfl ?_
        refine V_goto (tgt := 2) hc dX9_source_41 (by decide) ?_
        exact V_sub [1, 2, 3, 0] rfl (ih _)
      · refine V_aload_n hc dX9_source_31 rfl 0 rfl ?_
        refine V_getr (C := RX9) (T := TX9) (N := 28) hc sP24 rfl qX9_source_RX9 5 rfl (by decide) kX9_source_26 rfl dX9_source_32 ?_
        refine V_iload_n hc dX9_source_35 rfl 3 rfl ?_
        refine V_iald hc sP30 dX9_source_36 ?_
        exact V_iret hc rfl rfl dX9_source_37
noncomputable def f_X9_source (t : Sx) (a1 : Int32) (a2 : Int32) : Option Int32 := L_X9_source_2 t (a1) (a2) (fun z2 => some (-4)) FU (0)
set_option maxRecDepth 20000 in
set_option maxHeartbeats 4000000 in
theorem c_X9_source (l : Launch) (K : Kx) (t : Sx) (a1 : Int32) (a2 : Int32) : CT l K yX9_source wsX9_source ({ frames := 0, cells := 0, slots := 0, locals := 0 } : Room) [.ref (K.2.2 24), .int a1, .int a2] t (f_X9_source t a1 a2) (kRI t) := by
  refine CT_of (cc := cX9_source) (maxL := 4) (ret := (some .int)) (own := RX9) (by decide +kernel) rfl rfl (Nat.le_of_ble_eq_true rfl) ?_
  intro p e s m args below meth c hc
  refine V_sub (lv' := [(0, .ref (K.2.2 24)), (1, .int a1), (2, .int a2)]) [0, 1, 2] rfl ?_
  unfold f_X9_source
  refine V_iconst (v := 0) hc dX9_source_0 (by decide) ?_
  refine V_istore_n (lv' := [(3, .int 0), (0, .ref (K.2.2 24)), (1, .int a1), (2, .int a2)]) hc dX9_source_1 rfl (by decide) rfl ?_
  refine V_sub (lv' := [(0, .ref (K.2.2 24)), (1, .int a1), (2, .int a2), (3, .int 0)]) [1, 2, 3, 0] rfl ?_
  refine L_X9_source_2_ok hc t (a1) (a2) _ (fun z2 => ?_) FU _
  refine V_bipush (v := (-4)) hc dX9_source_44 (by decide) ?_
  exact V_iret hc rfl rfl dX9_source_46

theorem kX9_valueOr_23 : Cond.fieldLink RX9 23 RX9 (TX9 4).2.1 (TX9 4).2.2.1 ∈ wsX9_valueOr := by decide +kernel
theorem qX9_valueOr_RX9 : ∀ w ∈ u_ws RX9 TX9 28, w ∈ wsX9_valueOr := by
  first
  | exact fun _ h => List.mem_cons_of_mem _ (List.mem_append_right _ h)
  | exact fun _ h => List.mem_cons_of_mem _ (List.mem_append_left _ (List.mem_append_right _ h))
  | exact fun _ h => List.mem_cons_of_mem _ (List.mem_append_left _ (List.mem_append_left _ (List.mem_append_right _ h)))
  | exact fun _ h => List.mem_cons_of_mem _ (List.mem_append_left _ (List.mem_append_left _ (List.mem_append_left _ (List.mem_append_right _ h))))
  | exact fun _ h => List.mem_cons_of_mem _ (List.mem_append_left _ (List.mem_append_left _ (List.mem_append_left _ (List.mem_append_left _ (List.mem_append_right _ h)))))
  | decide +kernel
noncomputable def f_X9_valueOr (t : Sx) (a1 : Int32) (a2 : Int32) (a3 : Int32) : Option Int32 := (f_X9_source t (a1) (a2)).bind fun r1 => if 0 ≤ r1 then gd (vp_in (((18 * a1) + (6 * r1)) + a2) 720) (some (gA t 27 (ix (((18 * a1) + (6 * r1)) + a2)))) else some a3
set_option maxRecDepth 20000 in
set_option maxHeartbeats 4000000 in
theorem c_X9_valueOr (l : Launch) (K : Kx) (t : Sx) (a1 : Int32) (a2 : Int32) (a3 : Int32) : CT l K yX9_valueOr wsX9_valueOr ({ frames := 1, cells := 0, slots := 0, locals := 23 } : Room) [.ref (K.2.2 24), .int a1, .int a2, .int a3] t (f_X9_valueOr t a1 a2 a3) (kRI t) := by
  refine CT_of (cc := cX9_valueOr) (maxL := 5) (ret := (some .int)) (own := RX9) (by decide +kernel) rfl rfl (Nat.le_of_ble_eq_true rfl) ?_
  intro p e s m args below meth c hc
  refine V_sub (lv' := [(0, .ref (K.2.2 24)), (1, .int a1), (2, .int a2), (3, .int a3)]) [0, 1, 2, 3] rfl ?_
  unfold f_X9_valueOr
  refine V_aload_n hc dX9_valueOr_0 rfl 0 rfl ?_
  refine V_iload_n hc dX9_valueOr_1 rfl 1 rfl ?_
  refine V_iload_n hc dX9_valueOr_2 rfl 2 rfl ?_
  refine V_callV_RI (Cn := RX9) (T := TX9) (N := 28) hc (c_X9_source l K t (a1) (a2)) sP24 rfl 2 gX9_valueOr_X9_source rfl ⟨rfl, rfl⟩ (by decide) ⟨Nat.le_of_ble_eq_true rfl, Nat.le_of_ble_eq_true rfl⟩ rfl rfl (Nat.le_of_ble_eq_true rfl) dX9_valueOr_3 (fun r1 => ?_)
  refine V_istore (lv' := [(4, .int r1), (0, .ref (K.2.2 24)), (1, .int a1), (2, .int a2), (3, .int a3)]) hc dX9_valueOr_6 (by decide) rfl ?_
  refine V_iload hc dX9_valueOr_8 0 rfl ?_
  refine V_if_ge (tgt := 17) hc dX9_valueOr_10 (by decide) ?_ ?_
  · refine V_aload_n hc dX9_valueOr_17 rfl 1 rfl ?_
    refine V_getr (C := RX9) (T := TX9) (N := 28) hc sP24 rfl qX9_valueOr_RX9 4 rfl (by decide) kX9_valueOr_23 rfl dX9_valueOr_18 ?_
    refine V_bipush (v := 18) hc dX9_valueOr_21 (by decide) ?_
    refine V_iload_n hc dX9_valueOr_23 rfl 2 rfl ?_
    refine V_imul hc dX9_valueOr_24 ?_
    refine V_bipush (v := 6) hc dX9_valueOr_25 (by decide) ?_
    refine V_iload hc dX9_valueOr_27 0 rfl ?_
    refine V_imul hc dX9_valueOr_29 ?_
    refine V_iadd hc dX9_valueOr_30 ?_
    refine V_iload_n hc dX9_valueOr_31 rfl 3 rfl ?_
    refine V_iadd hc dX9_valueOr_32 ?_
    refine V_iald hc sP29 dX9_valueOr_33 ?_
    exact V_iret hc rfl rfl dX9_valueOr_34
  · refine V_iload_n hc dX9_valueOr_13 rfl 4 rfl ?_
    refine V_goto (tgt := 34) hc dX9_valueOr_14 (by decide) ?_
    exact V_iret hc rfl rfl dX9_valueOr_34

theorem kX9_tags_20 : Cond.fieldLink RX9 20 RX9 (TX9 3).2.1 (TX9 3).2.2.1 ∈ wsX9_tags := by decide +kernel
theorem qX9_tags_RX9 : ∀ w ∈ u_ws RX9 TX9 28, w ∈ wsX9_tags := by
  first
  | exact fun _ h => List.mem_cons_of_mem _ (List.mem_append_right _ h)
  | exact fun _ h => List.mem_cons_of_mem _ (List.mem_append_left _ (List.mem_append_right _ h))
  | exact fun _ h => List.mem_cons_of_mem _ (List.mem_append_left _ (List.mem_append_left _ (List.mem_append_right _ h)))
  | exact fun _ h => List.mem_cons_of_mem _ (List.mem_append_left _ (List.mem_append_left _ (List.mem_append_left _ (List.mem_append_right _ h))))
  | exact fun _ h => List.mem_cons_of_mem _ (List.mem_append_left _ (List.mem_append_left _ (List.mem_append_left _ (List.mem_append_left _ (List.mem_append_right _ h)))))
  | decide +kernel
theorem kX9_tags_23 : Cond.fieldLink RX9 23 RX9 (TX9 4).2.1 (TX9 4).2.2.1 ∈ wsX9_tags := by decide +kernel
noncomputable def L_X9_tags_4 (t0 : Sx) (b1 : Int32) (kont : Int32 → Int32 → Option Int32) : Nat → Int32 → Int32 → Option Int32
  | 0, _, _ => none
  | n + 1, x2 , x3 => if 3 ≤ x3 then kont (x2) (x3) else gd (vp_in (((18 * b1) + (6 * x3)) + 5) 720) (if (gA t0 26 (ix (((18 * b1) + (6 * x3)) + 5))) = 0 then L_X9_tags_4 t0 b1 kont n ((x2 ||| 0)) ((x3 + 1)) else gd (vp_in (((18 * b1) + (6 * x3)) + 5) 720) (bd ((x2 ||| (gA t0 27 (ix (((18 * b1) + (6 * x3)) + 5))))) fun v1 => L_X9_tags_4 t0 b1 kont n (v1) ((x3 + 1))))
set_option maxRecDepth 20000 in
set_option maxHeartbeats 4000000 in
theorem L_X9_tags_4_ok {p : Program} {l : Launch} {K : Kx} {e : Env} {s : State} {m : MethodId} {args : Array Value} {below : List Frame} {meth : Method} {c : Code} (hc : Cx p ({ frames := 0, cells := 0, slots := 0, locals := 0 } : Room) s m args meth c cX9_tags 4 wsX9_tags RX9 K (aA K s.heap.size) (some .int) 0 0) (t0 : Sx) (b1 : Int32) (kont : Int32 → Int32 → Option Int32) (hk : ∀ x2 x3, V p l e ({ frames := 0, cells := 0, slots := 0, locals := 0 } : Room) s m args below meth c K (aA K s.heap.size) 0 0 4 (QM below K args s (kRI t0)) 57 [(0, .ref (K.2.2 24)), (1, .int b1), (2, .int x2), (3, .int x3)] [] t0 (kont x2 x3)) : ∀ (n : Nat) (x2 : Int32) (x3 : Int32), V p l e ({ frames := 0, cells := 0, slots := 0, locals := 0 } : Room) s m args below meth c K (aA K s.heap.size) 0 0 4 (QM below K args s (kRI t0)) 4 [(0, .ref (K.2.2 24)), (1, .int b1), (2, .int x2), (3, .int x3)] [] t0 (L_X9_tags_4 t0 b1 kont n x2 x3) := by
  intro n
  induction n with
  | zero => intro x2 x3; exact V_none
  | succ n ih =>
    intro x2 x3
    rw [L_X9_tags_4]
    refine V_iload_n hc dX9_tags_4 rfl 3 rfl ?_
    refine V_iconst (v := 3) hc dX9_tags_5 (by decide) ?_
    refine V_icmp_ge (tgt := 57) hc dX9_tags_6 (by decide) ?_ ?_
    · exact V_sub [0, 1, 2, 3] rfl (hk _ _)
    · refine V_iload_n hc dX9_tags_9 rfl 2 rfl ?_
      refine V_aload_n hc dX9_tags_10 rfl 0 rfl ?_
      refine V_getr (C := RX9) (T := TX9) (N := 28) hc sP24 rfl qX9_tags_RX9 3 rfl (by decide) kX9_tags_20 rfl dX9_tags_11 ?_
      refine V_bipush (v := 18) hc dX9_tags_14 (by decide) ?_
      refine V_iload_n hc dX9_tags_16 rfl 1 rfl ?_
      refine V_imul hc dX9_tags_17 ?_
      refine V_bipush (v := 6) hc dX9_tags_18 (by decide) ?_
      refine V_iload_n hc dX9_tags_20 rfl 3 rfl ?_
      refine V_imul hc dX9_tags_21 ?_
      refine V_iadd hc dX9_tags_22 ?_
      refine V_iconst (v := 5) hc dX9_tags_23 (by decide) ?_
      refine V_iadd hc dX9_tags_24 ?_
      refine V_zald hc sP28 dX9_tags_25 ?_
      refine V_if_eq (tgt := 48) hc dX9_tags_26 (by decide) ?_ ?_
      · refine V_iconst (v := 0) hc dX9_tags_48 (by decide) ?_
        refine V_ior hc dX9_tags_49 ?_
        refine V_istore_n (lv' := [(2, .int (x2 ||| 0)), (0, .ref (K.2.2 24)), (1, .int b1), (3, .int x3)]) hc dX9_tags_50 rfl (by decide) rfl ?_
        refine V_iinc (v := (x3 + 1)) (lv' := [(3, .int (x3 + 1)), (2, .int (x2 ||| 0)), (0, .ref (K.2.2 24)), (1, .int b1)]) hc dX9_tags_51 3 rfl rfl (by decide) rfl ?_
        refine V_goto (tgt := 4) hc dX9_tags_54 (by decide) ?_
        exact V_sub [2, 3, 1, 0] rfl (ih _ _)
      · refine V_aload_n hc dX9_tags_29 rfl 0 rfl ?_
        refine V_getr (C := RX9) (T := TX9) (N := 28) hc sP24 rfl qX9_tags_RX9 4 rfl (by decide) kX9_tags_23 rfl dX9_tags_30 ?_
        refine V_bipush (v := 18) hc dX9_tags_33 (by decide) ?_
        refine V_iload_n hc dX9_tags_35 rfl 1 rfl ?_
        refine V_imul hc dX9_tags_36 ?_
        refine V_bipush (v := 6) hc dX9_tags_37 (by decide) ?_
        refine V_iload_n hc dX9_tags_39 rfl 3 rfl ?_
        refine V_imul hc dX9_tags_40 ?_
        refine V_iadd hc dX9_tags_41 ?_
        refine V_iconst (v := 5) hc dX9_tags_42 (by decide) ?_
        refine V_iadd hc dX9_tags_43 ?_
        refine V_iald hc sP29 dX9_tags_44 ?_
        refine V_goto (tgt := 49) hc dX9_tags_45 (by decide) ?_
        refine V_ior hc dX9_tags_49 ?_
        refine V_bdi (fun v1 => ?_)
        refine V_istore_n (lv' := [(2, .int v1), (0, .ref (K.2.2 24)), (1, .int b1), (3, .int x3)]) hc dX9_tags_50 rfl (by decide) rfl ?_
        refine V_iinc (v := (x3 + 1)) (lv' := [(3, .int (x3 + 1)), (2, .int v1), (0, .ref (K.2.2 24)), (1, .int b1)]) hc dX9_tags_51 3 rfl rfl (by decide) rfl ?_
        refine V_goto (tgt := 4) hc dX9_tags_54 (by decide) ?_
        exact V_sub [2, 3, 1, 0] rfl (ih _ _)
noncomputable def f_X9_tags (t : Sx) (a1 : Int32) : Option Int32 := L_X9_tags_4 t (a1) (fun z2 z3 => some z2) FU (0) (0)
set_option maxRecDepth 20000 in
set_option maxHeartbeats 4000000 in
theorem c_X9_tags (l : Launch) (K : Kx) (t : Sx) (a1 : Int32) : CT l K yX9_tags wsX9_tags ({ frames := 0, cells := 0, slots := 0, locals := 0 } : Room) [.ref (K.2.2 24), .int a1] t (f_X9_tags t a1) (kRI t) := by
  refine CT_of (cc := cX9_tags) (maxL := 4) (ret := (some .int)) (own := RX9) (by decide +kernel) rfl rfl (Nat.le_of_ble_eq_true rfl) ?_
  intro p e s m args below meth c hc
  refine V_sub (lv' := [(0, .ref (K.2.2 24)), (1, .int a1)]) [0, 1] rfl ?_
  unfold f_X9_tags
  refine V_iconst (v := 0) hc dX9_tags_0 (by decide) ?_
  refine V_istore_n (lv' := [(2, .int 0), (0, .ref (K.2.2 24)), (1, .int a1)]) hc dX9_tags_1 rfl (by decide) rfl ?_
  refine V_iconst (v := 0) hc dX9_tags_2 (by decide) ?_
  refine V_istore_n (lv' := [(3, .int 0), (2, .int 0), (0, .ref (K.2.2 24)), (1, .int a1)]) hc dX9_tags_3 rfl (by decide) rfl ?_
  refine V_sub (lv' := [(0, .ref (K.2.2 24)), (1, .int a1), (2, .int 0), (3, .int 0)]) [2, 3, 1, 0] rfl ?_
  refine L_X9_tags_4_ok hc t (a1) _ (fun z2 z3 => ?_) FU _ _
  refine V_iload_n hc dX9_tags_57 rfl 2 rfl ?_
  exact V_iret hc rfl rfl dX9_tags_58


noncomputable def f_X9_fits (t : Sx) (a0 : Int32) (a1 : Int32) : Option Int32 := if a0 = 0 then (f_X9_in t (a1) (0) (2)).bind fun r2 => gd (gz r2) (some r2) else if a0 = 1 then (f_X9_in t (a1) (0) (5)).bind fun r4 => gd (gz r4) (some r4) else if a0 = 2 then (f_X9_in t (a1) (1900) (2100)).bind fun r6 => gd (gz r6) (some r6) else if a0 = 3 then (f_X9_in t (a1) (0) (20)).bind fun r8 => gd (gz r8) (some r8) else if a0 = 4 then (f_X9_in t (a1) (0) (9999)).bind fun r10 => gd (gz r10) (some r10) else (f_X9_in t (a1) (0) (1023)).bind fun r11 => gd (gz r11) (some r11)
set_option maxRecDepth 20000 in
set_option maxHeartbeats 4000000 in
theorem c_X9_fits (l : Launch) (K : Kx) (t : Sx) (a0 : Int32) (a1 : Int32) : CT l K yX9_fits wsX9_fits ({ frames := 1, cells := 0, slots := 0, locals := 22 } : Room) [.int a0, .int a1] t (f_X9_fits t a0 a1) (kRI t) := by
  refine CT_of (cc := cX9_fits) (maxL := 2) (ret := (some .boolean)) (own := RX9) (by decide +kernel) rfl rfl (Nat.le_of_ble_eq_true rfl) ?_
  intro p e s m args below meth c hc
  refine V_sub (lv' := [(0, .int a0), (1, .int a1)]) [0, 1] rfl ?_
  unfold f_X9_fits
  refine V_iload_n hc dX9_fits_0 rfl 0 rfl ?_
  refine V_ite (fun h1 => ?_) (fun h1 => ?_)
  · refine V_tsIn (tgt := 36) hc dX9_fits_1 (by rw [h1] <;> decide) (by rw [h1] <;> decide) (by rw [h1] <;> rfl) (by decide) ?_
    refine V_iload_n hc dX9_fits_36 rfl 1 rfl ?_
    refine V_iconst (v := 0) hc dX9_fits_37 (by decide) ?_
    refine V_iconst (v := 2) hc dX9_fits_38 (by decide) ?_
    refine V_callS_RI hc (c_X9_in l K t (a1) (0) (2)) 3 gX9_fits_X9_in rfl ⟨rfl, rfl⟩ (by decide) ⟨Nat.le_of_ble_eq_true rfl, Nat.le_of_ble_eq_true rfl⟩ rfl rfl (Nat.le_of_ble_eq_true rfl) dX9_fits_39 (fun r2 => ?_)
    exact V_zret hc rfl rfl dX9_fits_42
  · refine V_ite (fun h3 => ?_) (fun h3 => ?_)
    · refine V_tsIn (tgt := 43) hc dX9_fits_1 (by rw [h3] <;> decide) (by rw [h3] <;> decide) (by rw [h3] <;> rfl) (by decide) ?_
      refine V_iload_n hc dX9_fits_43 rfl 1 rfl ?_
      refine V_iconst (v := 0) hc dX9_fits_44 (by decide) ?_
      refine V_iconst (v := 5) hc dX9_fits_45 (by decide) ?_
      refine V_callS_RI hc (c_X9_in l K t (a1) (0) (5)) 3 gX9_fits_X9_in rfl ⟨rfl, rfl⟩ (by decide) ⟨Nat.le_of_ble_eq_true rfl, Nat.le_of_ble_eq_true rfl⟩ rfl rfl (Nat.le_of_ble_eq_true rfl) dX9_fits_46 (fun r4 => ?_)
      exact V_zret hc rfl rfl dX9_fits_49
    · refine V_ite (fun h5 => ?_) (fun h5 => ?_)
      · refine V_tsIn (tgt := 50) hc dX9_fits_1 (by rw [h5] <;> decide) (by rw [h5] <;> decide) (by rw [h5] <;> rfl) (by decide) ?_
        refine V_iload_n hc dX9_fits_50 rfl 1 rfl ?_
        refine V_sipush (v := 1900) hc dX9_fits_51 (by decide) ?_
        refine V_sipush (v := 2100) hc dX9_fits_54 (by decide) ?_
        refine V_callS_RI hc (c_X9_in l K t (a1) (1900) (2100)) 3 gX9_fits_X9_in rfl ⟨rfl, rfl⟩ (by decide) ⟨Nat.le_of_ble_eq_true rfl, Nat.le_of_ble_eq_true rfl⟩ rfl rfl (Nat.le_of_ble_eq_true rfl) dX9_fits_57 (fun r6 => ?_)
        exact V_zret hc rfl rfl dX9_fits_60
      · refine V_ite (fun h7 => ?_) (fun h7 => ?_)
        · refine V_tsIn (tgt := 61) hc dX9_fits_1 (by rw [h7] <;> decide) (by rw [h7] <;> decide) (by rw [h7] <;> rfl) (by decide) ?_
          refine V_iload_n hc dX9_fits_61 rfl 1 rfl ?_
          refine V_iconst (v := 0) hc dX9_fits_62 (by decide) ?_
          refine V_bipush (v := 20) hc dX9_fits_63 (by decide) ?_
          refine V_callS_RI hc (c_X9_in l K t (a1) (0) (20)) 3 gX9_fits_X9_in rfl ⟨rfl, rfl⟩ (by decide) ⟨Nat.le_of_ble_eq_true rfl, Nat.le_of_ble_eq_true rfl⟩ rfl rfl (Nat.le_of_ble_eq_true rfl) dX9_fits_65 (fun r8 => ?_)
          exact V_zret hc rfl rfl dX9_fits_68
        · refine V_ite (fun h9 => ?_) (fun h9 => ?_)
          · refine V_tsIn (tgt := 69) hc dX9_fits_1 (by rw [h9] <;> decide) (by rw [h9] <;> decide) (by rw [h9] <;> rfl) (by decide) ?_
            refine V_iload_n hc dX9_fits_69 rfl 1 rfl ?_
            refine V_iconst (v := 0) hc dX9_fits_70 (by decide) ?_
            refine V_sipush (v := 9999) hc dX9_fits_71 (by decide) ?_
            refine V_callS_RI hc (c_X9_in l K t (a1) (0) (9999)) 3 gX9_fits_X9_in rfl ⟨rfl, rfl⟩ (by decide) ⟨Nat.le_of_ble_eq_true rfl, Nat.le_of_ble_eq_true rfl⟩ rfl rfl (Nat.le_of_ble_eq_true rfl) dX9_fits_74 (fun r10 => ?_)
            exact V_zret hc rfl rfl dX9_fits_77
          · refine V_tsOut (tgt := 78) hc dX9_fits_1 (ts_out (lo := 0) (n := 5) (fun i hi => match i, hi with | 0, _ => h1 | 1, _ => h3 | 2, _ => h5 | 3, _ => h7 | 4, _ => h9 | _ + 5, hi => absurd hi (by omega))) (by decide) ?_
            refine V_iload_n hc dX9_fits_78 rfl 1 rfl ?_
            refine V_iconst (v := 0) hc dX9_fits_79 (by decide) ?_
            refine V_sipush (v := 1023) hc dX9_fits_80 (by decide) ?_
            refine V_callS_RI hc (c_X9_in l K t (a1) (0) (1023)) 3 gX9_fits_X9_in rfl ⟨rfl, rfl⟩ (by decide) ⟨Nat.le_of_ble_eq_true rfl, Nat.le_of_ble_eq_true rfl⟩ rfl rfl (Nat.le_of_ble_eq_true rfl) dX9_fits_83 (fun r11 => ?_)
            exact V_zret hc rfl rfl dX9_fits_86


noncomputable def f_X9_isPreferred (t : Sx) (a1 : Int32) (a2 : Int32) : Option Int32 := (f_X9_valueOr t (a1) (1) (-1)).bind fun r1 => (f_X9_valueOr t (a2) (1) (-1)).bind fun r2 => (f_X9_valueOr t (a1) (2) (9999)).bind fun r3 => (f_X9_valueOr t (a2) (2) (9999)).bind fun r4 => if (r1 - r2) = 0 then if (r3 - r4) = 0 then if a2 ≤ a1 then some 0 else some 1 else if 0 ≤ (r3 - r4) then some 0 else some 1 else if (r1 - r2) ≤ 0 then some 0 else some 1
set_option maxRecDepth 20000 in
set_option maxHeartbeats 4000000 in
theorem c_X9_isPreferred (l : Launch) (K : Kx) (t : Sx) (a1 : Int32) (a2 : Int32) : CT l K yX9_isPreferred wsX9_isPreferred ({ frames := 2, cells := 0, slots := 0, locals := 47 } : Room) [.ref (K.2.2 24), .int a1, .int a2] t (f_X9_isPreferred t a1 a2) (kRI t) := by
  refine CT_of (cc := cX9_isPreferred) (maxL := 5) (ret := (some .boolean)) (own := RX9) (by decide +kernel) rfl rfl (Nat.le_of_ble_eq_true rfl) ?_
  intro p e s m args below meth c hc
  refine V_sub (lv' := [(0, .ref (K.2.2 24)), (1, .int a1), (2, .int a2)]) [0, 1, 2] rfl ?_
  unfold f_X9_isPreferred
  refine V_aload_n hc dX9_isPreferred_0 rfl 0 rfl ?_
  refine V_iload_n hc dX9_isPreferred_1 rfl 1 rfl ?_
  refine V_iconst (v := 1) hc dX9_isPreferred_2 (by decide) ?_
  refine V_iconst (v := (-1)) hc dX9_isPreferred_3 (by decide) ?_
  refine V_callV_RI (Cn := RX9) (T := TX9) (N := 28) hc (c_X9_valueOr l K t (a1) (1) (-1)) sP24 rfl 3 gX9_isPreferred_X9_valueOr rfl ⟨rfl, rfl⟩ (by decide) ⟨Nat.le_of_ble_eq_true rfl, Nat.le_of_ble_eq_true rfl⟩ rfl rfl (Nat.le_of_ble_eq_true rfl) dX9_isPreferred_4 (fun r1 => ?_)
  refine V_aload_n hc dX9_isPreferred_7 rfl 0 rfl ?_
  refine V_iload_n hc dX9_isPreferred_8 rfl 2 rfl ?_
  refine V_iconst (v := 1) hc dX9_isPreferred_9 (by decide) ?_
  refine V_iconst (v := (-1)) hc dX9_isPreferred_10 (by decide) ?_
  refine V_callV_RI (Cn := RX9) (T := TX9) (N := 28) hc (c_X9_valueOr l K t (a2) (1) (-1)) sP24 rfl 3 gX9_isPreferred_X9_valueOr rfl ⟨rfl, rfl⟩ (by decide) ⟨Nat.le_of_ble_eq_true rfl, Nat.le_of_ble_eq_true rfl⟩ rfl rfl (Nat.le_of_ble_eq_true rfl) dX9_isPreferred_11 (fun r2 => ?_)
  refine V_isub hc dX9_isPreferred_14 ?_
  refine V_istore_n (lv' := [(3, .int (r1 - r2)), (0, .ref (K.2.2 24)), (1, .int a1), (2, .int a2)]) hc dX9_isPreferred_15 rfl (by decide) rfl ?_
  refine V_aload_n hc dX9_isPreferred_16 rfl 1 rfl ?_
  refine V_iload_n hc dX9_isPreferred_17 rfl 2 rfl ?_
  refine V_iconst (v := 2) hc dX9_isPreferred_18 (by decide) ?_
  refine V_sipush (v := 9999) hc dX9_isPreferred_19 (by decide) ?_
  refine V_callV_RI (Cn := RX9) (T := TX9) (N := 28) hc (c_X9_valueOr l K t (a1) (2) (9999)) sP24 rfl 3 gX9_isPreferred_X9_valueOr rfl ⟨rfl, rfl⟩ (by decide) ⟨Nat.le_of_ble_eq_true rfl, Nat.le_of_ble_eq_true rfl⟩ rfl rfl (Nat.le_of_ble_eq_true rfl) dX9_isPreferred_22 (fun r3 => ?_)
  refine V_aload_n hc dX9_isPreferred_25 rfl 1 rfl ?_
  refine V_iload_n hc dX9_isPreferred_26 rfl 3 rfl ?_
  refine V_iconst (v := 2) hc dX9_isPreferred_27 (by decide) ?_
  refine V_sipush (v := 9999) hc dX9_isPreferred_28 (by decide) ?_
  refine V_callV_RI (Cn := RX9) (T := TX9) (N := 28) hc (c_X9_valueOr l K t (a2) (2) (9999)) sP24 rfl 3 gX9_isPreferred_X9_valueOr rfl ⟨rfl, rfl⟩ (by decide) ⟨Nat.le_of_ble_eq_true rfl, Nat.le_of_ble_eq_true rfl⟩ rfl rfl (Nat.le_of_ble_eq_true rfl) dX9_isPreferred_31 (fun r4 => ?_)
  refine V_isub hc dX9_isPreferred_34 ?_
  refine V_istore (lv' := [(4, .int (r3 - r4)), (3, .int (r1 - r2)), (0, .ref (K.2.2 24)), (1, .int a1), (2, .int a2)]) hc dX9_isPreferred_35 (by decide) rfl ?_
  refine V_iload_n hc dX9_isPreferred_37 rfl 1 rfl ?_
  refine V_if_eq (tgt := 53) hc dX9_isPreferred_38 (by decide) ?_ ?_
  · refine V_iload hc dX9_isPreferred_53 0 rfl ?_
    refine V_if_eq (tgt := 71) hc dX9_isPreferred_55 (by decide) ?_ ?_
    · refine V_iload_n hc dX9_isPreferred_71 rfl 3 rfl ?_
      refine V_iload_n hc dX9_isPreferred_72 rfl 4 rfl ?_
      refine V_icmp_ge (tgt := 80) hc dX9_isPreferred_73 (by decide) ?_ ?_
      · refine V_iconst (v := 0) hc dX9_isPreferred_80 (by decide) ?_
        exact V_nret hc rfl rfl rfl dX9_isPreferred_81
      · refine V_iconst (v := 1) hc dX9_isPreferred_76 (by decide) ?_
        refine V_goto (tgt := 81) hc dX9_isPreferred_77 (by decide) ?_
        exact V_nret hc rfl rfl rfl dX9_isPreferred_81
    · refine V_iload hc dX9_isPreferred_58 0 rfl ?_
      refine V_if_ge (tgt := 67) hc dX9_isPreferred_60 (by decide) ?_ ?_
      · refine V_iconst (v := 0) hc dX9_isPreferred_67 (by decide) ?_
        refine V_goto (tgt := 81) hc dX9_isPreferred_68 (by decide) ?_
        exact V_nret hc rfl rfl rfl dX9_isPreferred_81
      · refine V_iconst (v := 1) hc dX9_isPreferred_63 (by decide) ?_
        refine V_goto (tgt := 81) hc dX9_isPreferred_64 (by decide) ?_
        exact V_nret hc rfl rfl rfl dX9_isPreferred_81
  · refine V_iload_n hc dX9_isPreferred_41 rfl 1 rfl ?_
    refine V_if_le (tgt := 49) hc dX9_isPreferred_42 (by decide) ?_ ?_
    · refine V_iconst (v := 0) hc dX9_isPreferred_49 (by decide) ?_
      refine V_goto (tgt := 81) hc dX9_isPreferred_50 (by decide) ?_
      exact V_nret hc rfl rfl rfl dX9_isPreferred_81
    · refine V_iconst (v := 1) hc dX9_isPreferred_45 (by decide) ?_
      refine V_goto (tgt := 81) hc dX9_isPreferred_46 (by decide) ?_
      exact V_nret hc rfl rfl rfl dX9_isPreferred_81

theorem kX9_keeper_7 : Cond.fieldLink RX9 7 RX9 (TX9 0).2.1 (TX9 0).2.2.1 ∈ wsX9_keeper := by decide +kernel
theorem qX9_keeper_RX9 : ∀ w ∈ u_ws RX9 TX9 28, w ∈ wsX9_keeper := by
  first
  | exact fun _ h => List.mem_cons_of_mem _ (List.mem_append_right _ h)
  | exact fun _ h => List.mem_cons_of_mem _ (List.mem_append_left _ (List.mem_append_right _ h))
  | exact fun _ h => List.mem_cons_of_mem _ (List.mem_append_left _ (List.mem_append_left _ (List.mem_append_right _ h)))
  | exact fun _ h => List.mem_cons_of_mem _ (List.mem_append_left _ (List.mem_append_left _ (List.mem_append_left _ (List.mem_append_right _ h))))
  | exact fun _ h => List.mem_cons_of_mem _ (List.mem_append_left _ (List.mem_append_left _ (List.mem_append_left _ (List.mem_append_left _ (List.mem_append_right _ h)))))
  | decide +kernel
theorem kX9_keeper_13 : Cond.fieldLink RX9 13 RX9 (TX9 1).2.1 (TX9 1).2.2.1 ∈ wsX9_keeper := by decide +kernel
noncomputable def L_X9_keeper_4 (t0 : Sx) (b1 : Int32) (kont : Int32 → Int32 → Option Int32) : Nat → Int32 → Int32 → Option Int32
  | 0, _, _ => none
  | n + 1, x2 , x3 => if 40 ≤ x3 then kont (x2) (x3) else gd (vp_in x3 40) (if (gA t0 23 (ix x3)) = 0 then L_X9_keeper_4 t0 b1 kont n (x2) ((x3 + 1)) else gd (vp_in x3 40) (gd (vp_in b1 40) (if (gA t0 24 (ix x3)) = (gA t0 24 (ix b1)) then (f_X9_isPreferred t0 (x3) (x2)).bind fun r1 => if r1 = 0 then L_X9_keeper_4 t0 b1 kont n (x2) ((x3 + 1)) else L_X9_keeper_4 t0 b1 kont n (x3) ((x3 + 1)) else L_X9_keeper_4 t0 b1 kont n (x2) ((x3 + 1)))))
set_option maxRecDepth 20000 in
set_option maxHeartbeats 4000000 in
theorem L_X9_keeper_4_ok {p : Program} {l : Launch} {K : Kx} {e : Env} {s : State} {m : MethodId} {args : Array Value} {below : List Frame} {meth : Method} {c : Code} (hc : Cx p ({ frames := 3, cells := 0, slots := 0, locals := 71 } : Room) s m args meth c cX9_keeper 4 wsX9_keeper RX9 K (aA K s.heap.size) (some .int) 0 0) (t0 : Sx) (b1 : Int32) (kont : Int32 → Int32 → Option Int32) (hk : ∀ x2 x3, V p l e ({ frames := 3, cells := 0, slots := 0, locals := 71 } : Room) s m args below meth c K (aA K s.heap.size) 0 0 4 (QM below K args s (kRI t0)) 55 [(0, .ref (K.2.2 24)), (1, .int b1), (2, .int x2), (3, .int x3)] [] t0 (kont x2 x3)) : ∀ (n : Nat) (x2 : Int32) (x3 : Int32), V p l e ({ frames := 3, cells := 0, slots := 0, locals := 71 } : Room) s m args below meth c K (aA K s.heap.size) 0 0 4 (QM below K args s (kRI t0)) 4 [(0, .ref (K.2.2 24)), (1, .int b1), (2, .int x2), (3, .int x3)] [] t0 (L_X9_keeper_4 t0 b1 kont n x2 x3) := by
  intro n
  induction n with
  | zero => intro x2 x3; exact V_none
  | succ n ih =>
    intro x2 x3
    rw [L_X9_keeper_4]
    refine V_iload_n hc dX9_keeper_4 rfl 3 rfl ?_
    refine V_bipush (v := 40) hc dX9_keeper_5 (by decide) ?_
    refine V_icmp_ge (tgt := 55) hc dX9_keeper_7 (by decide) ?_ ?_
    · exact V_sub [0, 1, 2, 3] rfl (hk _ _)
    · refine V_aload_n hc dX9_keeper_10 rfl 0 rfl ?_
      refine V_getr (C := RX9) (T := TX9) (N := 28) hc sP24 rfl qX9_keeper_RX9 0 rfl (by decide) kX9_keeper_7 rfl dX9_keeper_11 ?_
      refine V_iload_n hc dX9_keeper_14 rfl 3 rfl ?_
      refine V_zald hc sP25 dX9_keeper_15 ?_
      refine V_if_eq (tgt := 47) hc dX9_keeper_16 (by decide) ?_ ?_
      · refine V_iload_n hc dX9_keeper_47 rfl 2 rfl ?_
        refine V_istore_n (lv' := [(2, .int x2), (0, .ref (K.2.2 24)), (1, .int b1), (3, .int x3)]) hc dX9_keeper_48 rfl (by decide) rfl ?_
        refine V_iinc (v := (x3 + 1)) (lv' := [(3, .int (x3 + 1)), (2, .int x2), (0, .ref (K.2.2 24)), (1, .int b1)]) hc dX9_keeper_49 3 rfl rfl (by decide) rfl ?_
        refine V_goto (tgt := 4) hc dX9_keeper_52 (by decide) ?_
        exact V_sub [2, 3, 1, 0] rfl (ih _ _)
      · refine V_aload_n hc dX9_keeper_19 rfl 0 rfl ?_
        refine V_getr (C := RX9) (T := TX9) (N := 28) hc sP24 rfl qX9_keeper_RX9 1 rfl (by decide) kX9_keeper_13 rfl dX9_keeper_20 ?_
        refine V_iload_n hc dX9_keeper_23 rfl 3 rfl ?_
        refine V_iald hc sP26 dX9_keeper_24 ?_
        refine V_aload_n hc dX9_keeper_25 rfl 0 rfl ?_
        refine V_getr (C := RX9) (T := TX9) (N := 28) hc sP24 rfl qX9_keeper_RX9 1 rfl (by decide) kX9_keeper_13 rfl dX9_keeper_26 ?_
        refine V_iload_n hc dX9_keeper_29 rfl 1 rfl ?_
        refine V_iald hc sP26 dX9_keeper_30 ?_
        refine V_icmp_ne (tgt := 47) hc dX9_keeper_31 (by decide) ?_ ?_
        · refine V_iload_n hc dX9_keeper_47 rfl 2 rfl ?_
          refine V_istore_n (lv' := [(2, .int x2), (0, .ref (K.2.2 24)), (1, .int b1), (3, .int x3)]) hc dX9_keeper_48 rfl (by decide) rfl ?_
          refine V_iinc (v := (x3 + 1)) (lv' := [(3, .int (x3 + 1)), (2, .int x2), (0, .ref (K.2.2 24)), (1, .int b1)]) hc dX9_keeper_49 3 rfl rfl (by decide) rfl ?_
          refine V_goto (tgt := 4) hc dX9_keeper_52 (by decide) ?_
          exact V_sub [2, 3, 1, 0] rfl (ih _ _)
        · refine V_aload_n hc dX9_keeper_34 rfl 0 rfl ?_
          refine V_iload_n hc dX9_keeper_35 rfl 3 rfl ?_
          refine V_iload_n hc dX9_keeper_36 rfl 2 rfl ?_
          refine V_callV_RI (Cn := RX9) (T := TX9) (N := 28) hc (c_X9_isPreferred l K t0 (x3) (x2)) sP24 rfl 2 gX9_keeper_X9_isPreferred rfl ⟨rfl, rfl⟩ (by decide) ⟨Nat.le_of_ble_eq_true rfl, Nat.le_of_ble_eq_true rfl⟩ rfl rfl (Nat.le_of_ble_eq_true rfl) dX9_keeper_37 (fun r1 => ?_)
          refine V_if_eq (tgt := 47) hc dX9_keeper_40 (by decide) ?_ ?_
          · refine V_iload_n hc dX9_keeper_47 rfl 2 rfl ?_
            refine V_istore_n (lv' := [(2, .int x2), (0, .ref (K.2.2 24)), (1, .int b1), (3, .int x3)]) hc dX9_keeper_48 rfl (by decide) rfl ?_
            refine V_iinc (v := (x3 + 1)) (lv' := [(3, .int (x3 + 1)), (2, .int x2), (0, .ref (K.2.2 24)), (1, .int b1)]) hc dX9_keeper_49 3 rfl rfl (by decide) rfl ?_
            refine V_goto (tgt := 4) hc dX9_keeper_52 (by decide) ?_
            exact V_sub [2, 3, 1, 0] rfl (ih _ _)
          · refine V_iload_n hc dX9_keeper_43 rfl 3 rfl ?_
            refine V_goto (tgt := 48) hc dX9_keeper_44 (by decide) ?_
            refine V_istore_n (lv' := [(2, .int x3), (0, .ref (K.2.2 24)), (1, .int b1), (3, .int x3)]) hc dX9_keeper_48 rfl (by decide) rfl ?_
            refine V_iinc (v := (x3 + 1)) (lv' := [(3, .int (x3 + 1)), (2, .int x3), (0, .ref (K.2.2 24)), (1, .int b1)]) hc dX9_keeper_49 3 rfl rfl (by decide) rfl ?_
            refine V_goto (tgt := 4) hc dX9_keeper_52 (by decide) ?_
            exact V_sub [2, 3, 1, 0] rfl (ih _ _)
noncomputable def f_X9_keeper (t : Sx) (a1 : Int32) : Option Int32 := L_X9_keeper_4 t (a1) (fun z2 z3 => some z2) FU (a1) (0)
set_option maxRecDepth 20000 in
set_option maxHeartbeats 4000000 in
theorem c_X9_keeper (l : Launch) (K : Kx) (t : Sx) (a1 : Int32) : CT l K yX9_keeper wsX9_keeper ({ frames := 3, cells := 0, slots := 0, locals := 71 } : Room) [.ref (K.2.2 24), .int a1] t (f_X9_keeper t a1) (kRI t) := by
  refine CT_of (cc := cX9_keeper) (maxL := 4) (ret := (some .int)) (own := RX9) (by decide +kernel) rfl rfl (Nat.le_of_ble_eq_true rfl) ?_
  intro p e s m args below meth c hc
  refine V_sub (lv' := [(0, .ref (K.2.2 24)), (1, .int a1)]) [0, 1] rfl ?_
  unfold f_X9_keeper
  refine V_iload_n hc dX9_keeper_0 rfl 1 rfl ?_
  refine V_istore_n (lv' := [(2, .int a1), (0, .ref (K.2.2 24)), (1, .int a1)]) hc dX9_keeper_1 rfl (by decide) rfl ?_
  refine V_iconst (v := 0) hc dX9_keeper_2 (by decide) ?_
  refine V_istore_n (lv' := [(3, .int 0), (2, .int a1), (0, .ref (K.2.2 24)), (1, .int a1)]) hc dX9_keeper_3 rfl (by decide) rfl ?_
  refine V_sub (lv' := [(0, .ref (K.2.2 24)), (1, .int a1), (2, .int a1), (3, .int 0)]) [2, 3, 1, 0] rfl ?_
  refine L_X9_keeper_4_ok hc t (a1) _ (fun z2 z3 => ?_) FU _ _
  refine V_iload_n hc dX9_keeper_55 rfl 2 rfl ?_
  exact V_iret hc rfl rfl dX9_keeper_56

theorem kX9_group_7 : Cond.fieldLink RX9 7 RX9 (TX9 0).2.1 (TX9 0).2.2.1 ∈ wsX9_group := by decide +kernel
theorem qX9_group_RX9 : ∀ w ∈ u_ws RX9 TX9 28, w ∈ wsX9_group := by
  first
  | exact fun _ h => List.mem_cons_of_mem _ (List.mem_append_right _ h)
  | exact fun _ h => List.mem_cons_of_mem _ (List.mem_append_left _ (List.mem_append_right _ h))
  | exact fun _ h => List.mem_cons_of_mem _ (List.mem_append_left _ (List.mem_append_left _ (List.mem_append_right _ h)))
  | exact fun _ h => List.mem_cons_of_mem _ (List.mem_append_left _ (List.mem_append_left _ (List.mem_append_left _ (List.mem_append_right _ h))))
  | exact fun _ h => List.mem_cons_of_mem _ (List.mem_append_left _ (List.mem_append_left _ (List.mem_append_left _ (List.mem_append_left _ (List.mem_append_right _ h)))))
  | decide +kernel
theorem kX9_group_13 : Cond.fieldLink RX9 13 RX9 (TX9 1).2.1 (TX9 1).2.2.1 ∈ wsX9_group := by decide +kernel
noncomputable def L_X9_group_4 (t0 : Sx) (b1 : Int32) (kont : Int32 → Int32 → Option Int32) : Nat → Int32 → Int32 → Option Int32
  | 0, _, _ => none
  | n + 1, x2 , x3 => if 40 ≤ x3 then kont (x2) (x3) else gd (vp_in x3 40) (if (gA t0 23 (ix x3)) = 0 then L_X9_group_4 t0 b1 kont n ((x2 + 0)) ((x3 + 1)) else gd (vp_in x3 40) (gd (vp_in b1 40) (if (gA t0 24 (ix x3)) = (gA t0 24 (ix b1)) then L_X9_group_4 t0 b1 kont n ((x2 + 1)) ((x3 + 1)) else L_X9_group_4 t0 b1 kont n ((x2 + 0)) ((x3 + 1)))))
set_option maxRecDepth 20000 in
set_option maxHeartbeats 4000000 in
theorem L_X9_group_4_ok {p : Program} {l : Launch} {K : Kx} {e : Env} {s : State} {m : MethodId} {args : Array Value} {below : List Frame} {meth : Method} {c : Code} (hc : Cx p ({ frames := 0, cells := 0, slots := 0, locals := 0 } : Room) s m args meth c cX9_group 4 wsX9_group RX9 K (aA K s.heap.size) (some .int) 0 0) (t0 : Sx) (b1 : Int32) (kont : Int32 → Int32 → Option Int32) (hk : ∀ x2 x3, V p l e ({ frames := 0, cells := 0, slots := 0, locals := 0 } : Room) s m args below meth c K (aA K s.heap.size) 0 0 4 (QM below K args s (kRI t0)) 48 [(0, .ref (K.2.2 24)), (1, .int b1), (2, .int x2), (3, .int x3)] [] t0 (kont x2 x3)) : ∀ (n : Nat) (x2 : Int32) (x3 : Int32), V p l e ({ frames := 0, cells := 0, slots := 0, locals := 0 } : Room) s m args below meth c K (aA K s.heap.size) 0 0 4 (QM below K args s (kRI t0)) 4 [(0, .ref (K.2.2 24)), (1, .int b1), (2, .int x2), (3, .int x3)] [] t0 (L_X9_group_4 t0 b1 kont n x2 x3) := by
  intro n
  induction n with
  | zero => intro x2 x3; exact V_none
  | succ n ih =>
    intro x2 x3
    rw [L_X9_group_4]
    refine V_iload_n hc dX9_group_4 rfl 3 rfl ?_
    refine V_bipush (v := 40) hc dX9_group_5 (by decide) ?_
    refine V_icmp_ge (tgt := 48) hc dX9_group_7 (by decide) ?_ ?_
    · exact V_sub [0, 1, 2, 3] rfl (hk _ _)
    · refine V_iload_n hc dX9_group_10 rfl 2 rfl ?_
      refine V_aload_n hc dX9_group_11 rfl 0 rfl ?_
      refine V_getr (C := RX9) (T := TX9) (N := 28) hc sP24 rfl qX9_group_RX9 0 rfl (by decide) kX9_group_7 rfl dX9_group_12 ?_
      refine V_iload_n hc dX9_group_15 rfl 3 rfl ?_
      refine V_zald hc sP25 dX9_group_16 ?_
      refine V_if_eq (tgt := 39) hc dX9_group_17 (by decide) ?_ ?_
      · refine V_iconst (v := 0) hc dX9_group_39 (by decide) ?_
        refine V_iadd hc dX9_group_40 ?_
        refine V_istore_n (lv' := [(2, .int (x2 + 0)), (0, .ref (K.2.2 24)), (1, .int b1), (3, .int x3)]) hc dX9_group_41 rfl (by decide) rfl ?_
        refine V_iinc (v := (x3 + 1)) (lv' := [(3, .int (x3 + 1)), (2, .int (x2 + 0)), (0, .ref (K.2.2 24)), (1, .int b1)]) hc dX9_group_42 3 rfl rfl (by decide) rfl ?_
        refine V_goto (tgt := 4) hc dX9_group_45 (by decide) ?_
        exact V_sub [2, 3, 1, 0] rfl (ih _ _)
      · refine V_aload_n hc dX9_group_20 rfl 0 rfl ?_
        refine V_getr (C := RX9) (T := TX9) (N := 28) hc sP24 rfl qX9_group_RX9 1 rfl (by decide) kX9_group_13 rfl dX9_group_21 ?_
        refine V_iload_n hc dX9_group_24 rfl 3 rfl ?_
        refine V_iald hc sP26 dX9_group_25 ?_
        refine V_aload_n hc dX9_group_26 rfl 0 rfl ?_
        refine V_getr (C := RX9) (T := TX9) (N := 28) hc sP24 rfl qX9_group_RX9 1 rfl (by decide) kX9_group_13 rfl dX9_group_27 ?_
        refine V_iload_n hc dX9_group_30 rfl 1 rfl ?_
        refine V_iald hc sP26 dX9_group_31 ?_
        refine V_icmp_ne (tgt := 39) hc dX9_group_32 (by decide) ?_ ?_
        · refine V_iconst (v := 0) hc dX9_group_39 (by decide) ?_
          refine V_iadd hc dX9_group_40 ?_
          refine V_istore_n (lv' := [(2, .int (x2 + 0)), (0, .ref (K.2.2 24)), (1, .int b1), (3, .int x3)]) hc dX9_group_41 rfl (by decide) rfl ?_
          refine V_iinc (v := (x3 + 1)) (lv' := [(3, .int (x3 + 1)), (2, .int (x2 + 0)), (0, .ref (K.2.2 24)), (1, .int b1)]) hc dX9_group_42 3 rfl rfl (by decide) rfl ?_
          refine V_goto (tgt := 4) hc dX9_group_45 (by decide) ?_
          exact V_sub [2, 3, 1, 0] rfl (ih _ _)
        · refine V_iconst (v := 1) hc dX9_group_35 (by decide) ?_
          refine V_goto (tgt := 40) hc dX9_group_36 (by decide) ?_
          refine V_iadd hc dX9_group_40 ?_
          refine V_istore_n (lv' := [(2, .int (x2 + 1)), (0, .ref (K.2.2 24)), (1, .int b1), (3, .int x3)]) hc dX9_group_41 rfl (by decide) rfl ?_
          refine V_iinc (v := (x3 + 1)) (lv' := [(3, .int (x3 + 1)), (2, .int (x2 + 1)), (0, .ref (K.2.2 24)), (1, .int b1)]) hc dX9_group_42 3 rfl rfl (by decide) rfl ?_
          refine V_goto (tgt := 4) hc dX9_group_45 (by decide) ?_
          exact V_sub [2, 3, 1, 0] rfl (ih _ _)
noncomputable def f_X9_group (t : Sx) (a1 : Int32) : Option Int32 := L_X9_group_4 t (a1) (fun z1 z2 => some z1) FU (0) (0)
set_option maxRecDepth 20000 in
set_option maxHeartbeats 4000000 in
theorem c_X9_group (l : Launch) (K : Kx) (t : Sx) (a1 : Int32) : CT l K yX9_group wsX9_group ({ frames := 0, cells := 0, slots := 0, locals := 0 } : Room) [.ref (K.2.2 24), .int a1] t (f_X9_group t a1) (kRI t) := by
  refine CT_of (cc := cX9_group) (maxL := 4) (ret := (some .int)) (own := RX9) (by decide +kernel) rfl rfl (Nat.le_of_ble_eq_true rfl) ?_
  intro p e s m args below meth c hc
  refine V_sub (lv' := [(0, .ref (K.2.2 24)), (1, .int a1)]) [0, 1] rfl ?_
  unfold f_X9_group
  refine V_iconst (v := 0) hc dX9_group_0 (by decide) ?_
  refine V_istore_n (lv' := [(2, .int 0), (0, .ref (K.2.2 24)), (1, .int a1)]) hc dX9_group_1 rfl (by decide) rfl ?_
  refine V_iconst (v := 0) hc dX9_group_2 (by decide) ?_
  refine V_istore_n (lv' := [(3, .int 0), (2, .int 0), (0, .ref (K.2.2 24)), (1, .int a1)]) hc dX9_group_3 rfl (by decide) rfl ?_
  refine V_sub (lv' := [(0, .ref (K.2.2 24)), (1, .int a1), (2, .int 0), (3, .int 0)]) [2, 3, 1, 0] rfl ?_
  refine L_X9_group_4_ok hc t (a1) _ (fun z1 z2 => ?_) FU _ _
  refine V_iload_n hc dX9_group_48 rfl 2 rfl ?_
  exact V_iret hc rfl rfl dX9_group_49

theorem kX9_cover_38 : Cond.fieldLink RX9 38 RX9 (TX9 9).2.1 (TX9 9).2.2.1 ∈ wsX9_cover := by decide +kernel
theorem qX9_cover_RX9 : ∀ w ∈ u_ws RX9 TX9 28, w ∈ wsX9_cover := by
  first
  | exact fun _ h => List.mem_cons_of_mem _ (List.mem_append_right _ h)
  | exact fun _ h => List.mem_cons_of_mem _ (List.mem_append_left _ (List.mem_append_right _ h))
  | exact fun _ h => List.mem_cons_of_mem _ (List.mem_append_left _ (List.mem_append_left _ (List.mem_append_right _ h)))
  | exact fun _ h => List.mem_cons_of_mem _ (List.mem_append_left _ (List.mem_append_left _ (List.mem_append_left _ (List.mem_append_right _ h))))
  | exact fun _ h => List.mem_cons_of_mem _ (List.mem_append_left _ (List.mem_append_left _ (List.mem_append_left _ (List.mem_append_left _ (List.mem_append_right _ h)))))
  | decide +kernel
theorem kX9_cover_35 : Cond.fieldLink RX9 35 RX9 (TX9 8).2.1 (TX9 8).2.2.1 ∈ wsX9_cover := by decide +kernel
theorem kX9_cover_32 : Cond.fieldLink RX9 32 RX9 (TX9 7).2.1 (TX9 7).2.2.1 ∈ wsX9_cover := by decide +kernel
noncomputable def L_X9_cover_28 (t0 : Sx) (b1 : Int32) (kont : Int32 → Int32 → Option Int32) : Nat → Int32 → Int32 → Option Int32
  | 0, _, _ => none
  | n + 1, x2 , x3 => gd (vp_in b1 10) (if (gA t0 30 (ix b1)) ≤ x3 then kont (x2) (x3) else gd (vp_in ((8 * b1) + x3) 80) ((f_X9_valueOr t0 (gA t0 31 (ix ((8 * b1) + x3))) (1) (-1)).bind fun r1 => (f_X9_valueOr t0 (x2) (1) (-1)).bind fun r2 => if r1 ≤ r2 then L_X9_cover_28 t0 b1 kont n (x2) ((x3 + 1)) else L_X9_cover_28 t0 b1 kont n ((gA t0 31 (ix ((8 * b1) + x3)))) ((x3 + 1))))
set_option maxRecDepth 20000 in
set_option maxHeartbeats 4000000 in
theorem L_X9_cover_28_ok {p : Program} {l : Launch} {K : Kx} {e : Env} {s : State} {m : MethodId} {args : Array Value} {below : List Frame} {meth : Method} {c : Code} (hc : Cx p ({ frames := 2, cells := 0, slots := 0, locals := 47 } : Room) s m args meth c cX9_cover 5 wsX9_cover RX9 K (aA K s.heap.size) (some .int) 0 0) (t0 : Sx) (b1 : Int32) (kont : Int32 → Int32 → Option Int32) (hk : ∀ x2 x3, V p l e ({ frames := 2, cells := 0, slots := 0, locals := 47 } : Room) s m args below meth c K (aA K s.heap.size) 0 0 5 (QM below K args s (kRI t0)) 82 [(0, .ref (K.2.2 24)), (1, .int b1), (2, .int x2), (3, .int x3)] [] t0 (kont x2 x3)) : ∀ (n : Nat) (x2 : Int32) (x3 : Int32), V p l e ({ frames := 2, cells := 0, slots := 0, locals := 47 } : Room) s m args below meth c K (aA K s.heap.size) 0 0 5 (QM below K args s (kRI t0)) 28 [(0, .ref (K.2.2 24)), (1, .int b1), (2, .int x2), (3, .int x3)] [] t0 (L_X9_cover_28 t0 b1 kont n x2 x3) := by
  intro n
  induction n with
  | zero => intro x2 x3; exact V_none
  | succ n ih =>
    intro x2 x3
    rw [L_X9_cover_28]
    refine V_iload_n hc dX9_cover_28 rfl 3 rfl ?_
    refine V_aload_n hc dX9_cover_29 rfl 0 rfl ?_
    refine V_getr (C := RX9) (T := TX9) (N := 28) hc sP24 rfl qX9_cover_RX9 7 rfl (by decide) kX9_cover_32 rfl dX9_cover_30 ?_
    refine V_iload_n hc dX9_cover_33 rfl 1 rfl ?_
    refine V_iald hc sP32 dX9_cover_34 ?_
    refine V_icmp_ge (tgt := 82) hc dX9_cover_35 (by decide) ?_ ?_
    · exact V_sub [0, 1, 2, 3] rfl (hk _ _)
    · refine V_aload_n hc dX9_cover_38 rfl 0 rfl ?_
      refine V_getr (C := RX9) (T := TX9) (N := 28) hc sP24 rfl qX9_cover_RX9 8 rfl (by decide) kX9_cover_35 rfl dX9_cover_39 ?_
      refine V_bipush (v := 8) hc dX9_cover_42 (by decide) ?_
      refine V_iload_n hc dX9_cover_44 rfl 1 rfl ?_
      refine V_imul hc dX9_cover_45 ?_
      refine V_iload_n hc dX9_cover_46 rfl 3 rfl ?_
      refine V_iadd hc dX9_cover_47 ?_
      refine V_iald hc sP33 dX9_cover_48 ?_
      refine V_istore (lv' := [(4, .int (gA t0 31 (ix ((8 * b1) + x3)))), (0, .ref (K.2.2 24)), (1, .int b1), (2, .int x2), (3, .int x3)]) hc dX9_cover_49 (by decide) rfl ?_
      refine V_aload_n hc dX9_cover_51 rfl 1 rfl ?_
      refine V_iload hc dX9_cover_52 0 rfl ?_
      refine V_iconst (v := 1) hc dX9_cover_54 (by decide) ?_
      refine V_iconst (v := (-1)) hc dX9_cover_55 (by decide) ?_
      refine V_callV_RI (Cn := RX9) (T := TX9) (N := 28) hc (c_X9_valueOr l K t0 (gA t0 31 (ix ((8 * b1) + x3))) (1) (-1)) sP24 rfl 3 gX9_cover_X9_valueOr rfl ⟨rfl, rfl⟩ (by decide) ⟨Nat.le_of_ble_eq_true rfl, Nat.le_of_ble_eq_true rfl⟩ rfl rfl (Nat.le_of_ble_eq_true rfl) dX9_cover_56 (fun r1 => ?_)
      refine V_aload_n hc dX9_cover_59 rfl 1 rfl ?_
      refine V_iload_n hc dX9_cover_60 rfl 3 rfl ?_
      refine V_iconst (v := 1) hc dX9_cover_61 (by decide) ?_
      refine V_iconst (v := (-1)) hc dX9_cover_62 (by decide) ?_
      refine V_callV_RI (Cn := RX9) (T := TX9) (N := 28) hc (c_X9_valueOr l K t0 (x2) (1) (-1)) sP24 rfl 3 gX9_cover_X9_valueOr rfl ⟨rfl, rfl⟩ (by decide) ⟨Nat.le_of_ble_eq_true rfl, Nat.le_of_ble_eq_true rfl⟩ rfl rfl (Nat.le_of_ble_eq_true rfl) dX9_cover_63 (fun r2 => ?_)
      refine V_icmp_le (tgt := 74) hc dX9_cover_66 (by decide) ?_ ?_
      · refine V_iload_n hc dX9_cover_74 rfl 3 rfl ?_
        refine V_istore_n (lv' := [(2, .int x2), (4, .int (gA t0 31 (ix ((8 * b1) + x3)))), (0, .ref (K.2.2 24)), (1, .int b1), (3, .int x3)]) hc dX9_cover_75 rfl (by decide) rfl ?_
        refine V_iinc (v := (x3 + 1)) (lv' := [(3, .int (x3 + 1)), (2, .int x2), (4, .int (gA t0 31 (ix ((8 * b1) + x3)))), (0, .ref (K.2.2 24)), (1, .int b1)]) hc dX9_cover_76 4 rfl rfl (by decide) rfl ?_
        refine V_goto (tgt := 28) hc dX9_cover_79 (by decide) ?_
        exact V_sub [3, 4, 1, 0] rfl (ih _ _)
      · refine V_iload hc dX9_cover_69 0 rfl ?_
        refine V_goto (tgt := 75) hc dX9_cover_71 (by decide) ?_
        refine V_istore_n (lv' := [(2, .int (gA t0 31 (ix ((8 * b1) + x3)))), (4, .int (gA t0 31 (ix ((8 * b1) + x3)))), (0, .ref (K.2.2 24)), (1, .int b1), (3, .int x3)]) hc dX9_cover_75 rfl (by decide) rfl ?_
        refine V_iinc (v := (x3 + 1)) (lv' := [(3, .int (x3 + 1)), (2, .int (gA t0 31 (ix ((8 * b1) + x3)))), (4, .int (gA t0 31 (ix ((8 * b1) + x3)))), (0, .ref (K.2.2 24)), (1, .int b1)]) hc dX9_cover_76 4 rfl rfl (by decide) rfl ?_
        refine V_goto (tgt := 28) hc dX9_cover_79 (by decide) ?_
        exact V_sub [3, 4, 1, 0] rfl (ih _ _)
noncomputable def f_X9_cover (t : Sx) (a1 : Int32) : Option Int32 := gd (vp_in a1 10) (if (gA t 32 (ix a1)) < 0 then gd (vp_in (8 * a1) 80) (L_X9_cover_28 t (a1) (fun z3 z4 => some z3) FU ((gA t 31 (ix (8 * a1)))) (1)) else gd (vp_in a1 10) (some (gA t 32 (ix a1))))
set_option maxRecDepth 20000 in
set_option maxHeartbeats 4000000 in
theorem c_X9_cover (l : Launch) (K : Kx) (t : Sx) (a1 : Int32) : CT l K yX9_cover wsX9_cover ({ frames := 2, cells := 0, slots := 0, locals := 47 } : Room) [.ref (K.2.2 24), .int a1] t (f_X9_cover t a1) (kRI t) := by
  refine CT_of (cc := cX9_cover) (maxL := 5) (ret := (some .int)) (own := RX9) (by decide +kernel) rfl rfl (Nat.le_of_ble_eq_true rfl) ?_
  intro p e s m args below meth c hc
  refine V_sub (lv' := [(0, .ref (K.2.2 24)), (1, .int a1)]) [0, 1] rfl ?_
  unfold f_X9_cover
  refine V_aload_n hc dX9_cover_0 rfl 0 rfl ?_
  refine V_getr (C := RX9) (T := TX9) (N := 28) hc sP24 rfl qX9_cover_RX9 9 rfl (by decide) kX9_cover_38 rfl dX9_cover_1 ?_
  refine V_iload_n hc dX9_cover_4 rfl 1 rfl ?_
  refine V_iald hc sP34 dX9_cover_5 ?_
  refine V_if_lt (tgt := 16) hc dX9_cover_6 (by decide) ?_ ?_
  · refine V_aload_n hc dX9_cover_16 rfl 0 rfl ?_
    refine V_getr (C := RX9) (T := TX9) (N := 28) hc sP24 rfl qX9_cover_RX9 8 rfl (by decide) kX9_cover_35 rfl dX9_cover_17 ?_
    refine V_bipush (v := 8) hc dX9_cover_20 (by decide) ?_
    refine V_iload_n hc dX9_cover_22 rfl 1 rfl ?_
    refine V_imul hc dX9_cover_23 ?_
    refine V_iald hc sP33 dX9_cover_24 ?_
    refine V_istore_n (lv' := [(2, .int (gA t 31 (ix (8 * a1)))), (0, .ref (K.2.2 24)), (1, .int a1)]) hc dX9_cover_25 rfl (by decide) rfl ?_
    refine V_iconst (v := 1) hc dX9_cover_26 (by decide) ?_
    refine V_istore_n (lv' := [(3, .int 1), (2, .int (gA t 31 (ix (8 * a1)))), (0, .ref (K.2.2 24)), (1, .int a1)]) hc dX9_cover_27 rfl (by decide) rfl ?_
    refine V_sub (lv' := [(0, .ref (K.2.2 24)), (1, .int a1), (2, .int (gA t 31 (ix (8 * a1)))), (3, .int 1)]) [2, 3, 1, 0] rfl ?_
    refine L_X9_cover_28_ok hc t (a1) _ (fun z3 z4 => ?_) FU _ _
    refine V_iload_n hc dX9_cover_82 rfl 2 rfl ?_
    exact V_iret hc rfl rfl dX9_cover_83
  · refine V_aload_n hc dX9_cover_9 rfl 0 rfl ?_
    refine V_getr (C := RX9) (T := TX9) (N := 28) hc sP24 rfl qX9_cover_RX9 9 rfl (by decide) kX9_cover_38 rfl dX9_cover_10 ?_
    refine V_iload_n hc dX9_cover_13 rfl 1 rfl ?_
    refine V_iald hc sP34 dX9_cover_14 ?_
    exact V_iret hc rfl rfl dX9_cover_15

theorem kX9_isStack_32 : Cond.fieldLink RX9 32 RX9 (TX9 7).2.1 (TX9 7).2.2.1 ∈ wsX9_isStack := by decide +kernel
theorem qX9_isStack_RX9 : ∀ w ∈ u_ws RX9 TX9 28, w ∈ wsX9_isStack := by
  first
  | exact fun _ h => List.mem_cons_of_mem _ (List.mem_append_right _ h)
  | exact fun _ h => List.mem_cons_of_mem _ (List.mem_append_left _ (List.mem_append_right _ h))
  | exact fun _ h => List.mem_cons_of_mem _ (List.mem_append_left _ (List.mem_append_left _ (List.mem_append_right _ h)))
  | exact fun _ h => List.mem_cons_of_mem _ (List.mem_append_left _ (List.mem_append_left _ (List.mem_append_left _ (List.mem_append_right _ h))))
  | exact fun _ h => List.mem_cons_of_mem _ (List.mem_append_left _ (List.mem_append_left _ (List.mem_append_left _ (List.mem_append_left _ (List.mem_append_right _ h)))))
  | decide +kernel
noncomputable def f_X9_isStack (t : Sx) (a1 : Int32) : Option Int32 := (f_X9_in t (a1) (0) (9)).bind fun r1 => if r1 = 0 then some 0 else gd (vp_in a1 10) (if (gA t 30 (ix a1)) ≤ 0 then some 0 else some 1)
set_option maxRecDepth 20000 in
set_option maxHeartbeats 4000000 in
theorem c_X9_isStack (l : Launch) (K : Kx) (t : Sx) (a1 : Int32) : CT l K yX9_isStack wsX9_isStack ({ frames := 1, cells := 0, slots := 0, locals := 22 } : Room) [.ref (K.2.2 24), .int a1] t (f_X9_isStack t a1) (kRI t) := by
  refine CT_of (cc := cX9_isStack) (maxL := 2) (ret := (some .boolean)) (own := RX9) (by decide +kernel) rfl rfl (Nat.le_of_ble_eq_true rfl) ?_
  intro p e s m args below meth c hc
  refine V_sub (lv' := [(0, .ref (K.2.2 24)), (1, .int a1)]) [0, 1] rfl ?_
  unfold f_X9_isStack
  refine V_iload_n hc dX9_isStack_0 rfl 1 rfl ?_
  refine V_iconst (v := 0) hc dX9_isStack_1 (by decide) ?_
  refine V_bipush (v := 9) hc dX9_isStack_2 (by decide) ?_
  refine V_callS_RI hc (c_X9_in l K t (a1) (0) (9)) 3 gX9_isStack_X9_in rfl ⟨rfl, rfl⟩ (by decide) ⟨Nat.le_of_ble_eq_true rfl, Nat.le_of_ble_eq_true rfl⟩ rfl rfl (Nat.le_of_ble_eq_true rfl) dX9_isStack_4 (fun r1 => ?_)
  refine V_if_eq (tgt := 23) hc dX9_isStack_7 (by decide) ?_ ?_
  · refine V_iconst (v := 0) hc dX9_isStack_23 (by decide) ?_
    exact V_nret hc rfl rfl rfl dX9_isStack_24
  · refine V_aload_n hc dX9_isStack_10 rfl 0 rfl ?_
    refine V_getr (C := RX9) (T := TX9) (N := 28) hc sP24 rfl qX9_isStack_RX9 7 rfl (by decide) kX9_isStack_32 rfl dX9_isStack_11 ?_
    refine V_iload_n hc dX9_isStack_14 rfl 1 rfl ?_
    refine V_iald hc sP32 dX9_isStack_15 ?_
    refine V_if_le (tgt := 23) hc dX9_isStack_16 (by decide) ?_ ?_
    · refine V_iconst (v := 0) hc dX9_isStack_23 (by decide) ?_
      exact V_nret hc rfl rfl rfl dX9_isStack_24
    · refine V_iconst (v := 1) hc dX9_isStack_19 (by decide) ?_
      refine V_goto (tgt := 24) hc dX9_isStack_20 (by decide) ?_
      exact V_nret hc rfl rfl rfl dX9_isStack_24

theorem kX9_leaves_29 : Cond.fieldLink RX9 29 RX9 (TX9 6).2.1 (TX9 6).2.2.1 ∈ wsX9_leaves := by decide +kernel
theorem qX9_leaves_RX9 : ∀ w ∈ u_ws RX9 TX9 28, w ∈ wsX9_leaves := by
  first
  | exact fun _ h => List.mem_cons_of_mem _ (List.mem_append_right _ h)
  | exact fun _ h => List.mem_cons_of_mem _ (List.mem_append_left _ (List.mem_append_right _ h))
  | exact fun _ h => List.mem_cons_of_mem _ (List.mem_append_left _ (List.mem_append_left _ (List.mem_append_right _ h)))
  | exact fun _ h => List.mem_cons_of_mem _ (List.mem_append_left _ (List.mem_append_left _ (List.mem_append_left _ (List.mem_append_right _ h))))
  | exact fun _ h => List.mem_cons_of_mem _ (List.mem_append_left _ (List.mem_append_left _ (List.mem_append_left _ (List.mem_append_left _ (List.mem_append_right _ h)))))
  | decide +kernel
theorem kX9_leaves_35 : Cond.fieldLink RX9 35 RX9 (TX9 8).2.1 (TX9 8).2.2.1 ∈ wsX9_leaves := by decide +kernel
theorem kX9_leaves_32 : Cond.fieldLink RX9 32 RX9 (TX9 7).2.1 (TX9 7).2.2.1 ∈ wsX9_leaves := by decide +kernel
theorem kX9_leaves_38 : Cond.fieldLink RX9 38 RX9 (TX9 9).2.1 (TX9 9).2.2.1 ∈ wsX9_leaves := by decide +kernel
noncomputable def L_X9_leaves_14 (t0 : Sx) (b1 : Int32) (b2 : Int32) (kont : Int32 → Option Sx) : Nat → Int32 → Option Sx
  | 0, _ => none
  | n + 1, x3 => gd (vp_in ((8 * b2) + x3) 80) (if (gA t0 31 (ix ((8 * b2) + x3))) = b1 then kont (x3) else L_X9_leaves_14 t0 b1 b2 kont n ((x3 + 1)))
set_option maxRecDepth 20000 in
set_option maxHeartbeats 4000000 in
theorem L_X9_leaves_14_ok {p : Program} {l : Launch} {K : Kx} {e : Env} {s : State} {m : MethodId} {args : Array Value} {below : List Frame} {meth : Method} {c : Code} (hc : Cx p ({ frames := 0, cells := 0, slots := 0, locals := 0 } : Room) s m args meth c cX9_leaves 5 wsX9_leaves RX9 K (aA K s.heap.size) none 0 0) (t0 : Sx) (b1 : Int32) (b2 : Int32) (kont : Int32 → Option Sx) (hk : ∀ x3, V p l e ({ frames := 0, cells := 0, slots := 0, locals := 0 } : Room) s m args below meth c K (aA K s.heap.size) 0 0 5 (QM below K args s kWV) 35 [(0, .ref (K.2.2 24)), (1, .int b1), (2, .int b2), (3, .int x3)] [] t0 (kont x3)) : ∀ (n : Nat) (x3 : Int32), V p l e ({ frames := 0, cells := 0, slots := 0, locals := 0 } : Room) s m args below meth c K (aA K s.heap.size) 0 0 5 (QM below K args s kWV) 14 [(0, .ref (K.2.2 24)), (1, .int b1), (2, .int b2), (3, .int x3)] [] t0 (L_X9_leaves_14 t0 b1 b2 kont n x3) := by
  intro n
  induction n with
  | zero => intro x3; exact V_none
  | succ n ih =>
    intro x3
    rw [L_X9_leaves_14]
    refine V_aload_n hc dX9_leaves_14 rfl 0 rfl ?_
    refine V_getr (C := RX9) (T := TX9) (N := 28) hc sP24 rfl qX9_leaves_RX9 8 rfl (by decide) kX9_leaves_35 rfl dX9_leaves_15 ?_
    refine V_bipush (v := 8) hc dX9_leaves_18 (by decide) ?_
    refine V_iload_n hc dX9_leaves_20 rfl 2 rfl ?_
    refine V_imul hc dX9_leaves_21 ?_
    refine V_iload_n hc dX9_leaves_22 rfl 3 rfl ?_
    refine V_iadd hc dX9_leaves_23 ?_
    refine V_iald hc sP33 dX9_leaves_24 ?_
    refine V_iload_n hc dX9_leaves_25 rfl 1 rfl ?_
    refine V_icmp_eq (tgt := 35) hc dX9_leaves_26 (by decide) ?_ ?_
    · exact V_sub [0, 1, 2, 3] rfl (hk _)
    · refine V_iinc (v := (x3 + 1)) (lv' := [(3, .int (x3 + 1)), (0, .ref (K.2.2 24)), (1, .int b1), (2, .int b2)]) hc dX9_leaves_29 3 rfl rfl (by decide) rfl ?_
      refine V_goto (tgt := 14) hc dX9_leaves_32 (by decide) ?_
      exact V_sub [1, 2, 3, 0] rfl (ih _)
noncomputable def L_X9_leaves_40 (b1 : Int32) (b2 : Int32) (b3 : Int32) (kont : Int32 → Sx → Option Sx) : Nat → Int32 → Sx → Option Sx
  | 0, _, _ => none
  | n + 1, x4, y => gd (vp_in b2 10) (if (gA y 30 (ix b2)) ≤ x4 then kont (x4) (y) else gd (vp_in ((8 * b2) + x4) 80) (gd (vp_in (((8 * b2) + x4) - 1) 80) (bd (pA y 31 (ix (((8 * b2) + x4) - 1)) (gA y 31 (ix ((8 * b2) + x4)))) fun t2 => L_X9_leaves_40 b1 b2 b3 kont n ((x4 + 1)) (t2))))
set_option maxRecDepth 20000 in
set_option maxHeartbeats 4000000 in
theorem L_X9_leaves_40_ok {p : Program} {l : Launch} {K : Kx} {e : Env} {s : State} {m : MethodId} {args : Array Value} {below : List Frame} {meth : Method} {c : Code} (hc : Cx p ({ frames := 0, cells := 0, slots := 0, locals := 0 } : Room) s m args meth c cX9_leaves 5 wsX9_leaves RX9 K (aA K s.heap.size) none 0 0) (b1 : Int32) (b2 : Int32) (b3 : Int32) (kont : Int32 → Sx → Option Sx) (hk : ∀ x4 y, V p l e ({ frames := 0, cells := 0, slots := 0, locals := 0 } : Room) s m args below meth c K (aA K s.heap.size) 0 0 5 (QM below K args s kWV) 83 [(0, .ref (K.2.2 24)), (1, .int b1), (2, .int b2), (3, .int b3), (4, .int x4)] [] y (kont x4 y)) : ∀ (n : Nat) (x4 : Int32) (y : Sx), V p l e ({ frames := 0, cells := 0, slots := 0, locals := 0 } : Room) s m args below meth c K (aA K s.heap.size) 0 0 5 (QM below K args s kWV) 40 [(0, .ref (K.2.2 24)), (1, .int b1), (2, .int b2), (3, .int b3), (4, .int x4)] [] y (L_X9_leaves_40 b1 b2 b3 kont n x4 y) := by
  intro n
  induction n with
  | zero => intro x4 y; exact V_none
  | succ n ih =>
    intro x4 y
    rw [L_X9_leaves_40]
    refine V_iload hc dX9_leaves_40 4 rfl ?_
    refine V_aload_n hc dX9_leaves_42 rfl 0 rfl ?_
    refine V_getr (C := RX9) (T := TX9) (N := 28) hc sP24 rfl qX9_leaves_RX9 7 rfl (by decide) kX9_leaves_32 rfl dX9_leaves_43 ?_
    refine V_iload_n hc dX9_leaves_46 rfl 2 rfl ?_
    refine V_iald hc sP32 dX9_leaves_47 ?_
    refine V_icmp_ge (tgt := 83) hc dX9_leaves_48 (by decide) ?_ ?_
    · exact V_sub [0, 1, 2, 3, 4] rfl (hk _ _)
    · refine V_aload_n hc dX9_leaves_51 rfl 0 rfl ?_
      refine V_getr (C := RX9) (T := TX9) (N := 28) hc sP24 rfl qX9_leaves_RX9 8 rfl (by decide) kX9_leaves_35 rfl dX9_leaves_52 ?_
      refine V_bipush (v := 8) hc dX9_leaves_55 (by decide) ?_
      refine V_iload_n hc dX9_leaves_57 rfl 2 rfl ?_
      refine V_imul hc dX9_leaves_58 ?_
      refine V_iload hc dX9_leaves_59 4 rfl ?_
      refine V_iadd hc dX9_leaves_61 ?_
      refine V_iconst (v := 1) hc dX9_leaves_62 (by decide) ?_
      refine V_isub hc dX9_leaves_63 ?_
      refine V_aload_n hc dX9_leaves_64 rfl 0 rfl ?_
      refine V_getr (C := RX9) (T := TX9) (N := 28) hc sP24 rfl qX9_leaves_RX9 8 rfl (by decide) kX9_leaves_35 rfl dX9_leaves_65 ?_
      refine V_bipush (v := 8) hc dX9_leaves_68 (by decide) ?_
      refine V_iload_n hc dX9_leaves_70 rfl 2 rfl ?_
      refine V_imul hc dX9_leaves_71 ?_
      refine V_iload hc dX9_leaves_72 4 rfl ?_
      refine V_iadd hc dX9_leaves_74 ?_
      refine V_iald hc sP33 dX9_leaves_75 ?_
      refine V_iast hc sP33 dX9_leaves_76 ?_
      refine V_bds (fun t2 => ?_)
      refine V_iinc (v := (x4 + 1)) (lv' := [(4, .int (x4 + 1)), (0, .ref (K.2.2 24)), (1, .int b1), (2, .int b2), (3, .int b3)]) hc dX9_leaves_77 4 rfl rfl (by decide) rfl ?_
      refine V_goto (tgt := 40) hc dX9_leaves_80 (by decide) ?_
      exact V_sub [1, 2, 3, 4, 0] rfl (ih _ _)
noncomputable def f_X9_leaves (t : Sx) (a1 : Int32) : Option Sx := gd (vp_in a1 40) (if 0 ≤ (gA t 29 (ix a1)) then L_X9_leaves_14 t (a1) ((gA t 29 (ix a1))) (fun z1 => L_X9_leaves_40 (a1) ((gA t 29 (ix a1))) (z1) (fun z3 t4 => gd (vp_in (gA t 29 (ix a1)) 10) (gd (vp_in (gA t 29 (ix a1)) 10) (bd (pA t4 30 (ix (gA t 29 (ix a1))) ((gA t4 30 (ix (gA t 29 (ix a1)))) - 1)) fun t5 => gd (vp_in a1 40) (bd (pA t5 29 (ix a1) (-1)) fun t6 => gd (vp_in (gA t 29 (ix a1)) 10) (if (gA t6 32 (ix (gA t 29 (ix a1)))) = a1 then gd (vp_in (gA t 29 (ix a1)) 10) (bd (pA t6 32 (ix (gA t 29 (ix a1))) (-1)) fun t10 => gd (vp_in (gA t 29 (ix a1)) 10) (if (gA t10 30 (ix (gA t 29 (ix a1)))) = 1 then gd (vp_in (8 * (gA t 29 (ix a1))) 80) (gd (vp_in (gA t10 31 (ix (8 * (gA t 29 (ix a1))))) 40) (bd (pA t10 29 (ix (gA t10 31 (ix (8 * (gA t 29 (ix a1)))))) (-1)) fun t11 => gd (vp_in (gA t 29 (ix a1)) 10) (bd (pA t11 30 (ix (gA t 29 (ix a1))) 0) fun t12 => some t12))) else some t10)) else gd (vp_in (gA t 29 (ix a1)) 10) (gd (vp_in (gA t 29 (ix a1)) 10) (bd (pA t6 32 (ix (gA t 29 (ix a1))) (gA t6 32 (ix (gA t 29 (ix a1))))) fun t7 => gd (vp_in (gA t 29 (ix a1)) 10) (if (gA t7 30 (ix (gA t 29 (ix a1)))) = 1 then gd (vp_in (8 * (gA t 29 (ix a1))) 80) (gd (vp_in (gA t7 31 (ix (8 * (gA t 29 (ix a1))))) 40) (bd (pA t7 29 (ix (gA t7 31 (ix (8 * (gA t 29 (ix a1)))))) (-1)) fun t8 => gd (vp_in (gA t 29 (ix a1)) 10) (bd (pA t8 30 (ix (gA t 29 (ix a1))) 0) fun t9 => some t9))) else some t7)))))))) FU ((z1 + 1)) (t)) FU (0) else some t)
set_option maxRecDepth 20000 in
set_option maxHeartbeats 4000000 in
theorem c_X9_leaves (l : Launch) (K : Kx) (t : Sx) (a1 : Int32) : CT l K yX9_leaves wsX9_leaves ({ frames := 0, cells := 0, slots := 0, locals := 0 } : Room) [.ref (K.2.2 24), .int a1] t (f_X9_leaves t a1) kWV := by
  refine CT_of (cc := cX9_leaves) (maxL := 5) (ret := none) (own := RX9) (by decide +kernel) rfl rfl (Nat.le_of_ble_eq_true rfl) ?_
  intro p e s m args below meth c hc
  refine V_sub (lv' := [(0, .ref (K.2.2 24)), (1, .int a1)]) [0, 1] rfl ?_
  unfold f_X9_leaves
  refine V_aload_n hc dX9_leaves_0 rfl 0 rfl ?_
  refine V_getr (C := RX9) (T := TX9) (N := 28) hc sP24 rfl qX9_leaves_RX9 6 rfl (by decide) kX9_leaves_29 rfl dX9_leaves_1 ?_
  refine V_iload_n hc dX9_leaves_4 rfl 1 rfl ?_
  refine V_iald hc sP31 dX9_leaves_5 ?_
  refine V_istore_n (lv' := [(2, .int (gA t 29 (ix a1))), (0, .ref (K.2.2 24)), (1, .int a1)]) hc dX9_leaves_6 rfl (by decide) rfl ?_
  refine V_iload_n hc dX9_leaves_7 rfl 0 rfl ?_
  refine V_if_ge (tgt := 12) hc dX9_leaves_8 (by decide) ?_ ?_
  · refine V_iconst (v := 0) hc dX9_leaves_12 (by decide) ?_
    refine V_istore_n (lv' := [(3, .int 0), (2, .int (gA t 29 (ix a1))), (0, .ref (K.2.2 24)), (1, .int a1)]) hc dX9_leaves_13 rfl (by decide) rfl ?_
    refine V_sub (lv' := [(0, .ref (K.2.2 24)), (1, .int a1), (2, .int (gA t 29 (ix a1))), (3, .int 0)]) [2, 3, 1, 0] rfl ?_
    refine L_X9_leaves_14_ok hc t (a1) ((gA t 29 (ix a1))) _ (fun z1 => ?_) FU _
    refine V_iload_n hc dX9_leaves_35 rfl 3 rfl ?_
    refine V_iconst (v := 1) hc dX9_leaves_36 (by decide) ?_
    refine V_iadd hc dX9_leaves_37 ?_
    refine V_istore (lv' := [(4, .int (z1 + 1)), (0, .ref (K.2.2 24)), (1, .int a1), (2, .int (gA t 29 (ix a1))), (3, .int z1)]) hc dX9_leaves_38 (by decide) rfl ?_
    refine V_sub (lv' := [(0, .ref (K.2.2 24)), (1, .int a1), (2, .int (gA t 29 (ix a1))), (3, .int z1), (4, .int (z1 + 1))]) [1, 2, 3, 4, 0] rfl ?_
    refine L_X9_leaves_40_ok hc (a1) ((gA t 29 (ix a1))) (z1) _ (fun z3 t4 => ?_) FU _ _
    refine V_aload_n hc dX9_leaves_83 rfl 0 rfl ?_
    refine V_getr (C := RX9) (T := TX9) (N := 28) hc sP24 rfl qX9_leaves_RX9 7 rfl (by decide) kX9_leaves_32 rfl dX9_leaves_84 ?_
    refine V_iload_n hc dX9_leaves_87 rfl 2 rfl ?_
    refine V_dup2_11 hc dX9_leaves_88 rfl rfl ?_
    refine V_iald hc sP32 dX9_leaves_89 ?_
    refine V_iconst (v := 1) hc dX9_leaves_90 (by decide) ?_
    refine V_isub hc dX9_leaves_91 ?_
    refine V_iast hc sP32 dX9_leaves_92 ?_
    refine V_bds (fun t5 => ?_)
    refine V_aload_n hc dX9_leaves_93 rfl 0 rfl ?_
    refine V_getr (C := RX9) (T := TX9) (N := 28) hc sP24 rfl qX9_leaves_RX9 6 rfl (by decide) kX9_leaves_29 rfl dX9_leaves_94 ?_
    refine V_iload_n hc dX9_leaves_97 rfl 1 rfl ?_
    refine V_iconst (v := (-1)) hc dX9_leaves_98 (by decide) ?_
    refine V_iast hc sP31 dX9_leaves_99 ?_
    refine V_bds (fun t6 => ?_)
    refine V_aload_n hc dX9_leaves_100 rfl 0 rfl ?_
    refine V_getr (C := RX9) (T := TX9) (N := 28) hc sP24 rfl qX9_leaves_RX9 9 rfl (by decide) kX9_leaves_38 rfl dX9_leaves_101 ?_
    refine V_iload_n hc dX9_leaves_104 rfl 2 rfl ?_
    refine V_aload_n hc dX9_leaves_105 rfl 0 rfl ?_
    refine V_getr (C := RX9) (T := TX9) (N := 28) hc sP24 rfl qX9_leaves_RX9 9 rfl (by decide) kX9_leaves_38 rfl dX9_leaves_106 ?_
    refine V_iload_n hc dX9_leaves_109 rfl 2 rfl ?_
    refine V_iald hc sP34 dX9_leaves_110 ?_
    refine V_iload_n hc dX9_leaves_111 rfl 1 rfl ?_
    refine V_icmp_ne (tgt := 119) hc dX9_leaves_112 (by decide) ?_ ?_
    · refine V_aload_n hc dX9_leaves_119 rfl 0 rfl ?_
      refine V_getr (C := RX9) (T := TX9) (N := 28) hc sP24 rfl qX9_leaves_RX9 9 rfl (by decide) kX9_leaves_38 rfl dX9_leaves_120 ?_
      refine V_iload_n hc dX9_leaves_123 rfl 2 rfl ?_
      refine V_iald hc sP34 dX9_leaves_124 ?_
      refine V_iast hc sP34 dX9_leaves_125 ?_
      refine V_bds (fun t7 => ?_)
      refine V_aload_n hc dX9_leaves_126 rfl 0 rfl ?_
      refine V_getr (C := RX9) (T := TX9) (N := 28) hc sP24 rfl qX9_leaves_RX9 7 rfl (by decide) kX9_leaves_32 rfl dX9_leaves_127 ?_
      refine V_iload_n hc dX9_leaves_130 rfl 2 rfl ?_
      refine V_iald hc sP32 dX9_leaves_131 ?_
      refine V_iconst (v := 1) hc dX9_leaves_132 (by decide) ?_
      refine V_icmp_ne (tgt := 158) hc dX9_leaves_133 (by decide) ?_ ?_
      · exact V_vret hc rfl rfl dX9_leaves_158
      · refine V_aload_n hc dX9_leaves_136 rfl 0 rfl ?_
        refine V_getr (C := RX9) (T := TX9) (N := 28) hc sP24 rfl qX9_leaves_RX9 6 rfl (by decide) kX9_leaves_29 rfl dX9_leaves_137 ?_
        refine V_aload_n hc dX9_leaves_140 rfl 0 rfl ?_
        refine V_getr (C := RX9) (T := TX9) (N := 28) hc sP24 rfl qX9_leaves_RX9 8 rfl (by decide) kX9_leaves_35 rfl dX9_leaves_141 ?_
        refine V_bipush (v := 8) hc dX9_leaves_144 (by decide) ?_
        refine V_iload_n hc dX9_leaves_146 rfl 2 rfl ?_
        refine V_imul hc dX9_leaves_147 ?_
        refine V_iald hc sP33 dX9_leaves_148 ?_
        refine V_iconst (v := (-1)) hc dX9_leaves_149 (by decide) ?_
        refine V_iast hc sP31 dX9_leaves_150 ?_
        refine V_bds (fun t8 => ?_)
        refine V_aload_n hc dX9_leaves_151 rfl 0 rfl ?_
        refine V_getr (C := RX9) (T := TX9) (N := 28) hc sP24 rfl qX9_leaves_RX9 7 rfl (by decide) kX9_leaves_32 rfl dX9_leaves_152 ?_
        refine V_iload_n hc dX9_leaves_155 rfl 2 rfl ?_
        refine V_iconst (v := 0) hc dX9_leaves_156 (by decide) ?_
        refine V_iast hc sP32 dX9_leaves_157 ?_
        refine V_bds (fun t9 => ?_)
        exact V_vret hc rfl rfl dX9_leaves_158
    · refine V_iconst (v := (-1)) hc dX9_leaves_115 (by decide) ?_
      refine V_goto (tgt := 125) hc dX9_leaves_116 (by decide) ?_
      refine V_iast hc sP34 dX9_leaves_125 ?_
      refine V_bds (fun t10 => ?_)
      refine V_aload_n hc dX9_leaves_126 rfl 0 rfl ?_
      refine V_getr (C := RX9) (T := TX9) (N := 28) hc sP24 rfl qX9_leaves_RX9 7 rfl (by decide) kX9_leaves_32 rfl dX9_leaves_127 ?_
      refine V_iload_n hc dX9_leaves_130 rfl 2 rfl ?_
      refine V_iald hc sP32 dX9_leaves_131 ?_
      refine V_iconst (v := 1) hc dX9_leaves_132 (by decide) ?_
      refine V_icmp_ne (tgt := 158) hc dX9_leaves_133 (by decide) ?_ ?_
      · exact V_vret hc rfl rfl dX9_leaves_158
      · refine V_aload_n hc dX9_leaves_136 rfl 0 rfl ?_
        refine V_getr (C := RX9) (T := TX9) (N := 28) hc sP24 rfl qX9_leaves_RX9 6 rfl (by decide) kX9_leaves_29 rfl dX9_leaves_137 ?_
        refine V_aload_n hc dX9_leaves_140 rfl 0 rfl ?_
        refine V_getr (C := RX9) (T := TX9) (N := 28) hc sP24 rfl qX9_leaves_RX9 8 rfl (by decide) kX9_leaves_35 rfl dX9_leaves_141 ?_
        refine V_bipush (v := 8) hc dX9_leaves_144 (by decide) ?_
        refine V_iload_n hc dX9_leaves_146 rfl 2 rfl ?_
        refine V_imul hc dX9_leaves_147 ?_
        refine V_iald hc sP33 dX9_leaves_148 ?_
        refine V_iconst (v := (-1)) hc dX9_leaves_149 (by decide) ?_
        refine V_iast hc sP31 dX9_leaves_150 ?_
        refine V_bds (fun t11 => ?_)
        refine V_aload_n hc dX9_leaves_151 rfl 0 rfl ?_
        refine V_getr (C := RX9) (T := TX9) (N := 28) hc sP24 rfl qX9_leaves_RX9 7 rfl (by decide) kX9_leaves_32 rfl dX9_leaves_152 ?_
        refine V_iload_n hc dX9_leaves_155 rfl 2 rfl ?_
        refine V_iconst (v := 0) hc dX9_leaves_156 (by decide) ?_
        refine V_iast hc sP32 dX9_leaves_157 ?_
        refine V_bds (fun t12 => ?_)
        exact V_vret hc rfl rfl dX9_leaves_158
  · exact V_vret hc rfl rfl dX9_leaves_11

theorem kX9_goes_7 : Cond.fieldLink RX9 7 RX9 (TX9 0).2.1 (TX9 0).2.2.1 ∈ wsX9_goes := by decide +kernel
theorem qX9_goes_RX9 : ∀ w ∈ u_ws RX9 TX9 28, w ∈ wsX9_goes := by
  first
  | exact fun _ h => List.mem_cons_of_mem _ (List.mem_append_right _ h)
  | exact fun _ h => List.mem_cons_of_mem _ (List.mem_append_left _ (List.mem_append_right _ h))
  | exact fun _ h => List.mem_cons_of_mem _ (List.mem_append_left _ (List.mem_append_left _ (List.mem_append_right _ h)))
  | exact fun _ h => List.mem_cons_of_mem _ (List.mem_append_left _ (List.mem_append_left _ (List.mem_append_left _ (List.mem_append_right _ h))))
  | exact fun _ h => List.mem_cons_of_mem _ (List.mem_append_left _ (List.mem_append_left _ (List.mem_append_left _ (List.mem_append_left _ (List.mem_append_right _ h)))))
  | decide +kernel
noncomputable def f_X9_goes (t : Sx) (a1 : Int32) : Option Sx := (f_X9_leaves t (a1)).bind fun r1 => gd (vp_in a1 40) (bd (pA r1 23 (ix a1) 0) fun t2 => some t2)
set_option maxRecDepth 20000 in
set_option maxHeartbeats 4000000 in
theorem c_X9_goes (l : Launch) (K : Kx) (t : Sx) (a1 : Int32) : CT l K yX9_goes wsX9_goes ({ frames := 1, cells := 0, slots := 0, locals := 24 } : Room) [.ref (K.2.2 24), .int a1] t (f_X9_goes t a1) kWV := by
  refine CT_of (cc := cX9_goes) (maxL := 2) (ret := none) (own := RX9) (by decide +kernel) rfl rfl (Nat.le_of_ble_eq_true rfl) ?_
  intro p e s m args below meth c hc
  refine V_sub (lv' := [(0, .ref (K.2.2 24)), (1, .int a1)]) [0, 1] rfl ?_
  unfold f_X9_goes
  refine V_aload_n hc dX9_goes_0 rfl 0 rfl ?_
  refine V_iload_n hc dX9_goes_1 rfl 1 rfl ?_
  refine V_callV_WV (Cn := RX9) (T := TX9) (N := 28) hc (c_X9_leaves l K t (a1)) sP24 rfl 1 gX9_goes_X9_leaves rfl ⟨rfl, rfl⟩ (by decide) ⟨Nat.le_of_ble_eq_true rfl, Nat.le_of_ble_eq_true rfl⟩ rfl rfl (Nat.le_of_ble_eq_true rfl) dX9_goes_2 (fun r1 => ?_)
  refine V_aload_n hc dX9_goes_5 rfl 0 rfl ?_
  refine V_getr (C := RX9) (T := TX9) (N := 28) hc sP24 rfl qX9_goes_RX9 0 rfl (by decide) kX9_goes_7 rfl dX9_goes_6 ?_
  refine V_iload_n hc dX9_goes_9 rfl 1 rfl ?_
  refine V_iconst (v := 0) hc dX9_goes_10 (by decide) ?_
  refine V_zastc hc sP25 (Or.inl rfl) dX9_goes_11 ?_
  refine V_bds (fun t2 => ?_)
  exact V_vret hc rfl rfl dX9_goes_12


noncomputable def f_X9_isField (t : Sx) (a0 : Int32) : Option Int32 := if a0 = 107 then some 1 else if a0 = 114 then some 1 else if a0 = 121 then some 1 else if a0 = 99 then some 1 else if a0 = 100 then some 1 else some 0
set_option maxRecDepth 20000 in
set_option maxHeartbeats 4000000 in
theorem c_X9_isField (l : Launch) (K : Kx) (t : Sx) (a0 : Int32) : CT l K yX9_isField wsX9_isField ({ frames := 0, cells := 0, slots := 0, locals := 0 } : Room) [.int a0] t (f_X9_isField t a0) (kRI t) := by
  refine CT_of (cc := cX9_isField) (maxL := 1) (ret := (some .boolean)) (own := RX9) (by decide +kernel) rfl rfl (Nat.le_of_ble_eq_true rfl) ?_
  intro p e s m args below meth c hc
  refine V_sub (lv' := [(0, .int a0)]) [0] rfl ?_
  unfold f_X9_isField
  refine V_iload_n hc dX9_isField_0 rfl 0 rfl ?_
  refine V_bipush (v := 107) hc dX9_isField_1 (by decide) ?_
  refine V_icmp_eq (tgt := 30) hc dX9_isField_3 (by decide) ?_ ?_
  · refine V_iconst (v := 1) hc dX9_isField_30 (by decide) ?_
    refine V_goto (tgt := 35) hc dX9_isField_31 (by decide) ?_
    exact V_nret hc rfl rfl rfl dX9_isField_35
  · refine V_iload_n hc dX9_isField_6 rfl 0 rfl ?_
    refine V_bipush (v := 114) hc dX9_isField_7 (by decide) ?_
    refine V_icmp_eq (tgt := 30) hc dX9_isField_9 (by decide) ?_ ?_
    · refine V_iconst (v := 1) hc dX9_isField_30 (by decide) ?_
      refine V_goto (tgt := 35) hc dX9_isField_31 (by decide) ?_
      exact V_nret hc rfl rfl rfl dX9_isField_35
    · refine V_iload_n hc dX9_isField_12 rfl 0 rfl ?_
      refine V_bipush (v := 121) hc dX9_isField_13 (by decide) ?_
      refine V_icmp_eq (tgt := 30) hc dX9_isField_15 (by decide) ?_ ?_
      · refine V_iconst (v := 1) hc dX9_isField_30 (by decide) ?_
        refine V_goto (tgt := 35) hc dX9_isField_31 (by decide) ?_
        exact V_nret hc rfl rfl rfl dX9_isField_35
      · refine V_iload_n hc dX9_isField_18 rfl 0 rfl ?_
        refine V_bipush (v := 99) hc dX9_isField_19 (by decide) ?_
        refine V_icmp_eq (tgt := 30) hc dX9_isField_21 (by decide) ?_ ?_
        · refine V_iconst (v := 1) hc dX9_isField_30 (by decide) ?_
          refine V_goto (tgt := 35) hc dX9_isField_31 (by decide) ?_
          exact V_nret hc rfl rfl rfl dX9_isField_35
        · refine V_iload_n hc dX9_isField_24 rfl 0 rfl ?_
          refine V_bipush (v := 100) hc dX9_isField_25 (by decide) ?_
          refine V_icmp_ne (tgt := 34) hc dX9_isField_27 (by decide) ?_ ?_
          · refine V_iconst (v := 0) hc dX9_isField_34 (by decide) ?_
            exact V_nret hc rfl rfl rfl dX9_isField_35
          · refine V_iconst (v := 1) hc dX9_isField_30 (by decide) ?_
            refine V_goto (tgt := 35) hc dX9_isField_31 (by decide) ?_
            exact V_nret hc rfl rfl rfl dX9_isField_35


noncomputable def f_X9_isDigit (t : Sx) (a0 : Int32) : Option Int32 := if a0 < 48 then some 0 else if 57 < a0 then some 0 else some 1
set_option maxRecDepth 20000 in
set_option maxHeartbeats 4000000 in
theorem c_X9_isDigit (l : Launch) (K : Kx) (t : Sx) (a0 : Int32) : CT l K yX9_isDigit wsX9_isDigit ({ frames := 0, cells := 0, slots := 0, locals := 0 } : Room) [.int a0] t (f_X9_isDigit t a0) (kRI t) := by
  refine CT_of (cc := cX9_isDigit) (maxL := 1) (ret := (some .boolean)) (own := RX9) (by decide +kernel) rfl rfl (Nat.le_of_ble_eq_true rfl) ?_
  intro p e s m args below meth c hc
  refine V_sub (lv' := [(0, .int a0)]) [0] rfl ?_
  unfold f_X9_isDigit
  refine V_iload_n hc dX9_isDigit_0 rfl 0 rfl ?_
  refine V_bipush (v := 48) hc dX9_isDigit_1 (by decide) ?_
  refine V_icmp_lt (tgt := 16) hc dX9_isDigit_3 (by decide) ?_ ?_
  · refine V_iconst (v := 0) hc dX9_isDigit_16 (by decide) ?_
    exact V_nret hc rfl rfl rfl dX9_isDigit_17
  · refine V_iload_n hc dX9_isDigit_6 rfl 0 rfl ?_
    refine V_bipush (v := 57) hc dX9_isDigit_7 (by decide) ?_
    refine V_icmp_gt (tgt := 16) hc dX9_isDigit_9 (by decide) ?_ ?_
    · refine V_iconst (v := 0) hc dX9_isDigit_16 (by decide) ?_
      exact V_nret hc rfl rfl rfl dX9_isDigit_17
    · refine V_iconst (v := 1) hc dX9_isDigit_12 (by decide) ?_
      refine V_goto (tgt := 17) hc dX9_isDigit_13 (by decide) ?_
      exact V_nret hc rfl rfl rfl dX9_isDigit_17


noncomputable def f_X9_behind (t : Sx) (a0 : Int32) (a1 : Int32) (a2 : Int32) : Option Int32 := if a1 = 38 then if a0 = 0 then if a1 = 33 then some 0 else if a1 = 40 then if 10 ≤ a2 then (f_X9_isField t (a1)).bind fun r3 => if r3 = 0 then if a1 = 116 then some 7 else if a1 = 97 then some 7 else if a1 = 115 then some 8 else if a1 = 118 then some 8 else if a1 = 117 then some 8 else if a1 = 98 then some 8 else some (-1) else some 1 else some 0 else (f_X9_isField t (a1)).bind fun r2 => if r2 = 0 then if a1 = 116 then some 7 else if a1 = 97 then some 7 else if a1 = 115 then some 8 else if a1 = 118 then some 8 else if a1 = 117 then some 8 else if a1 = 98 then some 8 else some (-1) else some 1 else if a0 = 1 then if a1 = 60 then some 2 else if a1 = 61 then some 2 else if a1 = 62 then some 2 else if a1 = 63 then some 8 else some (-1) else if a0 = 2 then (f_X9_isDigit t (a1)).bind fun r6 => if r6 = 0 then some (-1) else some 3 else if a0 = 3 then if 8 ≤ a0 then if (1 : Int32) = 0 then if a1 = 41 then if a2 ≤ 0 then some (-1) else some 8 else some (-1) else some 0 else (f_X9_isDigit t (a1)).bind fun r8 => if r8 = 0 then if (1 : Int32) = 0 then if a1 = 41 then if a2 ≤ 0 then some (-1) else some 8 else some (-1) else some 0 else if a0 = 6 then some 8 else some (a0 + 1) else if a0 = 4 then if 8 ≤ a0 then if (1 : Int32) = 0 then if a1 = 41 then if a2 ≤ 0 then some (-1) else some 8 else some (-1) else some 0 else (f_X9_isDigit t (a1)).bind fun r10 => if r10 = 0 then if (1 : Int32) = 0 then if a1 = 41 then if a2 ≤ 0 then some (-1) else some 8 else some (-1) else some 0 else if a0 = 6 then some 8 else some (a0 + 1) else if a0 = 5 then if 8 ≤ a0 then if (1 : Int32) = 0 then if a1 = 41 then if a2 ≤ 0 then some (-1) else some 8 else some (-1) else some 0 else (f_X9_isDigit t (a1)).bind fun r12 => if r12 = 0 then if (1 : Int32) = 0 then if a1 = 41 then if a2 ≤ 0 then some (-1) else some 8 else some (-1) else some 0 else if a0 = 6 then some 8 else some (a0 + 1) else if a0 = 6 then if 8 ≤ a0 then if (1 : Int32) = 0 then if a1 = 41 then if a2 ≤ 0 then some (-1) else some 8 else some (-1) else some 0 else (f_X9_isDigit t (a1)).bind fun r14 => if r14 = 0 then if (1 : Int32) = 0 then if a1 = 41 then if a2 ≤ 0 then some (-1) else some 8 else some (-1) else some 0 else if a0 = 6 then some 8 else some (a0 + 1) else if a0 = 7 then (f_X9_isDigit t (a1)).bind fun r16 => if r16 = 0 then some (-1) else some 8 else if 8 ≤ a0 then if (1 : Int32) = 0 then if a1 = 41 then if a2 ≤ 0 then some (-1) else some 8 else some (-1) else some 0 else (f_X9_isDigit t (a1)).bind fun r17 => if r17 = 0 then if (1 : Int32) = 0 then if a1 = 41 then if a2 ≤ 0 then some (-1) else some 8 else some (-1) else some 0 else if a0 = 6 then some 8 else some (a0 + 1) else if a1 = 124 then if a0 = 0 then if a1 = 33 then some 0 else if a1 = 40 then if 10 ≤ a2 then (f_X9_isField t (a1)).bind fun r37 => if r37 = 0 then if a1 = 116 then some 7 else if a1 = 97 then some 7 else if a1 = 115 then some 8 else if a1 = 118 then some 8 else if a1 = 117 then some 8 else if a1 = 98 then some 8 else some (-1) else some 1 else some 0 else (f_X9_isField t (a1)).bind fun r36 => if r36 = 0 then if a1 = 116 then some 7 else if a1 = 97 then some 7 else if a1 = 115 then some 8 else if a1 = 118 then some 8 else if a1 = 117 then some 8 else if a1 = 98 then some 8 else some (-1) else some 1 else if a0 = 1 then if a1 = 60 then some 2 else if a1 = 61 then some 2 else if a1 = 62 then some 2 else if a1 = 63 then some 8 else some (-1) else if a0 = 2 then (f_X9_isDigit t (a1)).bind fun r40 => if r40 = 0 then some (-1) else some 3 else if a0 = 3 then if 8 ≤ a0 then if (1 : Int32) = 0 then if a1 = 41 then if a2 ≤ 0 then some (-1) else some 8 else some (-1) else some 0 else (f_X9_isDigit t (a1)).bind fun r42 => if r42 = 0 then if (1 : Int32) = 0 then if a1 = 41 then if a2 ≤ 0 then some (-1) else some 8 else some (-1) else some 0 else if a0 = 6 then some 8 else some (a0 + 1) else if a0 = 4 then if 8 ≤ a0 then if (1 : Int32) = 0 then if a1 = 41 then if a2 ≤ 0 then some (-1) else some 8 else some (-1) else some 0 else (f_X9_isDigit t (a1)).bind fun r44 => if r44 = 0 then if (1 : Int32) = 0 then if a1 = 41 then if a2 ≤ 0 then some (-1) else some 8 else some (-1) else some 0 else if a0 = 6 then some 8 else some (a0 + 1) else if a0 = 5 then if 8 ≤ a0 then if (1 : Int32) = 0 then if a1 = 41 then if a2 ≤ 0 then some (-1) else some 8 else some (-1) else some 0 else (f_X9_isDigit t (a1)).bind fun r46 => if r46 = 0 then if (1 : Int32) = 0 then if a1 = 41 then if a2 ≤ 0 then some (-1) else some 8 else some (-1) else some 0 else if a0 = 6 then some 8 else some (a0 + 1) else if a0 = 6 then if 8 ≤ a0 then if (1 : Int32) = 0 then if a1 = 41 then if a2 ≤ 0 then some (-1) else some 8 else some (-1) else some 0 else (f_X9_isDigit t (a1)).bind fun r48 => if r48 = 0 then if (1 : Int32) = 0 then if a1 = 41 then if a2 ≤ 0 then some (-1) else some 8 else some (-1) else some 0 else if a0 = 6 then some 8 else some (a0 + 1) else if a0 = 7 then (f_X9_isDigit t (a1)).bind fun r50 => if r50 = 0 then some (-1) else some 8 else if 8 ≤ a0 then if (1 : Int32) = 0 then if a1 = 41 then if a2 ≤ 0 then some (-1) else some 8 else some (-1) else some 0 else (f_X9_isDigit t (a1)).bind fun r51 => if r51 = 0 then if (1 : Int32) = 0 then if a1 = 41 then if a2 ≤ 0 then some (-1) else some 8 else some (-1) else some 0 else if a0 = 6 then some 8 else some (a0 + 1) else if a0 = 0 then if a1 = 33 then some 0 else if a1 = 40 then if 10 ≤ a2 then (f_X9_isField t (a1)).bind fun r20 => if r20 = 0 then if a1 = 116 then some 7 else if a1 = 97 then some 7 else if a1 = 115 then some 8 else if a1 = 118 then some 8 else if a1 = 117 then some 8 else if a1 = 98 then some 8 else some (-1) else some 1 else some 0 else (f_X9_isField t (a1)).bind fun r19 => if r19 = 0 then if a1 = 116 then some 7 else if a1 = 97 then some 7 else if a1 = 115 then some 8 else if a1 = 118 then some 8 else if a1 = 117 then some 8 else if a1 = 98 then some 8 else some (-1) else some 1 else if a0 = 1 then if a1 = 60 then some 2 else if a1 = 61 then some 2 else if a1 = 62 then some 2 else if a1 = 63 then some 8 else some (-1) else if a0 = 2 then (f_X9_isDigit t (a1)).bind fun r23 => if r23 = 0 then some (-1) else some 3 else if a0 = 3 then if 8 ≤ a0 then if (0 : Int32) = 0 then if a1 = 41 then if a2 ≤ 0 then some (-1) else some 8 else some (-1) else some 0 else (f_X9_isDigit t (a1)).bind fun r25 => if r25 = 0 then if (0 : Int32) = 0 then if a1 = 41 then if a2 ≤ 0 then some (-1) else some 8 else some (-1) else some 0 else if a0 = 6 then some 8 else some (a0 + 1) else if a0 = 4 then if 8 ≤ a0 then if (0 : Int32) = 0 then if a1 = 41 then if a2 ≤ 0 then some (-1) else some 8 else some (-1) else some 0 else (f_X9_isDigit t (a1)).bind fun r27 => if r27 = 0 then if (0 : Int32) = 0 then if a1 = 41 then if a2 ≤ 0 then some (-1) else some 8 else some (-1) else some 0 else if a0 = 6 then some 8 else some (a0 + 1) else if a0 = 5 then if 8 ≤ a0 then if (0 : Int32) = 0 then if a1 = 41 then if a2 ≤ 0 then some (-1) else some 8 else some (-1) else some 0 else (f_X9_isDigit t (a1)).bind fun r29 => if r29 = 0 then if (0 : Int32) = 0 then if a1 = 41 then if a2 ≤ 0 then some (-1) else some 8 else some (-1) else some 0 else if a0 = 6 then some 8 else some (a0 + 1) else if a0 = 6 then if 8 ≤ a0 then if (0 : Int32) = 0 then if a1 = 41 then if a2 ≤ 0 then some (-1) else some 8 else some (-1) else some 0 else (f_X9_isDigit t (a1)).bind fun r31 => if r31 = 0 then if (0 : Int32) = 0 then if a1 = 41 then if a2 ≤ 0 then some (-1) else some 8 else some (-1) else some 0 else if a0 = 6 then some 8 else some (a0 + 1) else if a0 = 7 then (f_X9_isDigit t (a1)).bind fun r33 => if r33 = 0 then some (-1) else some 8 else if 8 ≤ a0 then if (0 : Int32) = 0 then if a1 = 41 then if a2 ≤ 0 then some (-1) else some 8 else some (-1) else some 0 else (f_X9_isDigit t (a1)).bind fun r34 => if r34 = 0 then if (0 : Int32) = 0 then if a1 = 41 then if a2 ≤ 0 then some (-1) else some 8 else some (-1) else some 0 else if a0 = 6 then some 8 else some (a0 + 1)
set_option maxRecDepth 20000 in
set_option maxHeartbeats 4000000 in
theorem c_X9_behind (l : Launch) (K : Kx) (t : Sx) (a0 : Int32) (a1 : Int32) (a2 : Int32) : CT l K yX9_behind wsX9_behind ({ frames := 1, cells := 0, slots := 0, locals := 20 } : Room) [.int a0, .int a1, .int a2] t (f_X9_behind t a0 a1 a2) (kRI t) := by
  refine CT_of (cc := cX9_behind) (maxL := 4) (ret := (some .int)) (own := RX9) (by decide +kernel) rfl rfl (Nat.le_of_ble_eq_true rfl) ?_
  intro p e s m args below meth c hc
  refine V_sub (lv' := [(0, .int a0), (1, .int a1), (2, .int a2)]) [0, 1, 2] rfl ?_
  unfold f_X9_behind
  refine V_iload_n hc dX9_behind_0 rfl 1 rfl ?_
  refine V_bipush (v := 38) hc dX9_behind_1 (by decide) ?_
  refine V_icmp_eq (tgt := 12) hc dX9_behind_3 (by decide) ?_ ?_
  · refine V_iconst (v := 1) hc dX9_behind_12 (by decide) ?_
    refine V_goto (tgt := 17) hc dX9_behind_13 (by decide) ?_
    refine V_istore_n (lv' := [(3, .int 1), (0, .int a0), (1, .int a1), (2, .int a2)]) hc dX9_behind_17 rfl (by decide) rfl ?_
    refine V_iload_n hc dX9_behind_18 rfl 1 rfl ?_
    refine V_ite (fun h1 => ?_) (fun h1 => ?_)
    · refine V_tsIn (tgt := 64) hc dX9_behind_19 (by rw [h1] <;> decide) (by rw [h1] <;> decide) (by rw [h1] <;> rfl) (by decide) ?_
      refine V_iload_n hc dX9_behind_64 rfl 2 rfl ?_
      refine V_bipush (v := 33) hc dX9_behind_65 (by decide) ?_
      refine V_icmp_eq (tgt := 82) hc dX9_behind_67 (by decide) ?_ ?_
      · refine V_iconst (v := 0) hc dX9_behind_82 (by decide) ?_
        exact V_iret hc rfl rfl dX9_behind_83
      · refine V_iload_n hc dX9_behind_70 rfl 2 rfl ?_
        refine V_bipush (v := 40) hc dX9_behind_71 (by decide) ?_
        refine V_icmp_ne (tgt := 84) hc dX9_behind_73 (by decide) ?_ ?_
        · refine V_iload_n hc dX9_behind_84 rfl 2 rfl ?_
          refine V_callS_RI hc (c_X9_isField l K t (a1)) 1 gX9_behind_X9_isField rfl ⟨rfl, rfl⟩ (by decide) ⟨Nat.le_of_ble_eq_true rfl, Nat.le_of_ble_eq_true rfl⟩ rfl rfl (Nat.le_of_ble_eq_true rfl) dX9_behind_85 (fun r2 => ?_)
          refine V_if_eq (tgt := 93) hc dX9_behind_88 (by decide) ?_ ?_
          · refine V_iload_n hc dX9_behind_93 rfl 2 rfl ?_
            refine V_bipush (v := 116) hc dX9_behind_94 (by decide) ?_
            refine V_icmp_eq (tgt := 105) hc dX9_behind_96 (by decide) ?_ ?_
            · refine V_bipush (v := 7) hc dX9_behind_105 (by decide) ?_
              refine V_goto (tgt := 140) hc dX9_behind_107 (by decide) ?_
              exact V_iret hc rfl rfl dX9_behind_140
            · refine V_iload_n hc dX9_behind_99 rfl 2 rfl ?_
              refine V_bipush (v := 97) hc dX9_behind_100 (by decide) ?_
              refine V_icmp_ne (tgt := 110) hc dX9_behind_102 (by decide) ?_ ?_
              · refine V_iload_n hc dX9_behind_110 rfl 2 rfl ?_
                refine V_bipush (v := 115) hc dX9_behind_111 (by decide) ?_
                refine V_icmp_eq (tgt := 134) hc dX9_behind_113 (by decide) ?_ ?_
                · refine V_bipush (v := 8) hc dX9_behind_134 (by decide) ?_
                  refine V_goto (tgt := 140) hc dX9_behind_136 (by decide) ?_
                  exact V_iret hc rfl rfl dX9_behind_140
                · refine V_iload_n hc dX9_behind_116 rfl 2 rfl ?_
                  refine V_bipush (v := 118) hc dX9_behind_117 (by decide) ?_
                  refine V_icmp_eq (tgt := 134) hc dX9_behind_119 (by decide) ?_ ?_
                  · refine V_bipush (v := 8) hc dX9_behind_134 (by decide) ?_
                    refine V_goto (tgt := 140) hc dX9_behind_136 (by decide) ?_
                    exact V_iret hc rfl rfl dX9_behind_140
                  · refine V_iload_n hc dX9_behind_122 rfl 2 rfl ?_
                    refine V_bipush (v := 117) hc dX9_behind_123 (by decide) ?_
                    refine V_icmp_eq (tgt := 134) hc dX9_behind_125 (by decide) ?_ ?_
                    · refine V_bipush (v := 8) hc dX9_behind_134 (by decide) ?_
                      refine V_goto (tgt := 140) hc dX9_behind_136 (by decide) ?_
                      exact V_iret hc rfl rfl dX9_behind_140
                    · refine V_iload_n hc dX9_behind_128 rfl 2 rfl ?_
                      refine V_bipush (v := 98) hc dX9_behind_129 (by decide) ?_
                      refine V_icmp_ne (tgt := 139) hc dX9_behind_131 (by decide) ?_ ?_
                      · refine V_iconst (v := (-1)) hc dX9_behind_139 (by decide) ?_
                        exact V_iret hc rfl rfl dX9_behind_140
                      · refine V_bipush (v := 8) hc dX9_behind_134 (by decide) ?_
                        refine V_goto (tgt := 140) hc dX9_behind_136 (by decide) ?_
                        exact V_iret hc rfl rfl dX9_behind_140
              · refine V_bipush (v := 7) hc dX9_behind_105 (by decide) ?_
                refine V_goto (tgt := 140) hc dX9_behind_107 (by decide) ?_
                exact V_iret hc rfl rfl dX9_behind_140
          · refine V_iconst (v := 1) hc dX9_behind_91 (by decide) ?_
            exact V_iret hc rfl rfl dX9_behind_92
        · refine V_iload_n hc dX9_behind_76 rfl 3 rfl ?_
          refine V_bipush (v := 10) hc dX9_behind_77 (by decide) ?_
          refine V_icmp_ge (tgt := 84) hc dX9_behind_79 (by decide) ?_ ?_
          · refine V_iload_n hc dX9_behind_84 rfl 2 rfl ?_
            refine V_callS_RI hc (c_X9_isField l K t (a1)) 1 gX9_behind_X9_isField rfl ⟨rfl, rfl⟩ (by decide) ⟨Nat.le_of_ble_eq_true rfl, Nat.le_of_ble_eq_true rfl⟩ rfl rfl (Nat.le_of_ble_eq_true rfl) dX9_behind_85 (fun r3 => ?_)
            refine V_if_eq (tgt := 93) hc dX9_behind_88 (by decide) ?_ ?_
            · refine V_iload_n hc dX9_behind_93 rfl 2 rfl ?_
              refine V_bipush (v := 116) hc dX9_behind_94 (by decide) ?_
              refine V_icmp_eq (tgt := 105) hc dX9_behind_96 (by decide) ?_ ?_
              · refine V_bipush (v := 7) hc dX9_behind_105 (by decide) ?_
                refine V_goto (tgt := 140) hc dX9_behind_107 (by decide) ?_
                exact V_iret hc rfl rfl dX9_behind_140
              · refine V_iload_n hc dX9_behind_99 rfl 2 rfl ?_
                refine V_bipush (v := 97) hc dX9_behind_100 (by decide) ?_
                refine V_icmp_ne (tgt := 110) hc dX9_behind_102 (by decide) ?_ ?_
                · refine V_iload_n hc dX9_behind_110 rfl 2 rfl ?_
                  refine V_bipush (v := 115) hc dX9_behind_111 (by decide) ?_
                  refine V_icmp_eq (tgt := 134) hc dX9_behind_113 (by decide) ?_ ?_
                  · refine V_bipush (v := 8) hc dX9_behind_134 (by decide) ?_
                    refine V_goto (tgt := 140) hc dX9_behind_136 (by decide) ?_
                    exact V_iret hc rfl rfl dX9_behind_140
                  · refine V_iload_n hc dX9_behind_116 rfl 2 rfl ?_
                    refine V_bipush (v := 118) hc dX9_behind_117 (by decide) ?_
                    refine V_icmp_eq (tgt := 134) hc dX9_behind_119 (by decide) ?_ ?_
                    · refine V_bipush (v := 8) hc dX9_behind_134 (by decide) ?_
                      refine V_goto (tgt := 140) hc dX9_behind_136 (by decide) ?_
                      exact V_iret hc rfl rfl dX9_behind_140
                    · refine V_iload_n hc dX9_behind_122 rfl 2 rfl ?_
                      refine V_bipush (v := 117) hc dX9_behind_123 (by decide) ?_
                      refine V_icmp_eq (tgt := 134) hc dX9_behind_125 (by decide) ?_ ?_
                      · refine V_bipush (v := 8) hc dX9_behind_134 (by decide) ?_
                        refine V_goto (tgt := 140) hc dX9_behind_136 (by decide) ?_
                        exact V_iret hc rfl rfl dX9_behind_140
                      · refine V_iload_n hc dX9_behind_128 rfl 2 rfl ?_
                        refine V_bipush (v := 98) hc dX9_behind_129 (by decide) ?_
                        refine V_icmp_ne (tgt := 139) hc dX9_behind_131 (by decide) ?_ ?_
                        · refine V_iconst (v := (-1)) hc dX9_behind_139 (by decide) ?_
                          exact V_iret hc rfl rfl dX9_behind_140
                        · refine V_bipush (v := 8) hc dX9_behind_134 (by decide) ?_
                          refine V_goto (tgt := 140) hc dX9_behind_136 (by decide) ?_
                          exact V_iret hc rfl rfl dX9_behind_140
                · refine V_bipush (v := 7) hc dX9_behind_105 (by decide) ?_
                  refine V_goto (tgt := 140) hc dX9_behind_107 (by decide) ?_
                  exact V_iret hc rfl rfl dX9_behind_140
            · refine V_iconst (v := 1) hc dX9_behind_91 (by decide) ?_
              exact V_iret hc rfl rfl dX9_behind_92
          · refine V_iconst (v := 0) hc dX9_behind_82 (by decide) ?_
            exact V_iret hc rfl rfl dX9_behind_83
    · refine V_ite (fun h4 => ?_) (fun h4 => ?_)
      · refine V_tsIn (tgt := 141) hc dX9_behind_19 (by rw [h4] <;> decide) (by rw [h4] <;> decide) (by rw [h4] <;> rfl) (by decide) ?_
        refine V_iload_n hc dX9_behind_141 rfl 2 rfl ?_
        refine V_bipush (v := 60) hc dX9_behind_142 (by decide) ?_
        refine V_icmp_eq (tgt := 159) hc dX9_behind_144 (by decide) ?_ ?_
        · refine V_iconst (v := 2) hc dX9_behind_159 (by decide) ?_
          refine V_goto (tgt := 175) hc dX9_behind_160 (by decide) ?_
          exact V_iret hc rfl rfl dX9_behind_175
        · refine V_iload_n hc dX9_behind_147 rfl 2 rfl ?_
          refine V_bipush (v := 61) hc dX9_behind_148 (by decide) ?_
          refine V_icmp_eq (tgt := 159) hc dX9_behind_150 (by decide) ?_ ?_
          · refine V_iconst (v := 2) hc dX9_behind_159 (by decide) ?_
            refine V_goto (tgt := 175) hc dX9_behind_160 (by decide) ?_
            exact V_iret hc rfl rfl dX9_behind_175
          · refine V_iload_n hc dX9_behind_153 rfl 2 rfl ?_
            refine V_bipush (v := 62) hc dX9_behind_154 (by decide) ?_
            refine V_icmp_ne (tgt := 163) hc dX9_behind_156 (by decide) ?_ ?_
            · refine V_iload_n hc dX9_behind_163 rfl 2 rfl ?_
              refine V_bipush (v := 63) hc dX9_behind_164 (by decide) ?_
              refine V_icmp_ne (tgt := 174) hc dX9_behind_166 (by decide) ?_ ?_
              · refine V_iconst (v := (-1)) hc dX9_behind_174 (by decide) ?_
                exact V_iret hc rfl rfl dX9_behind_175
              · refine V_bipush (v := 8) hc dX9_behind_169 (by decide) ?_
                refine V_goto (tgt := 175) hc dX9_behind_171 (by decide) ?_
                exact V_iret hc rfl rfl dX9_behind_175
            · refine V_iconst (v := 2) hc dX9_behind_159 (by decide) ?_
              refine V_goto (tgt := 175) hc dX9_behind_160 (by decide) ?_
              exact V_iret hc rfl rfl dX9_behind_175
      · refine V_ite (fun h5 => ?_) (fun h5 => ?_)
        · refine V_tsIn (tgt := 176) hc dX9_behind_19 (by rw [h5] <;> decide) (by rw [h5] <;> decide) (by rw [h5] <;> rfl) (by decide) ?_
          refine V_iload_n hc dX9_behind_176 rfl 2 rfl ?_
          refine V_callS_RI hc (c_X9_isDigit l K t (a1)) 1 gX9_behind_X9_isDigit rfl ⟨rfl, rfl⟩ (by decide) ⟨Nat.le_of_ble_eq_true rfl, Nat.le_of_ble_eq_true rfl⟩ rfl rfl (Nat.le_of_ble_eq_true rfl) dX9_behind_177 (fun r6 => ?_)
          refine V_if_eq (tgt := 187) hc dX9_behind_180 (by decide) ?_ ?_
          · refine V_iconst (v := (-1)) hc dX9_behind_187 (by decide) ?_
            exact V_iret hc rfl rfl dX9_behind_188
          · refine V_iconst (v := 3) hc dX9_behind_183 (by decide) ?_
            refine V_goto (tgt := 188) hc dX9_behind_184 (by decide) ?_
            exact V_iret hc rfl rfl dX9_behind_188
        · refine V_ite (fun h7 => ?_) (fun h7 => ?_)
          · refine V_tsIn (tgt := 203) hc dX9_behind_19 (by rw [h7] <;> decide) (by rw [h7] <;> decide) (by rw [h7] <;> rfl) (by decide) ?_
            refine V_iload_n hc dX9_behind_203 rfl 1 rfl ?_
            refine V_bipush (v := 8) hc dX9_behind_204 (by decide) ?_
            refine V_icmp_ge (tgt := 231) hc dX9_behind_206 (by decide) ?_ ?_
            · refine V_iload_n hc dX9_behind_231 rfl 0 rfl ?_
              refine V_if_eq (tgt := 239) hc dX9_behind_232 (by decide) ?_ ?_
              · refine V_iload_n hc dX9_behind_239 rfl 2 rfl ?_
                refine V_bipush (v := 41) hc dX9_behind_240 (by decide) ?_
                refine V_icmp_ne (tgt := 254) hc dX9_behind_242 (by decide) ?_ ?_
                · refine V_iconst (v := (-1)) hc dX9_behind_254 (by decide) ?_
                  exact V_iret hc rfl rfl dX9_behind_255
                · refine V_iload_n hc dX9_behind_245 rfl 3 rfl ?_
                  refine V_if_le (tgt := 254) hc dX9_behind_246 (by decide) ?_ ?_
                  · refine V_iconst (v := (-1)) hc dX9_behind_254 (by decide) ?_
                    exact V_iret hc rfl rfl dX9_behind_255
                  · refine V_bipush (v := 8) hc dX9_behind_249 (by decide) ?_
                    refine V_goto (tgt := 255) hc dX9_behind_251 (by decide) ?_
                    exact V_iret hc rfl rfl dX9_behind_255
              · refine V_iconst (v := 0) hc dX9_behind_235 (by decide) ?_
                refine V_goto (tgt := 255) hc dX9_behind_236 (by decide) ?_
                exact V_iret hc rfl rfl dX9_behind_255
            · refine V_iload_n hc dX9_behind_209 rfl 2 rfl ?_
              refine V_callS_RI hc (c_X9_isDigit l K t (a1)) 1 gX9_behind_X9_isDigit rfl ⟨rfl, rfl⟩ (by decide) ⟨Nat.le_of_ble_eq_true rfl, Nat.le_of_ble_eq_true rfl⟩ rfl rfl (Nat.le_of_ble_eq_true rfl) dX9_behind_210 (fun r8 => ?_)
              refine V_if_eq (tgt := 231) hc dX9_behind_213 (by decide) ?_ ?_
              · refine V_iload_n hc dX9_behind_231 rfl 0 rfl ?_
                refine V_if_eq (tgt := 239) hc dX9_behind_232 (by decide) ?_ ?_
                · refine V_iload_n hc dX9_behind_239 rfl 2 rfl ?_
                  refine V_bipush (v := 41) hc dX9_behind_240 (by decide) ?_
                  refine V_icmp_ne (tgt := 254) hc dX9_behind_242 (by decide) ?_ ?_
                  · refine V_iconst (v := (-1)) hc dX9_behind_254 (by decide) ?_
                    exact V_iret hc rfl rfl dX9_behind_255
                  · refine V_iload_n hc dX9_behind_245 rfl 3 rfl ?_
                    refine V_if_le (tgt := 254) hc dX9_behind_246 (by decide) ?_ ?_
                    · refine V_iconst (v := (-1)) hc dX9_behind_254 (by decide) ?_
                      exact V_iret hc rfl rfl dX9_behind_255
                    · refine V_bipush (v := 8) hc dX9_behind_249 (by decide) ?_
                      refine V_goto (tgt := 255) hc dX9_behind_251 (by decide) ?_
                      exact V_iret hc rfl rfl dX9_behind_255
                · refine V_iconst (v := 0) hc dX9_behind_235 (by decide) ?_
                  refine V_goto (tgt := 255) hc dX9_behind_236 (by decide) ?_
                  exact V_iret hc rfl rfl dX9_behind_255
              · refine V_iload_n hc dX9_behind_216 rfl 1 rfl ?_
                refine V_bipush (v := 6) hc dX9_behind_217 (by decide) ?_
                refine V_icmp_ne (tgt := 227) hc dX9_behind_219 (by decide) ?_ ?_
                · refine V_iload_n hc dX9_behind_227 rfl 1 rfl ?_
                  refine V_iconst (v := 1) hc dX9_behind_228 (by decide) ?_
                  refine V_iadd hc dX9_behind_229 ?_
                  exact V_iret hc rfl rfl dX9_behind_230
                · refine V_bipush (v := 8) hc dX9_behind_222 (by decide) ?_
                  refine V_goto (tgt := 230) hc dX9_behind_224 (by decide) ?_
                  exact V_iret hc rfl rfl dX9_behind_230
          · refine V_ite (fun h9 => ?_) (fun h9 => ?_)
            · refine V_tsIn (tgt := 203) hc dX9_behind_19 (by rw [h9] <;> decide) (by rw [h9] <;> decide) (by rw [h9] <;> rfl) (by decide) ?_
              refine V_iload_n hc dX9_behind_203 rfl 1 rfl ?_
              refine V_bipush (v := 8) hc dX9_behind_204 (by decide) ?_
              refine V_icmp_ge (tgt := 231) hc dX9_behind_206 (by decide) ?_ ?_
              · refine V_iload_n hc dX9_behind_231 rfl 0 rfl ?_
                refine V_if_eq (tgt := 239) hc dX9_behind_232 (by decide) ?_ ?_
                · refine V_iload_n hc dX9_behind_239 rfl 2 rfl ?_
                  refine V_bipush (v := 41) hc dX9_behind_240 (by decide) ?_
                  refine V_icmp_ne (tgt := 254) hc dX9_behind_242 (by decide) ?_ ?_
                  · refine V_iconst (v := (-1)) hc dX9_behind_254 (by decide) ?_
                    exact V_iret hc rfl rfl dX9_behind_255
                  · refine V_iload_n hc dX9_behind_245 rfl 3 rfl ?_
                    refine V_if_le (tgt := 254) hc dX9_behind_246 (by decide) ?_ ?_
                    · refine V_iconst (v := (-1)) hc dX9_behind_254 (by decide) ?_
                      exact V_iret hc rfl rfl dX9_behind_255
                    · refine V_bipush (v := 8) hc dX9_behind_249 (by decide) ?_
                      refine V_goto (tgt := 255) hc dX9_behind_251 (by decide) ?_
                      exact V_iret hc rfl rfl dX9_behind_255
                · refine V_iconst (v := 0) hc dX9_behind_235 (by decide) ?_
                  refine V_goto (tgt := 255) hc dX9_behind_236 (by decide) ?_
                  exact V_iret hc rfl rfl dX9_behind_255
              · refine V_iload_n hc dX9_behind_209 rfl 2 rfl ?_
                refine V_callS_RI hc (c_X9_isDigit l K t (a1)) 1 gX9_behind_X9_isDigit rfl ⟨rfl, rfl⟩ (by decide) ⟨Nat.le_of_ble_eq_true rfl, Nat.le_of_ble_eq_true rfl⟩ rfl rfl (Nat.le_of_ble_eq_true rfl) dX9_behind_210 (fun r10 => ?_)
                refine V_if_eq (tgt := 231) hc dX9_behind_213 (by decide) ?_ ?_
                · refine V_iload_n hc dX9_behind_231 rfl 0 rfl ?_
                  refine V_if_eq (tgt := 239) hc dX9_behind_232 (by decide) ?_ ?_
                  · refine V_iload_n hc dX9_behind_239 rfl 2 rfl ?_
                    refine V_bipush (v := 41) hc dX9_behind_240 (by decide) ?_
                    refine V_icmp_ne (tgt := 254) hc dX9_behind_242 (by decide) ?_ ?_
                    · refine V_iconst (v := (-1)) hc dX9_behind_254 (by decide) ?_
                      exact V_iret hc rfl rfl dX9_behind_255
                    · refine V_iload_n hc dX9_behind_245 rfl 3 rfl ?_
                      refine V_if_le (tgt := 254) hc dX9_behind_246 (by decide) ?_ ?_
                      · refine V_iconst (v := (-1)) hc dX9_behind_254 (by decide) ?_
                        exact V_iret hc rfl rfl dX9_behind_255
                      · refine V_bipush (v := 8) hc dX9_behind_249 (by decide) ?_
                        refine V_goto (tgt := 255) hc dX9_behind_251 (by decide) ?_
                        exact V_iret hc rfl rfl dX9_behind_255
                  · refine V_iconst (v := 0) hc dX9_behind_235 (by decide) ?_
                    refine V_goto (tgt := 255) hc dX9_behind_236 (by decide) ?_
                    exact V_iret hc rfl rfl dX9_behind_255
                · refine V_iload_n hc dX9_behind_216 rfl 1 rfl ?_
                  refine V_bipush (v := 6) hc dX9_behind_217 (by decide) ?_
                  refine V_icmp_ne (tgt := 227) hc dX9_behind_219 (by decide) ?_ ?_
                  · refine V_iload_n hc dX9_behind_227 rfl 1 rfl ?_
                    refine V_iconst (v := 1) hc dX9_behind_228 (by decide) ?_
                    refine V_iadd hc dX9_behind_229 ?_
                    exact V_iret hc rfl rfl dX9_behind_230
                  · refine V_bipush (v := 8) hc dX9_behind_222 (by decide) ?_
                    refine V_goto (tgt := 230) hc dX9_behind_224 (by decide) ?_
                    exact V_iret hc rfl rfl dX9_behind_230
            · refine V_ite (fun h11 => ?_) (fun h11 => ?_)
              · refine V_tsIn (tgt := 203) hc dX9_behind_19 (by rw [h11] <;> decide) (by rw [h11] <;> decide) (by rw [h11] <;> rfl) (by decide) ?_
                refine V_iload_n hc dX9_behind_203 rfl 1 rfl ?_
                refine V_bipush (v := 8) hc dX9_behind_204 (by decide) ?_
                refine V_icmp_ge (tgt := 231) hc dX9_behind_206 (by decide) ?_ ?_
                · refine V_iload_n hc dX9_behind_231 rfl 0 rfl ?_
                  refine V_if_eq (tgt := 239) hc dX9_behind_232 (by decide) ?_ ?_
                  · refine V_iload_n hc dX9_behind_239 rfl 2 rfl ?_
                    refine V_bipush (v := 41) hc dX9_behind_240 (by decide) ?_
                    refine V_icmp_ne (tgt := 254) hc dX9_behind_242 (by decide) ?_ ?_
                    · refine V_iconst (v := (-1)) hc dX9_behind_254 (by decide) ?_
                      exact V_iret hc rfl rfl dX9_behind_255
                    · refine V_iload_n hc dX9_behind_245 rfl 3 rfl ?_
                      refine V_if_le (tgt := 254) hc dX9_behind_246 (by decide) ?_ ?_
                      · refine V_iconst (v := (-1)) hc dX9_behind_254 (by decide) ?_
                        exact V_iret hc rfl rfl dX9_behind_255
                      · refine V_bipush (v := 8) hc dX9_behind_249 (by decide) ?_
                        refine V_goto (tgt := 255) hc dX9_behind_251 (by decide) ?_
                        exact V_iret hc rfl rfl dX9_behind_255
                  · refine V_iconst (v := 0) hc dX9_behind_235 (by decide) ?_
                    refine V_goto (tgt := 255) hc dX9_behind_236 (by decide) ?_
                    exact V_iret hc rfl rfl dX9_behind_255
                · refine V_iload_n hc dX9_behind_209 rfl 2 rfl ?_
                  refine V_callS_RI hc (c_X9_isDigit l K t (a1)) 1 gX9_behind_X9_isDigit rfl ⟨rfl, rfl⟩ (by decide) ⟨Nat.le_of_ble_eq_true rfl, Nat.le_of_ble_eq_true rfl⟩ rfl rfl (Nat.le_of_ble_eq_true rfl) dX9_behind_210 (fun r12 => ?_)
                  refine V_if_eq (tgt := 231) hc dX9_behind_213 (by decide) ?_ ?_
                  · refine V_iload_n hc dX9_behind_231 rfl 0 rfl ?_
                    refine V_if_eq (tgt := 239) hc dX9_behind_232 (by decide) ?_ ?_
                    · refine V_iload_n hc dX9_behind_239 rfl 2 rfl ?_
                      refine V_bipush (v := 41) hc dX9_behind_240 (by decide) ?_
                      refine V_icmp_ne (tgt := 254) hc dX9_behind_242 (by decide) ?_ ?_
                      · refine V_iconst (v := (-1)) hc dX9_behind_254 (by decide) ?_
                        exact V_iret hc rfl rfl dX9_behind_255
                      · refine V_iload_n hc dX9_behind_245 rfl 3 rfl ?_
                        refine V_if_le (tgt := 254) hc dX9_behind_246 (by decide) ?_ ?_
                        · refine V_iconst (v := (-1)) hc dX9_behind_254 (by decide) ?_
                          exact V_iret hc rfl rfl dX9_behind_255
                        · refine V_bipush (v := 8) hc dX9_behind_249 (by decide) ?_
                          refine V_goto (tgt := 255) hc dX9_behind_251 (by decide) ?_
                          exact V_iret hc rfl rfl dX9_behind_255
                    · refine V_iconst (v := 0) hc dX9_behind_235 (by decide) ?_
                      refine V_goto (tgt := 255) hc dX9_behind_236 (by decide) ?_
                      exact V_iret hc rfl rfl dX9_behind_255
                  · refine V_iload_n hc dX9_behind_216 rfl 1 rfl ?_
                    refine V_bipush (v := 6) hc dX9_behind_217 (by decide) ?_
                    refine V_icmp_ne (tgt := 227) hc dX9_behind_219 (by decide) ?_ ?_
                    · refine V_iload_n hc dX9_behind_227 rfl 1 rfl ?_
                      refine V_iconst (v := 1) hc dX9_behind_228 (by decide) ?_
                      refine V_iadd hc dX9_behind_229 ?_
                      exact V_iret hc rfl rfl dX9_behind_230
                    · refine V_bipush (v := 8) hc dX9_behind_222 (by decide) ?_
                      refine V_goto (tgt := 230) hc dX9_behind_224 (by decide) ?_
                      exact V_iret hc rfl rfl dX9_behind_230
              · refine V_ite (fun h13 => ?_) (fun h13 => ?_)
                · refine V_tsIn (tgt := 203) hc dX9_behind_19 (by rw [h13] <;> decide) (by rw [h13] <;> decide) (by rw [h13] <;> rfl) (by decide) ?_
                  refine V_iload_n hc dX9_behind_203 rfl 1 rfl ?_
                  refine V_bipush (v := 8) hc dX9_behind_204 (by decide) ?_
                  refine V_icmp_ge (tgt := 231) hc dX9_behind_206 (by decide) ?_ ?_
                  · refine V_iload_n hc dX9_behind_231 rfl 0 rfl ?_
                    refine V_if_eq (tgt := 239) hc dX9_behind_232 (by decide) ?_ ?_
                    · refine V_iload_n hc dX9_behind_239 rfl 2 rfl ?_
                      refine V_bipush (v := 41) hc dX9_behind_240 (by decide) ?_
                      refine V_icmp_ne (tgt := 254) hc dX9_behind_242 (by decide) ?_ ?_
                      · refine V_iconst (v := (-1)) hc dX9_behind_254 (by decide) ?_
                        exact V_iret hc rfl rfl dX9_behind_255
                      · refine V_iload_n hc dX9_behind_245 rfl 3 rfl ?_
                        refine V_if_le (tgt := 254) hc dX9_behind_246 (by decide) ?_ ?_
                        · refine V_iconst (v := (-1)) hc dX9_behind_254 (by decide) ?_
                          exact V_iret hc rfl rfl dX9_behind_255
                        · refine V_bipush (v := 8) hc dX9_behind_249 (by decide) ?_
                          refine V_goto (tgt := 255) hc dX9_behind_251 (by decide) ?_
                          exact V_iret hc rfl rfl dX9_behind_255
                    · refine V_iconst (v := 0) hc dX9_behind_235 (by decide) ?_
                      refine V_goto (tgt := 255) hc dX9_behind_236 (by decide) ?_
                      exact V_iret hc rfl rfl dX9_behind_255
                  · refine V_iload_n hc dX9_behind_209 rfl 2 rfl ?_
                    refine V_callS_RI hc (c_X9_isDigit l K t (a1)) 1 gX9_behind_X9_isDigit rfl ⟨rfl, rfl⟩ (by decide) ⟨Nat.le_of_ble_eq_true rfl, Nat.le_of_ble_eq_true rfl⟩ rfl rfl (Nat.le_of_ble_eq_true rfl) dX9_behind_210 (fun r14 => ?_)
                    refine V_if_eq (tgt := 231) hc dX9_behind_213 (by decide) ?_ ?_
                    · refine V_iload_n hc dX9_behind_231 rfl 0 rfl ?_
                      refine V_if_eq (tgt := 239) hc dX9_behind_232 (by decide) ?_ ?_
                      · refine V_iload_n hc dX9_behind_239 rfl 2 rfl ?_
                        refine V_bipush (v := 41) hc dX9_behind_240 (by decide) ?_
                        refine V_icmp_ne (tgt := 254) hc dX9_behind_242 (by decide) ?_ ?_
                        · refine V_iconst (v := (-1)) hc dX9_behind_254 (by decide) ?_
                          exact V_iret hc rfl rfl dX9_behind_255
                        · refine V_iload_n hc dX9_behind_245 rfl 3 rfl ?_
                          refine V_if_le (tgt := 254) hc dX9_behind_246 (by decide) ?_ ?_
                          · refine V_iconst (v := (-1)) hc dX9_behind_254 (by decide) ?_
                            exact V_iret hc rfl rfl dX9_behind_255
                          · refine V_bipush (v := 8) hc dX9_behind_249 (by decide) ?_
                            refine V_goto (tgt := 255) hc dX9_behind_251 (by decide) ?_
                            exact V_iret hc rfl rfl dX9_behind_255
                      · refine V_iconst (v := 0) hc dX9_behind_235 (by decide) ?_
                        refine V_goto (tgt := 255) hc dX9_behind_236 (by decide) ?_
                        exact V_iret hc rfl rfl dX9_behind_255
                    · refine V_iload_n hc dX9_behind_216 rfl 1 rfl ?_
                      refine V_bipush (v := 6) hc dX9_behind_217 (by decide) ?_
                      refine V_icmp_ne (tgt := 227) hc dX9_behind_219 (by decide) ?_ ?_
                      · refine V_iload_n hc dX9_behind_227 rfl 1 rfl ?_
                        refine V_iconst (v := 1) hc dX9_behind_228 (by decide) ?_
                        refine V_iadd hc dX9_behind_229 ?_
                        exact V_iret hc rfl rfl dX9_behind_230
                      · refine V_bipush (v := 8) hc dX9_behind_222 (by decide) ?_
                        refine V_goto (tgt := 230) hc dX9_behind_224 (by decide) ?_
                        exact V_iret hc rfl rfl dX9_behind_230
                · refine V_ite (fun h15 => ?_) (fun h15 => ?_)
                  · refine V_tsIn (tgt := 189) hc dX9_behind_19 (by rw [h15] <;> decide) (by rw [h15] <;> decide) (by rw [h15] <;> rfl) (by decide) ?_
                    refine V_iload_n hc dX9_behind_189 rfl 2 rfl ?_
                    refine V_callS_RI hc (c_X9_isDigit l K t (a1)) 1 gX9_behind_X9_isDigit rfl ⟨rfl, rfl⟩ (by decide) ⟨Nat.le_of_ble_eq_true rfl, Nat.le_of_ble_eq_true rfl⟩ rfl rfl (Nat.le_of_ble_eq_true rfl) dX9_behind_190 (fun r16 => ?_)
                    refine V_if_eq (tgt := 201) hc dX9_behind_193 (by decide) ?_ ?_
                    · refine V_iconst (v := (-1)) hc dX9_behind_201 (by decide) ?_
                      exact V_iret hc rfl rfl dX9_behind_202
                    · refine V_bipush (v := 8) hc dX9_behind_196 (by decide) ?_
                      refine V_goto (tgt := 202) hc dX9_behind_198 (by decide) ?_
                      exact V_iret hc rfl rfl dX9_behind_202
                  · refine V_tsOut (tgt := 203) hc dX9_behind_19 (ts_out (lo := 0) (n := 8) (fun i hi => match i, hi with | 0, _ => h1 | 1, _ => h4 | 2, _ => h5 | 3, _ => h7 | 4, _ => h9 | 5, _ => h11 | 6, _ => h13 | 7, _ => h15 | _ + 8, hi => absurd hi (by omega))) (by decide) ?_
                    refine V_iload_n hc dX9_behind_203 rfl 1 rfl ?_
                    refine V_bipush (v := 8) hc dX9_behind_204 (by decide) ?_
                    refine V_icmp_ge (tgt := 231) hc dX9_behind_206 (by decide) ?_ ?_
                    · refine V_iload_n hc dX9_behind_231 rfl 0 rfl ?_
                      refine V_if_eq (tgt := 239) hc dX9_behind_232 (by decide) ?_ ?_
                      · refine V_iload_n hc dX9_behind_239 rfl 2 rfl ?_
                        refine V_bipush (v := 41) hc dX9_behind_240 (by decide) ?_
                        refine V_icmp_ne (tgt := 254) hc dX9_behind_242 (by decide) ?_ ?_
                        · refine V_iconst (v := (-1)) hc dX9_behind_254 (by decide) ?_
                          exact V_iret hc rfl rfl dX9_behind_255
                        · refine V_iload_n hc dX9_behind_245 rfl 3 rfl ?_
                          refine V_if_le (tgt := 254) hc dX9_behind_246 (by decide) ?_ ?_
                          · refine V_iconst (v := (-1)) hc dX9_behind_254 (by decide) ?_
                            exact V_iret hc rfl rfl dX9_behind_255
                          · refine V_bipush (v := 8) hc dX9_behind_249 (by decide) ?_
                            refine V_goto (tgt := 255) hc dX9_behind_251 (by decide) ?_
                            exact V_iret hc rfl rfl dX9_behind_255
                      · refine V_iconst (v := 0) hc dX9_behind_235 (by decide) ?_
                        refine V_goto (tgt := 255) hc dX9_behind_236 (by decide) ?_
                        exact V_iret hc rfl rfl dX9_behind_255
                    · refine V_iload_n hc dX9_behind_209 rfl 2 rfl ?_
                      refine V_callS_RI hc (c_X9_isDigit l K t (a1)) 1 gX9_behind_X9_isDigit rfl ⟨rfl, rfl⟩ (by decide) ⟨Nat.le_of_ble_eq_true rfl, Nat.le_of_ble_eq_true rfl⟩ rfl rfl (Nat.le_of_ble_eq_true rfl) dX9_behind_210 (fun r17 => ?_)
                      refine V_if_eq (tgt := 231) hc dX9_behind_213 (by decide) ?_ ?_
                      · refine V_iload_n hc dX9_behind_231 rfl 0 rfl ?_
                        refine V_if_eq (tgt := 239) hc dX9_behind_232 (by decide) ?_ ?_
                        · refine V_iload_n hc dX9_behind_239 rfl 2 rfl ?_
                          refine V_bipush (v := 41) hc dX9_behind_240 (by decide) ?_
                          refine V_icmp_ne (tgt := 254) hc dX9_behind_242 (by decide) ?_ ?_
                          · refine V_iconst (v := (-1)) hc dX9_behind_254 (by decide) ?_
                            exact V_iret hc rfl rfl dX9_behind_255
                          · refine V_iload_n hc dX9_behind_245 rfl 3 rfl ?_
                            refine V_if_le (tgt := 254) hc dX9_behind_246 (by decide) ?_ ?_
                            · refine V_iconst (v := (-1)) hc dX9_behind_254 (by decide) ?_
                              exact V_iret hc rfl rfl dX9_behind_255
                            · refine V_bipush (v := 8) hc dX9_behind_249 (by decide) ?_
                              refine V_goto (tgt := 255) hc dX9_behind_251 (by decide) ?_
                              exact V_iret hc rfl rfl dX9_behind_255
                        · refine V_iconst (v := 0) hc dX9_behind_235 (by decide) ?_
                          refine V_goto (tgt := 255) hc dX9_behind_236 (by decide) ?_
                          exact V_iret hc rfl rfl dX9_behind_255
                      · refine V_iload_n hc dX9_behind_216 rfl 1 rfl ?_
                        refine V_bipush (v := 6) hc dX9_behind_217 (by decide) ?_
                        refine V_icmp_ne (tgt := 227) hc dX9_behind_219 (by decide) ?_ ?_
                        · refine V_iload_n hc dX9_behind_227 rfl 1 rfl ?_
                          refine V_iconst (v := 1) hc dX9_behind_228 (by decide) ?_
                          refine V_iadd hc dX9_behind_229 ?_
                          exact V_iret hc rfl rfl dX9_behind_230
                        · refine V_bipush (v := 8) hc dX9_behind_222 (by decide) ?_
                          refine V_goto (tgt := 230) hc dX9_behind_224 (by decide) ?_
                          exact V_iret hc rfl rfl dX9_behind_230
  · refine V_iload_n hc dX9_behind_6 rfl 1 rfl ?_
    refine V_bipush (v := 124) hc dX9_behind_7 (by decide) ?_
    refine V_icmp_ne (tgt := 16) hc dX9_behind_9 (by decide) ?_ ?_
    · refine V_iconst (v := 0) hc dX9_behind_16 (by decide) ?_
      refine V_istore_n (lv' := [(3, .int 0), (0, .int a0), (1, .int a1), (2, .int a2)]) hc dX9_behind_17 rfl (by decide) rfl ?_
      refine V_iload_n hc dX9_behind_18 rfl 1 rfl ?_
      refine V_ite (fun h18 => ?_) (fun h18 => ?_)
      · refine V_tsIn (tgt := 64) hc dX9_behind_19 (by rw [h18] <;> decide) (by rw [h18] <;> decide) (by rw [h18] <;> rfl) (by decide) ?_
        refine V_iload_n hc dX9_behind_64 rfl 2 rfl ?_
        refine V_bipush (v := 33) hc dX9_behind_65 (by decide) ?_
        refine V_icmp_eq (tgt := 82) hc dX9_behind_67 (by decide) ?_ ?_
        · refine V_iconst (v := 0) hc dX9_behind_82 (by decide) ?_
          exact V_iret hc rfl rfl dX9_behind_83
        · refine V_iload_n hc dX9_behind_70 rfl 2 rfl ?_
          refine V_bipush (v := 40) hc dX9_behind_71 (by decide) ?_
          refine V_icmp_ne (tgt := 84) hc dX9_behind_73 (by decide) ?_ ?_
          · refine V_iload_n hc dX9_behind_84 rfl 2 rfl ?_
            refine V_callS_RI hc (c_X9_isField l K t (a1)) 1 gX9_behind_X9_isField rfl ⟨rfl, rfl⟩ (by decide) ⟨Nat.le_of_ble_eq_true rfl, Nat.le_of_ble_eq_true rfl⟩ rfl rfl (Nat.le_of_ble_eq_true rfl) dX9_behind_85 (fun r19 => ?_)
            refine V_if_eq (tgt := 93) hc dX9_behind_88 (by decide) ?_ ?_
            · refine V_iload_n hc dX9_behind_93 rfl 2 rfl ?_
              refine V_bipush (v := 116) hc dX9_behind_94 (by decide) ?_
              refine V_icmp_eq (tgt := 105) hc dX9_behind_96 (by decide) ?_ ?_
              · refine V_bipush (v := 7) hc dX9_behind_105 (by decide) ?_
                refine V_goto (tgt := 140) hc dX9_behind_107 (by decide) ?_
                exact V_iret hc rfl rfl dX9_behind_140
              · refine V_iload_n hc dX9_behind_99 rfl 2 rfl ?_
                refine V_bipush (v := 97) hc dX9_behind_100 (by decide) ?_
                refine V_icmp_ne (tgt := 110) hc dX9_behind_102 (by decide) ?_ ?_
                · refine V_iload_n hc dX9_behind_110 rfl 2 rfl ?_
                  refine V_bipush (v := 115) hc dX9_behind_111 (by decide) ?_
                  refine V_icmp_eq (tgt := 134) hc dX9_behind_113 (by decide) ?_ ?_
                  · refine V_bipush (v := 8) hc dX9_behind_134 (by decide) ?_
                    refine V_goto (tgt := 140) hc dX9_behind_136 (by decide) ?_
                    exact V_iret hc rfl rfl dX9_behind_140
                  · refine V_iload_n hc dX9_behind_116 rfl 2 rfl ?_
                    refine V_bipush (v := 118) hc dX9_behind_117 (by decide) ?_
                    refine V_icmp_eq (tgt := 134) hc dX9_behind_119 (by decide) ?_ ?_
                    · refine V_bipush (v := 8) hc dX9_behind_134 (by decide) ?_
                      refine V_goto (tgt := 140) hc dX9_behind_136 (by decide) ?_
                      exact V_iret hc rfl rfl dX9_behind_140
                    · refine V_iload_n hc dX9_behind_122 rfl 2 rfl ?_
                      refine V_bipush (v := 117) hc dX9_behind_123 (by decide) ?_
                      refine V_icmp_eq (tgt := 134) hc dX9_behind_125 (by decide) ?_ ?_
                      · refine V_bipush (v := 8) hc dX9_behind_134 (by decide) ?_
                        refine V_goto (tgt := 140) hc dX9_behind_136 (by decide) ?_
                        exact V_iret hc rfl rfl dX9_behind_140
                      · refine V_iload_n hc dX9_behind_128 rfl 2 rfl ?_
                        refine V_bipush (v := 98) hc dX9_behind_129 (by decide) ?_
                        refine V_icmp_ne (tgt := 139) hc dX9_behind_131 (by decide) ?_ ?_
                        · refine V_iconst (v := (-1)) hc dX9_behind_139 (by decide) ?_
                          exact V_iret hc rfl rfl dX9_behind_140
                        · refine V_bipush (v := 8) hc dX9_behind_134 (by decide) ?_
                          refine V_goto (tgt := 140) hc dX9_behind_136 (by decide) ?_
                          exact V_iret hc rfl rfl dX9_behind_140
                · refine V_bipush (v := 7) hc dX9_behind_105 (by decide) ?_
                  refine V_goto (tgt := 140) hc dX9_behind_107 (by decide) ?_
                  exact V_iret hc rfl rfl dX9_behind_140
            · refine V_iconst (v := 1) hc dX9_behind_91 (by decide) ?_
              exact V_iret hc rfl rfl dX9_behind_92
          · refine V_iload_n hc dX9_behind_76 rfl 3 rfl ?_
            refine V_bipush (v := 10) hc dX9_behind_77 (by decide) ?_
            refine V_icmp_ge (tgt := 84) hc dX9_behind_79 (by decide) ?_ ?_
            · refine V_iload_n hc dX9_behind_84 rfl 2 rfl ?_
              refine V_callS_RI hc (c_X9_isField l K t (a1)) 1 gX9_behind_X9_isField rfl ⟨rfl, rfl⟩ (by decide) ⟨Nat.le_of_ble_eq_true rfl, Nat.le_of_ble_eq_true rfl⟩ rfl rfl (Nat.le_of_ble_eq_true rfl) dX9_behind_85 (fun r20 => ?_)
              refine V_if_eq (tgt := 93) hc dX9_behind_88 (by decide) ?_ ?_
              · refine V_iload_n hc dX9_behind_93 rfl 2 rfl ?_
                refine V_bipush (v := 116) hc dX9_behind_94 (by decide) ?_
                refine V_icmp_eq (tgt := 105) hc dX9_behind_96 (by decide) ?_ ?_
                · refine V_bipush (v := 7) hc dX9_behind_105 (by decide) ?_
                  refine V_goto (tgt := 140) hc dX9_behind_107 (by decide) ?_
                  exact V_iret hc rfl rfl dX9_behind_140
                · refine V_iload_n hc dX9_behind_99 rfl 2 rfl ?_
                  refine V_bipush (v := 97) hc dX9_behind_100 (by decide) ?_
                  refine V_icmp_ne (tgt := 110) hc dX9_behind_102 (by decide) ?_ ?_
                  · refine V_iload_n hc dX9_behind_110 rfl 2 rfl ?_
                    refine V_bipush (v := 115) hc dX9_behind_111 (by decide) ?_
                    refine V_icmp_eq (tgt := 134) hc dX9_behind_113 (by decide) ?_ ?_
                    · refine V_bipush (v := 8) hc dX9_behind_134 (by decide) ?_
                      refine V_goto (tgt := 140) hc dX9_behind_136 (by decide) ?_
                      exact V_iret hc rfl rfl dX9_behind_140
                    · refine V_iload_n hc dX9_behind_116 rfl 2 rfl ?_
                      refine V_bipush (v := 118) hc dX9_behind_117 (by decide) ?_
                      refine V_icmp_eq (tgt := 134) hc dX9_behind_119 (by decide) ?_ ?_
                      · refine V_bipush (v := 8) hc dX9_behind_134 (by decide) ?_
                        refine V_goto (tgt := 140) hc dX9_behind_136 (by decide) ?_
                        exact V_iret hc rfl rfl dX9_behind_140
                      · refine V_iload_n hc dX9_behind_122 rfl 2 rfl ?_
                        refine V_bipush (v := 117) hc dX9_behind_123 (by decide) ?_
                        refine V_icmp_eq (tgt := 134) hc dX9_behind_125 (by decide) ?_ ?_
                        · refine V_bipush (v := 8) hc dX9_behind_134 (by decide) ?_
                          refine V_goto (tgt := 140) hc dX9_behind_136 (by decide) ?_
                          exact V_iret hc rfl rfl dX9_behind_140
                        · refine V_iload_n hc dX9_behind_128 rfl 2 rfl ?_
                          refine V_bipush (v := 98) hc dX9_behind_129 (by decide) ?_
                          refine V_icmp_ne (tgt := 139) hc dX9_behind_131 (by decide) ?_ ?_
                          · refine V_iconst (v := (-1)) hc dX9_behind_139 (by decide) ?_
                            exact V_iret hc rfl rfl dX9_behind_140
                          · refine V_bipush (v := 8) hc dX9_behind_134 (by decide) ?_
                            refine V_goto (tgt := 140) hc dX9_behind_136 (by decide) ?_
                            exact V_iret hc rfl rfl dX9_behind_140
                  · refine V_bipush (v := 7) hc dX9_behind_105 (by decide) ?_
                    refine V_goto (tgt := 140) hc dX9_behind_107 (by decide) ?_
                    exact V_iret hc rfl rfl dX9_behind_140
              · refine V_iconst (v := 1) hc dX9_behind_91 (by decide) ?_
                exact V_iret hc rfl rfl dX9_behind_92
            · refine V_iconst (v := 0) hc dX9_behind_82 (by decide) ?_
              exact V_iret hc rfl rfl dX9_behind_83
      · refine V_ite (fun h21 => ?_) (fun h21 => ?_)
        · refine V_tsIn (tgt := 141) hc dX9_behind_19 (by rw [h21] <;> decide) (by rw [h21] <;> decide) (by rw [h21] <;> rfl) (by decide) ?_
          refine V_iload_n hc dX9_behind_141 rfl 2 rfl ?_
          refine V_bipush (v := 60) hc dX9_behind_142 (by decide) ?_
          refine V_icmp_eq (tgt := 159) hc dX9_behind_144 (by decide) ?_ ?_
          · refine V_iconst (v := 2) hc dX9_behind_159 (by decide) ?_
            refine V_goto (tgt := 175) hc dX9_behind_160 (by decide) ?_
            exact V_iret hc rfl rfl dX9_behind_175
          · refine V_iload_n hc dX9_behind_147 rfl 2 rfl ?_
            refine V_bipush (v := 61) hc dX9_behind_148 (by decide) ?_
            refine V_icmp_eq (tgt := 159) hc dX9_behind_150 (by decide) ?_ ?_
            · refine V_iconst (v := 2) hc dX9_behind_159 (by decide) ?_
              refine V_goto (tgt := 175) hc dX9_behind_160 (by decide) ?_
              exact V_iret hc rfl rfl dX9_behind_175
            · refine V_iload_n hc dX9_behind_153 rfl 2 rfl ?_
              refine V_bipush (v := 62) hc dX9_behind_154 (by decide) ?_
              refine V_icmp_ne (tgt := 163) hc dX9_behind_156 (by decide) ?_ ?_
              · refine V_iload_n hc dX9_behind_163 rfl 2 rfl ?_
                refine V_bipush (v := 63) hc dX9_behind_164 (by decide) ?_
                refine V_icmp_ne (tgt := 174) hc dX9_behind_166 (by decide) ?_ ?_
                · refine V_iconst (v := (-1)) hc dX9_behind_174 (by decide) ?_
                  exact V_iret hc rfl rfl dX9_behind_175
                · refine V_bipush (v := 8) hc dX9_behind_169 (by decide) ?_
                  refine V_goto (tgt := 175) hc dX9_behind_171 (by decide) ?_
                  exact V_iret hc rfl rfl dX9_behind_175
              · refine V_iconst (v := 2) hc dX9_behind_159 (by decide) ?_
                refine V_goto (tgt := 175) hc dX9_behind_160 (by decide) ?_
                exact V_iret hc rfl rfl dX9_behind_175
        · refine V_ite (fun h22 => ?_) (fun h22 => ?_)
          · refine V_tsIn (tgt := 176) hc dX9_behind_19 (by rw [h22] <;> decide) (by rw [h22] <;> decide) (by rw [h22] <;> rfl) (by decide) ?_
            refine V_iload_n hc dX9_behind_176 rfl 2 rfl ?_
            refine V_callS_RI hc (c_X9_isDigit l K t (a1)) 1 gX9_behind_X9_isDigit rfl ⟨rfl, rfl⟩ (by decide) ⟨Nat.le_of_ble_eq_true rfl, Nat.le_of_ble_eq_true rfl⟩ rfl rfl (Nat.le_of_ble_eq_true rfl) dX9_behind_177 (fun r23 => ?_)
            refine V_if_eq (tgt := 187) hc dX9_behind_180 (by decide) ?_ ?_
            · refine V_iconst (v := (-1)) hc dX9_behind_187 (by decide) ?_
              exact V_iret hc rfl rfl dX9_behind_188
            · refine V_iconst (v := 3) hc dX9_behind_183 (by decide) ?_
              refine V_goto (tgt := 188) hc dX9_behind_184 (by decide) ?_
              exact V_iret hc rfl rfl dX9_behind_188
          · refine V_ite (fun h24 => ?_) (fun h24 => ?_)
            · refine V_tsIn (tgt := 203) hc dX9_behind_19 (by rw [h24] <;> decide) (by rw [h24] <;> decide) (by rw [h24] <;> rfl) (by decide) ?_
              refine V_iload_n hc dX9_behind_203 rfl 1 rfl ?_
              refine V_bipush (v := 8) hc dX9_behind_204 (by decide) ?_
              refine V_icmp_ge (tgt := 231) hc dX9_behind_206 (by decide) ?_ ?_
              · refine V_iload_n hc dX9_behind_231 rfl 0 rfl ?_
                refine V_if_eq (tgt := 239) hc dX9_behind_232 (by decide) ?_ ?_
                · refine V_iload_n hc dX9_behind_239 rfl 2 rfl ?_
                  refine V_bipush (v := 41) hc dX9_behind_240 (by decide) ?_
                  refine V_icmp_ne (tgt := 254) hc dX9_behind_242 (by decide) ?_ ?_
                  · refine V_iconst (v := (-1)) hc dX9_behind_254 (by decide) ?_
                    exact V_iret hc rfl rfl dX9_behind_255
                  · refine V_iload_n hc dX9_behind_245 rfl 3 rfl ?_
                    refine V_if_le (tgt := 254) hc dX9_behind_246 (by decide) ?_ ?_
                    · refine V_iconst (v := (-1)) hc dX9_behind_254 (by decide) ?_
                      exact V_iret hc rfl rfl dX9_behind_255
                    · refine V_bipush (v := 8) hc dX9_behind_249 (by decide) ?_
                      refine V_goto (tgt := 255) hc dX9_behind_251 (by decide) ?_
                      exact V_iret hc rfl rfl dX9_behind_255
                · refine V_iconst (v := 0) hc dX9_behind_235 (by decide) ?_
                  refine V_goto (tgt := 255) hc dX9_behind_236 (by decide) ?_
                  exact V_iret hc rfl rfl dX9_behind_255
              · refine V_iload_n hc dX9_behind_209 rfl 2 rfl ?_
                refine V_callS_RI hc (c_X9_isDigit l K t (a1)) 1 gX9_behind_X9_isDigit rfl ⟨rfl, rfl⟩ (by decide) ⟨Nat.le_of_ble_eq_true rfl, Nat.le_of_ble_eq_true rfl⟩ rfl rfl (Nat.le_of_ble_eq_true rfl) dX9_behind_210 (fun r25 => ?_)
                refine V_if_eq (tgt := 231) hc dX9_behind_213 (by decide) ?_ ?_
                · refine V_iload_n hc dX9_behind_231 rfl 0 rfl ?_
                  refine V_if_eq (tgt := 239) hc dX9_behind_232 (by decide) ?_ ?_
                  · refine V_iload_n hc dX9_behind_239 rfl 2 rfl ?_
                    refine V_bipush (v := 41) hc dX9_behind_240 (by decide) ?_
                    refine V_icmp_ne (tgt := 254) hc dX9_behind_242 (by decide) ?_ ?_
                    · refine V_iconst (v := (-1)) hc dX9_behind_254 (by decide) ?_
                      exact V_iret hc rfl rfl dX9_behind_255
                    · refine V_iload_n hc dX9_behind_245 rfl 3 rfl ?_
                      refine V_if_le (tgt := 254) hc dX9_behind_246 (by decide) ?_ ?_
                      · refine V_iconst (v := (-1)) hc dX9_behind_254 (by decide) ?_
                        exact V_iret hc rfl rfl dX9_behind_255
                      · refine V_bipush (v := 8) hc dX9_behind_249 (by decide) ?_
                        refine V_goto (tgt := 255) hc dX9_behind_251 (by decide) ?_
                        exact V_iret hc rfl rfl dX9_behind_255
                  · refine V_iconst (v := 0) hc dX9_behind_235 (by decide) ?_
                    refine V_goto (tgt := 255) hc dX9_behind_236 (by decide) ?_
                    exact V_iret hc rfl rfl dX9_behind_255
                · refine V_iload_n hc dX9_behind_216 rfl 1 rfl ?_
                  refine V_bipush (v := 6) hc dX9_behind_217 (by decide) ?_
                  refine V_icmp_ne (tgt := 227) hc dX9_behind_219 (by decide) ?_ ?_
                  · refine V_iload_n hc dX9_behind_227 rfl 1 rfl ?_
                    refine V_iconst (v := 1) hc dX9_behind_228 (by decide) ?_
                    refine V_iadd hc dX9_behind_229 ?_
                    exact V_iret hc rfl rfl dX9_behind_230
                  · refine V_bipush (v := 8) hc dX9_behind_222 (by decide) ?_
                    refine V_goto (tgt := 230) hc dX9_behind_224 (by decide) ?_
                    exact V_iret hc rfl rfl dX9_behind_230
            · refine V_ite (fun h26 => ?_) (fun h26 => ?_)
              · refine V_tsIn (tgt := 203) hc dX9_behind_19 (by rw [h26] <;> decide) (by rw [h26] <;> decide) (by rw [h26] <;> rfl) (by decide) ?_
                refine V_iload_n hc dX9_behind_203 rfl 1 rfl ?_
                refine V_bipush (v := 8) hc dX9_behind_204 (by decide) ?_
                refine V_icmp_ge (tgt := 231) hc dX9_behind_206 (by decide) ?_ ?_
                · refine V_iload_n hc dX9_behind_231 rfl 0 rfl ?_
                  refine V_if_eq (tgt := 239) hc dX9_behind_232 (by decide) ?_ ?_
                  · refine V_iload_n hc dX9_behind_239 rfl 2 rfl ?_
                    refine V_bipush (v := 41) hc dX9_behind_240 (by decide) ?_
                    refine V_icmp_ne (tgt := 254) hc dX9_behind_242 (by decide) ?_ ?_
                    · refine V_iconst (v := (-1)) hc dX9_behind_254 (by decide) ?_
                      exact V_iret hc rfl rfl dX9_behind_255
                    · refine V_iload_n hc dX9_behind_245 rfl 3 rfl ?_
                      refine V_if_le (tgt := 254) hc dX9_behind_246 (by decide) ?_ ?_
                      · refine V_iconst (v := (-1)) hc dX9_behind_254 (by decide) ?_
                        exact V_iret hc rfl rfl dX9_behind_255
                      · refine V_bipush (v := 8) hc dX9_behind_249 (by decide) ?_
                        refine V_goto (tgt := 255) hc dX9_behind_251 (by decide) ?_
                        exact V_iret hc rfl rfl dX9_behind_255
                  · refine V_iconst (v := 0) hc dX9_behind_235 (by decide) ?_
                    refine V_goto (tgt := 255) hc dX9_behind_236 (by decide) ?_
                    exact V_iret hc rfl rfl dX9_behind_255
                · refine V_iload_n hc dX9_behind_209 rfl 2 rfl ?_
                  refine V_callS_RI hc (c_X9_isDigit l K t (a1)) 1 gX9_behind_X9_isDigit rfl ⟨rfl, rfl⟩ (by decide) ⟨Nat.le_of_ble_eq_true rfl, Nat.le_of_ble_eq_true rfl⟩ rfl rfl (Nat.le_of_ble_eq_true rfl) dX9_behind_210 (fun r27 => ?_)
                  refine V_if_eq (tgt := 231) hc dX9_behind_213 (by decide) ?_ ?_
                  · refine V_iload_n hc dX9_behind_231 rfl 0 rfl ?_
                    refine V_if_eq (tgt := 239) hc dX9_behind_232 (by decide) ?_ ?_
                    · refine V_iload_n hc dX9_behind_239 rfl 2 rfl ?_
                      refine V_bipush (v := 41) hc dX9_behind_240 (by decide) ?_
                      refine V_icmp_ne (tgt := 254) hc dX9_behind_242 (by decide) ?_ ?_
                      · refine V_iconst (v := (-1)) hc dX9_behind_254 (by decide) ?_
                        exact V_iret hc rfl rfl dX9_behind_255
                      · refine V_iload_n hc dX9_behind_245 rfl 3 rfl ?_
                        refine V_if_le (tgt := 254) hc dX9_behind_246 (by decide) ?_ ?_
                        · refine V_iconst (v := (-1)) hc dX9_behind_254 (by decide) ?_
                          exact V_iret hc rfl rfl dX9_behind_255
                        · refine V_bipush (v := 8) hc dX9_behind_249 (by decide) ?_
                          refine V_goto (tgt := 255) hc dX9_behind_251 (by decide) ?_
                          exact V_iret hc rfl rfl dX9_behind_255
                    · refine V_iconst (v := 0) hc dX9_behind_235 (by decide) ?_
                      refine V_goto (tgt := 255) hc dX9_behind_236 (by decide) ?_
                      exact V_iret hc rfl rfl dX9_behind_255
                  · refine V_iload_n hc dX9_behind_216 rfl 1 rfl ?_
                    refine V_bipush (v := 6) hc dX9_behind_217 (by decide) ?_
                    refine V_icmp_ne (tgt := 227) hc dX9_behind_219 (by decide) ?_ ?_
                    · refine V_iload_n hc dX9_behind_227 rfl 1 rfl ?_
                      refine V_iconst (v := 1) hc dX9_behind_228 (by decide) ?_
                      refine V_iadd hc dX9_behind_229 ?_
                      exact V_iret hc rfl rfl dX9_behind_230
                    · refine V_bipush (v := 8) hc dX9_behind_222 (by decide) ?_
                      refine V_goto (tgt := 230) hc dX9_behind_224 (by decide) ?_
                      exact V_iret hc rfl rfl dX9_behind_230
              · refine V_ite (fun h28 => ?_) (fun h28 => ?_)
                · refine V_tsIn (tgt := 203) hc dX9_behind_19 (by rw [h28] <;> decide) (by rw [h28] <;> decide) (by rw [h28] <;> rfl) (by decide) ?_
                  refine V_iload_n hc dX9_behind_203 rfl 1 rfl ?_
                  refine V_bipush (v := 8) hc dX9_behind_204 (by decide) ?_
                  refine V_icmp_ge (tgt := 231) hc dX9_behind_206 (by decide) ?_ ?_
                  · refine V_iload_n hc dX9_behind_231 rfl 0 rfl ?_
                    refine V_if_eq (tgt := 239) hc dX9_behind_232 (by decide) ?_ ?_
                    · refine V_iload_n hc dX9_behind_239 rfl 2 rfl ?_
                      refine V_bipush (v := 41) hc dX9_behind_240 (by decide) ?_
                      refine V_icmp_ne (tgt := 254) hc dX9_behind_242 (by decide) ?_ ?_
                      · refine V_iconst (v := (-1)) hc dX9_behind_254 (by decide) ?_
                        exact V_iret hc rfl rfl dX9_behind_255
                      · refine V_iload_n hc dX9_behind_245 rfl 3 rfl ?_
                        refine V_if_le (tgt := 254) hc dX9_behind_246 (by decide) ?_ ?_
                        · refine V_iconst (v := (-1)) hc dX9_behind_254 (by decide) ?_
                          exact V_iret hc rfl rfl dX9_behind_255
                        · refine V_bipush (v := 8) hc dX9_behind_249 (by decide) ?_
                          refine V_goto (tgt := 255) hc dX9_behind_251 (by decide) ?_
                          exact V_iret hc rfl rfl dX9_behind_255
                    · refine V_iconst (v := 0) hc dX9_behind_235 (by decide) ?_
                      refine V_goto (tgt := 255) hc dX9_behind_236 (by decide) ?_
                      exact V_iret hc rfl rfl dX9_behind_255
                  · refine V_iload_n hc dX9_behind_209 rfl 2 rfl ?_
                    refine V_callS_RI hc (c_X9_isDigit l K t (a1)) 1 gX9_behind_X9_isDigit rfl ⟨rfl, rfl⟩ (by decide) ⟨Nat.le_of_ble_eq_true rfl, Nat.le_of_ble_eq_true rfl⟩ rfl rfl (Nat.le_of_ble_eq_true rfl) dX9_behind_210 (fun r29 => ?_)
                    refine V_if_eq (tgt := 231) hc dX9_behind_213 (by decide) ?_ ?_
                    · refine V_iload_n hc dX9_behind_231 rfl 0 rfl ?_
                      refine V_if_eq (tgt := 239) hc dX9_behind_232 (by decide) ?_ ?_
                      · refine V_iload_n hc dX9_behind_239 rfl 2 rfl ?_
                        refine V_bipush (v := 41) hc dX9_behind_240 (by decide) ?_
                        refine V_icmp_ne (tgt := 254) hc dX9_behind_242 (by decide) ?_ ?_
                        · refine V_iconst (v := (-1)) hc dX9_behind_254 (by decide) ?_
                          exact V_iret hc rfl rfl dX9_behind_255
                        · refine V_iload_n hc dX9_behind_245 rfl 3 rfl ?_
                          refine V_if_le (tgt := 254) hc dX9_behind_246 (by decide) ?_ ?_
                          · refine V_iconst (v := (-1)) hc dX9_behind_254 (by decide) ?_
                            exact V_iret hc rfl rfl dX9_behind_255
                          · refine V_bipush (v := 8) hc dX9_behind_249 (by decide) ?_
                            refine V_goto (tgt := 255) hc dX9_behind_251 (by decide) ?_
                            exact V_iret hc rfl rfl dX9_behind_255
                      · refine V_iconst (v := 0) hc dX9_behind_235 (by decide) ?_
                        refine V_goto (tgt := 255) hc dX9_behind_236 (by decide) ?_
                        exact V_iret hc rfl rfl dX9_behind_255
                    · refine V_iload_n hc dX9_behind_216 rfl 1 rfl ?_
                      refine V_bipush (v := 6) hc dX9_behind_217 (by decide) ?_
                      refine V_icmp_ne (tgt := 227) hc dX9_behind_219 (by decide) ?_ ?_
                      · refine V_iload_n hc dX9_behind_227 rfl 1 rfl ?_
                        refine V_iconst (v := 1) hc dX9_behind_228 (by decide) ?_
                        refine V_iadd hc dX9_behind_229 ?_
                        exact V_iret hc rfl rfl dX9_behind_230
                      · refine V_bipush (v := 8) hc dX9_behind_222 (by decide) ?_
                        refine V_goto (tgt := 230) hc dX9_behind_224 (by decide) ?_
                        exact V_iret hc rfl rfl dX9_behind_230
                · refine V_ite (fun h30 => ?_) (fun h30 => ?_)
                  · refine V_tsIn (tgt := 203) hc dX9_behind_19 (by rw [h30] <;> decide) (by rw [h30] <;> decide) (by rw [h30] <;> rfl) (by decide) ?_
                    refine V_iload_n hc dX9_behind_203 rfl 1 rfl ?_
                    refine V_bipush (v := 8) hc dX9_behind_204 (by decide) ?_
                    refine V_icmp_ge (tgt := 231) hc dX9_behind_206 (by decide) ?_ ?_
                    · refine V_iload_n hc dX9_behind_231 rfl 0 rfl ?_
                      refine V_if_eq (tgt := 239) hc dX9_behind_232 (by decide) ?_ ?_
                      · refine V_iload_n hc dX9_behind_239 rfl 2 rfl ?_
                        refine V_bipush (v := 41) hc dX9_behind_240 (by decide) ?_
                        refine V_icmp_ne (tgt := 254) hc dX9_behind_242 (by decide) ?_ ?_
                        · refine V_iconst (v := (-1)) hc dX9_behind_254 (by decide) ?_
                          exact V_iret hc rfl rfl dX9_behind_255
                        · refine V_iload_n hc dX9_behind_245 rfl 3 rfl ?_
                          refine V_if_le (tgt := 254) hc dX9_behind_246 (by decide) ?_ ?_
                          · refine V_iconst (v := (-1)) hc dX9_behind_254 (by decide) ?_
                            exact V_iret hc rfl rfl dX9_behind_255
                          · refine V_bipush (v := 8) hc dX9_behind_249 (by decide) ?_
                            refine V_goto (tgt := 255) hc dX9_behind_251 (by decide) ?_
                            exact V_iret hc rfl rfl dX9_behind_255
                      · refine V_iconst (v := 0) hc dX9_behind_235 (by decide) ?_
                        refine V_goto (tgt := 255) hc dX9_behind_236 (by decide) ?_
                        exact V_iret hc rfl rfl dX9_behind_255
                    · refine V_iload_n hc dX9_behind_209 rfl 2 rfl ?_
                      refine V_callS_RI hc (c_X9_isDigit l K t (a1)) 1 gX9_behind_X9_isDigit rfl ⟨rfl, rfl⟩ (by decide) ⟨Nat.le_of_ble_eq_true rfl, Nat.le_of_ble_eq_true rfl⟩ rfl rfl (Nat.le_of_ble_eq_true rfl) dX9_behind_210 (fun r31 => ?_)
                      refine V_if_eq (tgt := 231) hc dX9_behind_213 (by decide) ?_ ?_
                      · refine V_iload_n hc dX9_behind_231 rfl 0 rfl ?_
                        refine V_if_eq (tgt := 239) hc dX9_behind_232 (by decide) ?_ ?_
                        · refine V_iload_n hc dX9_behind_239 rfl 2 rfl ?_
                          refine V_bipush (v := 41) hc dX9_behind_240 (by decide) ?_
                          refine V_icmp_ne (tgt := 254) hc dX9_behind_242 (by decide) ?_ ?_
                          · refine V_iconst (v := (-1)) hc dX9_behind_254 (by decide) ?_
                            exact V_iret hc rfl rfl dX9_behind_255
                          · refine V_iload_n hc dX9_behind_245 rfl 3 rfl ?_
                            refine V_if_le (tgt := 254) hc dX9_behind_246 (by decide) ?_ ?_
                            · refine V_iconst (v := (-1)) hc dX9_behind_254 (by decide) ?_
                              exact V_iret hc rfl rfl dX9_behind_255
                            · refine V_bipush (v := 8) hc dX9_behind_249 (by decide) ?_
                              refine V_goto (tgt := 255) hc dX9_behind_251 (by decide) ?_
                              exact V_iret hc rfl rfl dX9_behind_255
                        · refine V_iconst (v := 0) hc dX9_behind_235 (by decide) ?_
                          refine V_goto (tgt := 255) hc dX9_behind_236 (by decide) ?_
                          exact V_iret hc rfl rfl dX9_behind_255
                      · refine V_iload_n hc dX9_behind_216 rfl 1 rfl ?_
                        refine V_bipush (v := 6) hc dX9_behind_217 (by decide) ?_
                        refine V_icmp_ne (tgt := 227) hc dX9_behind_219 (by decide) ?_ ?_
                        · refine V_iload_n hc dX9_behind_227 rfl 1 rfl ?_
                          refine V_iconst (v := 1) hc dX9_behind_228 (by decide) ?_
                          refine V_iadd hc dX9_behind_229 ?_
                          exact V_iret hc rfl rfl dX9_behind_230
                        · refine V_bipush (v := 8) hc dX9_behind_222 (by decide) ?_
                          refine V_goto (tgt := 230) hc dX9_behind_224 (by decide) ?_
                          exact V_iret hc rfl rfl dX9_behind_230
                  · refine V_ite (fun h32 => ?_) (fun h32 => ?_)
                    · refine V_tsIn (tgt := 189) hc dX9_behind_19 (by rw [h32] <;> decide) (by rw [h32] <;> decide) (by rw [h32] <;> rfl) (by decide) ?_
                      refine V_iload_n hc dX9_behind_189 rfl 2 rfl ?_
                      refine V_callS_RI hc (c_X9_isDigit l K t (a1)) 1 gX9_behind_X9_isDigit rfl ⟨rfl, rfl⟩ (by decide) ⟨Nat.le_of_ble_eq_true rfl, Nat.le_of_ble_eq_true rfl⟩ rfl rfl (Nat.le_of_ble_eq_true rfl) dX9_behind_190 (fun r33 => ?_)
                      refine V_if_eq (tgt := 201) hc dX9_behind_193 (by decide) ?_ ?_
                      · refine V_iconst (v := (-1)) hc dX9_behind_201 (by decide) ?_
                        exact V_iret hc rfl rfl dX9_behind_202
                      · refine V_bipush (v := 8) hc dX9_behind_196 (by decide) ?_
                        refine V_goto (tgt := 202) hc dX9_behind_198 (by decide) ?_
                        exact V_iret hc rfl rfl dX9_behind_202
                    · refine V_tsOut (tgt := 203) hc dX9_behind_19 (ts_out (lo := 0) (n := 8) (fun i hi => match i, hi with | 0, _ => h18 | 1, _ => h21 | 2, _ => h22 | 3, _ => h24 | 4, _ => h26 | 5, _ => h28 | 6, _ => h30 | 7, _ => h32 | _ + 8, hi => absurd hi (by omega))) (by decide) ?_
                      refine V_iload_n hc dX9_behind_203 rfl 1 rfl ?_
                      refine V_bipush (v := 8) hc dX9_behind_204 (by decide) ?_
                      refine V_icmp_ge (tgt := 231) hc dX9_behind_206 (by decide) ?_ ?_
                      · refine V_iload_n hc dX9_behind_231 rfl 0 rfl ?_
                        refine V_if_eq (tgt := 239) hc dX9_behind_232 (by decide) ?_ ?_
                        · refine V_iload_n hc dX9_behind_239 rfl 2 rfl ?_
                          refine V_bipush (v := 41) hc dX9_behind_240 (by decide) ?_
                          refine V_icmp_ne (tgt := 254) hc dX9_behind_242 (by decide) ?_ ?_
                          · refine V_iconst (v := (-1)) hc dX9_behind_254 (by decide) ?_
                            exact V_iret hc rfl rfl dX9_behind_255
                          · refine V_iload_n hc dX9_behind_245 rfl 3 rfl ?_
                            refine V_if_le (tgt := 254) hc dX9_behind_246 (by decide) ?_ ?_
                            · refine V_iconst (v := (-1)) hc dX9_behind_254 (by decide) ?_
                              exact V_iret hc rfl rfl dX9_behind_255
                            · refine V_bipush (v := 8) hc dX9_behind_249 (by decide) ?_
                              refine V_goto (tgt := 255) hc dX9_behind_251 (by decide) ?_
                              exact V_iret hc rfl rfl dX9_behind_255
                        · refine V_iconst (v := 0) hc dX9_behind_235 (by decide) ?_
                          refine V_goto (tgt := 255) hc dX9_behind_236 (by decide) ?_
                          exact V_iret hc rfl rfl dX9_behind_255
                      · refine V_iload_n hc dX9_behind_209 rfl 2 rfl ?_
                        refine V_callS_RI hc (c_X9_isDigit l K t (a1)) 1 gX9_behind_X9_isDigit rfl ⟨rfl, rfl⟩ (by decide) ⟨Nat.le_of_ble_eq_true rfl, Nat.le_of_ble_eq_true rfl⟩ rfl rfl (Nat.le_of_ble_eq_true rfl) dX9_behind_210 (fun r34 => ?_)
                        refine V_if_eq (tgt := 231) hc dX9_behind_213 (by decide) ?_ ?_
                        · refine V_iload_n hc dX9_behind_231 rfl 0 rfl ?_
                          refine V_if_eq (tgt := 239) hc dX9_behind_232 (by decide) ?_ ?_
                          · refine V_iload_n hc dX9_behind_239 rfl 2 rfl ?_
                            refine V_bipush (v := 41) hc dX9_behind_240 (by decide) ?_
                            refine V_icmp_ne (tgt := 254) hc dX9_behind_242 (by decide) ?_ ?_
                            · refine V_iconst (v := (-1)) hc dX9_behind_254 (by decide) ?_
                              exact V_iret hc rfl rfl dX9_behind_255
                            · refine V_iload_n hc dX9_behind_245 rfl 3 rfl ?_
                              refine V_if_le (tgt := 254) hc dX9_behind_246 (by decide) ?_ ?_
                              · refine V_iconst (v := (-1)) hc dX9_behind_254 (by decide) ?_
                                exact V_iret hc rfl rfl dX9_behind_255
                              · refine V_bipush (v := 8) hc dX9_behind_249 (by decide) ?_
                                refine V_goto (tgt := 255) hc dX9_behind_251 (by decide) ?_
                                exact V_iret hc rfl rfl dX9_behind_255
                          · refine V_iconst (v := 0) hc dX9_behind_235 (by decide) ?_
                            refine V_goto (tgt := 255) hc dX9_behind_236 (by decide) ?_
                            exact V_iret hc rfl rfl dX9_behind_255
                        · refine V_iload_n hc dX9_behind_216 rfl 1 rfl ?_
                          refine V_bipush (v := 6) hc dX9_behind_217 (by decide) ?_
                          refine V_icmp_ne (tgt := 227) hc dX9_behind_219 (by decide) ?_ ?_
                          · refine V_iload_n hc dX9_behind_227 rfl 1 rfl ?_
                            refine V_iconst (v := 1) hc dX9_behind_228 (by decide) ?_
                            refine V_iadd hc dX9_behind_229 ?_
                            exact V_iret hc rfl rfl dX9_behind_230
                          · refine V_bipush (v := 8) hc dX9_behind_222 (by decide) ?_
                            refine V_goto (tgt := 230) hc dX9_behind_224 (by decide) ?_
                            exact V_iret hc rfl rfl dX9_behind_230
    · refine V_iconst (v := 1) hc dX9_behind_12 (by decide) ?_
      refine V_goto (tgt := 17) hc dX9_behind_13 (by decide) ?_
      refine V_istore_n (lv' := [(3, .int 1), (0, .int a0), (1, .int a1), (2, .int a2)]) hc dX9_behind_17 rfl (by decide) rfl ?_
      refine V_iload_n hc dX9_behind_18 rfl 1 rfl ?_
      refine V_ite (fun h35 => ?_) (fun h35 => ?_)
      · refine V_tsIn (tgt := 64) hc dX9_behind_19 (by rw [h35] <;> decide) (by rw [h35] <;> decide) (by rw [h35] <;> rfl) (by decide) ?_
        refine V_iload_n hc dX9_behind_64 rfl 2 rfl ?_
        refine V_bipush (v := 33) hc dX9_behind_65 (by decide) ?_
        refine V_icmp_eq (tgt := 82) hc dX9_behind_67 (by decide) ?_ ?_
        · refine V_iconst (v := 0) hc dX9_behind_82 (by decide) ?_
          exact V_iret hc rfl rfl dX9_behind_83
        · refine V_iload_n hc dX9_behind_70 rfl 2 rfl ?_
          refine V_bipush (v := 40) hc dX9_behind_71 (by decide) ?_
          refine V_icmp_ne (tgt := 84) hc dX9_behind_73 (by decide) ?_ ?_
          · refine V_iload_n hc dX9_behind_84 rfl 2 rfl ?_
            refine V_callS_RI hc (c_X9_isField l K t (a1)) 1 gX9_behind_X9_isField rfl ⟨rfl, rfl⟩ (by decide) ⟨Nat.le_of_ble_eq_true rfl, Nat.le_of_ble_eq_true rfl⟩ rfl rfl (Nat.le_of_ble_eq_true rfl) dX9_behind_85 (fun r36 => ?_)
            refine V_if_eq (tgt := 93) hc dX9_behind_88 (by decide) ?_ ?_
            · refine V_iload_n hc dX9_behind_93 rfl 2 rfl ?_
              refine V_bipush (v := 116) hc dX9_behind_94 (by decide) ?_
              refine V_icmp_eq (tgt := 105) hc dX9_behind_96 (by decide) ?_ ?_
              · refine V_bipush (v := 7) hc dX9_behind_105 (by decide) ?_
                refine V_goto (tgt := 140) hc dX9_behind_107 (by decide) ?_
                exact V_iret hc rfl rfl dX9_behind_140
              · refine V_iload_n hc dX9_behind_99 rfl 2 rfl ?_
                refine V_bipush (v := 97) hc dX9_behind_100 (by decide) ?_
                refine V_icmp_ne (tgt := 110) hc dX9_behind_102 (by decide) ?_ ?_
                · refine V_iload_n hc dX9_behind_110 rfl 2 rfl ?_
                  refine V_bipush (v := 115) hc dX9_behind_111 (by decide) ?_
                  refine V_icmp_eq (tgt := 134) hc dX9_behind_113 (by decide) ?_ ?_
                  · refine V_bipush (v := 8) hc dX9_behind_134 (by decide) ?_
                    refine V_goto (tgt := 140) hc dX9_behind_136 (by decide) ?_
                    exact V_iret hc rfl rfl dX9_behind_140
                  · refine V_iload_n hc dX9_behind_116 rfl 2 rfl ?_
                    refine V_bipush (v := 118) hc dX9_behind_117 (by decide) ?_
                    refine V_icmp_eq (tgt := 134) hc dX9_behind_119 (by decide) ?_ ?_
                    · refine V_bipush (v := 8) hc dX9_behind_134 (by decide) ?_
                      refine V_goto (tgt := 140) hc dX9_behind_136 (by decide) ?_
                      exact V_iret hc rfl rfl dX9_behind_140
                    · refine V_iload_n hc dX9_behind_122 rfl 2 rfl ?_
                      refine V_bipush (v := 117) hc dX9_behind_123 (by decide) ?_
                      refine V_icmp_eq (tgt := 134) hc dX9_behind_125 (by decide) ?_ ?_
                      · refine V_bipush (v := 8) hc dX9_behind_134 (by decide) ?_
                        refine V_goto (tgt := 140) hc dX9_behind_136 (by decide) ?_
                        exact V_iret hc rfl rfl dX9_behind_140
                      · refine V_iload_n hc dX9_behind_128 rfl 2 rfl ?_
                        refine V_bipush (v := 98) hc dX9_behind_129 (by decide) ?_
                        refine V_icmp_ne (tgt := 139) hc dX9_behind_131 (by decide) ?_ ?_
                        · refine V_iconst (v := (-1)) hc dX9_behind_139 (by decide) ?_
                          exact V_iret hc rfl rfl dX9_behind_140
                        · refine V_bipush (v := 8) hc dX9_behind_134 (by decide) ?_
                          refine V_goto (tgt := 140) hc dX9_behind_136 (by decide) ?_
                          exact V_iret hc rfl rfl dX9_behind_140
                · refine V_bipush (v := 7) hc dX9_behind_105 (by decide) ?_
                  refine V_goto (tgt := 140) hc dX9_behind_107 (by decide) ?_
                  exact V_iret hc rfl rfl dX9_behind_140
            · refine V_iconst (v := 1) hc dX9_behind_91 (by decide) ?_
              exact V_iret hc rfl rfl dX9_behind_92
          · refine V_iload_n hc dX9_behind_76 rfl 3 rfl ?_
            refine V_bipush (v := 10) hc dX9_behind_77 (by decide) ?_
            refine V_icmp_ge (tgt := 84) hc dX9_behind_79 (by decide) ?_ ?_
            · refine V_iload_n hc dX9_behind_84 rfl 2 rfl ?_
              refine V_callS_RI hc (c_X9_isField l K t (a1)) 1 gX9_behind_X9_isField rfl ⟨rfl, rfl⟩ (by decide) ⟨Nat.le_of_ble_eq_true rfl, Nat.le_of_ble_eq_true rfl⟩ rfl rfl (Nat.le_of_ble_eq_true rfl) dX9_behind_85 (fun r37 => ?_)
              refine V_if_eq (tgt := 93) hc dX9_behind_88 (by decide) ?_ ?_
              · refine V_iload_n hc dX9_behind_93 rfl 2 rfl ?_
                refine V_bipush (v := 116) hc dX9_behind_94 (by decide) ?_
                refine V_icmp_eq (tgt := 105) hc dX9_behind_96 (by decide) ?_ ?_
                · refine V_bipush (v := 7) hc dX9_behind_105 (by decide) ?_
                  refine V_goto (tgt := 140) hc dX9_behind_107 (by decide) ?_
                  exact V_iret hc rfl rfl dX9_behind_140
                · refine V_iload_n hc dX9_behind_99 rfl 2 rfl ?_
                  refine V_bipush (v := 97) hc dX9_behind_100 (by decide) ?_
                  refine V_icmp_ne (tgt := 110) hc dX9_behind_102 (by decide) ?_ ?_
                  · refine V_iload_n hc dX9_behind_110 rfl 2 rfl ?_
                    refine V_bipush (v := 115) hc dX9_behind_111 (by decide) ?_
                    refine V_icmp_eq (tgt := 134) hc dX9_behind_113 (by decide) ?_ ?_
                    · refine V_bipush (v := 8) hc dX9_behind_134 (by decide) ?_
                      refine V_goto (tgt := 140) hc dX9_behind_136 (by decide) ?_
                      exact V_iret hc rfl rfl dX9_behind_140
                    · refine V_iload_n hc dX9_behind_116 rfl 2 rfl ?_
                      refine V_bipush (v := 118) hc dX9_behind_117 (by decide) ?_
                      refine V_icmp_eq (tgt := 134) hc dX9_behind_119 (by decide) ?_ ?_
                      · refine V_bipush (v := 8) hc dX9_behind_134 (by decide) ?_
                        refine V_goto (tgt := 140) hc dX9_behind_136 (by decide) ?_
                        exact V_iret hc rfl rfl dX9_behind_140
                      · refine V_iload_n hc dX9_behind_122 rfl 2 rfl ?_
                        refine V_bipush (v := 117) hc dX9_behind_123 (by decide) ?_
                        refine V_icmp_eq (tgt := 134) hc dX9_behind_125 (by decide) ?_ ?_
                        · refine V_bipush (v := 8) hc dX9_behind_134 (by decide) ?_
                          refine V_goto (tgt := 140) hc dX9_behind_136 (by decide) ?_
                          exact V_iret hc rfl rfl dX9_behind_140
                        · refine V_iload_n hc dX9_behind_128 rfl 2 rfl ?_
                          refine V_bipush (v := 98) hc dX9_behind_129 (by decide) ?_
                          refine V_icmp_ne (tgt := 139) hc dX9_behind_131 (by decide) ?_ ?_
                          · refine V_iconst (v := (-1)) hc dX9_behind_139 (by decide) ?_
                            exact V_iret hc rfl rfl dX9_behind_140
                          · refine V_bipush (v := 8) hc dX9_behind_134 (by decide) ?_
                            refine V_goto (tgt := 140) hc dX9_behind_136 (by decide) ?_
                            exact V_iret hc rfl rfl dX9_behind_140
                  · refine V_bipush (v := 7) hc dX9_behind_105 (by decide) ?_
                    refine V_goto (tgt := 140) hc dX9_behind_107 (by decide) ?_
                    exact V_iret hc rfl rfl dX9_behind_140
              · refine V_iconst (v := 1) hc dX9_behind_91 (by decide) ?_
                exact V_iret hc rfl rfl dX9_behind_92
            · refine V_iconst (v := 0) hc dX9_behind_82 (by decide) ?_
              exact V_iret hc rfl rfl dX9_behind_83
      · refine V_ite (fun h38 => ?_) (fun h38 => ?_)
        · refine V_tsIn (tgt := 141) hc dX9_behind_19 (by rw [h38] <;> decide) (by rw [h38] <;> decide) (by rw [h38] <;> rfl) (by decide) ?_
          refine V_iload_n hc dX9_behind_141 rfl 2 rfl ?_
          refine V_bipush (v := 60) hc dX9_behind_142 (by decide) ?_
          refine V_icmp_eq (tgt := 159) hc dX9_behind_144 (by decide) ?_ ?_
          · refine V_iconst (v := 2) hc dX9_behind_159 (by decide) ?_
            refine V_goto (tgt := 175) hc dX9_behind_160 (by decide) ?_
            exact V_iret hc rfl rfl dX9_behind_175
          · refine V_iload_n hc dX9_behind_147 rfl 2 rfl ?_
            refine V_bipush (v := 61) hc dX9_behind_148 (by decide) ?_
            refine V_icmp_eq (tgt := 159) hc dX9_behind_150 (by decide) ?_ ?_
            · refine V_iconst (v := 2) hc dX9_behind_159 (by decide) ?_
              refine V_goto (tgt := 175) hc dX9_behind_160 (by decide) ?_
              exact V_iret hc rfl rfl dX9_behind_175
            · refine V_iload_n hc dX9_behind_153 rfl 2 rfl ?_
              refine V_bipush (v := 62) hc dX9_behind_154 (by decide) ?_
              refine V_icmp_ne (tgt := 163) hc dX9_behind_156 (by decide) ?_ ?_
              · refine V_iload_n hc dX9_behind_163 rfl 2 rfl ?_
                refine V_bipush (v := 63) hc dX9_behind_164 (by decide) ?_
                refine V_icmp_ne (tgt := 174) hc dX9_behind_166 (by decide) ?_ ?_
                · refine V_iconst (v := (-1)) hc dX9_behind_174 (by decide) ?_
                  exact V_iret hc rfl rfl dX9_behind_175
                · refine V_bipush (v := 8) hc dX9_behind_169 (by decide) ?_
                  refine V_goto (tgt := 175) hc dX9_behind_171 (by decide) ?_
                  exact V_iret hc rfl rfl dX9_behind_175
              · refine V_iconst (v := 2) hc dX9_behind_159 (by decide) ?_
                refine V_goto (tgt := 175) hc dX9_behind_160 (by decide) ?_
                exact V_iret hc rfl rfl dX9_behind_175
        · refine V_ite (fun h39 => ?_) (fun h39 => ?_)
          · refine V_tsIn (tgt := 176) hc dX9_behind_19 (by rw [h39] <;> decide) (by rw [h39] <;> decide) (by rw [h39] <;> rfl) (by decide) ?_
            refine V_iload_n hc dX9_behind_176 rfl 2 rfl ?_
            refine V_callS_RI hc (c_X9_isDigit l K t (a1)) 1 gX9_behind_X9_isDigit rfl ⟨rfl, rfl⟩ (by decide) ⟨Nat.le_of_ble_eq_true rfl, Nat.le_of_ble_eq_true rfl⟩ rfl rfl (Nat.le_of_ble_eq_true rfl) dX9_behind_177 (fun r40 => ?_)
            refine V_if_eq (tgt := 187) hc dX9_behind_180 (by decide) ?_ ?_
            · refine V_iconst (v := (-1)) hc dX9_behind_187 (by decide) ?_
              exact V_iret hc rfl rfl dX9_behind_188
            · refine V_iconst (v := 3) hc dX9_behind_183 (by decide) ?_
              refine V_goto (tgt := 188) hc dX9_behind_184 (by decide) ?_
              exact V_iret hc rfl rfl dX9_behind_188
          · refine V_ite (fun h41 => ?_) (fun h41 => ?_)
            · refine V_tsIn (tgt := 203) hc dX9_behind_19 (by rw [h41] <;> decide) (by rw [h41] <;> decide) (by rw [h41] <;> rfl) (by decide) ?_
              refine V_iload_n hc dX9_behind_203 rfl 1 rfl ?_
              refine V_bipush (v := 8) hc dX9_behind_204 (by decide) ?_
              refine V_icmp_ge (tgt := 231) hc dX9_behind_206 (by decide) ?_ ?_
              · refine V_iload_n hc dX9_behind_231 rfl 0 rfl ?_
                refine V_if_eq (tgt := 239) hc dX9_behind_232 (by decide) ?_ ?_
                · refine V_iload_n hc dX9_behind_239 rfl 2 rfl ?_
                  refine V_bipush (v := 41) hc dX9_behind_240 (by decide) ?_
                  refine V_icmp_ne (tgt := 254) hc dX9_behind_242 (by decide) ?_ ?_
                  · refine V_iconst (v := (-1)) hc dX9_behind_254 (by decide) ?_
                    exact V_iret hc rfl rfl dX9_behind_255
                  · refine V_iload_n hc dX9_behind_245 rfl 3 rfl ?_
                    refine V_if_le (tgt := 254) hc dX9_behind_246 (by decide) ?_ ?_
                    · refine V_iconst (v := (-1)) hc dX9_behind_254 (by decide) ?_
                      exact V_iret hc rfl rfl dX9_behind_255
                    · refine V_bipush (v := 8) hc dX9_behind_249 (by decide) ?_
                      refine V_goto (tgt := 255) hc dX9_behind_251 (by decide) ?_
                      exact V_iret hc rfl rfl dX9_behind_255
                · refine V_iconst (v := 0) hc dX9_behind_235 (by decide) ?_
                  refine V_goto (tgt := 255) hc dX9_behind_236 (by decide) ?_
                  exact V_iret hc rfl rfl dX9_behind_255
              · refine V_iload_n hc dX9_behind_209 rfl 2 rfl ?_
                refine V_callS_RI hc (c_X9_isDigit l K t (a1)) 1 gX9_behind_X9_isDigit rfl ⟨rfl, rfl⟩ (by decide) ⟨Nat.le_of_ble_eq_true rfl, Nat.le_of_ble_eq_true rfl⟩ rfl rfl (Nat.le_of_ble_eq_true rfl) dX9_behind_210 (fun r42 => ?_)
                refine V_if_eq (tgt := 231) hc dX9_behind_213 (by decide) ?_ ?_
                · refine V_iload_n hc dX9_behind_231 rfl 0 rfl ?_
                  refine V_if_eq (tgt := 239) hc dX9_behind_232 (by decide) ?_ ?_
                  · refine V_iload_n hc dX9_behind_239 rfl 2 rfl ?_
                    refine V_bipush (v := 41) hc dX9_behind_240 (by decide) ?_
                    refine V_icmp_ne (tgt := 254) hc dX9_behind_242 (by decide) ?_ ?_
                    · refine V_iconst (v := (-1)) hc dX9_behind_254 (by decide) ?_
                      exact V_iret hc rfl rfl dX9_behind_255
                    · refine V_iload_n hc dX9_behind_245 rfl 3 rfl ?_
                      refine V_if_le (tgt := 254) hc dX9_behind_246 (by decide) ?_ ?_
                      · refine V_iconst (v := (-1)) hc dX9_behind_254 (by decide) ?_
                        exact V_iret hc rfl rfl dX9_behind_255
                      · refine V_bipush (v := 8) hc dX9_behind_249 (by decide) ?_
                        refine V_goto (tgt := 255) hc dX9_behind_251 (by decide) ?_
                        exact V_iret hc rfl rfl dX9_behind_255
                  · refine V_iconst (v := 0) hc dX9_behind_235 (by decide) ?_
                    refine V_goto (tgt := 255) hc dX9_behind_236 (by decide) ?_
                    exact V_iret hc rfl rfl dX9_behind_255
                · refine V_iload_n hc dX9_behind_216 rfl 1 rfl ?_
                  refine V_bipush (v := 6) hc dX9_behind_217 (by decide) ?_
                  refine V_icmp_ne (tgt := 227) hc dX9_behind_219 (by decide) ?_ ?_
                  · refine V_iload_n hc dX9_behind_227 rfl 1 rfl ?_
                    refine V_iconst (v := 1) hc dX9_behind_228 (by decide) ?_
                    refine V_iadd hc dX9_behind_229 ?_
                    exact V_iret hc rfl rfl dX9_behind_230
                  · refine V_bipush (v := 8) hc dX9_behind_222 (by decide) ?_
                    refine V_goto (tgt := 230) hc dX9_behind_224 (by decide) ?_
                    exact V_iret hc rfl rfl dX9_behind_230
            · refine V_ite (fun h43 => ?_) (fun h43 => ?_)
              · refine V_tsIn (tgt := 203) hc dX9_behind_19 (by rw [h43] <;> decide) (by rw [h43] <;> decide) (by rw [h43] <;> rfl) (by decide) ?_
                refine V_iload_n hc dX9_behind_203 rfl 1 rfl ?_
                refine V_bipush (v := 8) hc dX9_behind_204 (by decide) ?_
                refine V_icmp_ge (tgt := 231) hc dX9_behind_206 (by decide) ?_ ?_
                · refine V_iload_n hc dX9_behind_231 rfl 0 rfl ?_
                  refine V_if_eq (tgt := 239) hc dX9_behind_232 (by decide) ?_ ?_
                  · refine V_iload_n hc dX9_behind_239 rfl 2 rfl ?_
                    refine V_bipush (v := 41) hc dX9_behind_240 (by decide) ?_
                    refine V_icmp_ne (tgt := 254) hc dX9_behind_242 (by decide) ?_ ?_
                    · refine V_iconst (v := (-1)) hc dX9_behind_254 (by decide) ?_
                      exact V_iret hc rfl rfl dX9_behind_255
                    · refine V_iload_n hc dX9_behind_245 rfl 3 rfl ?_
                      refine V_if_le (tgt := 254) hc dX9_behind_246 (by decide) ?_ ?_
                      · refine V_iconst (v := (-1)) hc dX9_behind_254 (by decide) ?_
                        exact V_iret hc rfl rfl dX9_behind_255
                      · refine V_bipush (v := 8) hc dX9_behind_249 (by decide) ?_
                        refine V_goto (tgt := 255) hc dX9_behind_251 (by decide) ?_
                        exact V_iret hc rfl rfl dX9_behind_255
                  · refine V_iconst (v := 0) hc dX9_behind_235 (by decide) ?_
                    refine V_goto (tgt := 255) hc dX9_behind_236 (by decide) ?_
                    exact V_iret hc rfl rfl dX9_behind_255
                · refine V_iload_n hc dX9_behind_209 rfl 2 rfl ?_
                  refine V_callS_RI hc (c_X9_isDigit l K t (a1)) 1 gX9_behind_X9_isDigit rfl ⟨rfl, rfl⟩ (by decide) ⟨Nat.le_of_ble_eq_true rfl, Nat.le_of_ble_eq_true rfl⟩ rfl rfl (Nat.le_of_ble_eq_true rfl) dX9_behind_210 (fun r44 => ?_)
                  refine V_if_eq (tgt := 231) hc dX9_behind_213 (by decide) ?_ ?_
                  · refine V_iload_n hc dX9_behind_231 rfl 0 rfl ?_
                    refine V_if_eq (tgt := 239) hc dX9_behind_232 (by decide) ?_ ?_
                    · refine V_iload_n hc dX9_behind_239 rfl 2 rfl ?_
                      refine V_bipush (v := 41) hc dX9_behind_240 (by decide) ?_
                      refine V_icmp_ne (tgt := 254) hc dX9_behind_242 (by decide) ?_ ?_
                      · refine V_iconst (v := (-1)) hc dX9_behind_254 (by decide) ?_
                        exact V_iret hc rfl rfl dX9_behind_255
                      · refine V_iload_n hc dX9_behind_245 rfl 3 rfl ?_
                        refine V_if_le (tgt := 254) hc dX9_behind_246 (by decide) ?_ ?_
                        · refine V_iconst (v := (-1)) hc dX9_behind_254 (by decide) ?_
                          exact V_iret hc rfl rfl dX9_behind_255
                        · refine V_bipush (v := 8) hc dX9_behind_249 (by decide) ?_
                          refine V_goto (tgt := 255) hc dX9_behind_251 (by decide) ?_
                          exact V_iret hc rfl rfl dX9_behind_255
                    · refine V_iconst (v := 0) hc dX9_behind_235 (by decide) ?_
                      refine V_goto (tgt := 255) hc dX9_behind_236 (by decide) ?_
                      exact V_iret hc rfl rfl dX9_behind_255
                  · refine V_iload_n hc dX9_behind_216 rfl 1 rfl ?_
                    refine V_bipush (v := 6) hc dX9_behind_217 (by decide) ?_
                    refine V_icmp_ne (tgt := 227) hc dX9_behind_219 (by decide) ?_ ?_
                    · refine V_iload_n hc dX9_behind_227 rfl 1 rfl ?_
                      refine V_iconst (v := 1) hc dX9_behind_228 (by decide) ?_
                      refine V_iadd hc dX9_behind_229 ?_
                      exact V_iret hc rfl rfl dX9_behind_230
                    · refine V_bipush (v := 8) hc dX9_behind_222 (by decide) ?_
                      refine V_goto (tgt := 230) hc dX9_behind_224 (by decide) ?_
                      exact V_iret hc rfl rfl dX9_behind_230
              · refine V_ite (fun h45 => ?_) (fun h45 => ?_)
                · refine V_tsIn (tgt := 203) hc dX9_behind_19 (by rw [h45] <;> decide) (by rw [h45] <;> decide) (by rw [h45] <;> rfl) (by decide) ?_
                  refine V_iload_n hc dX9_behind_203 rfl 1 rfl ?_
                  refine V_bipush (v := 8) hc dX9_behind_204 (by decide) ?_
                  refine V_icmp_ge (tgt := 231) hc dX9_behind_206 (by decide) ?_ ?_
                  · refine V_iload_n hc dX9_behind_231 rfl 0 rfl ?_
                    refine V_if_eq (tgt := 239) hc dX9_behind_232 (by decide) ?_ ?_
                    · refine V_iload_n hc dX9_behind_239 rfl 2 rfl ?_
                      refine V_bipush (v := 41) hc dX9_behind_240 (by decide) ?_
                      refine V_icmp_ne (tgt := 254) hc dX9_behind_242 (by decide) ?_ ?_
                      · refine V_iconst (v := (-1)) hc dX9_behind_254 (by decide) ?_
                        exact V_iret hc rfl rfl dX9_behind_255
                      · refine V_iload_n hc dX9_behind_245 rfl 3 rfl ?_
                        refine V_if_le (tgt := 254) hc dX9_behind_246 (by decide) ?_ ?_
                        · refine V_iconst (v := (-1)) hc dX9_behind_254 (by decide) ?_
                          exact V_iret hc rfl rfl dX9_behind_255
                        · refine V_bipush (v := 8) hc dX9_behind_249 (by decide) ?_
                          refine V_goto (tgt := 255) hc dX9_behind_251 (by decide) ?_
                          exact V_iret hc rfl rfl dX9_behind_255
                    · refine V_iconst (v := 0) hc dX9_behind_235 (by decide) ?_
                      refine V_goto (tgt := 255) hc dX9_behind_236 (by decide) ?_
                      exact V_iret hc rfl rfl dX9_behind_255
                  · refine V_iload_n hc dX9_behind_209 rfl 2 rfl ?_
                    refine V_callS_RI hc (c_X9_isDigit l K t (a1)) 1 gX9_behind_X9_isDigit rfl ⟨rfl, rfl⟩ (by decide) ⟨Nat.le_of_ble_eq_true rfl, Nat.le_of_ble_eq_true rfl⟩ rfl rfl (Nat.le_of_ble_eq_true rfl) dX9_behind_210 (fun r46 => ?_)
                    refine V_if_eq (tgt := 231) hc dX9_behind_213 (by decide) ?_ ?_
                    · refine V_iload_n hc dX9_behind_231 rfl 0 rfl ?_
                      refine V_if_eq (tgt := 239) hc dX9_behind_232 (by decide) ?_ ?_
                      · refine V_iload_n hc dX9_behind_239 rfl 2 rfl ?_
                        refine V_bipush (v := 41) hc dX9_behind_240 (by decide) ?_
                        refine V_icmp_ne (tgt := 254) hc dX9_behind_242 (by decide) ?_ ?_
                        · refine V_iconst (v := (-1)) hc dX9_behind_254 (by decide) ?_
                          exact V_iret hc rfl rfl dX9_behind_255
                        · refine V_iload_n hc dX9_behind_245 rfl 3 rfl ?_
                          refine V_if_le (tgt := 254) hc dX9_behind_246 (by decide) ?_ ?_
                          · refine V_iconst (v := (-1)) hc dX9_behind_254 (by decide) ?_
                            exact V_iret hc rfl rfl dX9_behind_255
                          · refine V_bipush (v := 8) hc dX9_behind_249 (by decide) ?_
                            refine V_goto (tgt := 255) hc dX9_behind_251 (by decide) ?_
                            exact V_iret hc rfl rfl dX9_behind_255
                      · refine V_iconst (v := 0) hc dX9_behind_235 (by decide) ?_
                        refine V_goto (tgt := 255) hc dX9_behind_236 (by decide) ?_
                        exact V_iret hc rfl rfl dX9_behind_255
                    · refine V_iload_n hc dX9_behind_216 rfl 1 rfl ?_
                      refine V_bipush (v := 6) hc dX9_behind_217 (by decide) ?_
                      refine V_icmp_ne (tgt := 227) hc dX9_behind_219 (by decide) ?_ ?_
                      · refine V_iload_n hc dX9_behind_227 rfl 1 rfl ?_
                        refine V_iconst (v := 1) hc dX9_behind_228 (by decide) ?_
                        refine V_iadd hc dX9_behind_229 ?_
                        exact V_iret hc rfl rfl dX9_behind_230
                      · refine V_bipush (v := 8) hc dX9_behind_222 (by decide) ?_
                        refine V_goto (tgt := 230) hc dX9_behind_224 (by decide) ?_
                        exact V_iret hc rfl rfl dX9_behind_230
                · refine V_ite (fun h47 => ?_) (fun h47 => ?_)
                  · refine V_tsIn (tgt := 203) hc dX9_behind_19 (by rw [h47] <;> decide) (by rw [h47] <;> decide) (by rw [h47] <;> rfl) (by decide) ?_
                    refine V_iload_n hc dX9_behind_203 rfl 1 rfl ?_
                    refine V_bipush (v := 8) hc dX9_behind_204 (by decide) ?_
                    refine V_icmp_ge (tgt := 231) hc dX9_behind_206 (by decide) ?_ ?_
                    · refine V_iload_n hc dX9_behind_231 rfl 0 rfl ?_
                      refine V_if_eq (tgt := 239) hc dX9_behind_232 (by decide) ?_ ?_
                      · refine V_iload_n hc dX9_behind_239 rfl 2 rfl ?_
                        refine V_bipush (v := 41) hc dX9_behind_240 (by decide) ?_
                        refine V_icmp_ne (tgt := 254) hc dX9_behind_242 (by decide) ?_ ?_
                        · refine V_iconst (v := (-1)) hc dX9_behind_254 (by decide) ?_
                          exact V_iret hc rfl rfl dX9_behind_255
                        · refine V_iload_n hc dX9_behind_245 rfl 3 rfl ?_
                          refine V_if_le (tgt := 254) hc dX9_behind_246 (by decide) ?_ ?_
                          · refine V_iconst (v := (-1)) hc dX9_behind_254 (by decide) ?_
                            exact V_iret hc rfl rfl dX9_behind_255
                          · refine V_bipush (v := 8) hc dX9_behind_249 (by decide) ?_
                            refine V_goto (tgt := 255) hc dX9_behind_251 (by decide) ?_
                            exact V_iret hc rfl rfl dX9_behind_255
                      · refine V_iconst (v := 0) hc dX9_behind_235 (by decide) ?_
                        refine V_goto (tgt := 255) hc dX9_behind_236 (by decide) ?_
                        exact V_iret hc rfl rfl dX9_behind_255
                    · refine V_iload_n hc dX9_behind_209 rfl 2 rfl ?_
                      refine V_callS_RI hc (c_X9_isDigit l K t (a1)) 1 gX9_behind_X9_isDigit rfl ⟨rfl, rfl⟩ (by decide) ⟨Nat.le_of_ble_eq_true rfl, Nat.le_of_ble_eq_true rfl⟩ rfl rfl (Nat.le_of_ble_eq_true rfl) dX9_behind_210 (fun r48 => ?_)
                      refine V_if_eq (tgt := 231) hc dX9_behind_213 (by decide) ?_ ?_
                      · refine V_iload_n hc dX9_behind_231 rfl 0 rfl ?_
                        refine V_if_eq (tgt := 239) hc dX9_behind_232 (by decide) ?_ ?_
                        · refine V_iload_n hc dX9_behind_239 rfl 2 rfl ?_
                          refine V_bipush (v := 41) hc dX9_behind_240 (by decide) ?_
                          refine V_icmp_ne (tgt := 254) hc dX9_behind_242 (by decide) ?_ ?_
                          · refine V_iconst (v := (-1)) hc dX9_behind_254 (by decide) ?_
                            exact V_iret hc rfl rfl dX9_behind_255
                          · refine V_iload_n hc dX9_behind_245 rfl 3 rfl ?_
                            refine V_if_le (tgt := 254) hc dX9_behind_246 (by decide) ?_ ?_
                            · refine V_iconst (v := (-1)) hc dX9_behind_254 (by decide) ?_
                              exact V_iret hc rfl rfl dX9_behind_255
                            · refine V_bipush (v := 8) hc dX9_behind_249 (by decide) ?_
                              refine V_goto (tgt := 255) hc dX9_behind_251 (by decide) ?_
                              exact V_iret hc rfl rfl dX9_behind_255
                        · refine V_iconst (v := 0) hc dX9_behind_235 (by decide) ?_
                          refine V_goto (tgt := 255) hc dX9_behind_236 (by decide) ?_
                          exact V_iret hc rfl rfl dX9_behind_255
                      · refine V_iload_n hc dX9_behind_216 rfl 1 rfl ?_
                        refine V_bipush (v := 6) hc dX9_behind_217 (by decide) ?_
                        refine V_icmp_ne (tgt := 227) hc dX9_behind_219 (by decide) ?_ ?_
                        · refine V_iload_n hc dX9_behind_227 rfl 1 rfl ?_
                          refine V_iconst (v := 1) hc dX9_behind_228 (by decide) ?_
                          refine V_iadd hc dX9_behind_229 ?_
                          exact V_iret hc rfl rfl dX9_behind_230
                        · refine V_bipush (v := 8) hc dX9_behind_222 (by decide) ?_
                          refine V_goto (tgt := 230) hc dX9_behind_224 (by decide) ?_
                          exact V_iret hc rfl rfl dX9_behind_230
                  · refine V_ite (fun h49 => ?_) (fun h49 => ?_)
                    · refine V_tsIn (tgt := 189) hc dX9_behind_19 (by rw [h49] <;> decide) (by rw [h49] <;> decide) (by rw [h49] <;> rfl) (by decide) ?_
                      refine V_iload_n hc dX9_behind_189 rfl 2 rfl ?_
                      refine V_callS_RI hc (c_X9_isDigit l K t (a1)) 1 gX9_behind_X9_isDigit rfl ⟨rfl, rfl⟩ (by decide) ⟨Nat.le_of_ble_eq_true rfl, Nat.le_of_ble_eq_true rfl⟩ rfl rfl (Nat.le_of_ble_eq_true rfl) dX9_behind_190 (fun r50 => ?_)
                      refine V_if_eq (tgt := 201) hc dX9_behind_193 (by decide) ?_ ?_
                      · refine V_iconst (v := (-1)) hc dX9_behind_201 (by decide) ?_
                        exact V_iret hc rfl rfl dX9_behind_202
                      · refine V_bipush (v := 8) hc dX9_behind_196 (by decide) ?_
                        refine V_goto (tgt := 202) hc dX9_behind_198 (by decide) ?_
                        exact V_iret hc rfl rfl dX9_behind_202
                    · refine V_tsOut (tgt := 203) hc dX9_behind_19 (ts_out (lo := 0) (n := 8) (fun i hi => match i, hi with | 0, _ => h35 | 1, _ => h38 | 2, _ => h39 | 3, _ => h41 | 4, _ => h43 | 5, _ => h45 | 6, _ => h47 | 7, _ => h49 | _ + 8, hi => absurd hi (by omega))) (by decide) ?_
                      refine V_iload_n hc dX9_behind_203 rfl 1 rfl ?_
                      refine V_bipush (v := 8) hc dX9_behind_204 (by decide) ?_
                      refine V_icmp_ge (tgt := 231) hc dX9_behind_206 (by decide) ?_ ?_
                      · refine V_iload_n hc dX9_behind_231 rfl 0 rfl ?_
                        refine V_if_eq (tgt := 239) hc dX9_behind_232 (by decide) ?_ ?_
                        · refine V_iload_n hc dX9_behind_239 rfl 2 rfl ?_
                          refine V_bipush (v := 41) hc dX9_behind_240 (by decide) ?_
                          refine V_icmp_ne (tgt := 254) hc dX9_behind_242 (by decide) ?_ ?_
                          · refine V_iconst (v := (-1)) hc dX9_behind_254 (by decide) ?_
                            exact V_iret hc rfl rfl dX9_behind_255
                          · refine V_iload_n hc dX9_behind_245 rfl 3 rfl ?_
                            refine V_if_le (tgt := 254) hc dX9_behind_246 (by decide) ?_ ?_
                            · refine V_iconst (v := (-1)) hc dX9_behind_254 (by decide) ?_
                              exact V_iret hc rfl rfl dX9_behind_255
                            · refine V_bipush (v := 8) hc dX9_behind_249 (by decide) ?_
                              refine V_goto (tgt := 255) hc dX9_behind_251 (by decide) ?_
                              exact V_iret hc rfl rfl dX9_behind_255
                        · refine V_iconst (v := 0) hc dX9_behind_235 (by decide) ?_
                          refine V_goto (tgt := 255) hc dX9_behind_236 (by decide) ?_
                          exact V_iret hc rfl rfl dX9_behind_255
                      · refine V_iload_n hc dX9_behind_209 rfl 2 rfl ?_
                        refine V_callS_RI hc (c_X9_isDigit l K t (a1)) 1 gX9_behind_X9_isDigit rfl ⟨rfl, rfl⟩ (by decide) ⟨Nat.le_of_ble_eq_true rfl, Nat.le_of_ble_eq_true rfl⟩ rfl rfl (Nat.le_of_ble_eq_true rfl) dX9_behind_210 (fun r51 => ?_)
                        refine V_if_eq (tgt := 231) hc dX9_behind_213 (by decide) ?_ ?_
                        · refine V_iload_n hc dX9_behind_231 rfl 0 rfl ?_
                          refine V_if_eq (tgt := 239) hc dX9_behind_232 (by decide) ?_ ?_
                          · refine V_iload_n hc dX9_behind_239 rfl 2 rfl ?_
                            refine V_bipush (v := 41) hc dX9_behind_240 (by decide) ?_
                            refine V_icmp_ne (tgt := 254) hc dX9_behind_242 (by decide) ?_ ?_
                            · refine V_iconst (v := (-1)) hc dX9_behind_254 (by decide) ?_
                              exact V_iret hc rfl rfl dX9_behind_255
                            · refine V_iload_n hc dX9_behind_245 rfl 3 rfl ?_
                              refine V_if_le (tgt := 254) hc dX9_behind_246 (by decide) ?_ ?_
                              · refine V_iconst (v := (-1)) hc dX9_behind_254 (by decide) ?_
                                exact V_iret hc rfl rfl dX9_behind_255
                              · refine V_bipush (v := 8) hc dX9_behind_249 (by decide) ?_
                                refine V_goto (tgt := 255) hc dX9_behind_251 (by decide) ?_
                                exact V_iret hc rfl rfl dX9_behind_255
                          · refine V_iconst (v := 0) hc dX9_behind_235 (by decide) ?_
                            refine V_goto (tgt := 255) hc dX9_behind_236 (by decide) ?_
                            exact V_iret hc rfl rfl dX9_behind_255
                        · refine V_iload_n hc dX9_behind_216 rfl 1 rfl ?_
                          refine V_bipush (v := 6) hc dX9_behind_217 (by decide) ?_
                          refine V_icmp_ne (tgt := 227) hc dX9_behind_219 (by decide) ?_ ?_
                          · refine V_iload_n hc dX9_behind_227 rfl 1 rfl ?_
                            refine V_iconst (v := 1) hc dX9_behind_228 (by decide) ?_
                            refine V_iadd hc dX9_behind_229 ?_
                            exact V_iret hc rfl rfl dX9_behind_230
                          · refine V_bipush (v := 8) hc dX9_behind_222 (by decide) ?_
                            refine V_goto (tgt := 230) hc dX9_behind_224 (by decide) ?_
                            exact V_iret hc rfl rfl dX9_behind_230

theorem kX9_fault_112 : Cond.fieldLink RX9 112 RX9 (TX9 11).2.1 (TX9 11).2.2.1 ∈ wsX9_fault := by decide +kernel
theorem qX9_fault_RX9 : ∀ w ∈ u_ws RX9 TX9 28, w ∈ wsX9_fault := by
  first
  | exact fun _ h => List.mem_cons_of_mem _ (List.mem_append_right _ h)
  | exact fun _ h => List.mem_cons_of_mem _ (List.mem_append_left _ (List.mem_append_right _ h))
  | exact fun _ h => List.mem_cons_of_mem _ (List.mem_append_left _ (List.mem_append_left _ (List.mem_append_right _ h)))
  | exact fun _ h => List.mem_cons_of_mem _ (List.mem_append_left _ (List.mem_append_left _ (List.mem_append_left _ (List.mem_append_right _ h))))
  | exact fun _ h => List.mem_cons_of_mem _ (List.mem_append_left _ (List.mem_append_left _ (List.mem_append_left _ (List.mem_append_left _ (List.mem_append_right _ h)))))
  | decide +kernel
theorem kX9_fault_44 : Cond.fieldLink RX9 44 RX9 (TX9 12).2.1 (TX9 12).2.2.1 ∈ wsX9_fault := by decide +kernel
noncomputable def L_X9_fault_6 (t0 : Sx) (kont : Int32 → Int32 → Int32 → Option Int32) : Nat → Int32 → Int32 → Int32 → Option Int32
  | 0, _, _, _ => none
  | n + 1, x1 , x2 , x3 => if (gI t0 52) ≤ x3 then kont (x1) (x2) (x3) else gd (vp_in x3 80) ((f_X9_behind t0 (x1) (gA t0 34 (ix x3)) (x2)).bind fun r1 => if 0 ≤ r1 then if (gA t0 34 (ix x3)) = 40 then L_X9_fault_6 t0 kont n (r1) ((x2 + 1)) ((x3 + 1)) else if (gA t0 34 (ix x3)) = 41 then L_X9_fault_6 t0 kont n (r1) ((x2 + (-1))) ((x3 + 1)) else L_X9_fault_6 t0 kont n (r1) ((x2 + 0)) ((x3 + 1)) else some x3)
set_option maxRecDepth 20000 in
set_option maxHeartbeats 4000000 in
theorem L_X9_fault_6_ok {p : Program} {l : Launch} {K : Kx} {e : Env} {s : State} {m : MethodId} {args : Array Value} {below : List Frame} {meth : Method} {c : Code} (hc : Cx p ({ frames := 2, cells := 0, slots := 0, locals := 43 } : Room) s m args meth c cX9_fault 5 wsX9_fault RX9 K (aA K s.heap.size) (some .int) 0 0) (t0 : Sx) (kont : Int32 → Int32 → Int32 → Option Int32) (hk : ∀ x1 x2 x3, V p l e ({ frames := 2, cells := 0, slots := 0, locals := 43 } : Room) s m args below meth c K (aA K s.heap.size) 0 0 5 (QM below K args s (kRI t0)) 68 [(0, .ref (K.2.2 24)), (1, .int x1), (2, .int x2), (3, .int x3)] [] t0 (kont x1 x2 x3)) : ∀ (n : Nat) (x1 : Int32) (x2 : Int32) (x3 : Int32), V p l e ({ frames := 2, cells := 0, slots := 0, locals := 43 } : Room) s m args below meth c K (aA K s.heap.size) 0 0 5 (QM below K args s (kRI t0)) 6 [(0, .ref (K.2.2 24)), (1, .int x1), (2, .int x2), (3, .int x3)] [] t0 (L_X9_fault_6 t0 kont n x1 x2 x3) := by
  intro n
  induction n with
  | zero => intro x1 x2 x3; exact V_none
  | succ n ih =>
    intro x1 x2 x3
    rw [L_X9_fault_6]
    refine V_iload_n hc dX9_fault_6 rfl 3 rfl ?_
    refine V_aload_n hc dX9_fault_7 rfl 0 rfl ?_
    refine V_geti (C := RX9) (T := TX9) (N := 28) hc sP24 rfl qX9_fault_RX9 11 rfl (by decide) kX9_fault_112 rfl dX9_fault_8 ?_
    refine V_icmp_ge (tgt := 68) hc dX9_fault_11 (by decide) ?_ ?_
    · exact V_sub [0, 1, 2, 3] rfl (hk _ _ _)
    · refine V_aload_n hc dX9_fault_14 rfl 0 rfl ?_
      refine V_getr (C := RX9) (T := TX9) (N := 28) hc sP24 rfl qX9_fault_RX9 12 rfl (by decide) kX9_fault_44 rfl dX9_fault_15 ?_
      refine V_iload_n hc dX9_fault_18 rfl 3 rfl ?_
      refine V_cald hc sP36 dX9_fault_19 ?_
      refine V_istore (lv' := [(4, .int (gA t0 34 (ix x3))), (0, .ref (K.2.2 24)), (1, .int x1), (2, .int x2), (3, .int x3)]) hc dX9_fault_20 (by decide) rfl ?_
      refine V_iload_n hc dX9_fault_22 rfl 2 rfl ?_
      refine V_iload hc dX9_fault_23 0 rfl ?_
      refine V_iload_n hc dX9_fault_25 rfl 3 rfl ?_
      refine V_callS_RI hc (c_X9_behind l K t0 (x1) (gA t0 34 (ix x3)) (x2)) 3 gX9_fault_X9_behind rfl ⟨rfl, rfl⟩ (by decide) ⟨Nat.le_of_ble_eq_true rfl, Nat.le_of_ble_eq_true rfl⟩ rfl rfl (Nat.le_of_ble_eq_true rfl) dX9_fault_26 (fun r1 => ?_)
      refine V_istore_n (lv' := [(1, .int r1), (4, .int (gA t0 34 (ix x3))), (0, .ref (K.2.2 24)), (2, .int x2), (3, .int x3)]) hc dX9_fault_29 rfl (by decide) rfl ?_
      refine V_iload_n hc dX9_fault_30 rfl 0 rfl ?_
      refine V_if_ge (tgt := 36) hc dX9_fault_31 (by decide) ?_ ?_
      · refine V_iload_n hc dX9_fault_36 rfl 3 rfl ?_
        refine V_iload hc dX9_fault_37 1 rfl ?_
        refine V_bipush (v := 40) hc dX9_fault_39 (by decide) ?_
        refine V_icmp_ne (tgt := 48) hc dX9_fault_41 (by decide) ?_ ?_
        · refine V_iload hc dX9_fault_48 1 rfl ?_
          refine V_bipush (v := 41) hc dX9_fault_50 (by decide) ?_
          refine V_icmp_ne (tgt := 59) hc dX9_fault_52 (by decide) ?_ ?_
          · refine V_iconst (v := 0) hc dX9_fault_59 (by decide) ?_
            refine V_iadd hc dX9_fault_60 ?_
            refine V_istore_n (lv' := [(2, .int (x2 + 0)), (1, .int r1), (4, .int (gA t0 34 (ix x3))), (0, .ref (K.2.2 24)), (3, .int x3)]) hc dX9_fault_61 rfl (by decide) rfl ?_
            refine V_iinc (v := (x3 + 1)) (lv' := [(3, .int (x3 + 1)), (2, .int (x2 + 0)), (1, .int r1), (4, .int (gA t0 34 (ix x3))), (0, .ref (K.2.2 24))]) hc dX9_fault_62 4 rfl rfl (by decide) rfl ?_
            refine V_goto (tgt := 6) hc dX9_fault_65 (by decide) ?_
            exact V_sub [4, 2, 1, 0] rfl (ih _ _ _)
          · refine V_iconst (v := (-1)) hc dX9_fault_55 (by decide) ?_
            refine V_goto (tgt := 60) hc dX9_fault_56 (by decide) ?_
            refine V_iadd hc dX9_fault_60 ?_
            refine V_istore_n (lv' := [(2, .int (x2 + (-1))), (1, .int r1), (4, .int (gA t0 34 (ix x3))), (0, .ref (K.2.2 24)), (3, .int x3)]) hc dX9_fault_61 rfl (by decide) rfl ?_
            refine V_iinc (v := (x3 + 1)) (lv' := [(3, .int (x3 + 1)), (2, .int (x2 + (-1))), (1, .int r1), (4, .int (gA t0 34 (ix x3))), (0, .ref (K.2.2 24))]) hc dX9_fault_62 4 rfl rfl (by decide) rfl ?_
            refine V_goto (tgt := 6) hc dX9_fault_65 (by decide) ?_
            exact V_sub [4, 2, 1, 0] rfl (ih _ _ _)
        · refine V_iconst (v := 1) hc dX9_fault_44 (by decide) ?_
          refine V_goto (tgt := 60) hc dX9_fault_45 (by decide) ?_
          refine V_iadd hc dX9_fault_60 ?_
          refine V_istore_n (lv' := [(2, .int (x2 + 1)), (1, .int r1), (4, .int (gA t0 34 (ix x3))), (0, .ref (K.2.2 24)), (3, .int x3)]) hc dX9_fault_61 rfl (by decide) rfl ?_
          refine V_iinc (v := (x3 + 1)) (lv' := [(3, .int (x3 + 1)), (2, .int (x2 + 1)), (1, .int r1), (4, .int (gA t0 34 (ix x3))), (0, .ref (K.2.2 24))]) hc dX9_fault_62 4 rfl rfl (by decide) rfl ?_
          refine V_goto (tgt := 6) hc dX9_fault_65 (by decide) ?_
          exact V_sub [4, 2, 1, 0] rfl (ih _ _ _)
      · refine V_iload_n hc dX9_fault_34 rfl 4 rfl ?_
        exact V_iret hc rfl rfl dX9_fault_35
noncomputable def f_X9_fault (t : Sx)  : Option Int32 := L_X9_fault_6 t (fun z2 z3 z4 => if z3 = 0 then if z2 = 8 then if (1 : Int32) = 0 then some (gI t 52) else some (-4) else (f_X9_in t (z2) (3) (6)).bind fun r5 => if r5 = 0 then if (0 : Int32) = 0 then some (gI t 52) else some (-4) else if (1 : Int32) = 0 then some (gI t 52) else some (-4) else if (0 : Int32) = 0 then some (gI t 52) else some (-4)) FU (0) (0) (0)
set_option maxRecDepth 20000 in
set_option maxHeartbeats 4000000 in
theorem c_X9_fault (l : Launch) (K : Kx) (t : Sx)  : CT l K yX9_fault wsX9_fault ({ frames := 2, cells := 0, slots := 0, locals := 43 } : Room) [.ref (K.2.2 24)] t (f_X9_fault t ) (kRI t) := by
  refine CT_of (cc := cX9_fault) (maxL := 5) (ret := (some .int)) (own := RX9) (by decide +kernel) rfl rfl (Nat.le_of_ble_eq_true rfl) ?_
  intro p e s m args below meth c hc
  refine V_sub (lv' := [(0, .ref (K.2.2 24))]) [0] rfl ?_
  unfold f_X9_fault
  refine V_iconst (v := 0) hc dX9_fault_0 (by decide) ?_
  refine V_istore_n (lv' := [(1, .int 0), (0, .ref (K.2.2 24))]) hc dX9_fault_1 rfl (by decide) rfl ?_
  refine V_iconst (v := 0) hc dX9_fault_2 (by decide) ?_
  refine V_istore_n (lv' := [(2, .int 0), (1, .int 0), (0, .ref (K.2.2 24))]) hc dX9_fault_3 rfl (by decide) rfl ?_
  refine V_iconst (v := 0) hc dX9_fault_4 (by decide) ?_
  refine V_istore_n (lv' := [(3, .int 0), (2, .int 0), (1, .int 0), (0, .ref (K.2.2 24))]) hc dX9_fault_5 rfl (by decide) rfl ?_
  refine V_sub (lv' := [(0, .ref (K.2.2 24)), (1, .int 0), (2, .int 0), (3, .int 0)]) [3, 2, 1, 0] rfl ?_
  refine L_X9_fault_6_ok hc t _ (fun z2 z3 z4 => ?_) FU _ _ _
  refine V_iload_n hc dX9_fault_68 rfl 2 rfl ?_
  refine V_if_ne (tgt := 92) hc dX9_fault_69 (by decide) ?_ ?_
  · refine V_iconst (v := 0) hc dX9_fault_92 (by decide) ?_
    refine V_istore_n (lv' := [(3, .int 0), (0, .ref (K.2.2 24)), (1, .int z2), (2, .int z3)]) hc dX9_fault_93 rfl (by decide) rfl ?_
    refine V_iload_n hc dX9_fault_94 rfl 0 rfl ?_
    refine V_if_eq (tgt := 103) hc dX9_fault_95 (by decide) ?_ ?_
    · refine V_aload_n hc dX9_fault_103 rfl 1 rfl ?_
      refine V_geti (C := RX9) (T := TX9) (N := 28) hc sP24 rfl qX9_fault_RX9 11 rfl (by decide) kX9_fault_112 rfl dX9_fault_104 ?_
      exact V_iret hc rfl rfl dX9_fault_107
    · refine V_bipush (v := (-4)) hc dX9_fault_98 (by decide) ?_
      refine V_goto (tgt := 107) hc dX9_fault_100 (by decide) ?_
      exact V_iret hc rfl rfl dX9_fault_107
  · refine V_iload_n hc dX9_fault_72 rfl 1 rfl ?_
    refine V_bipush (v := 8) hc dX9_fault_73 (by decide) ?_
    refine V_icmp_eq (tgt := 88) hc dX9_fault_75 (by decide) ?_ ?_
    · refine V_iconst (v := 1) hc dX9_fault_88 (by decide) ?_
      refine V_goto (tgt := 93) hc dX9_fault_89 (by decide) ?_
      refine V_istore_n (lv' := [(3, .int 1), (0, .ref (K.2.2 24)), (1, .int z2), (2, .int z3)]) hc dX9_fault_93 rfl (by decide) rfl ?_
      refine V_iload_n hc dX9_fault_94 rfl 0 rfl ?_
      refine V_if_eq (tgt := 103) hc dX9_fault_95 (by decide) ?_ ?_
      · refine V_aload_n hc dX9_fault_103 rfl 1 rfl ?_
        refine V_geti (C := RX9) (T := TX9) (N := 28) hc sP24 rfl qX9_fault_RX9 11 rfl (by decide) kX9_fault_112 rfl dX9_fault_104 ?_
        exact V_iret hc rfl rfl dX9_fault_107
      · refine V_bipush (v := (-4)) hc dX9_fault_98 (by decide) ?_
        refine V_goto (tgt := 107) hc dX9_fault_100 (by decide) ?_
        exact V_iret hc rfl rfl dX9_fault_107
    · refine V_iload_n hc dX9_fault_78 rfl 1 rfl ?_
      refine V_iconst (v := 3) hc dX9_fault_79 (by decide) ?_
      refine V_bipush (v := 6) hc dX9_fault_80 (by decide) ?_
      refine V_callS_RI hc (c_X9_in l K t (z2) (3) (6)) 3 gX9_fault_X9_in rfl ⟨rfl, rfl⟩ (by decide) ⟨Nat.le_of_ble_eq_true rfl, Nat.le_of_ble_eq_true rfl⟩ rfl rfl (Nat.le_of_ble_eq_true rfl) dX9_fault_82 (fun r5 => ?_)
      refine V_if_eq (tgt := 92) hc dX9_fault_85 (by decide) ?_ ?_
      · refine V_iconst (v := 0) hc dX9_fault_92 (by decide) ?_
        refine V_istore_n (lv' := [(3, .int 0), (0, .ref (K.2.2 24)), (1, .int z2), (2, .int z3)]) hc dX9_fault_93 rfl (by decide) rfl ?_
        refine V_iload_n hc dX9_fault_94 rfl 0 rfl ?_
        refine V_if_eq (tgt := 103) hc dX9_fault_95 (by decide) ?_ ?_
        · refine V_aload_n hc dX9_fault_103 rfl 1 rfl ?_
          refine V_geti (C := RX9) (T := TX9) (N := 28) hc sP24 rfl qX9_fault_RX9 11 rfl (by decide) kX9_fault_112 rfl dX9_fault_104 ?_
          exact V_iret hc rfl rfl dX9_fault_107
        · refine V_bipush (v := (-4)) hc dX9_fault_98 (by decide) ?_
          refine V_goto (tgt := 107) hc dX9_fault_100 (by decide) ?_
          exact V_iret hc rfl rfl dX9_fault_107
      · refine V_iconst (v := 1) hc dX9_fault_88 (by decide) ?_
        refine V_goto (tgt := 93) hc dX9_fault_89 (by decide) ?_
        refine V_istore_n (lv' := [(3, .int 1), (0, .ref (K.2.2 24)), (1, .int z2), (2, .int z3)]) hc dX9_fault_93 rfl (by decide) rfl ?_
        refine V_iload_n hc dX9_fault_94 rfl 0 rfl ?_
        refine V_if_eq (tgt := 103) hc dX9_fault_95 (by decide) ?_ ?_
        · refine V_aload_n hc dX9_fault_103 rfl 1 rfl ?_
          refine V_geti (C := RX9) (T := TX9) (N := 28) hc sP24 rfl qX9_fault_RX9 11 rfl (by decide) kX9_fault_112 rfl dX9_fault_104 ?_
          exact V_iret hc rfl rfl dX9_fault_107
        · refine V_bipush (v := (-4)) hc dX9_fault_98 (by decide) ?_
          refine V_goto (tgt := 107) hc dX9_fault_100 (by decide) ?_
          exact V_iret hc rfl rfl dX9_fault_107

theorem kX9_tells_76 : Cond.fieldLink RX9 76 RX9 (TX9 23).2.1 (TX9 23).2.2.1 ∈ wsX9_tells := by decide +kernel
theorem qX9_tells_RX9 : ∀ w ∈ u_ws RX9 TX9 28, w ∈ wsX9_tells := by
  first
  | exact fun _ h => List.mem_cons_of_mem _ (List.mem_append_right _ h)
  | exact fun _ h => List.mem_cons_of_mem _ (List.mem_append_left _ (List.mem_append_right _ h))
  | exact fun _ h => List.mem_cons_of_mem _ (List.mem_append_left _ (List.mem_append_left _ (List.mem_append_right _ h)))
  | exact fun _ h => List.mem_cons_of_mem _ (List.mem_append_left _ (List.mem_append_left _ (List.mem_append_left _ (List.mem_append_right _ h))))
  | exact fun _ h => List.mem_cons_of_mem _ (List.mem_append_left _ (List.mem_append_left _ (List.mem_append_left _ (List.mem_append_left _ (List.mem_append_right _ h)))))
  | decide +kernel
theorem kX9_tells_120 : Cond.fieldLink RX9 120 RX9 (TX9 25).2.1 (TX9 25).2.2.1 ∈ wsX9_tells := by decide +kernel
theorem kX9_tells_79 : Cond.fieldLink RX9 79 RX9 (TX9 24).2.1 (TX9 24).2.2.1 ∈ wsX9_tells := by decide +kernel
noncomputable def f_X9_tells (t : Sx) (a1 : Int32) : Option Sx := gd (vp_in (gI t 54) 12) (if (gA t 43 (ix (gI t 54))) = 0 then gd (vp_in (gI t 54) 12) (bd (pA t 43 (ix (gI t 54)) 0) fun t1 => gd (vp_in (gI t1 54) 12) (bd (pA t1 44 (ix (gI t1 54)) 0) fun t2 => some t2)) else gd (vp_in (gI t 54) 12) (if a1 = (gA t 44 (ix (gI t 54))) then gd (vp_in (gI t 54) 12) (bd (pA t 43 (ix (gI t 54)) 0) fun t3 => gd (vp_in (gI t3 54) 12) (bd (pA t3 44 (ix (gI t3 54)) 0) fun t4 => some t4)) else gd (vp_in (gI t 54) 12) (bd (pA t 43 (ix (gI t 54)) 1) fun t5 => gd (vp_in (gI t5 54) 12) (bd (pA t5 44 (ix (gI t5 54)) 0) fun t6 => some t6))))
set_option maxRecDepth 20000 in
set_option maxHeartbeats 4000000 in
theorem c_X9_tells (l : Launch) (K : Kx) (t : Sx) (a1 : Int32) : CT l K yX9_tells wsX9_tells ({ frames := 0, cells := 0, slots := 0, locals := 0 } : Room) [.ref (K.2.2 24), .int a1] t (f_X9_tells t a1) kWV := by
  refine CT_of (cc := cX9_tells) (maxL := 2) (ret := none) (own := RX9) (by decide +kernel) rfl rfl (Nat.le_of_ble_eq_true rfl) ?_
  intro p e s m args below meth c hc
  refine V_sub (lv' := [(0, .ref (K.2.2 24)), (1, .int a1)]) [0, 1] rfl ?_
  unfold f_X9_tells
  refine V_aload_n hc dX9_tells_0 rfl 0 rfl ?_
  refine V_getr (C := RX9) (T := TX9) (N := 28) hc sP24 rfl qX9_tells_RX9 23 rfl (by decide) kX9_tells_76 rfl dX9_tells_1 ?_
  refine V_aload_n hc dX9_tells_4 rfl 0 rfl ?_
  refine V_geti (C := RX9) (T := TX9) (N := 28) hc sP24 rfl qX9_tells_RX9 25 rfl (by decide) kX9_tells_120 rfl dX9_tells_5 ?_
  refine V_aload_n hc dX9_tells_8 rfl 0 rfl ?_
  refine V_getr (C := RX9) (T := TX9) (N := 28) hc sP24 rfl qX9_tells_RX9 23 rfl (by decide) kX9_tells_76 rfl dX9_tells_9 ?_
  refine V_aload_n hc dX9_tells_12 rfl 0 rfl ?_
  refine V_geti (C := RX9) (T := TX9) (N := 28) hc sP24 rfl qX9_tells_RX9 25 rfl (by decide) kX9_tells_120 rfl dX9_tells_13 ?_
  refine V_zald hc sP46 dX9_tells_16 ?_
  refine V_if_eq (tgt := 37) hc dX9_tells_17 (by decide) ?_ ?_
  · refine V_iconst (v := 0) hc dX9_tells_37 (by decide) ?_
    refine V_zastc hc sP46 (Or.inl rfl) dX9_tells_38 ?_
    refine V_bds (fun t1 => ?_)
    refine V_aload_n hc dX9_tells_39 rfl 0 rfl ?_
    refine V_getr (C := RX9) (T := TX9) (N := 28) hc sP24 rfl qX9_tells_RX9 24 rfl (by decide) kX9_tells_79 rfl dX9_tells_40 ?_
    refine V_aload_n hc dX9_tells_43 rfl 0 rfl ?_
    refine V_geti (C := RX9) (T := TX9) (N := 28) hc sP24 rfl qX9_tells_RX9 25 rfl (by decide) kX9_tells_120 rfl dX9_tells_44 ?_
    refine V_iconst (v := 0) hc dX9_tells_47 (by decide) ?_
    refine V_zastc hc sP47 (Or.inl rfl) dX9_tells_48 ?_
    refine V_bds (fun t2 => ?_)
    exact V_vret hc rfl rfl dX9_tells_49
  · refine V_iload_n hc dX9_tells_20 rfl 1 rfl ?_
    refine V_aload_n hc dX9_tells_21 rfl 0 rfl ?_
    refine V_getr (C := RX9) (T := TX9) (N := 28) hc sP24 rfl qX9_tells_RX9 24 rfl (by decide) kX9_tells_79 rfl dX9_tells_22 ?_
    refine V_aload_n hc dX9_tells_25 rfl 0 rfl ?_
    refine V_geti (C := RX9) (T := TX9) (N := 28) hc sP24 rfl qX9_tells_RX9 25 rfl (by decide) kX9_tells_120 rfl dX9_tells_26 ?_
    refine V_zald hc sP47 dX9_tells_29 ?_
    refine V_icmp_eq (tgt := 37) hc dX9_tells_30 (by decide) ?_ ?_
    · refine V_iconst (v := 0) hc dX9_tells_37 (by decide) ?_
      refine V_zastc hc sP46 (Or.inl rfl) dX9_tells_38 ?_
      refine V_bds (fun t3 => ?_)
      refine V_aload_n hc dX9_tells_39 rfl 0 rfl ?_
      refine V_getr (C := RX9) (T := TX9) (N := 28) hc sP24 rfl qX9_tells_RX9 24 rfl (by decide) kX9_tells_79 rfl dX9_tells_40 ?_
      refine V_aload_n hc dX9_tells_43 rfl 0 rfl ?_
      refine V_geti (C := RX9) (T := TX9) (N := 28) hc sP24 rfl qX9_tells_RX9 25 rfl (by decide) kX9_tells_120 rfl dX9_tells_44 ?_
      refine V_iconst (v := 0) hc dX9_tells_47 (by decide) ?_
      refine V_zastc hc sP47 (Or.inl rfl) dX9_tells_48 ?_
      refine V_bds (fun t4 => ?_)
      exact V_vret hc rfl rfl dX9_tells_49
    · refine V_iconst (v := 1) hc dX9_tells_33 (by decide) ?_
      refine V_goto (tgt := 38) hc dX9_tells_34 (by decide) ?_
      refine V_zastc hc sP46 (Or.inr rfl) dX9_tells_38 ?_
      refine V_bds (fun t5 => ?_)
      refine V_aload_n hc dX9_tells_39 rfl 0 rfl ?_
      refine V_getr (C := RX9) (T := TX9) (N := 28) hc sP24 rfl qX9_tells_RX9 24 rfl (by decide) kX9_tells_79 rfl dX9_tells_40 ?_
      refine V_aload_n hc dX9_tells_43 rfl 0 rfl ?_
      refine V_geti (C := RX9) (T := TX9) (N := 28) hc sP24 rfl qX9_tells_RX9 25 rfl (by decide) kX9_tells_120 rfl dX9_tells_44 ?_
      refine V_iconst (v := 0) hc dX9_tells_47 (by decide) ?_
      refine V_zastc hc sP47 (Or.inl rfl) dX9_tells_48 ?_
      refine V_bds (fun t6 => ?_)
      exact V_vret hc rfl rfl dX9_tells_49

theorem kX9_enters_73 : Cond.fieldLink RX9 73 RX9 (TX9 22).2.1 (TX9 22).2.2.1 ∈ wsX9_enters := by decide +kernel
theorem qX9_enters_RX9 : ∀ w ∈ u_ws RX9 TX9 28, w ∈ wsX9_enters := by
  first
  | exact fun _ h => List.mem_cons_of_mem _ (List.mem_append_right _ h)
  | exact fun _ h => List.mem_cons_of_mem _ (List.mem_append_left _ (List.mem_append_right _ h))
  | exact fun _ h => List.mem_cons_of_mem _ (List.mem_append_left _ (List.mem_append_left _ (List.mem_append_right _ h)))
  | exact fun _ h => List.mem_cons_of_mem _ (List.mem_append_left _ (List.mem_append_left _ (List.mem_append_left _ (List.mem_append_right _ h))))
  | exact fun _ h => List.mem_cons_of_mem _ (List.mem_append_left _ (List.mem_append_left _ (List.mem_append_left _ (List.mem_append_left _ (List.mem_append_right _ h)))))
  | decide +kernel
theorem kX9_enters_120 : Cond.fieldLink RX9 120 RX9 (TX9 25).2.1 (TX9 25).2.2.1 ∈ wsX9_enters := by decide +kernel
theorem kX9_enters_76 : Cond.fieldLink RX9 76 RX9 (TX9 23).2.1 (TX9 23).2.2.1 ∈ wsX9_enters := by decide +kernel
theorem kX9_enters_79 : Cond.fieldLink RX9 79 RX9 (TX9 24).2.1 (TX9 24).2.2.1 ∈ wsX9_enters := by decide +kernel
noncomputable def f_X9_enters (t : Sx)  : Option Sx := gd (vp_in (gI t 54) 12) (bd (pA t 42 (ix (gI t 54)) 0) fun t1 => gd (vp_in (gI t1 54) 12) (bd (pA t1 43 (ix (gI t1 54)) 1) fun t2 => gd (vp_in (gI t2 54) 12) (bd (pA t2 44 (ix (gI t2 54)) 0) fun t3 => some t3)))
set_option maxRecDepth 20000 in
set_option maxHeartbeats 4000000 in
theorem c_X9_enters (l : Launch) (K : Kx) (t : Sx)  : CT l K yX9_enters wsX9_enters ({ frames := 0, cells := 0, slots := 0, locals := 0 } : Room) [.ref (K.2.2 24)] t (f_X9_enters t ) kWV := by
  refine CT_of (cc := cX9_enters) (maxL := 1) (ret := none) (own := RX9) (by decide +kernel) rfl rfl (Nat.le_of_ble_eq_true rfl) ?_
  intro p e s m args below meth c hc
  refine V_sub (lv' := [(0, .ref (K.2.2 24))]) [0] rfl ?_
  unfold f_X9_enters
  refine V_aload_n hc dX9_enters_0 rfl 0 rfl ?_
  refine V_getr (C := RX9) (T := TX9) (N := 28) hc sP24 rfl qX9_enters_RX9 22 rfl (by decide) kX9_enters_73 rfl dX9_enters_1 ?_
  refine V_aload_n hc dX9_enters_4 rfl 0 rfl ?_
  refine V_geti (C := RX9) (T := TX9) (N := 28) hc sP24 rfl qX9_enters_RX9 25 rfl (by decide) kX9_enters_120 rfl dX9_enters_5 ?_
  refine V_iconst (v := 0) hc dX9_enters_8 (by decide) ?_
  refine V_zastc hc sP45 (Or.inl rfl) dX9_enters_9 ?_
  refine V_bds (fun t1 => ?_)
  refine V_aload_n hc dX9_enters_10 rfl 0 rfl ?_
  refine V_getr (C := RX9) (T := TX9) (N := 28) hc sP24 rfl qX9_enters_RX9 23 rfl (by decide) kX9_enters_76 rfl dX9_enters_11 ?_
  refine V_aload_n hc dX9_enters_14 rfl 0 rfl ?_
  refine V_geti (C := RX9) (T := TX9) (N := 28) hc sP24 rfl qX9_enters_RX9 25 rfl (by decide) kX9_enters_120 rfl dX9_enters_15 ?_
  refine V_iconst (v := 1) hc dX9_enters_18 (by decide) ?_
  refine V_zastc hc sP46 (Or.inr rfl) dX9_enters_19 ?_
  refine V_bds (fun t2 => ?_)
  refine V_aload_n hc dX9_enters_20 rfl 0 rfl ?_
  refine V_getr (C := RX9) (T := TX9) (N := 28) hc sP24 rfl qX9_enters_RX9 24 rfl (by decide) kX9_enters_79 rfl dX9_enters_21 ?_
  refine V_aload_n hc dX9_enters_24 rfl 0 rfl ?_
  refine V_geti (C := RX9) (T := TX9) (N := 28) hc sP24 rfl qX9_enters_RX9 25 rfl (by decide) kX9_enters_120 rfl dX9_enters_25 ?_
  refine V_iconst (v := 0) hc dX9_enters_28 (by decide) ?_
  refine V_zastc hc sP47 (Or.inl rfl) dX9_enters_29 ?_
  refine V_bds (fun t3 => ?_)
  exact V_vret hc rfl rfl dX9_enters_30

theorem kX9_asks_82 : Cond.fieldLink RX9 82 RX9 (TX9 26).2.1 (TX9 26).2.2.1 ∈ wsX9_asks := by decide +kernel
theorem qX9_asks_RX9 : ∀ w ∈ u_ws RX9 TX9 28, w ∈ wsX9_asks := by
  first
  | exact fun _ h => List.mem_cons_of_mem _ (List.mem_append_right _ h)
  | exact fun _ h => List.mem_cons_of_mem _ (List.mem_append_left _ (List.mem_append_right _ h))
  | exact fun _ h => List.mem_cons_of_mem _ (List.mem_append_left _ (List.mem_append_left _ (List.mem_append_right _ h)))
  | exact fun _ h => List.mem_cons_of_mem _ (List.mem_append_left _ (List.mem_append_left _ (List.mem_append_left _ (List.mem_append_right _ h))))
  | exact fun _ h => List.mem_cons_of_mem _ (List.mem_append_left _ (List.mem_append_left _ (List.mem_append_left _ (List.mem_append_left _ (List.mem_append_right _ h)))))
  | decide +kernel
theorem kX9_asks_127 : Cond.fieldLink RX9 127 RX9 (TX9 27).2.1 (TX9 27).2.2.1 ∈ wsX9_asks := by decide +kernel
noncomputable def L_X9_asks_102 (t0 : Sx) (b1 : Int32) (b2 : Int32) (b3 : Int32) (b4 : Int32) (b5 : Int32) (b6 : Int32) (kont : Int32 → Int32 → Option (Int32 × Sx)) : Nat → Int32 → Int32 → Option (Int32 × Sx)
  | 0, _, _ => none
  | n + 1, x7 , x8 => if (gI t0 55) ≤ x8 then kont (x7) (x8) else gd (vp_in x8 80) ((f_X9_isDigit t0 (gA t0 45 (ix x8))).bind fun r2 => if r2 = 0 then kont (x7) (x8) else gd (vp_in x8 80) (L_X9_asks_102 t0 b1 b2 b3 b4 b5 b6 kont n ((((10 * x7) + (gA t0 45 (ix x8))) - 48)) ((x8 + 1))))
set_option maxRecDepth 20000 in
set_option maxHeartbeats 4000000 in
theorem L_X9_asks_102_ok {p : Program} {l : Launch} {K : Kx} {e : Env} {s : State} {m : MethodId} {args : Array Value} {below : List Frame} {meth : Method} {c : Code} (hc : Cx p ({ frames := 2, cells := 0, slots := 0, locals := 47 } : Room) s m args meth c cX9_asks 10 wsX9_asks RX9 K (aA K s.heap.size) (some .int) 0 0) (t0 : Sx) (b1 : Int32) (b2 : Int32) (b3 : Int32) (b4 : Int32) (b5 : Int32) (b6 : Int32) (kont : Int32 → Int32 → Option (Int32 × Sx)) (hk : ∀ x7 x8, V p l e ({ frames := 2, cells := 0, slots := 0, locals := 47 } : Room) s m args below meth c K (aA K s.heap.size) 0 0 10 (QM below K args s kWI) 148 [(0, .ref (K.2.2 24)), (1, .int b1), (2, .int b2), (3, .int b3), (4, .int b4), (5, .int b5), (6, .int b6), (7, .int x7), (8, .int x8)] [] t0 (kont x7 x8)) : ∀ (n : Nat) (x7 : Int32) (x8 : Int32), V p l e ({ frames := 2, cells := 0, slots := 0, locals := 47 } : Room) s m args below meth c K (aA K s.heap.size) 0 0 10 (QM below K args s kWI) 102 [(0, .ref (K.2.2 24)), (1, .int b1), (2, .int b2), (3, .int b3), (4, .int b4), (5, .int b5), (6, .int b6), (7, .int x7), (8, .int x8)] [] t0 (L_X9_asks_102 t0 b1 b2 b3 b4 b5 b6 kont n x7 x8) := by
  intro n
  induction n with
  | zero => intro x7 x8; exact V_none
  | succ n ih =>
    intro x7 x8
    rw [L_X9_asks_102]
    refine V_iload hc dX9_asks_102 8 rfl ?_
    refine V_aload_n hc dX9_asks_104 rfl 0 rfl ?_
    refine V_geti (C := RX9) (T := TX9) (N := 28) hc sP24 rfl qX9_asks_RX9 27 rfl (by decide) kX9_asks_127 rfl dX9_asks_105 ?_
    refine V_icmp_ge (tgt := 148) hc dX9_asks_108 (by decide) ?_ ?_
    · exact V_sub [0, 1, 2, 3, 4, 5, 6, 7, 8] rfl (hk _ _)
    · refine V_aload_n hc dX9_asks_111 rfl 0 rfl ?_
      refine V_getr (C := RX9) (T := TX9) (N := 28) hc sP24 rfl qX9_asks_RX9 26 rfl (by decide) kX9_asks_82 rfl dX9_asks_112 ?_
      refine V_iload hc dX9_asks_115 8 rfl ?_
      refine V_cald hc sP48 dX9_asks_117 ?_
      refine V_callS_RI hc (c_X9_isDigit l K t0 (gA t0 45 (ix x8))) 1 gX9_asks_X9_isDigit rfl ⟨rfl, rfl⟩ (by decide) ⟨Nat.le_of_ble_eq_true rfl, Nat.le_of_ble_eq_true rfl⟩ rfl rfl (Nat.le_of_ble_eq_true rfl) dX9_asks_118 (fun r2 => ?_)
      refine V_if_eq (tgt := 148) hc dX9_asks_121 (by decide) ?_ ?_
      · exact V_sub [0, 1, 2, 3, 4, 5, 6, 7, 8] rfl (hk _ _)
      · refine V_bipush (v := 10) hc dX9_asks_124 (by decide) ?_
        refine V_iload hc dX9_asks_126 7 rfl ?_
        refine V_imul hc dX9_asks_128 ?_
        refine V_aload_n hc dX9_asks_129 rfl 0 rfl ?_
        refine V_getr (C := RX9) (T := TX9) (N := 28) hc sP24 rfl qX9_asks_RX9 26 rfl (by decide) kX9_asks_82 rfl dX9_asks_130 ?_
        refine V_iload hc dX9_asks_133 8 rfl ?_
        refine V_cald hc sP48 dX9_asks_135 ?_
        refine V_iadd hc dX9_asks_136 ?_
        refine V_bipush (v := 48) hc dX9_asks_137 (by decide) ?_
        refine V_isub hc dX9_asks_139 ?_
        refine V_istore (lv' := [(7, .int (((10 * x7) + (gA t0 45 (ix x8))) - 48)), (0, .ref (K.2.2 24)), (1, .int b1), (2, .int b2), (3, .int b3), (4, .int b4), (5, .int b5), (6, .int b6), (8, .int x8)]) hc dX9_asks_140 (by decide) rfl ?_
        refine V_iinc (v := (x8 + 1)) (lv' := [(8, .int (x8 + 1)), (7, .int (((10 * x7) + (gA t0 45 (ix x8))) - 48)), (0, .ref (K.2.2 24)), (1, .int b1), (2, .int b2), (3, .int b3), (4, .int b4), (5, .int b5), (6, .int b6)]) hc dX9_asks_142 8 rfl rfl (by decide) rfl ?_
        refine V_goto (tgt := 102) hc dX9_asks_145 (by decide) ?_
        exact V_sub [2, 3, 4, 5, 6, 7, 8, 1, 0] rfl (ih _ _)
noncomputable def f_X9_asks (t : Sx) (a1 : Int32) (a2 : Int32) : Option (Int32 × Sx) := gd (vp_in a2 80) (if (gA t 45 (ix a2)) = 107 then (f_X9_source t (a1) (0)).bind fun r94 => if r94 < 0 then gd (vp_in (a2 + 1) 80) (if (gA t 45 (ix (a2 + 1))) = 63 then (f_X9_tells t (0)).bind fun r105 => some ((a2 + 2), r105) else L_X9_asks_102 t (a1) (a2) ((gA t 45 (ix a2))) (0) (0) ((gA t 45 (ix (a2 + 1)))) (fun z95 z96 => (f_X9_valueOr t (a1) (0) (0)).bind fun r97 => if (0 : Int32) = 0 then (f_X9_tells t (0)).bind fun r98 => some (z96, r98) else if (gA t 45 (ix (a2 + 1))) = 60 then if z95 ≤ r97 then (f_X9_tells t (0)).bind fun r103 => some (z96, r103) else (f_X9_tells t (1)).bind fun r104 => some (z96, r104) else if (gA t 45 (ix (a2 + 1))) = 61 then if r97 = z95 then (f_X9_tells t (1)).bind fun r102 => some (z96, r102) else (f_X9_tells t (0)).bind fun r101 => some (z96, r101) else if r97 ≤ z95 then (f_X9_tells t (0)).bind fun r99 => some (z96, r99) else (f_X9_tells t (1)).bind fun r100 => some (z96, r100)) FU (0) ((a2 + 2))) else gd (vp_in (a2 + 1) 80) (if (gA t 45 (ix (a2 + 1))) = 63 then (f_X9_tells t (1)).bind fun r116 => some ((a2 + 2), r116) else L_X9_asks_102 t (a1) (a2) ((gA t 45 (ix a2))) (0) (1) ((gA t 45 (ix (a2 + 1)))) (fun z106 z107 => (f_X9_valueOr t (a1) (0) (0)).bind fun r108 => if (1 : Int32) = 0 then (f_X9_tells t (0)).bind fun r109 => some (z107, r109) else if (gA t 45 (ix (a2 + 1))) = 60 then if z106 ≤ r108 then (f_X9_tells t (0)).bind fun r114 => some (z107, r114) else (f_X9_tells t (1)).bind fun r115 => some (z107, r115) else if (gA t 45 (ix (a2 + 1))) = 61 then if r108 = z106 then (f_X9_tells t (1)).bind fun r113 => some (z107, r113) else (f_X9_tells t (0)).bind fun r112 => some (z107, r112) else if r108 ≤ z106 then (f_X9_tells t (0)).bind fun r110 => some (z107, r110) else (f_X9_tells t (1)).bind fun r111 => some (z107, r111)) FU (0) ((a2 + 2))) else if (gA t 45 (ix a2)) = 114 then (f_X9_source t (a1) (1)).bind fun r71 => if r71 < 0 then gd (vp_in (a2 + 1) 80) (if (gA t 45 (ix (a2 + 1))) = 63 then (f_X9_tells t (0)).bind fun r82 => some ((a2 + 2), r82) else L_X9_asks_102 t (a1) (a2) ((gA t 45 (ix a2))) (1) (0) ((gA t 45 (ix (a2 + 1)))) (fun z72 z73 => (f_X9_valueOr t (a1) (1) (0)).bind fun r74 => if (0 : Int32) = 0 then (f_X9_tells t (0)).bind fun r75 => some (z73, r75) else if (gA t 45 (ix (a2 + 1))) = 60 then if z72 ≤ r74 then (f_X9_tells t (0)).bind fun r80 => some (z73, r80) else (f_X9_tells t (1)).bind fun r81 => some (z73, r81) else if (gA t 45 (ix (a2 + 1))) = 61 then if r74 = z72 then (f_X9_tells t (1)).bind fun r79 => some (z73, r79) else (f_X9_tells t (0)).bind fun r78 => some (z73, r78) else if r74 ≤ z72 then (f_X9_tells t (0)).bind fun r76 => some (z73, r76) else (f_X9_tells t (1)).bind fun r77 => some (z73, r77)) FU (0) ((a2 + 2))) else gd (vp_in (a2 + 1) 80) (if (gA t 45 (ix (a2 + 1))) = 63 then (f_X9_tells t (1)).bind fun r93 => some ((a2 + 2), r93) else L_X9_asks_102 t (a1) (a2) ((gA t 45 (ix a2))) (1) (1) ((gA t 45 (ix (a2 + 1)))) (fun z83 z84 => (f_X9_valueOr t (a1) (1) (0)).bind fun r85 => if (1 : Int32) = 0 then (f_X9_tells t (0)).bind fun r86 => some (z84, r86) else if (gA t 45 (ix (a2 + 1))) = 60 then if z83 ≤ r85 then (f_X9_tells t (0)).bind fun r91 => some (z84, r91) else (f_X9_tells t (1)).bind fun r92 => some (z84, r92) else if (gA t 45 (ix (a2 + 1))) = 61 then if r85 = z83 then (f_X9_tells t (1)).bind fun r90 => some (z84, r90) else (f_X9_tells t (0)).bind fun r89 => some (z84, r89) else if r85 ≤ z83 then (f_X9_tells t (0)).bind fun r87 => some (z84, r87) else (f_X9_tells t (1)).bind fun r88 => some (z84, r88)) FU (0) ((a2 + 2))) else if (gA t 45 (ix a2)) = 121 then (f_X9_source t (a1) (2)).bind fun r48 => if r48 < 0 then gd (vp_in (a2 + 1) 80) (if (gA t 45 (ix (a2 + 1))) = 63 then (f_X9_tells t (0)).bind fun r59 => some ((a2 + 2), r59) else L_X9_asks_102 t (a1) (a2) ((gA t 45 (ix a2))) (2) (0) ((gA t 45 (ix (a2 + 1)))) (fun z49 z50 => (f_X9_valueOr t (a1) (2) (0)).bind fun r51 => if (0 : Int32) = 0 then (f_X9_tells t (0)).bind fun r52 => some (z50, r52) else if (gA t 45 (ix (a2 + 1))) = 60 then if z49 ≤ r51 then (f_X9_tells t (0)).bind fun r57 => some (z50, r57) else (f_X9_tells t (1)).bind fun r58 => some (z50, r58) else if (gA t 45 (ix (a2 + 1))) = 61 then if r51 = z49 then (f_X9_tells t (1)).bind fun r56 => some (z50, r56) else (f_X9_tells t (0)).bind fun r55 => some (z50, r55) else if r51 ≤ z49 then (f_X9_tells t (0)).bind fun r53 => some (z50, r53) else (f_X9_tells t (1)).bind fun r54 => some (z50, r54)) FU (0) ((a2 + 2))) else gd (vp_in (a2 + 1) 80) (if (gA t 45 (ix (a2 + 1))) = 63 then (f_X9_tells t (1)).bind fun r70 => some ((a2 + 2), r70) else L_X9_asks_102 t (a1) (a2) ((gA t 45 (ix a2))) (2) (1) ((gA t 45 (ix (a2 + 1)))) (fun z60 z61 => (f_X9_valueOr t (a1) (2) (0)).bind fun r62 => if (1 : Int32) = 0 then (f_X9_tells t (0)).bind fun r63 => some (z61, r63) else if (gA t 45 (ix (a2 + 1))) = 60 then if z60 ≤ r62 then (f_X9_tells t (0)).bind fun r68 => some (z61, r68) else (f_X9_tells t (1)).bind fun r69 => some (z61, r69) else if (gA t 45 (ix (a2 + 1))) = 61 then if r62 = z60 then (f_X9_tells t (1)).bind fun r67 => some (z61, r67) else (f_X9_tells t (0)).bind fun r66 => some (z61, r66) else if r62 ≤ z60 then (f_X9_tells t (0)).bind fun r64 => some (z61, r64) else (f_X9_tells t (1)).bind fun r65 => some (z61, r65)) FU (0) ((a2 + 2))) else if (gA t 45 (ix a2)) = 99 then (f_X9_source t (a1) (3)).bind fun r25 => if r25 < 0 then gd (vp_in (a2 + 1) 80) (if (gA t 45 (ix (a2 + 1))) = 63 then (f_X9_tells t (0)).bind fun r36 => some ((a2 + 2), r36) else L_X9_asks_102 t (a1) (a2) ((gA t 45 (ix a2))) (3) (0) ((gA t 45 (ix (a2 + 1)))) (fun z26 z27 => (f_X9_valueOr t (a1) (3) (0)).bind fun r28 => if (0 : Int32) = 0 then (f_X9_tells t (0)).bind fun r29 => some (z27, r29) else if (gA t 45 (ix (a2 + 1))) = 60 then if z26 ≤ r28 then (f_X9_tells t (0)).bind fun r34 => some (z27, r34) else (f_X9_tells t (1)).bind fun r35 => some (z27, r35) else if (gA t 45 (ix (a2 + 1))) = 61 then if r28 = z26 then (f_X9_tells t (1)).bind fun r33 => some (z27, r33) else (f_X9_tells t (0)).bind fun r32 => some (z27, r32) else if r28 ≤ z26 then (f_X9_tells t (0)).bind fun r30 => some (z27, r30) else (f_X9_tells t (1)).bind fun r31 => some (z27, r31)) FU (0) ((a2 + 2))) else gd (vp_in (a2 + 1) 80) (if (gA t 45 (ix (a2 + 1))) = 63 then (f_X9_tells t (1)).bind fun r47 => some ((a2 + 2), r47) else L_X9_asks_102 t (a1) (a2) ((gA t 45 (ix a2))) (3) (1) ((gA t 45 (ix (a2 + 1)))) (fun z37 z38 => (f_X9_valueOr t (a1) (3) (0)).bind fun r39 => if (1 : Int32) = 0 then (f_X9_tells t (0)).bind fun r40 => some (z38, r40) else if (gA t 45 (ix (a2 + 1))) = 60 then if z37 ≤ r39 then (f_X9_tells t (0)).bind fun r45 => some (z38, r45) else (f_X9_tells t (1)).bind fun r46 => some (z38, r46) else if (gA t 45 (ix (a2 + 1))) = 61 then if r39 = z37 then (f_X9_tells t (1)).bind fun r44 => some (z38, r44) else (f_X9_tells t (0)).bind fun r43 => some (z38, r43) else if r39 ≤ z37 then (f_X9_tells t (0)).bind fun r41 => some (z38, r41) else (f_X9_tells t (1)).bind fun r42 => some (z38, r42)) FU (0) ((a2 + 2))) else (f_X9_source t (a1) (4)).bind fun r1 => if r1 < 0 then gd (vp_in (a2 + 1) 80) (if (gA t 45 (ix (a2 + 1))) = 63 then (f_X9_tells t (0)).bind fun r13 => some ((a2 + 2), r13) else L_X9_asks_102 t (a1) (a2) ((gA t 45 (ix a2))) (4) (0) ((gA t 45 (ix (a2 + 1)))) (fun z3 z4 => (f_X9_valueOr t (a1) (4) (0)).bind fun r5 => if (0 : Int32) = 0 then (f_X9_tells t (0)).bind fun r6 => some (z4, r6) else if (gA t 45 (ix (a2 + 1))) = 60 then if z3 ≤ r5 then (f_X9_tells t (0)).bind fun r11 => some (z4, r11) else (f_X9_tells t (1)).bind fun r12 => some (z4, r12) else if (gA t 45 (ix (a2 + 1))) = 61 then if r5 = z3 then (f_X9_tells t (1)).bind fun r10 => some (z4, r10) else (f_X9_tells t (0)).bind fun r9 => some (z4, r9) else if r5 ≤ z3 then (f_X9_tells t (0)).bind fun r7 => some (z4, r7) else (f_X9_tells t (1)).bind fun r8 => some (z4, r8)) FU (0) ((a2 + 2))) else gd (vp_in (a2 + 1) 80) (if (gA t 45 (ix (a2 + 1))) = 63 then (f_X9_tells t (1)).bind fun r24 => some ((a2 + 2), r24) else L_X9_asks_102 t (a1) (a2) ((gA t 45 (ix a2))) (4) (1) ((gA t 45 (ix (a2 + 1)))) (fun z14 z15 => (f_X9_valueOr t (a1) (4) (0)).bind fun r16 => if (1 : Int32) = 0 then (f_X9_tells t (0)).bind fun r17 => some (z15, r17) else if (gA t 45 (ix (a2 + 1))) = 60 then if z14 ≤ r16 then (f_X9_tells t (0)).bind fun r22 => some (z15, r22) else (f_X9_tells t (1)).bind fun r23 => some (z15, r23) else if (gA t 45 (ix (a2 + 1))) = 61 then if r16 = z14 then (f_X9_tells t (1)).bind fun r21 => some (z15, r21) else (f_X9_tells t (0)).bind fun r20 => some (z15, r20) else if r16 ≤ z14 then (f_X9_tells t (0)).bind fun r18 => some (z15, r18) else (f_X9_tells t (1)).bind fun r19 => some (z15, r19)) FU (0) ((a2 + 2))))
set_option maxRecDepth 20000 in
set_option maxHeartbeats 4000000 in
theorem c_X9_asks (l : Launch) (K : Kx) (t : Sx) (a1 : Int32) (a2 : Int32) : CT l K yX9_asks wsX9_asks ({ frames := 2, cells := 0, slots := 0, locals := 47 } : Room) [.ref (K.2.2 24), .int a1, .int a2] t (f_X9_asks t a1 a2) kWI := by
  refine CT_of (cc := cX9_asks) (maxL := 10) (ret := (some .int)) (own := RX9) (by decide +kernel) rfl rfl (Nat.le_of_ble_eq_true rfl) ?_
  intro p e s m args below meth c hc
  refine V_sub (lv' := [(0, .ref (K.2.2 24)), (1, .int a1), (2, .int a2)]) [0, 1, 2] rfl ?_
  unfold f_X9_asks
  refine V_aload_n hc dX9_asks_0 rfl 0 rfl ?_
  refine V_getr (C := RX9) (T := TX9) (N := 28) hc sP24 rfl qX9_asks_RX9 26 rfl (by decide) kX9_asks_82 rfl dX9_asks_1 ?_
  refine V_iload_n hc dX9_asks_4 rfl 2 rfl ?_
  refine V_cald hc sP48 dX9_asks_5 ?_
  refine V_istore_n (lv' := [(3, .int (gA t 45 (ix a2))), (0, .ref (K.2.2 24)), (1, .int a1), (2, .int a2)]) hc dX9_asks_6 rfl (by decide) rfl ?_
  refine V_iload_n hc dX9_asks_7 rfl 0 rfl ?_
  refine V_bipush (v := 107) hc dX9_asks_8 (by decide) ?_
  refine V_icmp_ne (tgt := 17) hc dX9_asks_10 (by decide) ?_ ?_
  · refine V_iload_n hc dX9_asks_17 rfl 0 rfl ?_
    refine V_bipush (v := 114) hc dX9_asks_18 (by decide) ?_
    refine V_icmp_ne (tgt := 27) hc dX9_asks_20 (by decide) ?_ ?_
    · refine V_iload_n hc dX9_asks_27 rfl 0 rfl ?_
      refine V_bipush (v := 121) hc dX9_asks_28 (by decide) ?_
      refine V_icmp_ne (tgt := 37) hc dX9_asks_30 (by decide) ?_ ?_
      · refine V_iload_n hc dX9_asks_37 rfl 0 rfl ?_
        refine V_bipush (v := 99) hc dX9_asks_38 (by decide) ?_
        refine V_icmp_ne (tgt := 47) hc dX9_asks_40 (by decide) ?_ ?_
        · refine V_iconst (v := 4) hc dX9_asks_47 (by decide) ?_
          refine V_istore (lv' := [(4, .int 4), (3, .int (gA t 45 (ix a2))), (0, .ref (K.2.2 24)), (1, .int a1), (2, .int a2)]) hc dX9_asks_48 (by decide) rfl ?_
          refine V_aload_n hc dX9_asks_50 rfl 2 rfl ?_
          refine V_iload_n hc dX9_asks_51 rfl 3 rfl ?_
          refine V_iload hc dX9_asks_52 0 rfl ?_
          refine V_callV_RI (Cn := RX9) (T := TX9) (N := 28) hc (c_X9_source l K t (a1) (4)) sP24 rfl 2 gX9_asks_X9_source rfl ⟨rfl, rfl⟩ (by decide) ⟨Nat.le_of_ble_eq_true rfl, Nat.le_of_ble_eq_true rfl⟩ rfl rfl (Nat.le_of_ble_eq_true rfl) dX9_asks_54 (fun r1 => ?_)
          refine V_if_lt (tgt := 64) hc dX9_asks_57 (by decide) ?_ ?_
          · refine V_iconst (v := 0) hc dX9_asks_64 (by decide) ?_
            refine V_istore (lv' := [(5, .int 0), (4, .int 4), (3, .int (gA t 45 (ix a2))), (0, .ref (K.2.2 24)), (1, .int a1), (2, .int a2)]) hc dX9_asks_65 (by decide) rfl ?_
            refine V_aload_n hc dX9_asks_67 rfl 3 rfl ?_
            refine V_getr (C := RX9) (T := TX9) (N := 28) hc sP24 rfl qX9_asks_RX9 26 rfl (by decide) kX9_asks_82 rfl dX9_asks_68 ?_
            refine V_iload_n hc dX9_asks_71 rfl 5 rfl ?_
            refine V_iconst (v := 1) hc dX9_asks_72 (by decide) ?_
            refine V_iadd hc dX9_asks_73 ?_
            refine V_cald hc sP48 dX9_asks_74 ?_
            refine V_istore (lv' := [(6, .int (gA t 45 (ix (a2 + 1)))), (5, .int 0), (4, .int 4), (3, .int (gA t 45 (ix a2))), (0, .ref (K.2.2 24)), (1, .int a1), (2, .int a2)]) hc dX9_asks_75 (by decide) rfl ?_
            refine V_iload hc dX9_asks_77 0 rfl ?_
            refine V_bipush (v := 63) hc dX9_asks_79 (by decide) ?_
            refine V_icmp_ne (tgt := 94) hc dX9_asks_81 (by decide) ?_ ?_
            · refine V_iconst (v := 0) hc dX9_asks_94 (by decide) ?_
              refine V_istore (lv' := [(7, .int 0), (6, .int (gA t 45 (ix (a2 + 1)))), (5, .int 0), (4, .int 4), (3, .int (gA t 45 (ix a2))), (0, .ref (K.2.2 24)), (1, .int a1), (2, .int a2)]) hc dX9_asks_95 (by decide) rfl ?_
              refine V_iload_n hc dX9_asks_97 rfl 7 rfl ?_
              refine V_iconst (v := 2) hc dX9_asks_98 (by decide) ?_
              refine V_iadd hc dX9_asks_99 ?_
              refine V_istore (lv' := [(8, .int (a2 + 2)), (7, .int 0), (6, .int (gA t 45 (ix (a2 + 1)))), (5, .int 0), (4, .int 4), (3, .int (gA t 45 (ix a2))), (0, .ref (K.2.2 24)), (1, .int a1), (2, .int a2)]) hc dX9_asks_100 (by decide) rfl ?_
              refine V_sub (lv' := [(0, .ref (K.2.2 24)), (1, .int a1), (2, .int a2), (3, .int (gA t 45 (ix a2))), (4, .int 4), (5, .int 0), (6, .int (gA t 45 (ix (a2 + 1)))), (7, .int 0), (8, .int (a2 + 2))]) [6, 7, 8, 5, 4, 3, 2, 1, 0] rfl ?_
              refine L_X9_asks_102_ok hc t (a1) (a2) ((gA t 45 (ix a2))) (4) (0) ((gA t 45 (ix (a2 + 1)))) _ (fun z3 z4 => ?_) FU _ _
              refine V_aload_n hc dX9_asks_148 rfl 0 rfl ?_
              refine V_iload_n hc dX9_asks_149 rfl 1 rfl ?_
              refine V_iload hc dX9_asks_150 4 rfl ?_
              refine V_iconst (v := 0) hc dX9_asks_152 (by decide) ?_
              refine V_callV_RI (Cn := RX9) (T := TX9) (N := 28) hc (c_X9_valueOr l K t (a1) (4) (0)) sP24 rfl 3 gX9_asks_X9_valueOr rfl ⟨rfl, rfl⟩ (by decide) ⟨Nat.le_of_ble_eq_true rfl, Nat.le_of_ble_eq_true rfl⟩ rfl rfl (Nat.le_of_ble_eq_true rfl) dX9_asks_153 (fun r5 => ?_)
              refine V_istore (lv' := [(9, .int r5), (0, .ref (K.2.2 24)), (1, .int a1), (2, .int a2), (3, .int (gA t 45 (ix a2))), (4, .int 4), (5, .int 0), (6, .int (gA t 45 (ix (a2 + 1)))), (7, .int z3), (8, .int z4)]) hc dX9_asks_156 (by decide) rfl ?_
              refine V_aload_n hc dX9_asks_158 rfl 1 rfl ?_
              refine V_iload hc dX9_asks_159 6 rfl ?_
              refine V_if_eq (tgt := 209) hc dX9_asks_161 (by decide) ?_ ?_
              · refine V_iconst (v := 0) hc dX9_asks_209 (by decide) ?_
                refine V_callV_WV (Cn := RX9) (T := TX9) (N := 28) hc (c_X9_tells l K t (0)) sP24 rfl 1 gX9_asks_X9_tells rfl ⟨rfl, rfl⟩ (by decide) ⟨Nat.le_of_ble_eq_true rfl, Nat.le_of_ble_eq_true rfl⟩ rfl rfl (Nat.le_of_ble_eq_true rfl) dX9_asks_210 (fun r6 => ?_)
                refine V_iload hc dX9_asks_213 9 rfl ?_
                exact V_iret hc rfl rfl dX9_asks_215
              · refine V_iload hc dX9_asks_164 7 rfl ?_
                refine V_bipush (v := 60) hc dX9_asks_166 (by decide) ?_
                refine V_icmp_ne (tgt := 181) hc dX9_asks_168 (by decide) ?_ ?_
                · refine V_iload hc dX9_asks_181 7 rfl ?_
                  refine V_bipush (v := 61) hc dX9_asks_183 (by decide) ?_
                  refine V_icmp_ne (tgt := 198) hc dX9_asks_185 (by decide) ?_ ?_
                  · refine V_iload hc dX9_asks_198 0 rfl ?_
                    refine V_iload hc dX9_asks_200 8 rfl ?_
                    refine V_icmp_le (tgt := 209) hc dX9_asks_202 (by decide) ?_ ?_
                    · refine V_iconst (v := 0) hc dX9_asks_209 (by decide) ?_
                      refine V_callV_WV (Cn := RX9) (T := TX9) (N := 28) hc (c_X9_tells l K t (0)) sP24 rfl 1 gX9_asks_X9_tells rfl ⟨rfl, rfl⟩ (by decide) ⟨Nat.le_of_ble_eq_true rfl, Nat.le_of_ble_eq_true rfl⟩ rfl rfl (Nat.le_of_ble_eq_true rfl) dX9_asks_210 (fun r7 => ?_)
                      refine V_iload hc dX9_asks_213 9 rfl ?_
                      exact V_iret hc rfl rfl dX9_asks_215
                    · refine V_iconst (v := 1) hc dX9_asks_205 (by decide) ?_
                      refine V_goto (tgt := 210) hc dX9_asks_206 (by decide) ?_
                      refine V_callV_WV (Cn := RX9) (T := TX9) (N := 28) hc (c_X9_tells l K t (1)) sP24 rfl 1 gX9_asks_X9_tells rfl ⟨rfl, rfl⟩ (by decide) ⟨Nat.le_of_ble_eq_true rfl, Nat.le_of_ble_eq_true rfl⟩ rfl rfl (Nat.le_of_ble_eq_true rfl) dX9_asks_210 (fun r8 => ?_)
                      refine V_iload hc dX9_asks_213 9 rfl ?_
                      exact V_iret hc rfl rfl dX9_asks_215
                  · refine V_iload hc dX9_asks_188 0 rfl ?_
                    refine V_iload hc dX9_asks_190 8 rfl ?_
                    refine V_icmp_ne (tgt := 209) hc dX9_asks_192 (by decide) ?_ ?_
                    · refine V_iconst (v := 0) hc dX9_asks_209 (by decide) ?_
                      refine V_callV_WV (Cn := RX9) (T := TX9) (N := 28) hc (c_X9_tells l K t (0)) sP24 rfl 1 gX9_asks_X9_tells rfl ⟨rfl, rfl⟩ (by decide) ⟨Nat.le_of_ble_eq_true rfl, Nat.le_of_ble_eq_true rfl⟩ rfl rfl (Nat.le_of_ble_eq_true rfl) dX9_asks_210 (fun r9 => ?_)
                      refine V_iload hc dX9_asks_213 9 rfl ?_
                      exact V_iret hc rfl rfl dX9_asks_215
                    · refine V_goto (tgt := 205) hc dX9_asks_195 (by decide) ?_
                      refine V_iconst (v := 1) hc dX9_asks_205 (by decide) ?_
                      refine V_goto (tgt := 210) hc dX9_asks_206 (by decide) ?_
                      refine V_callV_WV (Cn := RX9) (T := TX9) (N := 28) hc (c_X9_tells l K t (1)) sP24 rfl 1 gX9_asks_X9_tells rfl ⟨rfl, rfl⟩ (by decide) ⟨Nat.le_of_ble_eq_true rfl, Nat.le_of_ble_eq_true rfl⟩ rfl rfl (Nat.le_of_ble_eq_true rfl) dX9_asks_210 (fun r10 => ?_)
                      refine V_iload hc dX9_asks_213 9 rfl ?_
                      exact V_iret hc rfl rfl dX9_asks_215
                · refine V_iload hc dX9_asks_171 0 rfl ?_
                  refine V_iload hc dX9_asks_173 8 rfl ?_
                  refine V_icmp_ge (tgt := 209) hc dX9_asks_175 (by decide) ?_ ?_
                  · refine V_iconst (v := 0) hc dX9_asks_209 (by decide) ?_
                    refine V_callV_WV (Cn := RX9) (T := TX9) (N := 28) hc (c_X9_tells l K t (0)) sP24 rfl 1 gX9_asks_X9_tells rfl ⟨rfl, rfl⟩ (by decide) ⟨Nat.le_of_ble_eq_true rfl, Nat.le_of_ble_eq_true rfl⟩ rfl rfl (Nat.le_of_ble_eq_true rfl) dX9_asks_210 (fun r11 => ?_)
                    refine V_iload hc dX9_asks_213 9 rfl ?_
                    exact V_iret hc rfl rfl dX9_asks_215
                  · refine V_goto (tgt := 205) hc dX9_asks_178 (by decide) ?_
                    refine V_iconst (v := 1) hc dX9_asks_205 (by decide) ?_
                    refine V_goto (tgt := 210) hc dX9_asks_206 (by decide) ?_
                    refine V_callV_WV (Cn := RX9) (T := TX9) (N := 28) hc (c_X9_tells l K t (1)) sP24 rfl 1 gX9_asks_X9_tells rfl ⟨rfl, rfl⟩ (by decide) ⟨Nat.le_of_ble_eq_true rfl, Nat.le_of_ble_eq_true rfl⟩ rfl rfl (Nat.le_of_ble_eq_true rfl) dX9_asks_210 (fun r12 => ?_)
                    refine V_iload hc dX9_asks_213 9 rfl ?_
                    exact V_iret hc rfl rfl dX9_asks_215
            · refine V_aload_n hc dX9_asks_84 rfl 4 rfl ?_
              refine V_iload hc dX9_asks_85 1 rfl ?_
              refine V_callV_WV (Cn := RX9) (T := TX9) (N := 28) hc (c_X9_tells l K t (0)) sP24 rfl 1 gX9_asks_X9_tells rfl ⟨rfl, rfl⟩ (by decide) ⟨Nat.le_of_ble_eq_true rfl, Nat.le_of_ble_eq_true rfl⟩ rfl rfl (Nat.le_of_ble_eq_true rfl) dX9_asks_87 (fun r13 => ?_)
              refine V_iload_n hc dX9_asks_90 rfl 6 rfl ?_
              refine V_iconst (v := 2) hc dX9_asks_91 (by decide) ?_
              refine V_iadd hc dX9_asks_92 ?_
              exact V_iret hc rfl rfl dX9_asks_93
          · refine V_iconst (v := 1) hc dX9_asks_60 (by decide) ?_
            refine V_goto (tgt := 65) hc dX9_asks_61 (by decide) ?_
            refine V_istore (lv' := [(5, .int 1), (4, .int 4), (3, .int (gA t 45 (ix a2))), (0, .ref (K.2.2 24)), (1, .int a1), (2, .int a2)]) hc dX9_asks_65 (by decide) rfl ?_
            refine V_aload_n hc dX9_asks_67 rfl 3 rfl ?_
            refine V_getr (C := RX9) (T := TX9) (N := 28) hc sP24 rfl qX9_asks_RX9 26 rfl (by decide) kX9_asks_82 rfl dX9_asks_68 ?_
            refine V_iload_n hc dX9_asks_71 rfl 5 rfl ?_
            refine V_iconst (v := 1) hc dX9_asks_72 (by decide) ?_
            refine V_iadd hc dX9_asks_73 ?_
            refine V_cald hc sP48 dX9_asks_74 ?_
            refine V_istore (lv' := [(6, .int (gA t 45 (ix (a2 + 1)))), (5, .int 1), (4, .int 4), (3, .int (gA t 45 (ix a2))), (0, .ref (K.2.2 24)), (1, .int a1), (2, .int a2)]) hc dX9_asks_75 (by decide) rfl ?_
            refine V_iload hc dX9_asks_77 0 rfl ?_
            refine V_bipush (v := 63) hc dX9_asks_79 (by decide) ?_
            refine V_icmp_ne (tgt := 94) hc dX9_asks_81 (by decide) ?_ ?_
            · refine V_iconst (v := 0) hc dX9_asks_94 (by decide) ?_
              refine V_istore (lv' := [(7, .int 0), (6, .int (gA t 45 (ix (a2 + 1)))), (5, .int 1), (4, .int 4), (3, .int (gA t 45 (ix a2))), (0, .ref (K.2.2 24)), (1, .int a1), (2, .int a2)]) hc dX9_asks_95 (by decide) rfl ?_
              refine V_iload_n hc dX9_asks_97 rfl 7 rfl ?_
              refine V_iconst (v := 2) hc dX9_asks_98 (by decide) ?_
              refine V_iadd hc dX9_asks_99 ?_
              refine V_istore (lv' := [(8, .int (a2 + 2)), (7, .int 0), (6, .int (gA t 45 (ix (a2 + 1)))), (5, .int 1), (4, .int 4), (3, .int (gA t 45 (ix a2))), (0, .ref (K.2.2 24)), (1, .int a1), (2, .int a2)]) hc dX9_asks_100 (by decide) rfl ?_
              refine V_sub (lv' := [(0, .ref (K.2.2 24)), (1, .int a1), (2, .int a2), (3, .int (gA t 45 (ix a2))), (4, .int 4), (5, .int 1), (6, .int (gA t 45 (ix (a2 + 1)))), (7, .int 0), (8, .int (a2 + 2))]) [6, 7, 8, 5, 4, 3, 2, 1, 0] rfl ?_
              refine L_X9_asks_102_ok hc t (a1) (a2) ((gA t 45 (ix a2))) (4) (1) ((gA t 45 (ix (a2 + 1)))) _ (fun z14 z15 => ?_) FU _ _
              refine V_aload_n hc dX9_asks_148 rfl 0 rfl ?_
              refine V_iload_n hc dX9_asks_149 rfl 1 rfl ?_
              refine V_iload hc dX9_asks_150 4 rfl ?_
              refine V_iconst (v := 0) hc dX9_asks_152 (by decide) ?_
              refine V_callV_RI (Cn := RX9) (T := TX9) (N := 28) hc (c_X9_valueOr l K t (a1) (4) (0)) sP24 rfl 3 gX9_asks_X9_valueOr rfl ⟨rfl, rfl⟩ (by decide) ⟨Nat.le_of_ble_eq_true rfl, Nat.le_of_ble_eq_true rfl⟩ rfl rfl (Nat.le_of_ble_eq_true rfl) dX9_asks_153 (fun r16 => ?_)
              refine V_istore (lv' := [(9, .int r16), (0, .ref (K.2.2 24)), (1, .int a1), (2, .int a2), (3, .int (gA t 45 (ix a2))), (4, .int 4), (5, .int 1), (6, .int (gA t 45 (ix (a2 + 1)))), (7, .int z14), (8, .int z15)]) hc dX9_asks_156 (by decide) rfl ?_
              refine V_aload_n hc dX9_asks_158 rfl 1 rfl ?_
              refine V_iload hc dX9_asks_159 6 rfl ?_
              refine V_if_eq (tgt := 209) hc dX9_asks_161 (by decide) ?_ ?_
              · refine V_iconst (v := 0) hc dX9_asks_209 (by decide) ?_
                refine V_callV_WV (Cn := RX9) (T := TX9) (N := 28) hc (c_X9_tells l K t (0)) sP24 rfl 1 gX9_asks_X9_tells rfl ⟨rfl, rfl⟩ (by decide) ⟨Nat.le_of_ble_eq_true rfl, Nat.le_of_ble_eq_true rfl⟩ rfl rfl (Nat.le_of_ble_eq_true rfl) dX9_asks_210 (fun r17 => ?_)
                refine V_iload hc dX9_asks_213 9 rfl ?_
                exact V_iret hc rfl rfl dX9_asks_215
              · refine V_iload hc dX9_asks_164 7 rfl ?_
                refine V_bipush (v := 60) hc dX9_asks_166 (by decide) ?_
                refine V_icmp_ne (tgt := 181) hc dX9_asks_168 (by decide) ?_ ?_
                · refine V_iload hc dX9_asks_181 7 rfl ?_
                  refine V_bipush (v := 61) hc dX9_asks_183 (by decide) ?_
                  refine V_icmp_ne (tgt := 198) hc dX9_asks_185 (by decide) ?_ ?_
                  · refine V_iload hc dX9_asks_198 0 rfl ?_
                    refine V_iload hc dX9_asks_200 8 rfl ?_
                    refine V_icmp_le (tgt := 209) hc dX9_asks_202 (by decide) ?_ ?_
                    · refine V_iconst (v := 0) hc dX9_asks_209 (by decide) ?_
                      refine V_callV_WV (Cn := RX9) (T := TX9) (N := 28) hc (c_X9_tells l K t (0)) sP24 rfl 1 gX9_asks_X9_tells rfl ⟨rfl, rfl⟩ (by decide) ⟨Nat.le_of_ble_eq_true rfl, Nat.le_of_ble_eq_true rfl⟩ rfl rfl (Nat.le_of_ble_eq_true rfl) dX9_asks_210 (fun r18 => ?_)
                      refine V_iload hc dX9_asks_213 9 rfl ?_
                      exact V_iret hc rfl rfl dX9_asks_215
                    · refine V_iconst (v := 1) hc dX9_asks_205 (by decide) ?_
                      refine V_goto (tgt := 210) hc dX9_asks_206 (by decide) ?_
                      refine V_callV_WV (Cn := RX9) (T := TX9) (N := 28) hc (c_X9_tells l K t (1)) sP24 rfl 1 gX9_asks_X9_tells rfl ⟨rfl, rfl⟩ (by decide) ⟨Nat.le_of_ble_eq_true rfl, Nat.le_of_ble_eq_true rfl⟩ rfl rfl (Nat.le_of_ble_eq_true rfl) dX9_asks_210 (fun r19 => ?_)
                      refine V_iload hc dX9_asks_213 9 rfl ?_
                      exact V_iret hc rfl rfl dX9_asks_215
                  · refine V_iload hc dX9_asks_188 0 rfl ?_
                    refine V_iload hc dX9_asks_190 8 rfl ?_
                    refine V_icmp_ne (tgt := 209) hc dX9_asks_192 (by decide) ?_ ?_
                    · refine V_iconst (v := 0) hc dX9_asks_209 (by decide) ?_
                      refine V_callV_WV (Cn := RX9) (T := TX9) (N := 28) hc (c_X9_tells l K t (0)) sP24 rfl 1 gX9_asks_X9_tells rfl ⟨rfl, rfl⟩ (by decide) ⟨Nat.le_of_ble_eq_true rfl, Nat.le_of_ble_eq_true rfl⟩ rfl rfl (Nat.le_of_ble_eq_true rfl) dX9_asks_210 (fun r20 => ?_)
                      refine V_iload hc dX9_asks_213 9 rfl ?_
                      exact V_iret hc rfl rfl dX9_asks_215
                    · refine V_goto (tgt := 205) hc dX9_asks_195 (by decide) ?_
                      refine V_iconst (v := 1) hc dX9_asks_205 (by decide) ?_
                      refine V_goto (tgt := 210) hc dX9_asks_206 (by decide) ?_
                      refine V_callV_WV (Cn := RX9) (T := TX9) (N := 28) hc (c_X9_tells l K t (1)) sP24 rfl 1 gX9_asks_X9_tells rfl ⟨rfl, rfl⟩ (by decide) ⟨Nat.le_of_ble_eq_true rfl, Nat.le_of_ble_eq_true rfl⟩ rfl rfl (Nat.le_of_ble_eq_true rfl) dX9_asks_210 (fun r21 => ?_)
                      refine V_iload hc dX9_asks_213 9 rfl ?_
                      exact V_iret hc rfl rfl dX9_asks_215
                · refine V_iload hc dX9_asks_171 0 rfl ?_
                  refine V_iload hc dX9_asks_173 8 rfl ?_
                  refine V_icmp_ge (tgt := 209) hc dX9_asks_175 (by decide) ?_ ?_
                  · refine V_iconst (v := 0) hc dX9_asks_209 (by decide) ?_
                    refine V_callV_WV (Cn := RX9) (T := TX9) (N := 28) hc (c_X9_tells l K t (0)) sP24 rfl 1 gX9_asks_X9_tells rfl ⟨rfl, rfl⟩ (by decide) ⟨Nat.le_of_ble_eq_true rfl, Nat.le_of_ble_eq_true rfl⟩ rfl rfl (Nat.le_of_ble_eq_true rfl) dX9_asks_210 (fun r22 => ?_)
                    refine V_iload hc dX9_asks_213 9 rfl ?_
                    exact V_iret hc rfl rfl dX9_asks_215
                  · refine V_goto (tgt := 205) hc dX9_asks_178 (by decide) ?_
                    refine V_iconst (v := 1) hc dX9_asks_205 (by decide) ?_
                    refine V_goto (tgt := 210) hc dX9_asks_206 (by decide) ?_
                    refine V_callV_WV (Cn := RX9) (T := TX9) (N := 28) hc (c_X9_tells l K t (1)) sP24 rfl 1 gX9_asks_X9_tells rfl ⟨rfl, rfl⟩ (by decide) ⟨Nat.le_of_ble_eq_true rfl, Nat.le_of_ble_eq_true rfl⟩ rfl rfl (Nat.le_of_ble_eq_true rfl) dX9_asks_210 (fun r23 => ?_)
                    refine V_iload hc dX9_asks_213 9 rfl ?_
                    exact V_iret hc rfl rfl dX9_asks_215
            · refine V_aload_n hc dX9_asks_84 rfl 4 rfl ?_
              refine V_iload hc dX9_asks_85 1 rfl ?_
              refine V_callV_WV (Cn := RX9) (T := TX9) (N := 28) hc (c_X9_tells l K t (1)) sP24 rfl 1 gX9_asks_X9_tells rfl ⟨rfl, rfl⟩ (by decide) ⟨Nat.le_of_ble_eq_true rfl, Nat.le_of_ble_eq_true rfl⟩ rfl rfl (Nat.le_of_ble_eq_true rfl) dX9_asks_87 (fun r24 => ?_)
              refine V_iload_n hc dX9_asks_90 rfl 6 rfl ?_
              refine V_iconst (v := 2) hc dX9_asks_91 (by decide) ?_
              refine V_iadd hc dX9_asks_92 ?_
              exact V_iret hc rfl rfl dX9_asks_93
        · refine V_iconst (v := 3) hc dX9_asks_43 (by decide) ?_
          refine V_goto (tgt := 48) hc dX9_asks_44 (by decide) ?_
          refine V_istore (lv' := [(4, .int 3), (3, .int (gA t 45 (ix a2))), (0, .ref (K.2.2 24)), (1, .int a1), (2, .int a2)]) hc dX9_asks_48 (by decide) rfl ?_
          refine V_aload_n hc dX9_asks_50 rfl 2 rfl ?_
          refine V_iload_n hc dX9_asks_51 rfl 3 rfl ?_
          refine V_iload hc dX9_asks_52 0 rfl ?_
          refine V_callV_RI (Cn := RX9) (T := TX9) (N := 28) hc (c_X9_source l K t (a1) (3)) sP24 rfl 2 gX9_asks_X9_source rfl ⟨rfl, rfl⟩ (by decide) ⟨Nat.le_of_ble_eq_true rfl, Nat.le_of_ble_eq_true rfl⟩ rfl rfl (Nat.le_of_ble_eq_true rfl) dX9_asks_54 (fun r25 => ?_)
          refine V_if_lt (tgt := 64) hc dX9_asks_57 (by decide) ?_ ?_
          · refine V_iconst (v := 0) hc dX9_asks_64 (by decide) ?_
            refine V_istore (lv' := [(5, .int 0), (4, .int 3), (3, .int (gA t 45 (ix a2))), (0, .ref (K.2.2 24)), (1, .int a1), (2, .int a2)]) hc dX9_asks_65 (by decide) rfl ?_
            refine V_aload_n hc dX9_asks_67 rfl 3 rfl ?_
            refine V_getr (C := RX9) (T := TX9) (N := 28) hc sP24 rfl qX9_asks_RX9 26 rfl (by decide) kX9_asks_82 rfl dX9_asks_68 ?_
            refine V_iload_n hc dX9_asks_71 rfl 5 rfl ?_
            refine V_iconst (v := 1) hc dX9_asks_72 (by decide) ?_
            refine V_iadd hc dX9_asks_73 ?_
            refine V_cald hc sP48 dX9_asks_74 ?_
            refine V_istore (lv' := [(6, .int (gA t 45 (ix (a2 + 1)))), (5, .int 0), (4, .int 3), (3, .int (gA t 45 (ix a2))), (0, .ref (K.2.2 24)), (1, .int a1), (2, .int a2)]) hc dX9_asks_75 (by decide) rfl ?_
            refine V_iload hc dX9_asks_77 0 rfl ?_
            refine V_bipush (v := 63) hc dX9_asks_79 (by decide) ?_
            refine V_icmp_ne (tgt := 94) hc dX9_asks_81 (by decide) ?_ ?_
            · refine V_iconst (v := 0) hc dX9_asks_94 (by decide) ?_
              refine V_istore (lv' := [(7, .int 0), (6, .int (gA t 45 (ix (a2 + 1)))), (5, .int 0), (4, .int 3), (3, .int (gA t 45 (ix a2))), (0, .ref (K.2.2 24)), (1, .int a1), (2, .int a2)]) hc dX9_asks_95 (by decide) rfl ?_
              refine V_iload_n hc dX9_asks_97 rfl 7 rfl ?_
              refine V_iconst (v := 2) hc dX9_asks_98 (by decide) ?_
              refine V_iadd hc dX9_asks_99 ?_
              refine V_istore (lv' := [(8, .int (a2 + 2)), (7, .int 0), (6, .int (gA t 45 (ix (a2 + 1)))), (5, .int 0), (4, .int 3), (3, .int (gA t 45 (ix a2))), (0, .ref (K.2.2 24)), (1, .int a1), (2, .int a2)]) hc dX9_asks_100 (by decide) rfl ?_
              refine V_sub (lv' := [(0, .ref (K.2.2 24)), (1, .int a1), (2, .int a2), (3, .int (gA t 45 (ix a2))), (4, .int 3), (5, .int 0), (6, .int (gA t 45 (ix (a2 + 1)))), (7, .int 0), (8, .int (a2 + 2))]) [6, 7, 8, 5, 4, 3, 2, 1, 0] rfl ?_
              refine L_X9_asks_102_ok hc t (a1) (a2) ((gA t 45 (ix a2))) (3) (0) ((gA t 45 (ix (a2 + 1)))) _ (fun z26 z27 => ?_) FU _ _
              refine V_aload_n hc dX9_asks_148 rfl 0 rfl ?_
              refine V_iload_n hc dX9_asks_149 rfl 1 rfl ?_
              refine V_iload hc dX9_asks_150 4 rfl ?_
              refine V_iconst (v := 0) hc dX9_asks_152 (by decide) ?_
              refine V_callV_RI (Cn := RX9) (T := TX9) (N := 28) hc (c_X9_valueOr l K t (a1) (3) (0)) sP24 rfl 3 gX9_asks_X9_valueOr rfl ⟨rfl, rfl⟩ (by decide) ⟨Nat.le_of_ble_eq_true rfl, Nat.le_of_ble_eq_true rfl⟩ rfl rfl (Nat.le_of_ble_eq_true rfl) dX9_asks_153 (fun r28 => ?_)
              refine V_istore (lv' := [(9, .int r28), (0, .ref (K.2.2 24)), (1, .int a1), (2, .int a2), (3, .int (gA t 45 (ix a2))), (4, .int 3), (5, .int 0), (6, .int (gA t 45 (ix (a2 + 1)))), (7, .int z26), (8, .int z27)]) hc dX9_asks_156 (by decide) rfl ?_
              refine V_aload_n hc dX9_asks_158 rfl 1 rfl ?_
              refine V_iload hc dX9_asks_159 6 rfl ?_
              refine V_if_eq (tgt := 209) hc dX9_asks_161 (by decide) ?_ ?_
              · refine V_iconst (v := 0) hc dX9_asks_209 (by decide) ?_
                refine V_callV_WV (Cn := RX9) (T := TX9) (N := 28) hc (c_X9_tells l K t (0)) sP24 rfl 1 gX9_asks_X9_tells rfl ⟨rfl, rfl⟩ (by decide) ⟨Nat.le_of_ble_eq_true rfl, Nat.le_of_ble_eq_true rfl⟩ rfl rfl (Nat.le_of_ble_eq_true rfl) dX9_asks_210 (fun r29 => ?_)
                refine V_iload hc dX9_asks_213 9 rfl ?_
                exact V_iret hc rfl rfl dX9_asks_215
              · refine V_iload hc dX9_asks_164 7 rfl ?_
                refine V_bipush (v := 60) hc dX9_asks_166 (by decide) ?_
                refine V_icmp_ne (tgt := 181) hc dX9_asks_168 (by decide) ?_ ?_
                · refine V_iload hc dX9_asks_181 7 rfl ?_
                  refine V_bipush (v := 61) hc dX9_asks_183 (by decide) ?_
                  refine V_icmp_ne (tgt := 198) hc dX9_asks_185 (by decide) ?_ ?_
                  · refine V_iload hc dX9_asks_198 0 rfl ?_
                    refine V_iload hc dX9_asks_200 8 rfl ?_
                    refine V_icmp_le (tgt := 209) hc dX9_asks_202 (by decide) ?_ ?_
                    · refine V_iconst (v := 0) hc dX9_asks_209 (by decide) ?_
                      refine V_callV_WV (Cn := RX9) (T := TX9) (N := 28) hc (c_X9_tells l K t (0)) sP24 rfl 1 gX9_asks_X9_tells rfl ⟨rfl, rfl⟩ (by decide) ⟨Nat.le_of_ble_eq_true rfl, Nat.le_of_ble_eq_true rfl⟩ rfl rfl (Nat.le_of_ble_eq_true rfl) dX9_asks_210 (fun r30 => ?_)
                      refine V_iload hc dX9_asks_213 9 rfl ?_
                      exact V_iret hc rfl rfl dX9_asks_215
                    · refine V_iconst (v := 1) hc dX9_asks_205 (by decide) ?_
                      refine V_goto (tgt := 210) hc dX9_asks_206 (by decide) ?_
                      refine V_callV_WV (Cn := RX9) (T := TX9) (N := 28) hc (c_X9_tells l K t (1)) sP24 rfl 1 gX9_asks_X9_tells rfl ⟨rfl, rfl⟩ (by decide) ⟨Nat.le_of_ble_eq_true rfl, Nat.le_of_ble_eq_true rfl⟩ rfl rfl (Nat.le_of_ble_eq_true rfl) dX9_asks_210 (fun r31 => ?_)
                      refine V_iload hc dX9_asks_213 9 rfl ?_
                      exact V_iret hc rfl rfl dX9_asks_215
                  · refine V_iload hc dX9_asks_188 0 rfl ?_
                    refine V_iload hc dX9_asks_190 8 rfl ?_
                    refine V_icmp_ne (tgt := 209) hc dX9_asks_192 (by decide) ?_ ?_
                    · refine V_iconst (v := 0) hc dX9_asks_209 (by decide) ?_
                      refine V_callV_WV (Cn := RX9) (T := TX9) (N := 28) hc (c_X9_tells l K t (0)) sP24 rfl 1 gX9_asks_X9_tells rfl ⟨rfl, rfl⟩ (by decide) ⟨Nat.le_of_ble_eq_true rfl, Nat.le_of_ble_eq_true rfl⟩ rfl rfl (Nat.le_of_ble_eq_true rfl) dX9_asks_210 (fun r32 => ?_)
                      refine V_iload hc dX9_asks_213 9 rfl ?_
                      exact V_iret hc rfl rfl dX9_asks_215
                    · refine V_goto (tgt := 205) hc dX9_asks_195 (by decide) ?_
                      refine V_iconst (v := 1) hc dX9_asks_205 (by decide) ?_
                      refine V_goto (tgt := 210) hc dX9_asks_206 (by decide) ?_
                      refine V_callV_WV (Cn := RX9) (T := TX9) (N := 28) hc (c_X9_tells l K t (1)) sP24 rfl 1 gX9_asks_X9_tells rfl ⟨rfl, rfl⟩ (by decide) ⟨Nat.le_of_ble_eq_true rfl, Nat.le_of_ble_eq_true rfl⟩ rfl rfl (Nat.le_of_ble_eq_true rfl) dX9_asks_210 (fun r33 => ?_)
                      refine V_iload hc dX9_asks_213 9 rfl ?_
                      exact V_iret hc rfl rfl dX9_asks_215
                · refine V_iload hc dX9_asks_171 0 rfl ?_
                  refine V_iload hc dX9_asks_173 8 rfl ?_
                  refine V_icmp_ge (tgt := 209) hc dX9_asks_175 (by decide) ?_ ?_
                  · refine V_iconst (v := 0) hc dX9_asks_209 (by decide) ?_
                    refine V_callV_WV (Cn := RX9) (T := TX9) (N := 28) hc (c_X9_tells l K t (0)) sP24 rfl 1 gX9_asks_X9_tells rfl ⟨rfl, rfl⟩ (by decide) ⟨Nat.le_of_ble_eq_true rfl, Nat.le_of_ble_eq_true rfl⟩ rfl rfl (Nat.le_of_ble_eq_true rfl) dX9_asks_210 (fun r34 => ?_)
                    refine V_iload hc dX9_asks_213 9 rfl ?_
                    exact V_iret hc rfl rfl dX9_asks_215
                  · refine V_goto (tgt := 205) hc dX9_asks_178 (by decide) ?_
                    refine V_iconst (v := 1) hc dX9_asks_205 (by decide) ?_
                    refine V_goto (tgt := 210) hc dX9_asks_206 (by decide) ?_
                    refine V_callV_WV (Cn := RX9) (T := TX9) (N := 28) hc (c_X9_tells l K t (1)) sP24 rfl 1 gX9_asks_X9_tells rfl ⟨rfl, rfl⟩ (by decide) ⟨Nat.le_of_ble_eq_true rfl, Nat.le_of_ble_eq_true rfl⟩ rfl rfl (Nat.le_of_ble_eq_true rfl) dX9_asks_210 (fun r35 => ?_)
                    refine V_iload hc dX9_asks_213 9 rfl ?_
                    exact V_iret hc rfl rfl dX9_asks_215
            · refine V_aload_n hc dX9_asks_84 rfl 4 rfl ?_
              refine V_iload hc dX9_asks_85 1 rfl ?_
              refine V_callV_WV (Cn := RX9) (T := TX9) (N := 28) hc (c_X9_tells l K t (0)) sP24 rfl 1 gX9_asks_X9_tells rfl ⟨rfl, rfl⟩ (by decide) ⟨Nat.le_of_ble_eq_true rfl, Nat.le_of_ble_eq_true rfl⟩ rfl rfl (Nat.le_of_ble_eq_true rfl) dX9_asks_87 (fun r36 => ?_)
              refine V_iload_n hc dX9_asks_90 rfl 6 rfl ?_
              refine V_iconst (v := 2) hc dX9_asks_91 (by decide) ?_
              refine V_iadd hc dX9_asks_92 ?_
              exact V_iret hc rfl rfl dX9_asks_93
          · refine V_iconst (v := 1) hc dX9_asks_60 (by decide) ?_
            refine V_goto (tgt := 65) hc dX9_asks_61 (by decide) ?_
            refine V_istore (lv' := [(5, .int 1), (4, .int 3), (3, .int (gA t 45 (ix a2))), (0, .ref (K.2.2 24)), (1, .int a1), (2, .int a2)]) hc dX9_asks_65 (by decide) rfl ?_
            refine V_aload_n hc dX9_asks_67 rfl 3 rfl ?_
            refine V_getr (C := RX9) (T := TX9) (N := 28) hc sP24 rfl qX9_asks_RX9 26 rfl (by decide) kX9_asks_82 rfl dX9_asks_68 ?_
            refine V_iload_n hc dX9_asks_71 rfl 5 rfl ?_
            refine V_iconst (v := 1) hc dX9_asks_72 (by decide) ?_
            refine V_iadd hc dX9_asks_73 ?_
            refine V_cald hc sP48 dX9_asks_74 ?_
            refine V_istore (lv' := [(6, .int (gA t 45 (ix (a2 + 1)))), (5, .int 1), (4, .int 3), (3, .int (gA t 45 (ix a2))), (0, .ref (K.2.2 24)), (1, .int a1), (2, .int a2)]) hc dX9_asks_75 (by decide) rfl ?_
            refine V_iload hc dX9_asks_77 0 rfl ?_
            refine V_bipush (v := 63) hc dX9_asks_79 (by decide) ?_
            refine V_icmp_ne (tgt := 94) hc dX9_asks_81 (by decide) ?_ ?_
            · refine V_iconst (v := 0) hc dX9_asks_94 (by decide) ?_
              refine V_istore (lv' := [(7, .int 0), (6, .int (gA t 45 (ix (a2 + 1)))), (5, .int 1), (4, .int 3), (3, .int (gA t 45 (ix a2))), (0, .ref (K.2.2 24)), (1, .int a1), (2, .int a2)]) hc dX9_asks_95 (by decide) rfl ?_
              refine V_iload_n hc dX9_asks_97 rfl 7 rfl ?_
              refine V_iconst (v := 2) hc dX9_asks_98 (by decide) ?_
              refine V_iadd hc dX9_asks_99 ?_
              refine V_istore (lv' := [(8, .int (a2 + 2)), (7, .int 0), (6, .int (gA t 45 (ix (a2 + 1)))), (5, .int 1), (4, .int 3), (3, .int (gA t 45 (ix a2))), (0, .ref (K.2.2 24)), (1, .int a1), (2, .int a2)]) hc dX9_asks_100 (by decide) rfl ?_
              refine V_sub (lv' := [(0, .ref (K.2.2 24)), (1, .int a1), (2, .int a2), (3, .int (gA t 45 (ix a2))), (4, .int 3), (5, .int 1), (6, .int (gA t 45 (ix (a2 + 1)))), (7, .int 0), (8, .int (a2 + 2))]) [6, 7, 8, 5, 4, 3, 2, 1, 0] rfl ?_
              refine L_X9_asks_102_ok hc t (a1) (a2) ((gA t 45 (ix a2))) (3) (1) ((gA t 45 (ix (a2 + 1)))) _ (fun z37 z38 => ?_) FU _ _
              refine V_aload_n hc dX9_asks_148 rfl 0 rfl ?_
              refine V_iload_n hc dX9_asks_149 rfl 1 rfl ?_
              refine V_iload hc dX9_asks_150 4 rfl ?_
              refine V_iconst (v := 0) hc dX9_asks_152 (by decide) ?_
              refine V_callV_RI (Cn := RX9) (T := TX9) (N := 28) hc (c_X9_valueOr l K t (a1) (3) (0)) sP24 rfl 3 gX9_asks_X9_valueOr rfl ⟨rfl, rfl⟩ (by decide) ⟨Nat.le_of_ble_eq_true rfl, Nat.le_of_ble_eq_true rfl⟩ rfl rfl (Nat.le_of_ble_eq_true rfl) dX9_asks_153 (fun r39 => ?_)
              refine V_istore (lv' := [(9, .int r39), (0, .ref (K.2.2 24)), (1, .int a1), (2, .int a2), (3, .int (gA t 45 (ix a2))), (4, .int 3), (5, .int 1), (6, .int (gA t 45 (ix (a2 + 1)))), (7, .int z37), (8, .int z38)]) hc dX9_asks_156 (by decide) rfl ?_
              refine V_aload_n hc dX9_asks_158 rfl 1 rfl ?_
              refine V_iload hc dX9_asks_159 6 rfl ?_
              refine V_if_eq (tgt := 209) hc dX9_asks_161 (by decide) ?_ ?_
              · refine V_iconst (v := 0) hc dX9_asks_209 (by decide) ?_
                refine V_callV_WV (Cn := RX9) (T := TX9) (N := 28) hc (c_X9_tells l K t (0)) sP24 rfl 1 gX9_asks_X9_tells rfl ⟨rfl, rfl⟩ (by decide) ⟨Nat.le_of_ble_eq_true rfl, Nat.le_of_ble_eq_true rfl⟩ rfl rfl (Nat.le_of_ble_eq_true rfl) dX9_asks_210 (fun r40 => ?_)
                refine V_iload hc dX9_asks_213 9 rfl ?_
                exact V_iret hc rfl rfl dX9_asks_215
              · refine V_iload hc dX9_asks_164 7 rfl ?_
                refine V_bipush (v := 60) hc dX9_asks_166 (by decide) ?_
                refine V_icmp_ne (tgt := 181) hc dX9_asks_168 (by decide) ?_ ?_
                · refine V_iload hc dX9_asks_181 7 rfl ?_
                  refine V_bipush (v := 61) hc dX9_asks_183 (by decide) ?_
                  refine V_icmp_ne (tgt := 198) hc dX9_asks_185 (by decide) ?_ ?_
                  · refine V_iload hc dX9_asks_198 0 rfl ?_
                    refine V_iload hc dX9_asks_200 8 rfl ?_
                    refine V_icmp_le (tgt := 209) hc dX9_asks_202 (by decide) ?_ ?_
                    · refine V_iconst (v := 0) hc dX9_asks_209 (by decide) ?_
                      refine V_callV_WV (Cn := RX9) (T := TX9) (N := 28) hc (c_X9_tells l K t (0)) sP24 rfl 1 gX9_asks_X9_tells rfl ⟨rfl, rfl⟩ (by decide) ⟨Nat.le_of_ble_eq_true rfl, Nat.le_of_ble_eq_true rfl⟩ rfl rfl (Nat.le_of_ble_eq_true rfl) dX9_asks_210 (fun r41 => ?_)
                      refine V_iload hc dX9_asks_213 9 rfl ?_
                      exact V_iret hc rfl rfl dX9_asks_215
                    · refine V_iconst (v := 1) hc dX9_asks_205 (by decide) ?_
                      refine V_goto (tgt := 210) hc dX9_asks_206 (by decide) ?_
                      refine V_callV_WV (Cn := RX9) (T := TX9) (N := 28) hc (c_X9_tells l K t (1)) sP24 rfl 1 gX9_asks_X9_tells rfl ⟨rfl, rfl⟩ (by decide) ⟨Nat.le_of_ble_eq_true rfl, Nat.le_of_ble_eq_true rfl⟩ rfl rfl (Nat.le_of_ble_eq_true rfl) dX9_asks_210 (fun r42 => ?_)
                      refine V_iload hc dX9_asks_213 9 rfl ?_
                      exact V_iret hc rfl rfl dX9_asks_215
                  · refine V_iload hc dX9_asks_188 0 rfl ?_
                    refine V_iload hc dX9_asks_190 8 rfl ?_
                    refine V_icmp_ne (tgt := 209) hc dX9_asks_192 (by decide) ?_ ?_
                    · refine V_iconst (v := 0) hc dX9_asks_209 (by decide) ?_
                      refine V_callV_WV (Cn := RX9) (T := TX9) (N := 28) hc (c_X9_tells l K t (0)) sP24 rfl 1 gX9_asks_X9_tells rfl ⟨rfl, rfl⟩ (by decide) ⟨Nat.le_of_ble_eq_true rfl, Nat.le_of_ble_eq_true rfl⟩ rfl rfl (Nat.le_of_ble_eq_true rfl) dX9_asks_210 (fun r43 => ?_)
                      refine V_iload hc dX9_asks_213 9 rfl ?_
                      exact V_iret hc rfl rfl dX9_asks_215
                    · refine V_goto (tgt := 205) hc dX9_asks_195 (by decide) ?_
                      refine V_iconst (v := 1) hc dX9_asks_205 (by decide) ?_
                      refine V_goto (tgt := 210) hc dX9_asks_206 (by decide) ?_
                      refine V_callV_WV (Cn := RX9) (T := TX9) (N := 28) hc (c_X9_tells l K t (1)) sP24 rfl 1 gX9_asks_X9_tells rfl ⟨rfl, rfl⟩ (by decide) ⟨Nat.le_of_ble_eq_true rfl, Nat.le_of_ble_eq_true rfl⟩ rfl rfl (Nat.le_of_ble_eq_true rfl) dX9_asks_210 (fun r44 => ?_)
                      refine V_iload hc dX9_asks_213 9 rfl ?_
                      exact V_iret hc rfl rfl dX9_asks_215
                · refine V_iload hc dX9_asks_171 0 rfl ?_
                  refine V_iload hc dX9_asks_173 8 rfl ?_
                  refine V_icmp_ge (tgt := 209) hc dX9_asks_175 (by decide) ?_ ?_
                  · refine V_iconst (v := 0) hc dX9_asks_209 (by decide) ?_
                    refine V_callV_WV (Cn := RX9) (T := TX9) (N := 28) hc (c_X9_tells l K t (0)) sP24 rfl 1 gX9_asks_X9_tells rfl ⟨rfl, rfl⟩ (by decide) ⟨Nat.le_of_ble_eq_true rfl, Nat.le_of_ble_eq_true rfl⟩ rfl rfl (Nat.le_of_ble_eq_true rfl) dX9_asks_210 (fun r45 => ?_)
                    refine V_iload hc dX9_asks_213 9 rfl ?_
                    exact V_iret hc rfl rfl dX9_asks_215
                  · refine V_goto (tgt := 205) hc dX9_asks_178 (by decide) ?_
                    refine V_iconst (v := 1) hc dX9_asks_205 (by decide) ?_
                    refine V_goto (tgt := 210) hc dX9_asks_206 (by decide) ?_
                    refine V_callV_WV (Cn := RX9) (T := TX9) (N := 28) hc (c_X9_tells l K t (1)) sP24 rfl 1 gX9_asks_X9_tells rfl ⟨rfl, rfl⟩ (by decide) ⟨Nat.le_of_ble_eq_true rfl, Nat.le_of_ble_eq_true rfl⟩ rfl rfl (Nat.le_of_ble_eq_true rfl) dX9_asks_210 (fun r46 => ?_)
                    refine V_iload hc dX9_asks_213 9 rfl ?_
                    exact V_iret hc rfl rfl dX9_asks_215
            · refine V_aload_n hc dX9_asks_84 rfl 4 rfl ?_
              refine V_iload hc dX9_asks_85 1 rfl ?_
              refine V_callV_WV (Cn := RX9) (T := TX9) (N := 28) hc (c_X9_tells l K t (1)) sP24 rfl 1 gX9_asks_X9_tells rfl ⟨rfl, rfl⟩ (by decide) ⟨Nat.le_of_ble_eq_true rfl, Nat.le_of_ble_eq_true rfl⟩ rfl rfl (Nat.le_of_ble_eq_true rfl) dX9_asks_87 (fun r47 => ?_)
              refine V_iload_n hc dX9_asks_90 rfl 6 rfl ?_
              refine V_iconst (v := 2) hc dX9_asks_91 (by decide) ?_
              refine V_iadd hc dX9_asks_92 ?_
              exact V_iret hc rfl rfl dX9_asks_93
      · refine V_iconst (v := 2) hc dX9_asks_33 (by decide) ?_
        refine V_goto (tgt := 48) hc dX9_asks_34 (by decide) ?_
        refine V_istore (lv' := [(4, .int 2), (3, .int (gA t 45 (ix a2))), (0, .ref (K.2.2 24)), (1, .int a1), (2, .int a2)]) hc dX9_asks_48 (by decide) rfl ?_
        refine V_aload_n hc dX9_asks_50 rfl 2 rfl ?_
        refine V_iload_n hc dX9_asks_51 rfl 3 rfl ?_
        refine V_iload hc dX9_asks_52 0 rfl ?_
        refine V_callV_RI (Cn := RX9) (T := TX9) (N := 28) hc (c_X9_source l K t (a1) (2)) sP24 rfl 2 gX9_asks_X9_source rfl ⟨rfl, rfl⟩ (by decide) ⟨Nat.le_of_ble_eq_true rfl, Nat.le_of_ble_eq_true rfl⟩ rfl rfl (Nat.le_of_ble_eq_true rfl) dX9_asks_54 (fun r48 => ?_)
        refine V_if_lt (tgt := 64) hc dX9_asks_57 (by decide) ?_ ?_
        · refine V_iconst (v := 0) hc dX9_asks_64 (by decide) ?_
          refine V_istore (lv' := [(5, .int 0), (4, .int 2), (3, .int (gA t 45 (ix a2))), (0, .ref (K.2.2 24)), (1, .int a1), (2, .int a2)]) hc dX9_asks_65 (by decide) rfl ?_
          refine V_aload_n hc dX9_asks_67 rfl 3 rfl ?_
          refine V_getr (C := RX9) (T := TX9) (N := 28) hc sP24 rfl qX9_asks_RX9 26 rfl (by decide) kX9_asks_82 rfl dX9_asks_68 ?_
          refine V_iload_n hc dX9_asks_71 rfl 5 rfl ?_
          refine V_iconst (v := 1) hc dX9_asks_72 (by decide) ?_
          refine V_iadd hc dX9_asks_73 ?_
          refine V_cald hc sP48 dX9_asks_74 ?_
          refine V_istore (lv' := [(6, .int (gA t 45 (ix (a2 + 1)))), (5, .int 0), (4, .int 2), (3, .int (gA t 45 (ix a2))), (0, .ref (K.2.2 24)), (1, .int a1), (2, .int a2)]) hc dX9_asks_75 (by decide) rfl ?_
          refine V_iload hc dX9_asks_77 0 rfl ?_
          refine V_bipush (v := 63) hc dX9_asks_79 (by decide) ?_
          refine V_icmp_ne (tgt := 94) hc dX9_asks_81 (by decide) ?_ ?_
          · refine V_iconst (v := 0) hc dX9_asks_94 (by decide) ?_
            refine V_istore (lv' := [(7, .int 0), (6, .int (gA t 45 (ix (a2 + 1)))), (5, .int 0), (4, .int 2), (3, .int (gA t 45 (ix a2))), (0, .ref (K.2.2 24)), (1, .int a1), (2, .int a2)]) hc dX9_asks_95 (by decide) rfl ?_
            refine V_iload_n hc dX9_asks_97 rfl 7 rfl ?_
            refine V_iconst (v := 2) hc dX9_asks_98 (by decide) ?_
            refine V_iadd hc dX9_asks_99 ?_
            refine V_istore (lv' := [(8, .int (a2 + 2)), (7, .int 0), (6, .int (gA t 45 (ix (a2 + 1)))), (5, .int 0), (4, .int 2), (3, .int (gA t 45 (ix a2))), (0, .ref (K.2.2 24)), (1, .int a1), (2, .int a2)]) hc dX9_asks_100 (by decide) rfl ?_
            refine V_sub (lv' := [(0, .ref (K.2.2 24)), (1, .int a1), (2, .int a2), (3, .int (gA t 45 (ix a2))), (4, .int 2), (5, .int 0), (6, .int (gA t 45 (ix (a2 + 1)))), (7, .int 0), (8, .int (a2 + 2))]) [6, 7, 8, 5, 4, 3, 2, 1, 0] rfl ?_
            refine L_X9_asks_102_ok hc t (a1) (a2) ((gA t 45 (ix a2))) (2) (0) ((gA t 45 (ix (a2 + 1)))) _ (fun z49 z50 => ?_) FU _ _
            refine V_aload_n hc dX9_asks_148 rfl 0 rfl ?_
            refine V_iload_n hc dX9_asks_149 rfl 1 rfl ?_
            refine V_iload hc dX9_asks_150 4 rfl ?_
            refine V_iconst (v := 0) hc dX9_asks_152 (by decide) ?_
            refine V_callV_RI (Cn := RX9) (T := TX9) (N := 28) hc (c_X9_valueOr l K t (a1) (2) (0)) sP24 rfl 3 gX9_asks_X9_valueOr rfl ⟨rfl, rfl⟩ (by decide) ⟨Nat.le_of_ble_eq_true rfl, Nat.le_of_ble_eq_true rfl⟩ rfl rfl (Nat.le_of_ble_eq_true rfl) dX9_asks_153 (fun r51 => ?_)
            refine V_istore (lv' := [(9, .int r51), (0, .ref (K.2.2 24)), (1, .int a1), (2, .int a2), (3, .int (gA t 45 (ix a2))), (4, .int 2), (5, .int 0), (6, .int (gA t 45 (ix (a2 + 1)))), (7, .int z49), (8, .int z50)]) hc dX9_asks_156 (by decide) rfl ?_
            refine V_aload_n hc dX9_asks_158 rfl 1 rfl ?_
            refine V_iload hc dX9_asks_159 6 rfl ?_
            refine V_if_eq (tgt := 209) hc dX9_asks_161 (by decide) ?_ ?_
            · refine V_iconst (v := 0) hc dX9_asks_209 (by decide) ?_
              refine V_callV_WV (Cn := RX9) (T := TX9) (N := 28) hc (c_X9_tells l K t (0)) sP24 rfl 1 gX9_asks_X9_tells rfl ⟨rfl, rfl⟩ (by decide) ⟨Nat.le_of_ble_eq_true rfl, Nat.le_of_ble_eq_true rfl⟩ rfl rfl (Nat.le_of_ble_eq_true rfl) dX9_asks_210 (fun r52 => ?_)
              refine V_iload hc dX9_asks_213 9 rfl ?_
              exact V_iret hc rfl rfl dX9_asks_215
            · refine V_iload hc dX9_asks_164 7 rfl ?_
              refine V_bipush (v := 60) hc dX9_asks_166 (by decide) ?_
              refine V_icmp_ne (tgt := 181) hc dX9_asks_168 (by decide) ?_ ?_
              · refine V_iload hc dX9_asks_181 7 rfl ?_
                refine V_bipush (v := 61) hc dX9_asks_183 (by decide) ?_
                refine V_icmp_ne (tgt := 198) hc dX9_asks_185 (by decide) ?_ ?_
                · refine V_iload hc dX9_asks_198 0 rfl ?_
                  refine V_iload hc dX9_asks_200 8 rfl ?_
                  refine V_icmp_le (tgt := 209) hc dX9_asks_202 (by decide) ?_ ?_
                  · refine V_iconst (v := 0) hc dX9_asks_209 (by decide) ?_
                    refine V_callV_WV (Cn := RX9) (T := TX9) (N := 28) hc (c_X9_tells l K t (0)) sP24 rfl 1 gX9_asks_X9_tells rfl ⟨rfl, rfl⟩ (by decide) ⟨Nat.le_of_ble_eq_true rfl, Nat.le_of_ble_eq_true rfl⟩ rfl rfl (Nat.le_of_ble_eq_true rfl) dX9_asks_210 (fun r53 => ?_)
                    refine V_iload hc dX9_asks_213 9 rfl ?_
                    exact V_iret hc rfl rfl dX9_asks_215
                  · refine V_iconst (v := 1) hc dX9_asks_205 (by decide) ?_
                    refine V_goto (tgt := 210) hc dX9_asks_206 (by decide) ?_
                    refine V_callV_WV (Cn := RX9) (T := TX9) (N := 28) hc (c_X9_tells l K t (1)) sP24 rfl 1 gX9_asks_X9_tells rfl ⟨rfl, rfl⟩ (by decide) ⟨Nat.le_of_ble_eq_true rfl, Nat.le_of_ble_eq_true rfl⟩ rfl rfl (Nat.le_of_ble_eq_true rfl) dX9_asks_210 (fun r54 => ?_)
                    refine V_iload hc dX9_asks_213 9 rfl ?_
                    exact V_iret hc rfl rfl dX9_asks_215
                · refine V_iload hc dX9_asks_188 0 rfl ?_
                  refine V_iload hc dX9_asks_190 8 rfl ?_
                  refine V_icmp_ne (tgt := 209) hc dX9_asks_192 (by decide) ?_ ?_
                  · refine V_iconst (v := 0) hc dX9_asks_209 (by decide) ?_
                    refine V_callV_WV (Cn := RX9) (T := TX9) (N := 28) hc (c_X9_tells l K t (0)) sP24 rfl 1 gX9_asks_X9_tells rfl ⟨rfl, rfl⟩ (by decide) ⟨Nat.le_of_ble_eq_true rfl, Nat.le_of_ble_eq_true rfl⟩ rfl rfl (Nat.le_of_ble_eq_true rfl) dX9_asks_210 (fun r55 => ?_)
                    refine V_iload hc dX9_asks_213 9 rfl ?_
                    exact V_iret hc rfl rfl dX9_asks_215
                  · refine V_goto (tgt := 205) hc dX9_asks_195 (by decide) ?_
                    refine V_iconst (v := 1) hc dX9_asks_205 (by decide) ?_
                    refine V_goto (tgt := 210) hc dX9_asks_206 (by decide) ?_
                    refine V_callV_WV (Cn := RX9) (T := TX9) (N := 28) hc (c_X9_tells l K t (1)) sP24 rfl 1 gX9_asks_X9_tells rfl ⟨rfl, rfl⟩ (by decide) ⟨Nat.le_of_ble_eq_true rfl, Nat.le_of_ble_eq_true rfl⟩ rfl rfl (Nat.le_of_ble_eq_true rfl) dX9_asks_210 (fun r56 => ?_)
                    refine V_iload hc dX9_asks_213 9 rfl ?_
                    exact V_iret hc rfl rfl dX9_asks_215
              · refine V_iload hc dX9_asks_171 0 rfl ?_
                refine V_iload hc dX9_asks_173 8 rfl ?_
                refine V_icmp_ge (tgt := 209) hc dX9_asks_175 (by decide) ?_ ?_
                · refine V_iconst (v := 0) hc dX9_asks_209 (by decide) ?_
                  refine V_callV_WV (Cn := RX9) (T := TX9) (N := 28) hc (c_X9_tells l K t (0)) sP24 rfl 1 gX9_asks_X9_tells rfl ⟨rfl, rfl⟩ (by decide) ⟨Nat.le_of_ble_eq_true rfl, Nat.le_of_ble_eq_true rfl⟩ rfl rfl (Nat.le_of_ble_eq_true rfl) dX9_asks_210 (fun r57 => ?_)
                  refine V_iload hc dX9_asks_213 9 rfl ?_
                  exact V_iret hc rfl rfl dX9_asks_215
                · refine V_goto (tgt := 205) hc dX9_asks_178 (by decide) ?_
                  refine V_iconst (v := 1) hc dX9_asks_205 (by decide) ?_
                  refine V_goto (tgt := 210) hc dX9_asks_206 (by decide) ?_
                  refine V_callV_WV (Cn := RX9) (T := TX9) (N := 28) hc (c_X9_tells l K t (1)) sP24 rfl 1 gX9_asks_X9_tells rfl ⟨rfl, rfl⟩ (by decide) ⟨Nat.le_of_ble_eq_true rfl, Nat.le_of_ble_eq_true rfl⟩ rfl rfl (Nat.le_of_ble_eq_true rfl) dX9_asks_210 (fun r58 => ?_)
                  refine V_iload hc dX9_asks_213 9 rfl ?_
                  exact V_iret hc rfl rfl dX9_asks_215
          · refine V_aload_n hc dX9_asks_84 rfl 4 rfl ?_
            refine V_iload hc dX9_asks_85 1 rfl ?_
            refine V_callV_WV (Cn := RX9) (T := TX9) (N := 28) hc (c_X9_tells l K t (0)) sP24 rfl 1 gX9_asks_X9_tells rfl ⟨rfl, rfl⟩ (by decide) ⟨Nat.le_of_ble_eq_true rfl, Nat.le_of_ble_eq_true rfl⟩ rfl rfl (Nat.le_of_ble_eq_true rfl) dX9_asks_87 (fun r59 => ?_)
            refine V_iload_n hc dX9_asks_90 rfl 6 rfl ?_
            refine V_iconst (v := 2) hc dX9_asks_91 (by decide) ?_
            refine V_iadd hc dX9_asks_92 ?_
            exact V_iret hc rfl rfl dX9_asks_93
        · refine V_iconst (v := 1) hc dX9_asks_60 (by decide) ?_
          refine V_goto (tgt := 65) hc dX9_asks_61 (by decide) ?_
          refine V_istore (lv' := [(5, .int 1), (4, .int 2), (3, .int (gA t 45 (ix a2))), (0, .ref (K.2.2 24)), (1, .int a1), (2, .int a2)]) hc dX9_asks_65 (by decide) rfl ?_
          refine V_aload_n hc dX9_asks_67 rfl 3 rfl ?_
          refine V_getr (C := RX9) (T := TX9) (N := 28) hc sP24 rfl qX9_asks_RX9 26 rfl (by decide) kX9_asks_82 rfl dX9_asks_68 ?_
          refine V_iload_n hc dX9_asks_71 rfl 5 rfl ?_
          refine V_iconst (v := 1) hc dX9_asks_72 (by decide) ?_
          refine V_iadd hc dX9_asks_73 ?_
          refine V_cald hc sP48 dX9_asks_74 ?_
          refine V_istore (lv' := [(6, .int (gA t 45 (ix (a2 + 1)))), (5, .int 1), (4, .int 2), (3, .int (gA t 45 (ix a2))), (0, .ref (K.2.2 24)), (1, .int a1), (2, .int a2)]) hc dX9_asks_75 (by decide) rfl ?_
          refine V_iload hc dX9_asks_77 0 rfl ?_
          refine V_bipush (v := 63) hc dX9_asks_79 (by decide) ?_
          refine V_icmp_ne (tgt := 94) hc dX9_asks_81 (by decide) ?_ ?_
          · refine V_iconst (v := 0) hc dX9_asks_94 (by decide) ?_
            refine V_istore (lv' := [(7, .int 0), (6, .int (gA t 45 (ix (a2 + 1)))), (5, .int 1), (4, .int 2), (3, .int (gA t 45 (ix a2))), (0, .ref (K.2.2 24)), (1, .int a1), (2, .int a2)]) hc dX9_asks_95 (by decide) rfl ?_
            refine V_iload_n hc dX9_asks_97 rfl 7 rfl ?_
            refine V_iconst (v := 2) hc dX9_asks_98 (by decide) ?_
            refine V_iadd hc dX9_asks_99 ?_
            refine V_istore (lv' := [(8, .int (a2 + 2)), (7, .int 0), (6, .int (gA t 45 (ix (a2 + 1)))), (5, .int 1), (4, .int 2), (3, .int (gA t 45 (ix a2))), (0, .ref (K.2.2 24)), (1, .int a1), (2, .int a2)]) hc dX9_asks_100 (by decide) rfl ?_
            refine V_sub (lv' := [(0, .ref (K.2.2 24)), (1, .int a1), (2, .int a2), (3, .int (gA t 45 (ix a2))), (4, .int 2), (5, .int 1), (6, .int (gA t 45 (ix (a2 + 1)))), (7, .int 0), (8, .int (a2 + 2))]) [6, 7, 8, 5, 4, 3, 2, 1, 0] rfl ?_
            refine L_X9_asks_102_ok hc t (a1) (a2) ((gA t 45 (ix a2))) (2) (1) ((gA t 45 (ix (a2 + 1)))) _ (fun z60 z61 => ?_) FU _ _
            refine V_aload_n hc dX9_asks_148 rfl 0 rfl ?_
            refine V_iload_n hc dX9_asks_149 rfl 1 rfl ?_
            refine V_iload hc dX9_asks_150 4 rfl ?_
            refine V_iconst (v := 0) hc dX9_asks_152 (by decide) ?_
            refine V_callV_RI (Cn := RX9) (T := TX9) (N := 28) hc (c_X9_valueOr l K t (a1) (2) (0)) sP24 rfl 3 gX9_asks_X9_valueOr rfl ⟨rfl, rfl⟩ (by decide) ⟨Nat.le_of_ble_eq_true rfl, Nat.le_of_ble_eq_true rfl⟩ rfl rfl (Nat.le_of_ble_eq_true rfl) dX9_asks_153 (fun r62 => ?_)
            refine V_istore (lv' := [(9, .int r62), (0, .ref (K.2.2 24)), (1, .int a1), (2, .int a2), (3, .int (gA t 45 (ix a2))), (4, .int 2), (5, .int 1), (6, .int (gA t 45 (ix (a2 + 1)))), (7, .int z60), (8, .int z61)]) hc dX9_asks_156 (by decide) rfl ?_
            refine V_aload_n hc dX9_asks_158 rfl 1 rfl ?_
            refine V_iload hc dX9_asks_159 6 rfl ?_
            refine V_if_eq (tgt := 209) hc dX9_asks_161 (by decide) ?_ ?_
            · refine V_iconst (v := 0) hc dX9_asks_209 (by decide) ?_
              refine V_callV_WV (Cn := RX9) (T := TX9) (N := 28) hc (c_X9_tells l K t (0)) sP24 rfl 1 gX9_asks_X9_tells rfl ⟨rfl, rfl⟩ (by decide) ⟨Nat.le_of_ble_eq_true rfl, Nat.le_of_ble_eq_true rfl⟩ rfl rfl (Nat.le_of_ble_eq_true rfl) dX9_asks_210 (fun r63 => ?_)
              refine V_iload hc dX9_asks_213 9 rfl ?_
              exact V_iret hc rfl rfl dX9_asks_215
            · refine V_iload hc dX9_asks_164 7 rfl ?_
              refine V_bipush (v := 60) hc dX9_asks_166 (by decide) ?_
              refine V_icmp_ne (tgt := 181) hc dX9_asks_168 (by decide) ?_ ?_
              · refine V_iload hc dX9_asks_181 7 rfl ?_
                refine V_bipush (v := 61) hc dX9_asks_183 (by decide) ?_
                refine V_icmp_ne (tgt := 198) hc dX9_asks_185 (by decide) ?_ ?_
                · refine V_iload hc dX9_asks_198 0 rfl ?_
                  refine V_iload hc dX9_asks_200 8 rfl ?_
                  refine V_icmp_le (tgt := 209) hc dX9_asks_202 (by decide) ?_ ?_
                  · refine V_iconst (v := 0) hc dX9_asks_209 (by decide) ?_
                    refine V_callV_WV (Cn := RX9) (T := TX9) (N := 28) hc (c_X9_tells l K t (0)) sP24 rfl 1 gX9_asks_X9_tells rfl ⟨rfl, rfl⟩ (by decide) ⟨Nat.le_of_ble_eq_true rfl, Nat.le_of_ble_eq_true rfl⟩ rfl rfl (Nat.le_of_ble_eq_true rfl) dX9_asks_210 (fun r64 => ?_)
                    refine V_iload hc dX9_asks_213 9 rfl ?_
                    exact V_iret hc rfl rfl dX9_asks_215
                  · refine V_iconst (v := 1) hc dX9_asks_205 (by decide) ?_
                    refine V_goto (tgt := 210) hc dX9_asks_206 (by decide) ?_
                    refine V_callV_WV (Cn := RX9) (T := TX9) (N := 28) hc (c_X9_tells l K t (1)) sP24 rfl 1 gX9_asks_X9_tells rfl ⟨rfl, rfl⟩ (by decide) ⟨Nat.le_of_ble_eq_true rfl, Nat.le_of_ble_eq_true rfl⟩ rfl rfl (Nat.le_of_ble_eq_true rfl) dX9_asks_210 (fun r65 => ?_)
                    refine V_iload hc dX9_asks_213 9 rfl ?_
                    exact V_iret hc rfl rfl dX9_asks_215
                · refine V_iload hc dX9_asks_188 0 rfl ?_
                  refine V_iload hc dX9_asks_190 8 rfl ?_
                  refine V_icmp_ne (tgt := 209) hc dX9_asks_192 (by decide) ?_ ?_
                  · refine V_iconst (v := 0) hc dX9_asks_209 (by decide) ?_
                    refine V_callV_WV (Cn := RX9) (T := TX9) (N := 28) hc (c_X9_tells l K t (0)) sP24 rfl 1 gX9_asks_X9_tells rfl ⟨rfl, rfl⟩ (by decide) ⟨Nat.le_of_ble_eq_true rfl, Nat.le_of_ble_eq_true rfl⟩ rfl rfl (Nat.le_of_ble_eq_true rfl) dX9_asks_210 (fun r66 => ?_)
                    refine V_iload hc dX9_asks_213 9 rfl ?_
                    exact V_iret hc rfl rfl dX9_asks_215
                  · refine V_goto (tgt := 205) hc dX9_asks_195 (by decide) ?_
                    refine V_iconst (v := 1) hc dX9_asks_205 (by decide) ?_
                    refine V_goto (tgt := 210) hc dX9_asks_206 (by decide) ?_
                    refine V_callV_WV (Cn := RX9) (T := TX9) (N := 28) hc (c_X9_tells l K t (1)) sP24 rfl 1 gX9_asks_X9_tells rfl ⟨rfl, rfl⟩ (by decide) ⟨Nat.le_of_ble_eq_true rfl, Nat.le_of_ble_eq_true rfl⟩ rfl rfl (Nat.le_of_ble_eq_true rfl) dX9_asks_210 (fun r67 => ?_)
                    refine V_iload hc dX9_asks_213 9 rfl ?_
                    exact V_iret hc rfl rfl dX9_asks_215
              · refine V_iload hc dX9_asks_171 0 rfl ?_
                refine V_iload hc dX9_asks_173 8 rfl ?_
                refine V_icmp_ge (tgt := 209) hc dX9_asks_175 (by decide) ?_ ?_
                · refine V_iconst (v := 0) hc dX9_asks_209 (by decide) ?_
                  refine V_callV_WV (Cn := RX9) (T := TX9) (N := 28) hc (c_X9_tells l K t (0)) sP24 rfl 1 gX9_asks_X9_tells rfl ⟨rfl, rfl⟩ (by decide) ⟨Nat.le_of_ble_eq_true rfl, Nat.le_of_ble_eq_true rfl⟩ rfl rfl (Nat.le_of_ble_eq_true rfl) dX9_asks_210 (fun r68 => ?_)
                  refine V_iload hc dX9_asks_213 9 rfl ?_
                  exact V_iret hc rfl rfl dX9_asks_215
                · refine V_goto (tgt := 205) hc dX9_asks_178 (by decide) ?_
                  refine V_iconst (v := 1) hc dX9_asks_205 (by decide) ?_
                  refine V_goto (tgt := 210) hc dX9_asks_206 (by decide) ?_
                  refine V_callV_WV (Cn := RX9) (T := TX9) (N := 28) hc (c_X9_tells l K t (1)) sP24 rfl 1 gX9_asks_X9_tells rfl ⟨rfl, rfl⟩ (by decide) ⟨Nat.le_of_ble_eq_true rfl, Nat.le_of_ble_eq_true rfl⟩ rfl rfl (Nat.le_of_ble_eq_true rfl) dX9_asks_210 (fun r69 => ?_)
                  refine V_iload hc dX9_asks_213 9 rfl ?_
                  exact V_iret hc rfl rfl dX9_asks_215
          · refine V_aload_n hc dX9_asks_84 rfl 4 rfl ?_
            refine V_iload hc dX9_asks_85 1 rfl ?_
            refine V_callV_WV (Cn := RX9) (T := TX9) (N := 28) hc (c_X9_tells l K t (1)) sP24 rfl 1 gX9_asks_X9_tells rfl ⟨rfl, rfl⟩ (by decide) ⟨Nat.le_of_ble_eq_true rfl, Nat.le_of_ble_eq_true rfl⟩ rfl rfl (Nat.le_of_ble_eq_true rfl) dX9_asks_87 (fun r70 => ?_)
            refine V_iload_n hc dX9_asks_90 rfl 6 rfl ?_
            refine V_iconst (v := 2) hc dX9_asks_91 (by decide) ?_
            refine V_iadd hc dX9_asks_92 ?_
            exact V_iret hc rfl rfl dX9_asks_93
    · refine V_iconst (v := 1) hc dX9_asks_23 (by decide) ?_
      refine V_goto (tgt := 48) hc dX9_asks_24 (by decide) ?_
      refine V_istore (lv' := [(4, .int 1), (3, .int (gA t 45 (ix a2))), (0, .ref (K.2.2 24)), (1, .int a1), (2, .int a2)]) hc dX9_asks_48 (by decide) rfl ?_
      refine V_aload_n hc dX9_asks_50 rfl 2 rfl ?_
      refine V_iload_n hc dX9_asks_51 rfl 3 rfl ?_
      refine V_iload hc dX9_asks_52 0 rfl ?_
      refine V_callV_RI (Cn := RX9) (T := TX9) (N := 28) hc (c_X9_source l K t (a1) (1)) sP24 rfl 2 gX9_asks_X9_source rfl ⟨rfl, rfl⟩ (by decide) ⟨Nat.le_of_ble_eq_true rfl, Nat.le_of_ble_eq_true rfl⟩ rfl rfl (Nat.le_of_ble_eq_true rfl) dX9_asks_54 (fun r71 => ?_)
      refine V_if_lt (tgt := 64) hc dX9_asks_57 (by decide) ?_ ?_
      · refine V_iconst (v := 0) hc dX9_asks_64 (by decide) ?_
        refine V_istore (lv' := [(5, .int 0), (4, .int 1), (3, .int (gA t 45 (ix a2))), (0, .ref (K.2.2 24)), (1, .int a1), (2, .int a2)]) hc dX9_asks_65 (by decide) rfl ?_
        refine V_aload_n hc dX9_asks_67 rfl 3 rfl ?_
        refine V_getr (C := RX9) (T := TX9) (N := 28) hc sP24 rfl qX9_asks_RX9 26 rfl (by decide) kX9_asks_82 rfl dX9_asks_68 ?_
        refine V_iload_n hc dX9_asks_71 rfl 5 rfl ?_
        refine V_iconst (v := 1) hc dX9_asks_72 (by decide) ?_
        refine V_iadd hc dX9_asks_73 ?_
        refine V_cald hc sP48 dX9_asks_74 ?_
        refine V_istore (lv' := [(6, .int (gA t 45 (ix (a2 + 1)))), (5, .int 0), (4, .int 1), (3, .int (gA t 45 (ix a2))), (0, .ref (K.2.2 24)), (1, .int a1), (2, .int a2)]) hc dX9_asks_75 (by decide) rfl ?_
        refine V_iload hc dX9_asks_77 0 rfl ?_
        refine V_bipush (v := 63) hc dX9_asks_79 (by decide) ?_
        refine V_icmp_ne (tgt := 94) hc dX9_asks_81 (by decide) ?_ ?_
        · refine V_iconst (v := 0) hc dX9_asks_94 (by decide) ?_
          refine V_istore (lv' := [(7, .int 0), (6, .int (gA t 45 (ix (a2 + 1)))), (5, .int 0), (4, .int 1), (3, .int (gA t 45 (ix a2))), (0, .ref (K.2.2 24)), (1, .int a1), (2, .int a2)]) hc dX9_asks_95 (by decide) rfl ?_
          refine V_iload_n hc dX9_asks_97 rfl 7 rfl ?_
          refine V_iconst (v := 2) hc dX9_asks_98 (by decide) ?_
          refine V_iadd hc dX9_asks_99 ?_
          refine V_istore (lv' := [(8, .int (a2 + 2)), (7, .int 0), (6, .int (gA t 45 (ix (a2 + 1)))), (5, .int 0), (4, .int 1), (3, .int (gA t 45 (ix a2))), (0, .ref (K.2.2 24)), (1, .int a1), (2, .int a2)]) hc dX9_asks_100 (by decide) rfl ?_
          refine V_sub (lv' := [(0, .ref (K.2.2 24)), (1, .int a1), (2, .int a2), (3, .int (gA t 45 (ix a2))), (4, .int 1), (5, .int 0), (6, .int (gA t 45 (ix (a2 + 1)))), (7, .int 0), (8, .int (a2 + 2))]) [6, 7, 8, 5, 4, 3, 2, 1, 0] rfl ?_
          refine L_X9_asks_102_ok hc t (a1) (a2) ((gA t 45 (ix a2))) (1) (0) ((gA t 45 (ix (a2 + 1)))) _ (fun z72 z73 => ?_) FU _ _
          refine V_aload_n hc dX9_asks_148 rfl 0 rfl ?_
          refine V_iload_n hc dX9_asks_149 rfl 1 rfl ?_
          refine V_iload hc dX9_asks_150 4 rfl ?_
          refine V_iconst (v := 0) hc dX9_asks_152 (by decide) ?_
          refine V_callV_RI (Cn := RX9) (T := TX9) (N := 28) hc (c_X9_valueOr l K t (a1) (1) (0)) sP24 rfl 3 gX9_asks_X9_valueOr rfl ⟨rfl, rfl⟩ (by decide) ⟨Nat.le_of_ble_eq_true rfl, Nat.le_of_ble_eq_true rfl⟩ rfl rfl (Nat.le_of_ble_eq_true rfl) dX9_asks_153 (fun r74 => ?_)
          refine V_istore (lv' := [(9, .int r74), (0, .ref (K.2.2 24)), (1, .int a1), (2, .int a2), (3, .int (gA t 45 (ix a2))), (4, .int 1), (5, .int 0), (6, .int (gA t 45 (ix (a2 + 1)))), (7, .int z72), (8, .int z73)]) hc dX9_asks_156 (by decide) rfl ?_
          refine V_aload_n hc dX9_asks_158 rfl 1 rfl ?_
          refine V_iload hc dX9_asks_159 6 rfl ?_
          refine V_if_eq (tgt := 209) hc dX9_asks_161 (by decide) ?_ ?_
          · refine V_iconst (v := 0) hc dX9_asks_209 (by decide) ?_
            refine V_callV_WV (Cn := RX9) (T := TX9) (N := 28) hc (c_X9_tells l K t (0)) sP24 rfl 1 gX9_asks_X9_tells rfl ⟨rfl, rfl⟩ (by decide) ⟨Nat.le_of_ble_eq_true rfl, Nat.le_of_ble_eq_true rfl⟩ rfl rfl (Nat.le_of_ble_eq_true rfl) dX9_asks_210 (fun r75 => ?_)
            refine V_iload hc dX9_asks_213 9 rfl ?_
            exact V_iret hc rfl rfl dX9_asks_215
          · refine V_iload hc dX9_asks_164 7 rfl ?_
            refine V_bipush (v := 60) hc dX9_asks_166 (by decide) ?_
            refine V_icmp_ne (tgt := 181) hc dX9_asks_168 (by decide) ?_ ?_
            · refine V_iload hc dX9_asks_181 7 rfl ?_
              refine V_bipush (v := 61) hc dX9_asks_183 (by decide) ?_
              refine V_icmp_ne (tgt := 198) hc dX9_asks_185 (by decide) ?_ ?_
              · refine V_iload hc dX9_asks_198 0 rfl ?_
                refine V_iload hc dX9_asks_200 8 rfl ?_
                refine V_icmp_le (tgt := 209) hc dX9_asks_202 (by decide) ?_ ?_
                · refine V_iconst (v := 0) hc dX9_asks_209 (by decide) ?_
                  refine V_callV_WV (Cn := RX9) (T := TX9) (N := 28) hc (c_X9_tells l K t (0)) sP24 rfl 1 gX9_asks_X9_tells rfl ⟨rfl, rfl⟩ (by decide) ⟨Nat.le_of_ble_eq_true rfl, Nat.le_of_ble_eq_true rfl⟩ rfl rfl (Nat.le_of_ble_eq_true rfl) dX9_asks_210 (fun r76 => ?_)
                  refine V_iload hc dX9_asks_213 9 rfl ?_
                  exact V_iret hc rfl rfl dX9_asks_215
                · refine V_iconst (v := 1) hc dX9_asks_205 (by decide) ?_
                  refine V_goto (tgt := 210) hc dX9_asks_206 (by decide) ?_
                  refine V_callV_WV (Cn := RX9) (T := TX9) (N := 28) hc (c_X9_tells l K t (1)) sP24 rfl 1 gX9_asks_X9_tells rfl ⟨rfl, rfl⟩ (by decide) ⟨Nat.le_of_ble_eq_true rfl, Nat.le_of_ble_eq_true rfl⟩ rfl rfl (Nat.le_of_ble_eq_true rfl) dX9_asks_210 (fun r77 => ?_)
                  refine V_iload hc dX9_asks_213 9 rfl ?_
                  exact V_iret hc rfl rfl dX9_asks_215
              · refine V_iload hc dX9_asks_188 0 rfl ?_
                refine V_iload hc dX9_asks_190 8 rfl ?_
                refine V_icmp_ne (tgt := 209) hc dX9_asks_192 (by decide) ?_ ?_
                · refine V_iconst (v := 0) hc dX9_asks_209 (by decide) ?_
                  refine V_callV_WV (Cn := RX9) (T := TX9) (N := 28) hc (c_X9_tells l K t (0)) sP24 rfl 1 gX9_asks_X9_tells rfl ⟨rfl, rfl⟩ (by decide) ⟨Nat.le_of_ble_eq_true rfl, Nat.le_of_ble_eq_true rfl⟩ rfl rfl (Nat.le_of_ble_eq_true rfl) dX9_asks_210 (fun r78 => ?_)
                  refine V_iload hc dX9_asks_213 9 rfl ?_
                  exact V_iret hc rfl rfl dX9_asks_215
                · refine V_goto (tgt := 205) hc dX9_asks_195 (by decide) ?_
                  refine V_iconst (v := 1) hc dX9_asks_205 (by decide) ?_
                  refine V_goto (tgt := 210) hc dX9_asks_206 (by decide) ?_
                  refine V_callV_WV (Cn := RX9) (T := TX9) (N := 28) hc (c_X9_tells l K t (1)) sP24 rfl 1 gX9_asks_X9_tells rfl ⟨rfl, rfl⟩ (by decide) ⟨Nat.le_of_ble_eq_true rfl, Nat.le_of_ble_eq_true rfl⟩ rfl rfl (Nat.le_of_ble_eq_true rfl) dX9_asks_210 (fun r79 => ?_)
                  refine V_iload hc dX9_asks_213 9 rfl ?_
                  exact V_iret hc rfl rfl dX9_asks_215
            · refine V_iload hc dX9_asks_171 0 rfl ?_
              refine V_iload hc dX9_asks_173 8 rfl ?_
              refine V_icmp_ge (tgt := 209) hc dX9_asks_175 (by decide) ?_ ?_
              · refine V_iconst (v := 0) hc dX9_asks_209 (by decide) ?_
                refine V_callV_WV (Cn := RX9) (T := TX9) (N := 28) hc (c_X9_tells l K t (0)) sP24 rfl 1 gX9_asks_X9_tells rfl ⟨rfl, rfl⟩ (by decide) ⟨Nat.le_of_ble_eq_true rfl, Nat.le_of_ble_eq_true rfl⟩ rfl rfl (Nat.le_of_ble_eq_true rfl) dX9_asks_210 (fun r80 => ?_)
                refine V_iload hc dX9_asks_213 9 rfl ?_
                exact V_iret hc rfl rfl dX9_asks_215
              · refine V_goto (tgt := 205) hc dX9_asks_178 (by decide) ?_
                refine V_iconst (v := 1) hc dX9_asks_205 (by decide) ?_
                refine V_goto (tgt := 210) hc dX9_asks_206 (by decide) ?_
                refine V_callV_WV (Cn := RX9) (T := TX9) (N := 28) hc (c_X9_tells l K t (1)) sP24 rfl 1 gX9_asks_X9_tells rfl ⟨rfl, rfl⟩ (by decide) ⟨Nat.le_of_ble_eq_true rfl, Nat.le_of_ble_eq_true rfl⟩ rfl rfl (Nat.le_of_ble_eq_true rfl) dX9_asks_210 (fun r81 => ?_)
                refine V_iload hc dX9_asks_213 9 rfl ?_
                exact V_iret hc rfl rfl dX9_asks_215
        · refine V_aload_n hc dX9_asks_84 rfl 4 rfl ?_
          refine V_iload hc dX9_asks_85 1 rfl ?_
          refine V_callV_WV (Cn := RX9) (T := TX9) (N := 28) hc (c_X9_tells l K t (0)) sP24 rfl 1 gX9_asks_X9_tells rfl ⟨rfl, rfl⟩ (by decide) ⟨Nat.le_of_ble_eq_true rfl, Nat.le_of_ble_eq_true rfl⟩ rfl rfl (Nat.le_of_ble_eq_true rfl) dX9_asks_87 (fun r82 => ?_)
          refine V_iload_n hc dX9_asks_90 rfl 6 rfl ?_
          refine V_iconst (v := 2) hc dX9_asks_91 (by decide) ?_
          refine V_iadd hc dX9_asks_92 ?_
          exact V_iret hc rfl rfl dX9_asks_93
      · refine V_iconst (v := 1) hc dX9_asks_60 (by decide) ?_
        refine V_goto (tgt := 65) hc dX9_asks_61 (by decide) ?_
        refine V_istore (lv' := [(5, .int 1), (4, .int 1), (3, .int (gA t 45 (ix a2))), (0, .ref (K.2.2 24)), (1, .int a1), (2, .int a2)]) hc dX9_asks_65 (by decide) rfl ?_
        refine V_aload_n hc dX9_asks_67 rfl 3 rfl ?_
        refine V_getr (C := RX9) (T := TX9) (N := 28) hc sP24 rfl qX9_asks_RX9 26 rfl (by decide) kX9_asks_82 rfl dX9_asks_68 ?_
        refine V_iload_n hc dX9_asks_71 rfl 5 rfl ?_
        refine V_iconst (v := 1) hc dX9_asks_72 (by decide) ?_
        refine V_iadd hc dX9_asks_73 ?_
        refine V_cald hc sP48 dX9_asks_74 ?_
        refine V_istore (lv' := [(6, .int (gA t 45 (ix (a2 + 1)))), (5, .int 1), (4, .int 1), (3, .int (gA t 45 (ix a2))), (0, .ref (K.2.2 24)), (1, .int a1), (2, .int a2)]) hc dX9_asks_75 (by decide) rfl ?_
        refine V_iload hc dX9_asks_77 0 rfl ?_
        refine V_bipush (v := 63) hc dX9_asks_79 (by decide) ?_
        refine V_icmp_ne (tgt := 94) hc dX9_asks_81 (by decide) ?_ ?_
        · refine V_iconst (v := 0) hc dX9_asks_94 (by decide) ?_
          refine V_istore (lv' := [(7, .int 0), (6, .int (gA t 45 (ix (a2 + 1)))), (5, .int 1), (4, .int 1), (3, .int (gA t 45 (ix a2))), (0, .ref (K.2.2 24)), (1, .int a1), (2, .int a2)]) hc dX9_asks_95 (by decide) rfl ?_
          refine V_iload_n hc dX9_asks_97 rfl 7 rfl ?_
          refine V_iconst (v := 2) hc dX9_asks_98 (by decide) ?_
          refine V_iadd hc dX9_asks_99 ?_
          refine V_istore (lv' := [(8, .int (a2 + 2)), (7, .int 0), (6, .int (gA t 45 (ix (a2 + 1)))), (5, .int 1), (4, .int 1), (3, .int (gA t 45 (ix a2))), (0, .ref (K.2.2 24)), (1, .int a1), (2, .int a2)]) hc dX9_asks_100 (by decide) rfl ?_
          refine V_sub (lv' := [(0, .ref (K.2.2 24)), (1, .int a1), (2, .int a2), (3, .int (gA t 45 (ix a2))), (4, .int 1), (5, .int 1), (6, .int (gA t 45 (ix (a2 + 1)))), (7, .int 0), (8, .int (a2 + 2))]) [6, 7, 8, 5, 4, 3, 2, 1, 0] rfl ?_
          refine L_X9_asks_102_ok hc t (a1) (a2) ((gA t 45 (ix a2))) (1) (1) ((gA t 45 (ix (a2 + 1)))) _ (fun z83 z84 => ?_) FU _ _
          refine V_aload_n hc dX9_asks_148 rfl 0 rfl ?_
          refine V_iload_n hc dX9_asks_149 rfl 1 rfl ?_
          refine V_iload hc dX9_asks_150 4 rfl ?_
          refine V_iconst (v := 0) hc dX9_asks_152 (by decide) ?_
          refine V_callV_RI (Cn := RX9) (T := TX9) (N := 28) hc (c_X9_valueOr l K t (a1) (1) (0)) sP24 rfl 3 gX9_asks_X9_valueOr rfl ⟨rfl, rfl⟩ (by decide) ⟨Nat.le_of_ble_eq_true rfl, Nat.le_of_ble_eq_true rfl⟩ rfl rfl (Nat.le_of_ble_eq_true rfl) dX9_asks_153 (fun r85 => ?_)
          refine V_istore (lv' := [(9, .int r85), (0, .ref (K.2.2 24)), (1, .int a1), (2, .int a2), (3, .int (gA t 45 (ix a2))), (4, .int 1), (5, .int 1), (6, .int (gA t 45 (ix (a2 + 1)))), (7, .int z83), (8, .int z84)]) hc dX9_asks_156 (by decide) rfl ?_
          refine V_aload_n hc dX9_asks_158 rfl 1 rfl ?_
          refine V_iload hc dX9_asks_159 6 rfl ?_
          refine V_if_eq (tgt := 209) hc dX9_asks_161 (by decide) ?_ ?_
          · refine V_iconst (v := 0) hc dX9_asks_209 (by decide) ?_
            refine V_callV_WV (Cn := RX9) (T := TX9) (N := 28) hc (c_X9_tells l K t (0)) sP24 rfl 1 gX9_asks_X9_tells rfl ⟨rfl, rfl⟩ (by decide) ⟨Nat.le_of_ble_eq_true rfl, Nat.le_of_ble_eq_true rfl⟩ rfl rfl (Nat.le_of_ble_eq_true rfl) dX9_asks_210 (fun r86 => ?_)
            refine V_iload hc dX9_asks_213 9 rfl ?_
            exact V_iret hc rfl rfl dX9_asks_215
          · refine V_iload hc dX9_asks_164 7 rfl ?_
            refine V_bipush (v := 60) hc dX9_asks_166 (by decide) ?_
            refine V_icmp_ne (tgt := 181) hc dX9_asks_168 (by decide) ?_ ?_
            · refine V_iload hc dX9_asks_181 7 rfl ?_
              refine V_bipush (v := 61) hc dX9_asks_183 (by decide) ?_
              refine V_icmp_ne (tgt := 198) hc dX9_asks_185 (by decide) ?_ ?_
              · refine V_iload hc dX9_asks_198 0 rfl ?_
                refine V_iload hc dX9_asks_200 8 rfl ?_
                refine V_icmp_le (tgt := 209) hc dX9_asks_202 (by decide) ?_ ?_
                · refine V_iconst (v := 0) hc dX9_asks_209 (by decide) ?_
                  refine V_callV_WV (Cn := RX9) (T := TX9) (N := 28) hc (c_X9_tells l K t (0)) sP24 rfl 1 gX9_asks_X9_tells rfl ⟨rfl, rfl⟩ (by decide) ⟨Nat.le_of_ble_eq_true rfl, Nat.le_of_ble_eq_true rfl⟩ rfl rfl (Nat.le_of_ble_eq_true rfl) dX9_asks_210 (fun r87 => ?_)
                  refine V_iload hc dX9_asks_213 9 rfl ?_
                  exact V_iret hc rfl rfl dX9_asks_215
                · refine V_iconst (v := 1) hc dX9_asks_205 (by decide) ?_
                  refine V_goto (tgt := 210) hc dX9_asks_206 (by decide) ?_
                  refine V_callV_WV (Cn := RX9) (T := TX9) (N := 28) hc (c_X9_tells l K t (1)) sP24 rfl 1 gX9_asks_X9_tells rfl ⟨rfl, rfl⟩ (by decide) ⟨Nat.le_of_ble_eq_true rfl, Nat.le_of_ble_eq_true rfl⟩ rfl rfl (Nat.le_of_ble_eq_true rfl) dX9_asks_210 (fun r88 => ?_)
                  refine V_iload hc dX9_asks_213 9 rfl ?_
                  exact V_iret hc rfl rfl dX9_asks_215
              · refine V_iload hc dX9_asks_188 0 rfl ?_
                refine V_iload hc dX9_asks_190 8 rfl ?_
                refine V_icmp_ne (tgt := 209) hc dX9_asks_192 (by decide) ?_ ?_
                · refine V_iconst (v := 0) hc dX9_asks_209 (by decide) ?_
                  refine V_callV_WV (Cn := RX9) (T := TX9) (N := 28) hc (c_X9_tells l K t (0)) sP24 rfl 1 gX9_asks_X9_tells rfl ⟨rfl, rfl⟩ (by decide) ⟨Nat.le_of_ble_eq_true rfl, Nat.le_of_ble_eq_true rfl⟩ rfl rfl (Nat.le_of_ble_eq_true rfl) dX9_asks_210 (fun r89 => ?_)
                  refine V_iload hc dX9_asks_213 9 rfl ?_
                  exact V_iret hc rfl rfl dX9_asks_215
                · refine V_goto (tgt := 205) hc dX9_asks_195 (by decide) ?_
                  refine V_iconst (v := 1) hc dX9_asks_205 (by decide) ?_
                  refine V_goto (tgt := 210) hc dX9_asks_206 (by decide) ?_
                  refine V_callV_WV (Cn := RX9) (T := TX9) (N := 28) hc (c_X9_tells l K t (1)) sP24 rfl 1 gX9_asks_X9_tells rfl ⟨rfl, rfl⟩ (by decide) ⟨Nat.le_of_ble_eq_true rfl, Nat.le_of_ble_eq_true rfl⟩ rfl rfl (Nat.le_of_ble_eq_true rfl) dX9_asks_210 (fun r90 => ?_)
                  refine V_iload hc dX9_asks_213 9 rfl ?_
                  exact V_iret hc rfl rfl dX9_asks_215
            · refine V_iload hc dX9_asks_171 0 rfl ?_
              refine V_iload hc dX9_asks_173 8 rfl ?_
              refine V_icmp_ge (tgt := 209) hc dX9_asks_175 (by decide) ?_ ?_
              · refine V_iconst (v := 0) hc dX9_asks_209 (by decide) ?_
                refine V_callV_WV (Cn := RX9) (T := TX9) (N := 28) hc (c_X9_tells l K t (0)) sP24 rfl 1 gX9_asks_X9_tells rfl ⟨rfl, rfl⟩ (by decide) ⟨Nat.le_of_ble_eq_true rfl, Nat.le_of_ble_eq_true rfl⟩ rfl rfl (Nat.le_of_ble_eq_true rfl) dX9_asks_210 (fun r91 => ?_)
                refine V_iload hc dX9_asks_213 9 rfl ?_
                exact V_iret hc rfl rfl dX9_asks_215
              · refine V_goto (tgt := 205) hc dX9_asks_178 (by decide) ?_
                refine V_iconst (v := 1) hc dX9_asks_205 (by decide) ?_
                refine V_goto (tgt := 210) hc dX9_asks_206 (by decide) ?_
                refine V_callV_WV (Cn := RX9) (T := TX9) (N := 28) hc (c_X9_tells l K t (1)) sP24 rfl 1 gX9_asks_X9_tells rfl ⟨rfl, rfl⟩ (by decide) ⟨Nat.le_of_ble_eq_true rfl, Nat.le_of_ble_eq_true rfl⟩ rfl rfl (Nat.le_of_ble_eq_true rfl) dX9_asks_210 (fun r92 => ?_)
                refine V_iload hc dX9_asks_213 9 rfl ?_
                exact V_iret hc rfl rfl dX9_asks_215
        · refine V_aload_n hc dX9_asks_84 rfl 4 rfl ?_
          refine V_iload hc dX9_asks_85 1 rfl ?_
          refine V_callV_WV (Cn := RX9) (T := TX9) (N := 28) hc (c_X9_tells l K t (1)) sP24 rfl 1 gX9_asks_X9_tells rfl ⟨rfl, rfl⟩ (by decide) ⟨Nat.le_of_ble_eq_true rfl, Nat.le_of_ble_eq_true rfl⟩ rfl rfl (Nat.le_of_ble_eq_true rfl) dX9_asks_87 (fun r93 => ?_)
          refine V_iload_n hc dX9_asks_90 rfl 6 rfl ?_
          refine V_iconst (v := 2) hc dX9_asks_91 (by decide) ?_
          refine V_iadd hc dX9_asks_92 ?_
          exact V_iret hc rfl rfl dX9_asks_93
  · refine V_iconst (v := 0) hc dX9_asks_13 (by decide) ?_
    refine V_goto (tgt := 48) hc dX9_asks_14 (by decide) ?_
    refine V_istore (lv' := [(4, .int 0), (3, .int (gA t 45 (ix a2))), (0, .ref (K.2.2 24)), (1, .int a1), (2, .int a2)]) hc dX9_asks_48 (by decide) rfl ?_
    refine V_aload_n hc dX9_asks_50 rfl 2 rfl ?_
    refine V_iload_n hc dX9_asks_51 rfl 3 rfl ?_
    refine V_iload hc dX9_asks_52 0 rfl ?_
    refine V_callV_RI (Cn := RX9) (T := TX9) (N := 28) hc (c_X9_source l K t (a1) (0)) sP24 rfl 2 gX9_asks_X9_source rfl ⟨rfl, rfl⟩ (by decide) ⟨Nat.le_of_ble_eq_true rfl, Nat.le_of_ble_eq_true rfl⟩ rfl rfl (Nat.le_of_ble_eq_true rfl) dX9_asks_54 (fun r94 => ?_)
    refine V_if_lt (tgt := 64) hc dX9_asks_57 (by decide) ?_ ?_
    · refine V_iconst (v := 0) hc dX9_asks_64 (by decide) ?_
      refine V_istore (lv' := [(5, .int 0), (4, .int 0), (3, .int (gA t 45 (ix a2))), (0, .ref (K.2.2 24)), (1, .int a1), (2, .int a2)]) hc dX9_asks_65 (by decide) rfl ?_
      refine V_aload_n hc dX9_asks_67 rfl 3 rfl ?_
      refine V_getr (C := RX9) (T := TX9) (N := 28) hc sP24 rfl qX9_asks_RX9 26 rfl (by decide) kX9_asks_82 rfl dX9_asks_68 ?_
      refine V_iload_n hc dX9_asks_71 rfl 5 rfl ?_
      refine V_iconst (v := 1) hc dX9_asks_72 (by decide) ?_
      refine V_iadd hc dX9_asks_73 ?_
      refine V_cald hc sP48 dX9_asks_74 ?_
      refine V_istore (lv' := [(6, .int (gA t 45 (ix (a2 + 1)))), (5, .int 0), (4, .int 0), (3, .int (gA t 45 (ix a2))), (0, .ref (K.2.2 24)), (1, .int a1), (2, .int a2)]) hc dX9_asks_75 (by decide) rfl ?_
      refine V_iload hc dX9_asks_77 0 rfl ?_
      refine V_bipush (v := 63) hc dX9_asks_79 (by decide) ?_
      refine V_icmp_ne (tgt := 94) hc dX9_asks_81 (by decide) ?_ ?_
      · refine V_iconst (v := 0) hc dX9_asks_94 (by decide) ?_
        refine V_istore (lv' := [(7, .int 0), (6, .int (gA t 45 (ix (a2 + 1)))), (5, .int 0), (4, .int 0), (3, .int (gA t 45 (ix a2))), (0, .ref (K.2.2 24)), (1, .int a1), (2, .int a2)]) hc dX9_asks_95 (by decide) rfl ?_
        refine V_iload_n hc dX9_asks_97 rfl 7 rfl ?_
        refine V_iconst (v := 2) hc dX9_asks_98 (by decide) ?_
        refine V_iadd hc dX9_asks_99 ?_
        refine V_istore (lv' := [(8, .int (a2 + 2)), (7, .int 0), (6, .int (gA t 45 (ix (a2 + 1)))), (5, .int 0), (4, .int 0), (3, .int (gA t 45 (ix a2))), (0, .ref (K.2.2 24)), (1, .int a1), (2, .int a2)]) hc dX9_asks_100 (by decide) rfl ?_
        refine V_sub (lv' := [(0, .ref (K.2.2 24)), (1, .int a1), (2, .int a2), (3, .int (gA t 45 (ix a2))), (4, .int 0), (5, .int 0), (6, .int (gA t 45 (ix (a2 + 1)))), (7, .int 0), (8, .int (a2 + 2))]) [6, 7, 8, 5, 4, 3, 2, 1, 0] rfl ?_
        refine L_X9_asks_102_ok hc t (a1) (a2) ((gA t 45 (ix a2))) (0) (0) ((gA t 45 (ix (a2 + 1)))) _ (fun z95 z96 => ?_) FU _ _
        refine V_aload_n hc dX9_asks_148 rfl 0 rfl ?_
        refine V_iload_n hc dX9_asks_149 rfl 1 rfl ?_
        refine V_iload hc dX9_asks_150 4 rfl ?_
        refine V_iconst (v := 0) hc dX9_asks_152 (by decide) ?_
        refine V_callV_RI (Cn := RX9) (T := TX9) (N := 28) hc (c_X9_valueOr l K t (a1) (0) (0)) sP24 rfl 3 gX9_asks_X9_valueOr rfl ⟨rfl, rfl⟩ (by decide) ⟨Nat.le_of_ble_eq_true rfl, Nat.le_of_ble_eq_true rfl⟩ rfl rfl (Nat.le_of_ble_eq_true rfl) dX9_asks_153 (fun r97 => ?_)
        refine V_istore (lv' := [(9, .int r97), (0, .ref (K.2.2 24)), (1, .int a1), (2, .int a2), (3, .int (gA t 45 (ix a2))), (4, .int 0), (5, .int 0), (6, .int (gA t 45 (ix (a2 + 1)))), (7, .int z95), (8, .int z96)]) hc dX9_asks_156 (by decide) rfl ?_
        refine V_aload_n hc dX9_asks_158 rfl 1 rfl ?_
        refine V_iload hc dX9_asks_159 6 rfl ?_
        refine V_if_eq (tgt := 209) hc dX9_asks_161 (by decide) ?_ ?_
        · refine V_iconst (v := 0) hc dX9_asks_209 (by decide) ?_
          refine V_callV_WV (Cn := RX9) (T := TX9) (N := 28) hc (c_X9_tells l K t (0)) sP24 rfl 1 gX9_asks_X9_tells rfl ⟨rfl, rfl⟩ (by decide) ⟨Nat.le_of_ble_eq_true rfl, Nat.le_of_ble_eq_true rfl⟩ rfl rfl (Nat.le_of_ble_eq_true rfl) dX9_asks_210 (fun r98 => ?_)
          refine V_iload hc dX9_asks_213 9 rfl ?_
          exact V_iret hc rfl rfl dX9_asks_215
        · refine V_iload hc dX9_asks_164 7 rfl ?_
          refine V_bipush (v := 60) hc dX9_asks_166 (by decide) ?_
          refine V_icmp_ne (tgt := 181) hc dX9_asks_168 (by decide) ?_ ?_
          · refine V_iload hc dX9_asks_181 7 rfl ?_
            refine V_bipush (v := 61) hc dX9_asks_183 (by decide) ?_
            refine V_icmp_ne (tgt := 198) hc dX9_asks_185 (by decide) ?_ ?_
            · refine V_iload hc dX9_asks_198 0 rfl ?_
              refine V_iload hc dX9_asks_200 8 rfl ?_
              refine V_icmp_le (tgt := 209) hc dX9_asks_202 (by decide) ?_ ?_
              · refine V_iconst (v := 0) hc dX9_asks_209 (by decide) ?_
                refine V_callV_WV (Cn := RX9) (T := TX9) (N := 28) hc (c_X9_tells l K t (0)) sP24 rfl 1 gX9_asks_X9_tells rfl ⟨rfl, rfl⟩ (by decide) ⟨Nat.le_of_ble_eq_true rfl, Nat.le_of_ble_eq_true rfl⟩ rfl rfl (Nat.le_of_ble_eq_true rfl) dX9_asks_210 (fun r99 => ?_)
                refine V_iload hc dX9_asks_213 9 rfl ?_
                exact V_iret hc rfl rfl dX9_asks_215
              · refine V_iconst (v := 1) hc dX9_asks_205 (by decide) ?_
                refine V_goto (tgt := 210) hc dX9_asks_206 (by decide) ?_
                refine V_callV_WV (Cn := RX9) (T := TX9) (N := 28) hc (c_X9_tells l K t (1)) sP24 rfl 1 gX9_asks_X9_tells rfl ⟨rfl, rfl⟩ (by decide) ⟨Nat.le_of_ble_eq_true rfl, Nat.le_of_ble_eq_true rfl⟩ rfl rfl (Nat.le_of_ble_eq_true rfl) dX9_asks_210 (fun r100 => ?_)
                refine V_iload hc dX9_asks_213 9 rfl ?_
                exact V_iret hc rfl rfl dX9_asks_215
            · refine V_iload hc dX9_asks_188 0 rfl ?_
              refine V_iload hc dX9_asks_190 8 rfl ?_
              refine V_icmp_ne (tgt := 209) hc dX9_asks_192 (by decide) ?_ ?_
              · refine V_iconst (v := 0) hc dX9_asks_209 (by decide) ?_
                refine V_callV_WV (Cn := RX9) (T := TX9) (N := 28) hc (c_X9_tells l K t (0)) sP24 rfl 1 gX9_asks_X9_tells rfl ⟨rfl, rfl⟩ (by decide) ⟨Nat.le_of_ble_eq_true rfl, Nat.le_of_ble_eq_true rfl⟩ rfl rfl (Nat.le_of_ble_eq_true rfl) dX9_asks_210 (fun r101 => ?_)
                refine V_iload hc dX9_asks_213 9 rfl ?_
                exact V_iret hc rfl rfl dX9_asks_215
              · refine V_goto (tgt := 205) hc dX9_asks_195 (by decide) ?_
                refine V_iconst (v := 1) hc dX9_asks_205 (by decide) ?_
                refine V_goto (tgt := 210) hc dX9_asks_206 (by decide) ?_
                refine V_callV_WV (Cn := RX9) (T := TX9) (N := 28) hc (c_X9_tells l K t (1)) sP24 rfl 1 gX9_asks_X9_tells rfl ⟨rfl, rfl⟩ (by decide) ⟨Nat.le_of_ble_eq_true rfl, Nat.le_of_ble_eq_true rfl⟩ rfl rfl (Nat.le_of_ble_eq_true rfl) dX9_asks_210 (fun r102 => ?_)
                refine V_iload hc dX9_asks_213 9 rfl ?_
                exact V_iret hc rfl rfl dX9_asks_215
          · refine V_iload hc dX9_asks_171 0 rfl ?_
            refine V_iload hc dX9_asks_173 8 rfl ?_
            refine V_icmp_ge (tgt := 209) hc dX9_asks_175 (by decide) ?_ ?_
            · refine V_iconst (v := 0) hc dX9_asks_209 (by decide) ?_
              refine V_callV_WV (Cn := RX9) (T := TX9) (N := 28) hc (c_X9_tells l K t (0)) sP24 rfl 1 gX9_asks_X9_tells rfl ⟨rfl, rfl⟩ (by decide) ⟨Nat.le_of_ble_eq_true rfl, Nat.le_of_ble_eq_true rfl⟩ rfl rfl (Nat.le_of_ble_eq_true rfl) dX9_asks_210 (fun r103 => ?_)
              refine V_iload hc dX9_asks_213 9 rfl ?_
              exact V_iret hc rfl rfl dX9_asks_215
            · refine V_goto (tgt := 205) hc dX9_asks_178 (by decide) ?_
              refine V_iconst (v := 1) hc dX9_asks_205 (by decide) ?_
              refine V_goto (tgt := 210) hc dX9_asks_206 (by decide) ?_
              refine V_callV_WV (Cn := RX9) (T := TX9) (N := 28) hc (c_X9_tells l K t (1)) sP24 rfl 1 gX9_asks_X9_tells rfl ⟨rfl, rfl⟩ (by decide) ⟨Nat.le_of_ble_eq_true rfl, Nat.le_of_ble_eq_true rfl⟩ rfl rfl (Nat.le_of_ble_eq_true rfl) dX9_asks_210 (fun r104 => ?_)
              refine V_iload hc dX9_asks_213 9 rfl ?_
              exact V_iret hc rfl rfl dX9_asks_215
      · refine V_aload_n hc dX9_asks_84 rfl 4 rfl ?_
        refine V_iload hc dX9_asks_85 1 rfl ?_
        refine V_callV_WV (Cn := RX9) (T := TX9) (N := 28) hc (c_X9_tells l K t (0)) sP24 rfl 1 gX9_asks_X9_tells rfl ⟨rfl, rfl⟩ (by decide) ⟨Nat.le_of_ble_eq_true rfl, Nat.le_of_ble_eq_true rfl⟩ rfl rfl (Nat.le_of_ble_eq_true rfl) dX9_asks_87 (fun r105 => ?_)
        refine V_iload_n hc dX9_asks_90 rfl 6 rfl ?_
        refine V_iconst (v := 2) hc dX9_asks_91 (by decide) ?_
        refine V_iadd hc dX9_asks_92 ?_
        exact V_iret hc rfl rfl dX9_asks_93
    · refine V_iconst (v := 1) hc dX9_asks_60 (by decide) ?_
      refine V_goto (tgt := 65) hc dX9_asks_61 (by decide) ?_
      refine V_istore (lv' := [(5, .int 1), (4, .int 0), (3, .int (gA t 45 (ix a2))), (0, .ref (K.2.2 24)), (1, .int a1), (2, .int a2)]) hc dX9_asks_65 (by decide) rfl ?_
      refine V_aload_n hc dX9_asks_67 rfl 3 rfl ?_
      refine V_getr (C := RX9) (T := TX9) (N := 28) hc sP24 rfl qX9_asks_RX9 26 rfl (by decide) kX9_asks_82 rfl dX9_asks_68 ?_
      refine V_iload_n hc dX9_asks_71 rfl 5 rfl ?_
      refine V_iconst (v := 1) hc dX9_asks_72 (by decide) ?_
      refine V_iadd hc dX9_asks_73 ?_
      refine V_cald hc sP48 dX9_asks_74 ?_
      refine V_istore (lv' := [(6, .int (gA t 45 (ix (a2 + 1)))), (5, .int 1), (4, .int 0), (3, .int (gA t 45 (ix a2))), (0, .ref (K.2.2 24)), (1, .int a1), (2, .int a2)]) hc dX9_asks_75 (by decide) rfl ?_
      refine V_iload hc dX9_asks_77 0 rfl ?_
      refine V_bipush (v := 63) hc dX9_asks_79 (by decide) ?_
      refine V_icmp_ne (tgt := 94) hc dX9_asks_81 (by decide) ?_ ?_
      · refine V_iconst (v := 0) hc dX9_asks_94 (by decide) ?_
        refine V_istore (lv' := [(7, .int 0), (6, .int (gA t 45 (ix (a2 + 1)))), (5, .int 1), (4, .int 0), (3, .int (gA t 45 (ix a2))), (0, .ref (K.2.2 24)), (1, .int a1), (2, .int a2)]) hc dX9_asks_95 (by decide) rfl ?_
        refine V_iload_n hc dX9_asks_97 rfl 7 rfl ?_
        refine V_iconst (v := 2) hc dX9_asks_98 (by decide) ?_
        refine V_iadd hc dX9_asks_99 ?_
        refine V_istore (lv' := [(8, .int (a2 + 2)), (7, .int 0), (6, .int (gA t 45 (ix (a2 + 1)))), (5, .int 1), (4, .int 0), (3, .int (gA t 45 (ix a2))), (0, .ref (K.2.2 24)), (1, .int a1), (2, .int a2)]) hc dX9_asks_100 (by decide) rfl ?_
        refine V_sub (lv' := [(0, .ref (K.2.2 24)), (1, .int a1), (2, .int a2), (3, .int (gA t 45 (ix a2))), (4, .int 0), (5, .int 1), (6, .int (gA t 45 (ix (a2 + 1)))), (7, .int 0), (8, .int (a2 + 2))]) [6, 7, 8, 5, 4, 3, 2, 1, 0] rfl ?_
        refine L_X9_asks_102_ok hc t (a1) (a2) ((gA t 45 (ix a2))) (0) (1) ((gA t 45 (ix (a2 + 1)))) _ (fun z106 z107 => ?_) FU _ _
        refine V_aload_n hc dX9_asks_148 rfl 0 rfl ?_
        refine V_iload_n hc dX9_asks_149 rfl 1 rfl ?_
        refine V_iload hc dX9_asks_150 4 rfl ?_
        refine V_iconst (v := 0) hc dX9_asks_152 (by decide) ?_
        refine V_callV_RI (Cn := RX9) (T := TX9) (N := 28) hc (c_X9_valueOr l K t (a1) (0) (0)) sP24 rfl 3 gX9_asks_X9_valueOr rfl ⟨rfl, rfl⟩ (by decide) ⟨Nat.le_of_ble_eq_true rfl, Nat.le_of_ble_eq_true rfl⟩ rfl rfl (Nat.le_of_ble_eq_true rfl) dX9_asks_153 (fun r108 => ?_)
        refine V_istore (lv' := [(9, .int r108), (0, .ref (K.2.2 24)), (1, .int a1), (2, .int a2), (3, .int (gA t 45 (ix a2))), (4, .int 0), (5, .int 1), (6, .int (gA t 45 (ix (a2 + 1)))), (7, .int z106), (8, .int z107)]) hc dX9_asks_156 (by decide) rfl ?_
        refine V_aload_n hc dX9_asks_158 rfl 1 rfl ?_
        refine V_iload hc dX9_asks_159 6 rfl ?_
        refine V_if_eq (tgt := 209) hc dX9_asks_161 (by decide) ?_ ?_
        · refine V_iconst (v := 0) hc dX9_asks_209 (by decide) ?_
          refine V_callV_WV (Cn := RX9) (T := TX9) (N := 28) hc (c_X9_tells l K t (0)) sP24 rfl 1 gX9_asks_X9_tells rfl ⟨rfl, rfl⟩ (by decide) ⟨Nat.le_of_ble_eq_true rfl, Nat.le_of_ble_eq_true rfl⟩ rfl rfl (Nat.le_of_ble_eq_true rfl) dX9_asks_210 (fun r109 => ?_)
          refine V_iload hc dX9_asks_213 9 rfl ?_
          exact V_iret hc rfl rfl dX9_asks_215
        · refine V_iload hc dX9_asks_164 7 rfl ?_
          refine V_bipush (v := 60) hc dX9_asks_166 (by decide) ?_
          refine V_icmp_ne (tgt := 181) hc dX9_asks_168 (by decide) ?_ ?_
          · refine V_iload hc dX9_asks_181 7 rfl ?_
            refine V_bipush (v := 61) hc dX9_asks_183 (by decide) ?_
            refine V_icmp_ne (tgt := 198) hc dX9_asks_185 (by decide) ?_ ?_
            · refine V_iload hc dX9_asks_198 0 rfl ?_
              refine V_iload hc dX9_asks_200 8 rfl ?_
              refine V_icmp_le (tgt := 209) hc dX9_asks_202 (by decide) ?_ ?_
              · refine V_iconst (v := 0) hc dX9_asks_209 (by decide) ?_
                refine V_callV_WV (Cn := RX9) (T := TX9) (N := 28) hc (c_X9_tells l K t (0)) sP24 rfl 1 gX9_asks_X9_tells rfl ⟨rfl, rfl⟩ (by decide) ⟨Nat.le_of_ble_eq_true rfl, Nat.le_of_ble_eq_true rfl⟩ rfl rfl (Nat.le_of_ble_eq_true rfl) dX9_asks_210 (fun r110 => ?_)
                refine V_iload hc dX9_asks_213 9 rfl ?_
                exact V_iret hc rfl rfl dX9_asks_215
              · refine V_iconst (v := 1) hc dX9_asks_205 (by decide) ?_
                refine V_goto (tgt := 210) hc dX9_asks_206 (by decide) ?_
                refine V_callV_WV (Cn := RX9) (T := TX9) (N := 28) hc (c_X9_tells l K t (1)) sP24 rfl 1 gX9_asks_X9_tells rfl ⟨rfl, rfl⟩ (by decide) ⟨Nat.le_of_ble_eq_true rfl, Nat.le_of_ble_eq_true rfl⟩ rfl rfl (Nat.le_of_ble_eq_true rfl) dX9_asks_210 (fun r111 => ?_)
                refine V_iload hc dX9_asks_213 9 rfl ?_
                exact V_iret hc rfl rfl dX9_asks_215
            · refine V_iload hc dX9_asks_188 0 rfl ?_
              refine V_iload hc dX9_asks_190 8 rfl ?_
              refine V_icmp_ne (tgt := 209) hc dX9_asks_192 (by decide) ?_ ?_
              · refine V_iconst (v := 0) hc dX9_asks_209 (by decide) ?_
                refine V_callV_WV (Cn := RX9) (T := TX9) (N := 28) hc (c_X9_tells l K t (0)) sP24 rfl 1 gX9_asks_X9_tells rfl ⟨rfl, rfl⟩ (by decide) ⟨Nat.le_of_ble_eq_true rfl, Nat.le_of_ble_eq_true rfl⟩ rfl rfl (Nat.le_of_ble_eq_true rfl) dX9_asks_210 (fun r112 => ?_)
                refine V_iload hc dX9_asks_213 9 rfl ?_
                exact V_iret hc rfl rfl dX9_asks_215
              · refine V_goto (tgt := 205) hc dX9_asks_195 (by decide) ?_
                refine V_iconst (v := 1) hc dX9_asks_205 (by decide) ?_
                refine V_goto (tgt := 210) hc dX9_asks_206 (by decide) ?_
                refine V_callV_WV (Cn := RX9) (T := TX9) (N := 28) hc (c_X9_tells l K t (1)) sP24 rfl 1 gX9_asks_X9_tells rfl ⟨rfl, rfl⟩ (by decide) ⟨Nat.le_of_ble_eq_true rfl, Nat.le_of_ble_eq_true rfl⟩ rfl rfl (Nat.le_of_ble_eq_true rfl) dX9_asks_210 (fun r113 => ?_)
                refine V_iload hc dX9_asks_213 9 rfl ?_
                exact V_iret hc rfl rfl dX9_asks_215
          · refine V_iload hc dX9_asks_171 0 rfl ?_
            refine V_iload hc dX9_asks_173 8 rfl ?_
            refine V_icmp_ge (tgt := 209) hc dX9_asks_175 (by decide) ?_ ?_
            · refine V_iconst (v := 0) hc dX9_asks_209 (by decide) ?_
              refine V_callV_WV (Cn := RX9) (T := TX9) (N := 28) hc (c_X9_tells l K t (0)) sP24 rfl 1 gX9_asks_X9_tells rfl ⟨rfl, rfl⟩ (by decide) ⟨Nat.le_of_ble_eq_true rfl, Nat.le_of_ble_eq_true rfl⟩ rfl rfl (Nat.le_of_ble_eq_true rfl) dX9_asks_210 (fun r114 => ?_)
              refine V_iload hc dX9_asks_213 9 rfl ?_
              exact V_iret hc rfl rfl dX9_asks_215
            · refine V_goto (tgt := 205) hc dX9_asks_178 (by decide) ?_
              refine V_iconst (v := 1) hc dX9_asks_205 (by decide) ?_
              refine V_goto (tgt := 210) hc dX9_asks_206 (by decide) ?_
              refine V_callV_WV (Cn := RX9) (T := TX9) (N := 28) hc (c_X9_tells l K t (1)) sP24 rfl 1 gX9_asks_X9_tells rfl ⟨rfl, rfl⟩ (by decide) ⟨Nat.le_of_ble_eq_true rfl, Nat.le_of_ble_eq_true rfl⟩ rfl rfl (Nat.le_of_ble_eq_true rfl) dX9_asks_210 (fun r115 => ?_)
              refine V_iload hc dX9_asks_213 9 rfl ?_
              exact V_iret hc rfl rfl dX9_asks_215
      · refine V_aload_n hc dX9_asks_84 rfl 4 rfl ?_
        refine V_iload hc dX9_asks_85 1 rfl ?_
        refine V_callV_WV (Cn := RX9) (T := TX9) (N := 28) hc (c_X9_tells l K t (1)) sP24 rfl 1 gX9_asks_X9_tells rfl ⟨rfl, rfl⟩ (by decide) ⟨Nat.le_of_ble_eq_true rfl, Nat.le_of_ble_eq_true rfl⟩ rfl rfl (Nat.le_of_ble_eq_true rfl) dX9_asks_87 (fun r116 => ?_)
        refine V_iload_n hc dX9_asks_90 rfl 6 rfl ?_
        refine V_iconst (v := 2) hc dX9_asks_91 (by decide) ?_
        refine V_iadd hc dX9_asks_92 ?_
        exact V_iret hc rfl rfl dX9_asks_93

theorem kX9_isSo_29 : Cond.fieldLink RX9 29 RX9 (TX9 6).2.1 (TX9 6).2.2.1 ∈ wsX9_isSo := by decide +kernel
theorem qX9_isSo_RX9 : ∀ w ∈ u_ws RX9 TX9 28, w ∈ wsX9_isSo := by
  first
  | exact fun _ h => List.mem_cons_of_mem _ (List.mem_append_right _ h)
  | exact fun _ h => List.mem_cons_of_mem _ (List.mem_append_left _ (List.mem_append_right _ h))
  | exact fun _ h => List.mem_cons_of_mem _ (List.mem_append_left _ (List.mem_append_left _ (List.mem_append_right _ h)))
  | exact fun _ h => List.mem_cons_of_mem _ (List.mem_append_left _ (List.mem_append_left _ (List.mem_append_left _ (List.mem_append_right _ h))))
  | exact fun _ h => List.mem_cons_of_mem _ (List.mem_append_left _ (List.mem_append_left _ (List.mem_append_left _ (List.mem_append_left _ (List.mem_append_right _ h)))))
  | decide +kernel
noncomputable def f_X9_isSo (t : Sx) (a1 : Int32) (a2 : Int32) : Option Int32 := if a2 = 115 then gd (vp_in a1 40) (if (gA t 29 (ix a1)) < 0 then some 0 else some 1) else if a2 = 116 then (f_X9_keeper t (a1)).bind fun r3 => if r3 = a1 then some 1 else some 0 else if a2 = 117 then (f_X9_group t (a1)).bind fun r5 => if r5 ≤ 1 then some 0 else some 1 else if a2 = 118 then gd (vp_in a1 40) (if (gA t 29 (ix a1)) < 0 then some 0 else gd (vp_in a1 40) ((f_X9_cover t (gA t 29 (ix a1))).bind fun r7 => if r7 = a1 then some 1 else some 0)) else (f_X9_keeper t (a1)).bind fun r8 => if r8 = a1 then some 1 else some 0
set_option maxRecDepth 20000 in
set_option maxHeartbeats 4000000 in
theorem c_X9_isSo (l : Launch) (K : Kx) (t : Sx) (a1 : Int32) (a2 : Int32) : CT l K yX9_isSo wsX9_isSo ({ frames := 4, cells := 0, slots := 0, locals := 94 } : Room) [.ref (K.2.2 24), .int a1, .int a2] t (f_X9_isSo t a1 a2) (kRI t) := by
  refine CT_of (cc := cX9_isSo) (maxL := 3) (ret := (some .boolean)) (own := RX9) (by decide +kernel) rfl rfl (Nat.le_of_ble_eq_true rfl) ?_
  intro p e s m args below meth c hc
  refine V_sub (lv' := [(0, .ref (K.2.2 24)), (1, .int a1), (2, .int a2)]) [0, 1, 2] rfl ?_
  unfold f_X9_isSo
  refine V_iload_n hc dX9_isSo_0 rfl 2 rfl ?_
  refine V_ite (fun h1 => ?_) (fun h1 => ?_)
  · refine V_tsIn (tgt := 32) hc dX9_isSo_1 (by rw [h1] <;> decide) (by rw [h1] <;> decide) (by rw [h1] <;> rfl) (by decide) ?_
    refine V_aload_n hc dX9_isSo_32 rfl 0 rfl ?_
    refine V_getr (C := RX9) (T := TX9) (N := 28) hc sP24 rfl qX9_isSo_RX9 6 rfl (by decide) kX9_isSo_29 rfl dX9_isSo_33 ?_
    refine V_iload_n hc dX9_isSo_36 rfl 1 rfl ?_
    refine V_iald hc sP31 dX9_isSo_37 ?_
    refine V_if_lt (tgt := 45) hc dX9_isSo_38 (by decide) ?_ ?_
    · refine V_iconst (v := 0) hc dX9_isSo_45 (by decide) ?_
      exact V_nret hc rfl rfl rfl dX9_isSo_46
    · refine V_iconst (v := 1) hc dX9_isSo_41 (by decide) ?_
      refine V_goto (tgt := 46) hc dX9_isSo_42 (by decide) ?_
      exact V_nret hc rfl rfl rfl dX9_isSo_46
  · refine V_ite (fun h2 => ?_) (fun h2 => ?_)
    · refine V_tsIn (tgt := 91) hc dX9_isSo_1 (by rw [h2] <;> decide) (by rw [h2] <;> decide) (by rw [h2] <;> rfl) (by decide) ?_
      refine V_aload_n hc dX9_isSo_91 rfl 0 rfl ?_
      refine V_iload_n hc dX9_isSo_92 rfl 1 rfl ?_
      refine V_callV_RI (Cn := RX9) (T := TX9) (N := 28) hc (c_X9_keeper l K t (a1)) sP24 rfl 1 gX9_isSo_X9_keeper rfl ⟨rfl, rfl⟩ (by decide) ⟨Nat.le_of_ble_eq_true rfl, Nat.le_of_ble_eq_true rfl⟩ rfl rfl (Nat.le_of_ble_eq_true rfl) dX9_isSo_93 (fun r3 => ?_)
      refine V_iload_n hc dX9_isSo_96 rfl 1 rfl ?_
      refine V_icmp_ne (tgt := 104) hc dX9_isSo_97 (by decide) ?_ ?_
      · refine V_iconst (v := 0) hc dX9_isSo_104 (by decide) ?_
        exact V_nret hc rfl rfl rfl dX9_isSo_105
      · refine V_iconst (v := 1) hc dX9_isSo_100 (by decide) ?_
        refine V_goto (tgt := 105) hc dX9_isSo_101 (by decide) ?_
        exact V_nret hc rfl rfl rfl dX9_isSo_105
    · refine V_ite (fun h4 => ?_) (fun h4 => ?_)
      · refine V_tsIn (tgt := 76) hc dX9_isSo_1 (by rw [h4] <;> decide) (by rw [h4] <;> decide) (by rw [h4] <;> rfl) (by decide) ?_
        refine V_aload_n hc dX9_isSo_76 rfl 0 rfl ?_
        refine V_iload_n hc dX9_isSo_77 rfl 1 rfl ?_
        refine V_callV_RI (Cn := RX9) (T := TX9) (N := 28) hc (c_X9_group l K t (a1)) sP24 rfl 1 gX9_isSo_X9_group rfl ⟨rfl, rfl⟩ (by decide) ⟨Nat.le_of_ble_eq_true rfl, Nat.le_of_ble_eq_true rfl⟩ rfl rfl (Nat.le_of_ble_eq_true rfl) dX9_isSo_78 (fun r5 => ?_)
        refine V_iconst (v := 1) hc dX9_isSo_81 (by decide) ?_
        refine V_icmp_le (tgt := 89) hc dX9_isSo_82 (by decide) ?_ ?_
        · refine V_iconst (v := 0) hc dX9_isSo_89 (by decide) ?_
          exact V_nret hc rfl rfl rfl dX9_isSo_90
        · refine V_iconst (v := 1) hc dX9_isSo_85 (by decide) ?_
          refine V_goto (tgt := 90) hc dX9_isSo_86 (by decide) ?_
          exact V_nret hc rfl rfl rfl dX9_isSo_90
      · refine V_ite (fun h6 => ?_) (fun h6 => ?_)
        · refine V_tsIn (tgt := 47) hc dX9_isSo_1 (by rw [h6] <;> decide) (by rw [h6] <;> decide) (by rw [h6] <;> rfl) (by decide) ?_
          refine V_aload_n hc dX9_isSo_47 rfl 0 rfl ?_
          refine V_getr (C := RX9) (T := TX9) (N := 28) hc sP24 rfl qX9_isSo_RX9 6 rfl (by decide) kX9_isSo_29 rfl dX9_isSo_48 ?_
          refine V_iload_n hc dX9_isSo_51 rfl 1 rfl ?_
          refine V_iald hc sP31 dX9_isSo_52 ?_
          refine V_if_lt (tgt := 74) hc dX9_isSo_53 (by decide) ?_ ?_
          · refine V_iconst (v := 0) hc dX9_isSo_74 (by decide) ?_
            exact V_nret hc rfl rfl rfl dX9_isSo_75
          · refine V_aload_n hc dX9_isSo_56 rfl 0 rfl ?_
            refine V_aload_n hc dX9_isSo_57 rfl 0 rfl ?_
            refine V_getr (C := RX9) (T := TX9) (N := 28) hc sP24 rfl qX9_isSo_RX9 6 rfl (by decide) kX9_isSo_29 rfl dX9_isSo_58 ?_
            refine V_iload_n hc dX9_isSo_61 rfl 1 rfl ?_
            refine V_iald hc sP31 dX9_isSo_62 ?_
            refine V_callV_RI (Cn := RX9) (T := TX9) (N := 28) hc (c_X9_cover l K t (gA t 29 (ix a1))) sP24 rfl 1 gX9_isSo_X9_cover rfl ⟨rfl, rfl⟩ (by decide) ⟨Nat.le_of_ble_eq_true rfl, Nat.le_of_ble_eq_true rfl⟩ rfl rfl (Nat.le_of_ble_eq_true rfl) dX9_isSo_63 (fun r7 => ?_)
            refine V_iload_n hc dX9_isSo_66 rfl 1 rfl ?_
            refine V_icmp_ne (tgt := 74) hc dX9_isSo_67 (by decide) ?_ ?_
            · refine V_iconst (v := 0) hc dX9_isSo_74 (by decide) ?_
              exact V_nret hc rfl rfl rfl dX9_isSo_75
            · refine V_iconst (v := 1) hc dX9_isSo_70 (by decide) ?_
              refine V_goto (tgt := 75) hc dX9_isSo_71 (by decide) ?_
              exact V_nret hc rfl rfl rfl dX9_isSo_75
        · refine V_tsOut (tgt := 91) hc dX9_isSo_1 (ts_out (lo := 115) (n := 4) (fun i hi => match i, hi with | 0, _ => h1 | 1, _ => h2 | 2, _ => h4 | 3, _ => h6 | _ + 4, hi => absurd hi (by omega))) (by decide) ?_
          refine V_aload_n hc dX9_isSo_91 rfl 0 rfl ?_
          refine V_iload_n hc dX9_isSo_92 rfl 1 rfl ?_
          refine V_callV_RI (Cn := RX9) (T := TX9) (N := 28) hc (c_X9_keeper l K t (a1)) sP24 rfl 1 gX9_isSo_X9_keeper rfl ⟨rfl, rfl⟩ (by decide) ⟨Nat.le_of_ble_eq_true rfl, Nat.le_of_ble_eq_true rfl⟩ rfl rfl (Nat.le_of_ble_eq_true rfl) dX9_isSo_93 (fun r8 => ?_)
          refine V_iload_n hc dX9_isSo_96 rfl 1 rfl ?_
          refine V_icmp_ne (tgt := 104) hc dX9_isSo_97 (by decide) ?_ ?_
          · refine V_iconst (v := 0) hc dX9_isSo_104 (by decide) ?_
            exact V_nret hc rfl rfl rfl dX9_isSo_105
          · refine V_iconst (v := 1) hc dX9_isSo_100 (by decide) ?_
            refine V_goto (tgt := 105) hc dX9_isSo_101 (by decide) ?_
            exact V_nret hc rfl rfl rfl dX9_isSo_105

theorem kX9_works_82 : Cond.fieldLink RX9 82 RX9 (TX9 26).2.1 (TX9 26).2.2.1 ∈ wsX9_works := by decide +kernel
theorem qX9_works_RX9 : ∀ w ∈ u_ws RX9 TX9 28, w ∈ wsX9_works := by
  first
  | exact fun _ h => List.mem_cons_of_mem _ (List.mem_append_right _ h)
  | exact fun _ h => List.mem_cons_of_mem _ (List.mem_append_left _ (List.mem_append_right _ h))
  | exact fun _ h => List.mem_cons_of_mem _ (List.mem_append_left _ (List.mem_append_left _ (List.mem_append_right _ h)))
  | exact fun _ h => List.mem_cons_of_mem _ (List.mem_append_left _ (List.mem_append_left _ (List.mem_append_left _ (List.mem_append_right _ h))))
  | exact fun _ h => List.mem_cons_of_mem _ (List.mem_append_left _ (List.mem_append_left _ (List.mem_append_left _ (List.mem_append_left _ (List.mem_append_right _ h)))))
  | decide +kernel
theorem kX9_works_79 : Cond.fieldLink RX9 79 RX9 (TX9 24).2.1 (TX9 24).2.2.1 ∈ wsX9_works := by decide +kernel
theorem kX9_works_120 : Cond.fieldLink RX9 120 RX9 (TX9 25).2.1 (TX9 25).2.2.1 ∈ wsX9_works := by decide +kernel
theorem kX9_works_73 : Cond.fieldLink RX9 73 RX9 (TX9 22).2.1 (TX9 22).2.2.1 ∈ wsX9_works := by decide +kernel
theorem kX9_works_76 : Cond.fieldLink RX9 76 RX9 (TX9 23).2.1 (TX9 23).2.2.1 ∈ wsX9_works := by decide +kernel
theorem kX9_works_57 : Cond.fieldLink RX9 57 RX9 (TX9 16).2.1 (TX9 16).2.2.1 ∈ wsX9_works := by decide +kernel
noncomputable def f_X9_works (t : Sx) (a1 : Int32) (a2 : Int32) : Option (Int32 × Sx) := gd (vp_in a2 80) ((f_X9_isField t (gA t 45 (ix a2))).bind fun r1 => if r1 = 0 then bd (gA t 45 (ix a2)) fun v2 => if v2 = 33 then gd (vp_in (gI t 54) 12) (if (gA t 44 (ix (gI t 54))) = 0 then gd (vp_in (gI t 54) 12) (bd (pA t 44 (ix (gI t 54)) 1) fun t5 => some ((a2 + 1), t5)) else gd (vp_in (gI t 54) 12) (bd (pA t 44 (ix (gI t 54)) 0) fun t4 => some ((a2 + 1), t4))) else if v2 = 38 then some ((a2 + 1), t) else if v2 = 40 then bd (pI t 54 ((gI t 54) + 1)) fun t8 => (f_X9_enters t8 ).bind fun r9 => some ((a2 + 1), r9) else if v2 = 41 then bd (pI t 54 ((gI t 54) - 1)) fun t11 => gd (vp_in ((gI t11 54) + 1) 12) (if (gA t11 42 (ix ((gI t11 54) + 1))) = 0 then gd (vp_in ((gI t11 54) + 1) 12) (if (gA t11 43 (ix ((gI t11 54) + 1))) = 0 then (f_X9_tells t11 (0)).bind fun r13 => some ((a2 + 1), r13) else (f_X9_tells t11 (1)).bind fun r14 => some ((a2 + 1), r14)) else (f_X9_tells t11 (1)).bind fun r12 => some ((a2 + 1), r12)) else if v2 = 97 then gd (vp_in (a2 + 1) 80) (gd (vp_in ((gA t 45 (ix (a2 + 1))) - 48) 8) (bd ((shrL (gM t 2 (ix ((gA t 45 (ix (a2 + 1))) - 48))) a1)) fun v16 => if (lg_cmp (v16 &&& 1) 1) = 0 then (f_X9_tells t (1)).bind fun r18 => some ((a2 + 2), r18) else (f_X9_tells t (0)).bind fun r17 => some ((a2 + 2), r17))) else if v2 = 116 then (f_X9_tags t (a1)).bind fun r20 => gd (vp_in (a2 + 1) 80) (bd ((r20 >>> (((gA t 45 (ix (a2 + 1))) - 48) &&& 31))) fun v21 => if (v21 &&& 1) = 1 then (f_X9_tells t (1)).bind fun r23 => some ((a2 + 2), r23) else (f_X9_tells t (0)).bind fun r22 => some ((a2 + 2), r22)) else if v2 = 124 then gd (vp_in (gI t 54) 12) (if (gA t 42 (ix (gI t 54))) = 0 then gd (vp_in (gI t 54) 12) (if (gA t 43 (ix (gI t 54))) = 0 then gd (vp_in (gI t 54) 12) (bd (pA t 42 (ix (gI t 54)) 0) fun t27 => gd (vp_in (gI t27 54) 12) (bd (pA t27 43 (ix (gI t27 54)) 1) fun t28 => some ((a2 + 1), t28))) else gd (vp_in (gI t 54) 12) (bd (pA t 42 (ix (gI t 54)) 1) fun t29 => gd (vp_in (gI t29 54) 12) (bd (pA t29 43 (ix (gI t29 54)) 1) fun t30 => some ((a2 + 1), t30)))) else gd (vp_in (gI t 54) 12) (bd (pA t 42 (ix (gI t 54)) 1) fun t25 => gd (vp_in (gI t25 54) 12) (bd (pA t25 43 (ix (gI t25 54)) 1) fun t26 => some ((a2 + 1), t26)))) else (f_X9_isSo t (a1) (gA t 45 (ix a2))).bind fun r31 => (f_X9_tells t (r31)).bind fun r32 => some ((a2 + 1), r32) else (f_X9_asks t (a1) (a2)).bind fun r33 => some (r33.1, r33.2))
set_option maxRecDepth 20000 in
set_option maxHeartbeats 4000000 in
theorem c_X9_works (l : Launch) (K : Kx) (t : Sx) (a1 : Int32) (a2 : Int32) : CT l K yX9_works wsX9_works ({ frames := 5, cells := 0, slots := 0, locals := 116 } : Room) [.ref (K.2.2 24), .int a1, .int a2] t (f_X9_works t a1 a2) kWI := by
  refine CT_of (cc := cX9_works) (maxL := 4) (ret := (some .int)) (own := RX9) (by decide +kernel) rfl rfl (Nat.le_of_ble_eq_true rfl) ?_
  intro p e s m args below meth c hc
  refine V_sub (lv' := [(0, .ref (K.2.2 24)), (1, .int a1), (2, .int a2)]) [0, 1, 2] rfl ?_
  unfold f_X9_works
  refine V_aload_n hc dX9_works_0 rfl 0 rfl ?_
  refine V_getr (C := RX9) (T := TX9) (N := 28) hc sP24 rfl qX9_works_RX9 26 rfl (by decide) kX9_works_82 rfl dX9_works_1 ?_
  refine V_iload_n hc dX9_works_4 rfl 2 rfl ?_
  refine V_cald hc sP48 dX9_works_5 ?_
  refine V_istore_n (lv' := [(3, .int (gA t 45 (ix a2))), (0, .ref (K.2.2 24)), (1, .int a1), (2, .int a2)]) hc dX9_works_6 rfl (by decide) rfl ?_
  refine V_iload_n hc dX9_works_7 rfl 0 rfl ?_
  refine V_callS_RI hc (c_X9_isField l K t (gA t 45 (ix a2))) 1 gX9_works_X9_isField rfl ⟨rfl, rfl⟩ (by decide) ⟨Nat.le_of_ble_eq_true rfl, Nat.le_of_ble_eq_true rfl⟩ rfl rfl (Nat.le_of_ble_eq_true rfl) dX9_works_8 (fun r1 => ?_)
  refine V_if_eq (tgt := 21) hc dX9_works_11 (by decide) ?_ ?_
  · refine V_iload_n hc dX9_works_21 rfl 0 rfl ?_
    refine V_bdi (fun v2 => ?_)
    refine V_ite (fun h3 => ?_) (fun h3 => ?_)
    · refine V_lks (tgt := 88) hc dX9_works_22 (by decide) (by rw [h3] <;> rfl) (by decide) ?_
      refine V_aload_n hc dX9_works_88 rfl 1 rfl ?_
      refine V_getr (C := RX9) (T := TX9) (N := 28) hc sP24 rfl qX9_works_RX9 24 rfl (by decide) kX9_works_79 rfl dX9_works_89 ?_
      refine V_aload_n hc dX9_works_92 rfl 1 rfl ?_
      refine V_geti (C := RX9) (T := TX9) (N := 28) hc sP24 rfl qX9_works_RX9 25 rfl (by decide) kX9_works_120 rfl dX9_works_93 ?_
      refine V_aload_n hc dX9_works_96 rfl 1 rfl ?_
      refine V_getr (C := RX9) (T := TX9) (N := 28) hc sP24 rfl qX9_works_RX9 24 rfl (by decide) kX9_works_79 rfl dX9_works_97 ?_
      refine V_aload_n hc dX9_works_100 rfl 1 rfl ?_
      refine V_geti (C := RX9) (T := TX9) (N := 28) hc sP24 rfl qX9_works_RX9 25 rfl (by decide) kX9_works_120 rfl dX9_works_101 ?_
      refine V_zald hc sP47 dX9_works_104 ?_
      refine V_if_ne (tgt := 112) hc dX9_works_105 (by decide) ?_ ?_
      · refine V_iconst (v := 0) hc dX9_works_112 (by decide) ?_
        refine V_zastc hc sP47 (Or.inl rfl) dX9_works_113 ?_
        refine V_bds (fun t4 => ?_)
        refine V_iload_n hc dX9_works_114 rfl 3 rfl ?_
        refine V_iconst (v := 1) hc dX9_works_115 (by decide) ?_
        refine V_iadd hc dX9_works_116 ?_
        exact V_iret hc rfl rfl dX9_works_117
      · refine V_iconst (v := 1) hc dX9_works_108 (by decide) ?_
        refine V_goto (tgt := 113) hc dX9_works_109 (by decide) ?_
        refine V_zastc hc sP47 (Or.inr rfl) dX9_works_113 ?_
        refine V_bds (fun t5 => ?_)
        refine V_iload_n hc dX9_works_114 rfl 3 rfl ?_
        refine V_iconst (v := 1) hc dX9_works_115 (by decide) ?_
        refine V_iadd hc dX9_works_116 ?_
        exact V_iret hc rfl rfl dX9_works_117
    · refine V_ite (fun h6 => ?_) (fun h6 => ?_)
      · refine V_lks (tgt := 187) hc dX9_works_22 (by decide) (by rw [h6] <;> rfl) (by decide) ?_
        refine V_iload_n hc dX9_works_187 rfl 3 rfl ?_
        refine V_iconst (v := 1) hc dX9_works_188 (by decide) ?_
        refine V_iadd hc dX9_works_189 ?_
        exact V_iret hc rfl rfl dX9_works_190
      · refine V_ite (fun h7 => ?_) (fun h7 => ?_)
        · refine V_lks (tgt := 118) hc dX9_works_22 (by decide) (by rw [h7] <;> rfl) (by decide) ?_
          refine V_aload_n hc dX9_works_118 rfl 1 rfl ?_
          refine V_dup hc dX9_works_119 rfl ?_
          refine V_geti (C := RX9) (T := TX9) (N := 28) hc sP24 rfl qX9_works_RX9 25 rfl (by decide) kX9_works_120 rfl dX9_works_120 ?_
          refine V_iconst (v := 1) hc dX9_works_123 (by decide) ?_
          refine V_iadd hc dX9_works_124 ?_
          refine V_puti (C := RX9) (T := TX9) (N := 28) hc sP24 rfl qX9_works_RX9 25 rfl (by decide) kX9_works_120 rfl tyX9 tyX9_ok nmX9 rfl (tyX9_ok 25 (by decide)) dX9_works_125 ?_
          refine V_bds (fun t8 => ?_)
          refine V_aload_n hc dX9_works_128 rfl 1 rfl ?_
          refine V_callV_WV (Cn := RX9) (T := TX9) (N := 28) hc (c_X9_enters l K t8 ) sP24 rfl 0 gX9_works_X9_enters rfl ⟨rfl, rfl⟩ (by decide) ⟨Nat.le_of_ble_eq_true rfl, Nat.le_of_ble_eq_true rfl⟩ rfl rfl (Nat.le_of_ble_eq_true rfl) dX9_works_129 (fun r9 => ?_)
          refine V_iload_n hc dX9_works_132 rfl 3 rfl ?_
          refine V_iconst (v := 1) hc dX9_works_133 (by decide) ?_
          refine V_iadd hc dX9_works_134 ?_
          exact V_iret hc rfl rfl dX9_works_135
        · refine V_ite (fun h10 => ?_) (fun h10 => ?_)
          · refine V_lks (tgt := 136) hc dX9_works_22 (by decide) (by rw [h10] <;> rfl) (by decide) ?_
            refine V_aload_n hc dX9_works_136 rfl 1 rfl ?_
            refine V_dup hc dX9_works_137 rfl ?_
            refine V_geti (C := RX9) (T := TX9) (N := 28) hc sP24 rfl qX9_works_RX9 25 rfl (by decide) kX9_works_120 rfl dX9_works_138 ?_
            refine V_iconst (v := 1) hc dX9_works_141 (by decide) ?_
            refine V_isub hc dX9_works_142 ?_
            refine V_puti (C := RX9) (T := TX9) (N := 28) hc sP24 rfl qX9_works_RX9 25 rfl (by decide) kX9_works_120 rfl tyX9 tyX9_ok nmX9 rfl (tyX9_ok 25 (by decide)) dX9_works_143 ?_
            refine V_bds (fun t11 => ?_)
            refine V_aload_n hc dX9_works_146 rfl 1 rfl ?_
            refine V_aload_n hc dX9_works_147 rfl 1 rfl ?_
            refine V_getr (C := RX9) (T := TX9) (N := 28) hc sP24 rfl qX9_works_RX9 22 rfl (by decide) kX9_works_73 rfl dX9_works_148 ?_
            refine V_aload_n hc dX9_works_151 rfl 1 rfl ?_
            refine V_geti (C := RX9) (T := TX9) (N := 28) hc sP24 rfl qX9_works_RX9 25 rfl (by decide) kX9_works_120 rfl dX9_works_152 ?_
            refine V_iconst (v := 1) hc dX9_works_155 (by decide) ?_
            refine V_iadd hc dX9_works_156 ?_
            refine V_zald hc sP45 dX9_works_157 ?_
            refine V_if_ne (tgt := 175) hc dX9_works_158 (by decide) ?_ ?_
            · refine V_iconst (v := 1) hc dX9_works_175 (by decide) ?_
              refine V_goto (tgt := 180) hc dX9_works_176 (by decide) ?_
              refine V_callV_WV (Cn := RX9) (T := TX9) (N := 28) hc (c_X9_tells l K t11 (1)) sP24 rfl 1 gX9_works_X9_tells rfl ⟨rfl, rfl⟩ (by decide) ⟨Nat.le_of_ble_eq_true rfl, Nat.le_of_ble_eq_true rfl⟩ rfl rfl (Nat.le_of_ble_eq_true rfl) dX9_works_180 (fun r12 => ?_)
              refine V_iload_n hc dX9_works_183 rfl 3 rfl ?_
              refine V_iconst (v := 1) hc dX9_works_184 (by decide) ?_
              refine V_iadd hc dX9_works_185 ?_
              exact V_iret hc rfl rfl dX9_works_186
            · refine V_aload_n hc dX9_works_161 rfl 1 rfl ?_
              refine V_getr (C := RX9) (T := TX9) (N := 28) hc sP24 rfl qX9_works_RX9 23 rfl (by decide) kX9_works_76 rfl dX9_works_162 ?_
              refine V_aload_n hc dX9_works_165 rfl 1 rfl ?_
              refine V_geti (C := RX9) (T := TX9) (N := 28) hc sP24 rfl qX9_works_RX9 25 rfl (by decide) kX9_works_120 rfl dX9_works_166 ?_
              refine V_iconst (v := 1) hc dX9_works_169 (by decide) ?_
              refine V_iadd hc dX9_works_170 ?_
              refine V_zald hc sP46 dX9_works_171 ?_
              refine V_if_eq (tgt := 179) hc dX9_works_172 (by decide) ?_ ?_
              · refine V_iconst (v := 0) hc dX9_works_179 (by decide) ?_
                refine V_callV_WV (Cn := RX9) (T := TX9) (N := 28) hc (c_X9_tells l K t11 (0)) sP24 rfl 1 gX9_works_X9_tells rfl ⟨rfl, rfl⟩ (by decide) ⟨Nat.le_of_ble_eq_true rfl, Nat.le_of_ble_eq_true rfl⟩ rfl rfl (Nat.le_of_ble_eq_true rfl) dX9_works_180 (fun r13 => ?_)
                refine V_iload_n hc dX9_works_183 rfl 3 rfl ?_
                refine V_iconst (v := 1) hc dX9_works_184 (by decide) ?_
                refine V_iadd hc dX9_works_185 ?_
                exact V_iret hc rfl rfl dX9_works_186
              · refine V_iconst (v := 1) hc dX9_works_175 (by decide) ?_
                refine V_goto (tgt := 180) hc dX9_works_176 (by decide) ?_
                refine V_callV_WV (Cn := RX9) (T := TX9) (N := 28) hc (c_X9_tells l K t11 (1)) sP24 rfl 1 gX9_works_X9_tells rfl ⟨rfl, rfl⟩ (by decide) ⟨Nat.le_of_ble_eq_true rfl, Nat.le_of_ble_eq_true rfl⟩ rfl rfl (Nat.le_of_ble_eq_true rfl) dX9_works_180 (fun r14 => ?_)
                refine V_iload_n hc dX9_works_183 rfl 3 rfl ?_
                refine V_iconst (v := 1) hc dX9_works_184 (by decide) ?_
                refine V_iadd hc dX9_works_185 ?_
                exact V_iret hc rfl rfl dX9_works_186
          · refine V_ite (fun h15 => ?_) (fun h15 => ?_)
            · refine V_lks (tgt := 279) hc dX9_works_22 (by decide) (by rw [h15] <;> rfl) (by decide) ?_
              refine V_aload_n hc dX9_works_279 rfl 1 rfl ?_
              refine V_aload_n hc dX9_works_280 rfl 1 rfl ?_
              refine V_getr (C := RX9) (T := TX9) (N := 28) hc sP24 rfl qX9_works_RX9 16 rfl (by decide) kX9_works_57 rfl dX9_works_281 ?_
              refine V_aload_n hc dX9_works_284 rfl 1 rfl ?_
              refine V_getr (C := RX9) (T := TX9) (N := 28) hc sP24 rfl qX9_works_RX9 26 rfl (by decide) kX9_works_82 rfl dX9_works_285 ?_
              refine V_iload_n hc dX9_works_288 rfl 3 rfl ?_
              refine V_iconst (v := 1) hc dX9_works_289 (by decide) ?_
              refine V_iadd hc dX9_works_290 ?_
              refine V_cald hc sP48 dX9_works_291 ?_
              refine V_bipush (v := 48) hc dX9_works_292 (by decide) ?_
              refine V_isub hc dX9_works_294 ?_
              refine V_lald hc sP40 dX9_works_295 ?_
              refine V_iload_n hc dX9_works_296 rfl 2 rfl ?_
              refine V_lshr hc dX9_works_297 ?_
              refine V_bdl (fun v16 => ?_)
              refine V_lconst (v := 1) hc dX9_works_298 (by decide) ?_
              refine V_land hc dX9_works_299 ?_
              refine V_lconst (v := 1) hc dX9_works_300 (by decide) ?_
              refine V_lcmp hc dX9_works_301 ?_
              refine V_if_ne (tgt := 309) hc dX9_works_302 (by decide) ?_ ?_
              · refine V_iconst (v := 0) hc dX9_works_309 (by decide) ?_
                refine V_callV_WV (Cn := RX9) (T := TX9) (N := 28) hc (c_X9_tells l K t (0)) sP24 rfl 1 gX9_works_X9_tells rfl ⟨rfl, rfl⟩ (by decide) ⟨Nat.le_of_ble_eq_true rfl, Nat.le_of_ble_eq_true rfl⟩ rfl rfl (Nat.le_of_ble_eq_true rfl) dX9_works_310 (fun r17 => ?_)
                refine V_iload_n hc dX9_works_313 rfl 3 rfl ?_
                refine V_iconst (v := 2) hc dX9_works_314 (by decide) ?_
                refine V_iadd hc dX9_works_315 ?_
                exact V_iret hc rfl rfl dX9_works_316
              · refine V_iconst (v := 1) hc dX9_works_305 (by decide) ?_
                refine V_goto (tgt := 310) hc dX9_works_306 (by decide) ?_
                refine V_callV_WV (Cn := RX9) (T := TX9) (N := 28) hc (c_X9_tells l K t (1)) sP24 rfl 1 gX9_works_X9_tells rfl ⟨rfl, rfl⟩ (by decide) ⟨Nat.le_of_ble_eq_true rfl, Nat.le_of_ble_eq_true rfl⟩ rfl rfl (Nat.le_of_ble_eq_true rfl) dX9_works_310 (fun r18 => ?_)
                refine V_iload_n hc dX9_works_313 rfl 3 rfl ?_
                refine V_iconst (v := 2) hc dX9_works_314 (by decide) ?_
                refine V_iadd hc dX9_works_315 ?_
                exact V_iret hc rfl rfl dX9_works_316
            · refine V_ite (fun h19 => ?_) (fun h19 => ?_)
              · refine V_lks (tgt := 243) hc dX9_works_22 (by decide) (by rw [h19] <;> rfl) (by decide) ?_
                refine V_aload_n hc dX9_works_243 rfl 1 rfl ?_
                refine V_aload_n hc dX9_works_244 rfl 1 rfl ?_
                refine V_iload_n hc dX9_works_245 rfl 2 rfl ?_
                refine V_callV_RI (Cn := RX9) (T := TX9) (N := 28) hc (c_X9_tags l K t (a1)) sP24 rfl 1 gX9_works_X9_tags rfl ⟨rfl, rfl⟩ (by decide) ⟨Nat.le_of_ble_eq_true rfl, Nat.le_of_ble_eq_true rfl⟩ rfl rfl (Nat.le_of_ble_eq_true rfl) dX9_works_246 (fun r20 => ?_)
                refine V_aload_n hc dX9_works_249 rfl 1 rfl ?_
                refine V_getr (C := RX9) (T := TX9) (N := 28) hc sP24 rfl qX9_works_RX9 26 rfl (by decide) kX9_works_82 rfl dX9_works_250 ?_
                refine V_iload_n hc dX9_works_253 rfl 3 rfl ?_
                refine V_iconst (v := 1) hc dX9_works_254 (by decide) ?_
                refine V_iadd hc dX9_works_255 ?_
                refine V_cald hc sP48 dX9_works_256 ?_
                refine V_bipush (v := 48) hc dX9_works_257 (by decide) ?_
                refine V_isub hc dX9_works_259 ?_
                refine V_ishr hc dX9_works_260 ?_
                refine V_bdi (fun v21 => ?_)
                refine V_iconst (v := 1) hc dX9_works_261 (by decide) ?_
                refine V_iand hc dX9_works_262 ?_
                refine V_iconst (v := 1) hc dX9_works_263 (by decide) ?_
                refine V_icmp_ne (tgt := 271) hc dX9_works_264 (by decide) ?_ ?_
                · refine V_iconst (v := 0) hc dX9_works_271 (by decide) ?_
                  refine V_callV_WV (Cn := RX9) (T := TX9) (N := 28) hc (c_X9_tells l K t (0)) sP24 rfl 1 gX9_works_X9_tells rfl ⟨rfl, rfl⟩ (by decide) ⟨Nat.le_of_ble_eq_true rfl, Nat.le_of_ble_eq_true rfl⟩ rfl rfl (Nat.le_of_ble_eq_true rfl) dX9_works_272 (fun r22 => ?_)
                  refine V_iload_n hc dX9_works_275 rfl 3 rfl ?_
                  refine V_iconst (v := 2) hc dX9_works_276 (by decide) ?_
                  refine V_iadd hc dX9_works_277 ?_
                  exact V_iret hc rfl rfl dX9_works_278
                · refine V_iconst (v := 1) hc dX9_works_267 (by decide) ?_
                  refine V_goto (tgt := 272) hc dX9_works_268 (by decide) ?_
                  refine V_callV_WV (Cn := RX9) (T := TX9) (N := 28) hc (c_X9_tells l K t (1)) sP24 rfl 1 gX9_works_X9_tells rfl ⟨rfl, rfl⟩ (by decide) ⟨Nat.le_of_ble_eq_true rfl, Nat.le_of_ble_eq_true rfl⟩ rfl rfl (Nat.le_of_ble_eq_true rfl) dX9_works_272 (fun r23 => ?_)
                  refine V_iload_n hc dX9_works_275 rfl 3 rfl ?_
                  refine V_iconst (v := 2) hc dX9_works_276 (by decide) ?_
                  refine V_iadd hc dX9_works_277 ?_
                  exact V_iret hc rfl rfl dX9_works_278
              · refine V_ite (fun h24 => ?_) (fun h24 => ?_)
                · refine V_lks (tgt := 191) hc dX9_works_22 (by decide) (by rw [h24] <;> rfl) (by decide) ?_
                  refine V_aload_n hc dX9_works_191 rfl 1 rfl ?_
                  refine V_getr (C := RX9) (T := TX9) (N := 28) hc sP24 rfl qX9_works_RX9 22 rfl (by decide) kX9_works_73 rfl dX9_works_192 ?_
                  refine V_aload_n hc dX9_works_195 rfl 1 rfl ?_
                  refine V_geti (C := RX9) (T := TX9) (N := 28) hc sP24 rfl qX9_works_RX9 25 rfl (by decide) kX9_works_120 rfl dX9_works_196 ?_
                  refine V_aload_n hc dX9_works_199 rfl 1 rfl ?_
                  refine V_getr (C := RX9) (T := TX9) (N := 28) hc sP24 rfl qX9_works_RX9 22 rfl (by decide) kX9_works_73 rfl dX9_works_200 ?_
                  refine V_aload_n hc dX9_works_203 rfl 1 rfl ?_
                  refine V_geti (C := RX9) (T := TX9) (N := 28) hc sP24 rfl qX9_works_RX9 25 rfl (by decide) kX9_works_120 rfl dX9_works_204 ?_
                  refine V_zald hc sP45 dX9_works_207 ?_
                  refine V_if_ne (tgt := 223) hc dX9_works_208 (by decide) ?_ ?_
                  · refine V_iconst (v := 1) hc dX9_works_223 (by decide) ?_
                    refine V_goto (tgt := 228) hc dX9_works_224 (by decide) ?_
                    refine V_zastc hc sP45 (Or.inr rfl) dX9_works_228 ?_
                    refine V_bds (fun t25 => ?_)
                    refine V_aload_n hc dX9_works_229 rfl 1 rfl ?_
                    refine V_getr (C := RX9) (T := TX9) (N := 28) hc sP24 rfl qX9_works_RX9 23 rfl (by decide) kX9_works_76 rfl dX9_works_230 ?_
                    refine V_aload_n hc dX9_works_233 rfl 1 rfl ?_
                    refine V_geti (C := RX9) (T := TX9) (N := 28) hc sP24 rfl qX9_works_RX9 25 rfl (by decide) kX9_works_120 rfl dX9_works_234 ?_
                    refine V_iconst (v := 1) hc dX9_works_237 (by decide) ?_
                    refine V_zastc hc sP46 (Or.inr rfl) dX9_works_238 ?_
                    refine V_bds (fun t26 => ?_)
                    refine V_iload_n hc dX9_works_239 rfl 3 rfl ?_
                    refine V_iconst (v := 1) hc dX9_works_240 (by decide) ?_
                    refine V_iadd hc dX9_works_241 ?_
                    exact V_iret hc rfl rfl dX9_works_242
                  · refine V_aload_n hc dX9_works_211 rfl 1 rfl ?_
                    refine V_getr (C := RX9) (T := TX9) (N := 28) hc sP24 rfl qX9_works_RX9 23 rfl (by decide) kX9_works_76 rfl dX9_works_212 ?_
                    refine V_aload_n hc dX9_works_215 rfl 1 rfl ?_
                    refine V_geti (C := RX9) (T := TX9) (N := 28) hc sP24 rfl qX9_works_RX9 25 rfl (by decide) kX9_works_120 rfl dX9_works_216 ?_
                    refine V_zald hc sP46 dX9_works_219 ?_
                    refine V_if_eq (tgt := 227) hc dX9_works_220 (by decide) ?_ ?_
                    · refine V_iconst (v := 0) hc dX9_works_227 (by decide) ?_
                      refine V_zastc hc sP45 (Or.inl rfl) dX9_works_228 ?_
                      refine V_bds (fun t27 => ?_)
                      refine V_aload_n hc dX9_works_229 rfl 1 rfl ?_
                      refine V_getr (C := RX9) (T := TX9) (N := 28) hc sP24 rfl qX9_works_RX9 23 rfl (by decide) kX9_works_76 rfl dX9_works_230 ?_
                      refine V_aload_n hc dX9_works_233 rfl 1 rfl ?_
                      refine V_geti (C := RX9) (T := TX9) (N := 28) hc sP24 rfl qX9_works_RX9 25 rfl (by decide) kX9_works_120 rfl dX9_works_234 ?_
                      refine V_iconst (v := 1) hc dX9_works_237 (by decide) ?_
                      refine V_zastc hc sP46 (Or.inr rfl) dX9_works_238 ?_
                      refine V_bds (fun t28 => ?_)
                      refine V_iload_n hc dX9_works_239 rfl 3 rfl ?_
                      refine V_iconst (v := 1) hc dX9_works_240 (by decide) ?_
                      refine V_iadd hc dX9_works_241 ?_
                      exact V_iret hc rfl rfl dX9_works_242
                    · refine V_iconst (v := 1) hc dX9_works_223 (by decide) ?_
                      refine V_goto (tgt := 228) hc dX9_works_224 (by decide) ?_
                      refine V_zastc hc sP45 (Or.inr rfl) dX9_works_228 ?_
                      refine V_bds (fun t29 => ?_)
                      refine V_aload_n hc dX9_works_229 rfl 1 rfl ?_
                      refine V_getr (C := RX9) (T := TX9) (N := 28) hc sP24 rfl qX9_works_RX9 23 rfl (by decide) kX9_works_76 rfl dX9_works_230 ?_
                      refine V_aload_n hc dX9_works_233 rfl 1 rfl ?_
                      refine V_geti (C := RX9) (T := TX9) (N := 28) hc sP24 rfl qX9_works_RX9 25 rfl (by decide) kX9_works_120 rfl dX9_works_234 ?_
                      refine V_iconst (v := 1) hc dX9_works_237 (by decide) ?_
                      refine V_zastc hc sP46 (Or.inr rfl) dX9_works_238 ?_
                      refine V_bds (fun t30 => ?_)
                      refine V_iload_n hc dX9_works_239 rfl 3 rfl ?_
                      refine V_iconst (v := 1) hc dX9_works_240 (by decide) ?_
                      refine V_iadd hc dX9_works_241 ?_
                      exact V_iret hc rfl rfl dX9_works_242
                · refine V_lks (tgt := 317) hc dX9_works_22 (by decide) (lks_dflt (List.forall_mem_cons.mpr ⟨toInt_ne h3, (List.forall_mem_cons.mpr ⟨toInt_ne h6, (List.forall_mem_cons.mpr ⟨toInt_ne h7, (List.forall_mem_cons.mpr ⟨toInt_ne h10, (List.forall_mem_cons.mpr ⟨toInt_ne h15, (List.forall_mem_cons.mpr ⟨toInt_ne h19, (List.forall_mem_cons.mpr ⟨toInt_ne h24, (fun _ h => absurd h List.not_mem_nil)⟩)⟩)⟩)⟩)⟩)⟩)⟩)) (by decide) ?_
                  refine V_aload_n hc dX9_works_317 rfl 1 rfl ?_
                  refine V_aload_n hc dX9_works_318 rfl 1 rfl ?_
                  refine V_iload_n hc dX9_works_319 rfl 2 rfl ?_
                  refine V_iload_n hc dX9_works_320 rfl 0 rfl ?_
                  refine V_callV_RI (Cn := RX9) (T := TX9) (N := 28) hc (c_X9_isSo l K t (a1) (gA t 45 (ix a2))) sP24 rfl 2 gX9_works_X9_isSo rfl ⟨rfl, rfl⟩ (by decide) ⟨Nat.le_of_ble_eq_true rfl, Nat.le_of_ble_eq_true rfl⟩ rfl rfl (Nat.le_of_ble_eq_true rfl) dX9_works_321 (fun r31 => ?_)
                  refine V_callV_WV (Cn := RX9) (T := TX9) (N := 28) hc (c_X9_tells l K t (r31)) sP24 rfl 1 gX9_works_X9_tells rfl ⟨rfl, rfl⟩ (by decide) ⟨Nat.le_of_ble_eq_true rfl, Nat.le_of_ble_eq_true rfl⟩ rfl rfl (Nat.le_of_ble_eq_true rfl) dX9_works_324 (fun r32 => ?_)
                  refine V_iload_n hc dX9_works_327 rfl 3 rfl ?_
                  refine V_iconst (v := 1) hc dX9_works_328 (by decide) ?_
                  refine V_iadd hc dX9_works_329 ?_
                  exact V_iret hc rfl rfl dX9_works_330
  · refine V_aload_n hc dX9_works_14 rfl 1 rfl ?_
    refine V_iload_n hc dX9_works_15 rfl 2 rfl ?_
    refine V_iload_n hc dX9_works_16 rfl 3 rfl ?_
    refine V_callV_WI (Cn := RX9) (T := TX9) (N := 28) hc (c_X9_asks l K t (a1) (a2)) sP24 rfl 2 gX9_works_X9_asks rfl ⟨rfl, rfl⟩ (by decide) ⟨Nat.le_of_ble_eq_true rfl, Nat.le_of_ble_eq_true rfl⟩ rfl rfl (Nat.le_of_ble_eq_true rfl) dX9_works_17 (fun r33 => ?_)
    exact V_iret hc rfl rfl dX9_works_20

theorem kX9_isRight_120 : Cond.fieldLink RX9 120 RX9 (TX9 25).2.1 (TX9 25).2.2.1 ∈ wsX9_isRight := by decide +kernel
theorem qX9_isRight_RX9 : ∀ w ∈ u_ws RX9 TX9 28, w ∈ wsX9_isRight := by
  first
  | exact fun _ h => List.mem_cons_of_mem _ (List.mem_append_right _ h)
  | exact fun _ h => List.mem_cons_of_mem _ (List.mem_append_left _ (List.mem_append_right _ h))
  | exact fun _ h => List.mem_cons_of_mem _ (List.mem_append_left _ (List.mem_append_left _ (List.mem_append_right _ h)))
  | exact fun _ h => List.mem_cons_of_mem _ (List.mem_append_left _ (List.mem_append_left _ (List.mem_append_left _ (List.mem_append_right _ h))))
  | exact fun _ h => List.mem_cons_of_mem _ (List.mem_append_left _ (List.mem_append_left _ (List.mem_append_left _ (List.mem_append_left _ (List.mem_append_right _ h)))))
  | decide +kernel
theorem kX9_isRight_127 : Cond.fieldLink RX9 127 RX9 (TX9 27).2.1 (TX9 27).2.2.1 ∈ wsX9_isRight := by decide +kernel
theorem kX9_isRight_73 : Cond.fieldLink RX9 73 RX9 (TX9 22).2.1 (TX9 22).2.2.1 ∈ wsX9_isRight := by decide +kernel
theorem kX9_isRight_76 : Cond.fieldLink RX9 76 RX9 (TX9 23).2.1 (TX9 23).2.2.1 ∈ wsX9_isRight := by decide +kernel
noncomputable def L_X9_isRight_11 (b1 : Int32) (kont : Int32 → Sx → Option (Int32 × Sx)) : Nat → Int32 → Sx → Option (Int32 × Sx)
  | 0, _, _ => none
  | n + 1, x2, y => if (gI y 55) ≤ x2 then kont (x2) (y) else (f_X9_works y (b1) (x2)).bind fun r3 => L_X9_isRight_11 b1 kont n (r3.1) (r3.2)
set_option maxRecDepth 20000 in
set_option maxHeartbeats 4000000 in
theorem L_X9_isRight_11_ok {p : Program} {l : Launch} {K : Kx} {e : Env} {s : State} {m : MethodId} {args : Array Value} {below : List Frame} {meth : Method} {c : Code} (hc : Cx p ({ frames := 6, cells := 0, slots := 0, locals := 139 } : Room) s m args meth c cX9_isRight 3 wsX9_isRight RX9 K (aA K s.heap.size) (some .boolean) 0 0) (b1 : Int32) (kont : Int32 → Sx → Option (Int32 × Sx)) (hk : ∀ x2 y, V p l e ({ frames := 6, cells := 0, slots := 0, locals := 139 } : Room) s m args below meth c K (aA K s.heap.size) 0 0 3 (QM below K args s kWI) 29 [(0, .ref (K.2.2 24)), (1, .int b1), (2, .int x2)] [] y (kont x2 y)) : ∀ (n : Nat) (x2 : Int32) (y : Sx), V p l e ({ frames := 6, cells := 0, slots := 0, locals := 139 } : Room) s m args below meth c K (aA K s.heap.size) 0 0 3 (QM below K args s kWI) 11 [(0, .ref (K.2.2 24)), (1, .int b1), (2, .int x2)] [] y (L_X9_isRight_11 b1 kont n x2 y) := by
  intro n
  induction n with
  | zero => intro x2 y; exact V_none
  | succ n ih =>
    intro x2 y
    rw [L_X9_isRight_11]
    refine V_iload_n hc dX9_isRight_11 rfl 2 rfl ?_
    refine V_aload_n hc dX9_isRight_12 rfl 0 rfl ?_
    refine V_geti (C := RX9) (T := TX9) (N := 28) hc sP24 rfl qX9_isRight_RX9 27 rfl (by decide) kX9_isRight_127 rfl dX9_isRight_13 ?_
    refine V_icmp_ge (tgt := 29) hc dX9_isRight_16 (by decide) ?_ ?_
    · exact V_sub [0, 1, 2] rfl (hk _ _)
    · refine V_aload_n hc dX9_isRight_19 rfl 0 rfl ?_
      refine V_iload_n hc dX9_isRight_20 rfl 1 rfl ?_
      refine V_iload_n hc dX9_isRight_21 rfl 2 rfl ?_
      refine V_callV_WI (Cn := RX9) (T := TX9) (N := 28) hc (c_X9_works l K y (b1) (x2)) sP24 rfl 2 gX9_isRight_X9_works rfl ⟨rfl, rfl⟩ (by decide) ⟨Nat.le_of_ble_eq_true rfl, Nat.le_of_ble_eq_true rfl⟩ rfl rfl (Nat.le_of_ble_eq_true rfl) dX9_isRight_22 (fun r3 => ?_)
      refine V_istore_n (lv' := [(2, .int r3.1), (0, .ref (K.2.2 24)), (1, .int b1)]) hc dX9_isRight_25 rfl (by decide) rfl ?_
      refine V_goto (tgt := 11) hc dX9_isRight_26 (by decide) ?_
      exact V_sub [1, 2, 0] rfl (ih _ _)
noncomputable def f_X9_isRight (t : Sx) (a1 : Int32) : Option (Int32 × Sx) := bd (pI t 54 0) fun t1 => (f_X9_enters t1 ).bind fun r2 => L_X9_isRight_11 (a1) (fun z4 t5 => gd (vp_in 0 12) (if (gA t5 42 (ix 0)) = 0 then gd (vp_in 0 12) (if (gA t5 43 (ix 0)) = 0 then some (0, t5) else some (1, t5)) else some (1, t5))) FU (0) (r2)
set_option maxRecDepth 20000 in
set_option maxHeartbeats 4000000 in
theorem c_X9_isRight (l : Launch) (K : Kx) (t : Sx) (a1 : Int32) : CT l K yX9_isRight wsX9_isRight ({ frames := 6, cells := 0, slots := 0, locals := 139 } : Room) [.ref (K.2.2 24), .int a1] t (f_X9_isRight t a1) kWI := by
  refine CT_of (cc := cX9_isRight) (maxL := 3) (ret := (some .boolean)) (own := RX9) (by decide +kernel) rfl rfl (Nat.le_of_ble_eq_true rfl) ?_
  intro p e s m args below meth c hc
  refine V_sub (lv' := [(0, .ref (K.2.2 24)), (1, .int a1)]) [0, 1] rfl ?_
  unfold f_X9_isRight
  refine V_aload_n hc dX9_isRight_0 rfl 0 rfl ?_
  refine V_iconst (v := 0) hc dX9_isRight_1 (by decide) ?_
  refine V_puti (C := RX9) (T := TX9) (N := 28) hc sP24 rfl qX9_isRight_RX9 25 rfl (by decide) kX9_isRight_120 rfl tyX9 tyX9_ok nmX9 rfl (tyX9_ok 25 (by decide)) dX9_isRight_2 ?_
  refine V_bds (fun t1 => ?_)
  refine V_aload_n hc dX9_isRight_5 rfl 0 rfl ?_
  refine V_callV_WV (Cn := RX9) (T := TX9) (N := 28) hc (c_X9_enters l K t1 ) sP24 rfl 0 gX9_isRight_X9_enters rfl ⟨rfl, rfl⟩ (by decide) ⟨Nat.le_of_ble_eq_true rfl, Nat.le_of_ble_eq_true rfl⟩ rfl rfl (Nat.le_of_ble_eq_true rfl) dX9_isRight_6 (fun r2 => ?_)
  refine V_iconst (v := 0) hc dX9_isRight_9 (by decide) ?_
  refine V_istore_n (lv' := [(2, .int 0), (0, .ref (K.2.2 24)), (1, .int a1)]) hc dX9_isRight_10 rfl (by decide) rfl ?_
  refine V_sub (lv' := [(0, .ref (K.2.2 24)), (1, .int a1), (2, .int 0)]) [1, 2, 0] rfl ?_
  refine L_X9_isRight_11_ok hc (a1) _ (fun z4 t5 => ?_) FU _ _
  refine V_aload_n hc dX9_isRight_29 rfl 0 rfl ?_
  refine V_getr (C := RX9) (T := TX9) (N := 28) hc sP24 rfl qX9_isRight_RX9 22 rfl (by decide) kX9_isRight_73 rfl dX9_isRight_30 ?_
  refine V_iconst (v := 0) hc dX9_isRight_33 (by decide) ?_
  refine V_zald hc sP45 dX9_isRight_34 ?_
  refine V_if_ne (tgt := 47) hc dX9_isRight_35 (by decide) ?_ ?_
  · refine V_iconst (v := 1) hc dX9_isRight_47 (by decide) ?_
    refine V_goto (tgt := 52) hc dX9_isRight_48 (by decide) ?_
    exact V_nret hc rfl rfl rfl dX9_isRight_52
  · refine V_aload_n hc dX9_isRight_38 rfl 0 rfl ?_
    refine V_getr (C := RX9) (T := TX9) (N := 28) hc sP24 rfl qX9_isRight_RX9 23 rfl (by decide) kX9_isRight_76 rfl dX9_isRight_39 ?_
    refine V_iconst (v := 0) hc dX9_isRight_42 (by decide) ?_
    refine V_zald hc sP46 dX9_isRight_43 ?_
    refine V_if_eq (tgt := 51) hc dX9_isRight_44 (by decide) ?_ ?_
    · refine V_iconst (v := 0) hc dX9_isRight_51 (by decide) ?_
      exact V_nret hc rfl rfl rfl dX9_isRight_52
    · refine V_iconst (v := 1) hc dX9_isRight_47 (by decide) ?_
      refine V_goto (tgt := 52) hc dX9_isRight_48 (by decide) ?_
      exact V_nret hc rfl rfl rfl dX9_isRight_52

theorem kX9_takesText_112 : Cond.fieldLink RX9 112 RX9 (TX9 11).2.1 (TX9 11).2.2.1 ∈ wsX9_takesText := by decide +kernel
theorem qX9_takesText_RX9 : ∀ w ∈ u_ws RX9 TX9 28, w ∈ wsX9_takesText := by
  first
  | exact fun _ h => List.mem_cons_of_mem _ (List.mem_append_right _ h)
  | exact fun _ h => List.mem_cons_of_mem _ (List.mem_append_left _ (List.mem_append_right _ h))
  | exact fun _ h => List.mem_cons_of_mem _ (List.mem_append_left _ (List.mem_append_left _ (List.mem_append_right _ h)))
  | exact fun _ h => List.mem_cons_of_mem _ (List.mem_append_left _ (List.mem_append_left _ (List.mem_append_left _ (List.mem_append_right _ h))))
  | exact fun _ h => List.mem_cons_of_mem _ (List.mem_append_left _ (List.mem_append_left _ (List.mem_append_left _ (List.mem_append_left _ (List.mem_append_right _ h)))))
  | decide +kernel
theorem kX9_takesText_127 : Cond.fieldLink RX9 127 RX9 (TX9 27).2.1 (TX9 27).2.2.1 ∈ wsX9_takesText := by decide +kernel
theorem kX9_takesText_82 : Cond.fieldLink RX9 82 RX9 (TX9 26).2.1 (TX9 26).2.2.1 ∈ wsX9_takesText := by decide +kernel
theorem kX9_takesText_44 : Cond.fieldLink RX9 44 RX9 (TX9 12).2.1 (TX9 12).2.2.1 ∈ wsX9_takesText := by decide +kernel
noncomputable def L_X9_takesText_10  (kont : Int32 → Sx → Option Sx) : Nat → Int32 → Sx → Option Sx
  | 0, _, _ => none
  | n + 1, x1, y => if (gI y 52) ≤ x1 then kont (x1) (y) else gd (vp_in x1 80) (gd (gch (gA y 34 (ix x1))) (gd (vp_in x1 80) (bd (pA y 45 (ix x1) (gA y 34 (ix x1))) fun t2 => L_X9_takesText_10  kont n ((x1 + 1)) (t2))))
set_option maxRecDepth 20000 in
set_option maxHeartbeats 4000000 in
theorem L_X9_takesText_10_ok {p : Program} {l : Launch} {K : Kx} {e : Env} {s : State} {m : MethodId} {args : Array Value} {below : List Frame} {meth : Method} {c : Code} (hc : Cx p ({ frames := 0, cells := 0, slots := 0, locals := 0 } : Room) s m args meth c cX9_takesText 2 wsX9_takesText RX9 K (aA K s.heap.size) none 0 0)  (kont : Int32 → Sx → Option Sx) (hk : ∀ x1 y, V p l e ({ frames := 0, cells := 0, slots := 0, locals := 0 } : Room) s m args below meth c K (aA K s.heap.size) 0 0 2 (QM below K args s kWV) 36 [(0, .ref (K.2.2 24)), (1, .int x1)] [] y (kont x1 y)) : ∀ (n : Nat) (x1 : Int32) (y : Sx), V p l e ({ frames := 0, cells := 0, slots := 0, locals := 0 } : Room) s m args below meth c K (aA K s.heap.size) 0 0 2 (QM below K args s kWV) 10 [(0, .ref (K.2.2 24)), (1, .int x1)] [] y (L_X9_takesText_10  kont n x1 y) := by
  intro n
  induction n with
  | zero => intro x1 y; exact V_none
  | succ n ih =>
    intro x1 y
    rw [L_X9_takesText_10]
    refine V_iload_n hc dX9_takesText_10 rfl 1 rfl ?_
    refine V_aload_n hc dX9_takesText_11 rfl 0 rfl ?_
    refine V_geti (C := RX9) (T := TX9) (N := 28) hc sP24 rfl qX9_takesText_RX9 11 rfl (by decide) kX9_takesText_112 rfl dX9_takesText_12 ?_
    refine V_icmp_ge (tgt := 36) hc dX9_takesText_15 (by decide) ?_ ?_
    · exact V_sub [0, 1] rfl (hk _ _)
    · refine V_aload_n hc dX9_takesText_18 rfl 0 rfl ?_
      refine V_getr (C := RX9) (T := TX9) (N := 28) hc sP24 rfl qX9_takesText_RX9 26 rfl (by decide) kX9_takesText_82 rfl dX9_takesText_19 ?_
      refine V_iload_n hc dX9_takesText_22 rfl 1 rfl ?_
      refine V_aload_n hc dX9_takesText_23 rfl 0 rfl ?_
      refine V_getr (C := RX9) (T := TX9) (N := 28) hc sP24 rfl qX9_takesText_RX9 12 rfl (by decide) kX9_takesText_44 rfl dX9_takesText_24 ?_
      refine V_iload_n hc dX9_takesText_27 rfl 1 rfl ?_
      refine V_cald hc sP36 dX9_takesText_28 ?_
      refine V_cast hc sP48 dX9_takesText_29 ?_
      refine V_bds (fun t2 => ?_)
      refine V_iinc (v := (x1 + 1)) (lv' := [(1, .int (x1 + 1)), (0, .ref (K.2.2 24))]) hc dX9_takesText_30 1 rfl rfl (by decide) rfl ?_
      refine V_goto (tgt := 10) hc dX9_takesText_33 (by decide) ?_
      exact V_sub [1, 0] rfl (ih _ _)
noncomputable def f_X9_takesText (t : Sx)  : Option Sx := bd (pI t 55 (gI t 52)) fun t1 => L_X9_takesText_10  (fun z3 t4 => some t4) FU (0) (t1)
set_option maxRecDepth 20000 in
set_option maxHeartbeats 4000000 in
theorem c_X9_takesText (l : Launch) (K : Kx) (t : Sx)  : CT l K yX9_takesText wsX9_takesText ({ frames := 0, cells := 0, slots := 0, locals := 0 } : Room) [.ref (K.2.2 24)] t (f_X9_takesText t ) kWV := by
  refine CT_of (cc := cX9_takesText) (maxL := 2) (ret := none) (own := RX9) (by decide +kernel) rfl rfl (Nat.le_of_ble_eq_true rfl) ?_
  intro p e s m args below meth c hc
  refine V_sub (lv' := [(0, .ref (K.2.2 24))]) [0] rfl ?_
  unfold f_X9_takesText
  refine V_aload_n hc dX9_takesText_0 rfl 0 rfl ?_
  refine V_aload_n hc dX9_takesText_1 rfl 0 rfl ?_
  refine V_geti (C := RX9) (T := TX9) (N := 28) hc sP24 rfl qX9_takesText_RX9 11 rfl (by decide) kX9_takesText_112 rfl dX9_takesText_2 ?_
  refine V_puti (C := RX9) (T := TX9) (N := 28) hc sP24 rfl qX9_takesText_RX9 27 rfl (by decide) kX9_takesText_127 rfl tyX9 tyX9_ok nmX9 rfl (tyX9_ok 27 (by decide)) dX9_takesText_5 ?_
  refine V_bds (fun t1 => ?_)
  refine V_iconst (v := 0) hc dX9_takesText_8 (by decide) ?_
  refine V_istore_n (lv' := [(1, .int 0), (0, .ref (K.2.2 24))]) hc dX9_takesText_9 rfl (by decide) rfl ?_
  refine V_sub (lv' := [(0, .ref (K.2.2 24)), (1, .int 0)]) [1, 0] rfl ?_
  refine L_X9_takesText_10_ok hc  _ (fun z3 t4 => ?_) FU _ _
  exact V_vret hc rfl rfl dX9_takesText_36

theorem kX9_takesAlbum_51 : Cond.fieldLink RX9 51 RX9 (TX9 14).2.1 (TX9 14).2.2.1 ∈ wsX9_takesAlbum := by decide +kernel
theorem qX9_takesAlbum_RX9 : ∀ w ∈ u_ws RX9 TX9 28, w ∈ wsX9_takesAlbum := by
  first
  | exact fun _ h => List.mem_cons_of_mem _ (List.mem_append_right _ h)
  | exact fun _ h => List.mem_cons_of_mem _ (List.mem_append_left _ (List.mem_append_right _ h))
  | exact fun _ h => List.mem_cons_of_mem _ (List.mem_append_left _ (List.mem_append_left _ (List.mem_append_right _ h)))
  | exact fun _ h => List.mem_cons_of_mem _ (List.mem_append_left _ (List.mem_append_left _ (List.mem_append_left _ (List.mem_append_right _ h))))
  | exact fun _ h => List.mem_cons_of_mem _ (List.mem_append_left _ (List.mem_append_left _ (List.mem_append_left _ (List.mem_append_left _ (List.mem_append_right _ h)))))
  | decide +kernel
theorem kX9_takesAlbum_127 : Cond.fieldLink RX9 127 RX9 (TX9 27).2.1 (TX9 27).2.2.1 ∈ wsX9_takesAlbum := by decide +kernel
theorem kX9_takesAlbum_82 : Cond.fieldLink RX9 82 RX9 (TX9 26).2.1 (TX9 26).2.2.1 ∈ wsX9_takesAlbum := by decide +kernel
theorem kX9_takesAlbum_54 : Cond.fieldLink RX9 54 RX9 (TX9 15).2.1 (TX9 15).2.2.1 ∈ wsX9_takesAlbum := by decide +kernel
noncomputable def L_X9_takesAlbum_12 (b1 : Int32) (kont : Int32 → Sx → Option Sx) : Nat → Int32 → Sx → Option Sx
  | 0, _, _ => none
  | n + 1, x2, y => if (gI y 55) ≤ x2 then kont (x2) (y) else gd (vp_in ((80 * b1) + x2) 640) (gd (gch (gA y 37 (ix ((80 * b1) + x2)))) (gd (vp_in x2 80) (bd (pA y 45 (ix x2) (gA y 37 (ix ((80 * b1) + x2)))) fun t2 => L_X9_takesAlbum_12 b1 kont n ((x2 + 1)) (t2))))
set_option maxRecDepth 20000 in
set_option maxHeartbeats 4000000 in
theorem L_X9_takesAlbum_12_ok {p : Program} {l : Launch} {K : Kx} {e : Env} {s : State} {m : MethodId} {args : Array Value} {below : List Frame} {meth : Method} {c : Code} (hc : Cx p ({ frames := 0, cells := 0, slots := 0, locals := 0 } : Room) s m args meth c cX9_takesAlbum 3 wsX9_takesAlbum RX9 K (aA K s.heap.size) none 0 0) (b1 : Int32) (kont : Int32 → Sx → Option Sx) (hk : ∀ x2 y, V p l e ({ frames := 0, cells := 0, slots := 0, locals := 0 } : Room) s m args below meth c K (aA K s.heap.size) 0 0 3 (QM below K args s kWV) 43 [(0, .ref (K.2.2 24)), (1, .int b1), (2, .int x2)] [] y (kont x2 y)) : ∀ (n : Nat) (x2 : Int32) (y : Sx), V p l e ({ frames := 0, cells := 0, slots := 0, locals := 0 } : Room) s m args below meth c K (aA K s.heap.size) 0 0 3 (QM below K args s kWV) 12 [(0, .ref (K.2.2 24)), (1, .int b1), (2, .int x2)] [] y (L_X9_takesAlbum_12 b1 kont n x2 y) := by
  intro n
  induction n with
  | zero => intro x2 y; exact V_none
  | succ n ih =>
    intro x2 y
    rw [L_X9_takesAlbum_12]
    refine V_iload_n hc dX9_takesAlbum_12 rfl 2 rfl ?_
    refine V_aload_n hc dX9_takesAlbum_13 rfl 0 rfl ?_
    refine V_geti (C := RX9) (T := TX9) (N := 28) hc sP24 rfl qX9_takesAlbum_RX9 27 rfl (by decide) kX9_takesAlbum_127 rfl dX9_takesAlbum_14 ?_
    refine V_icmp_ge (tgt := 43) hc dX9_takesAlbum_17 (by decide) ?_ ?_
    · exact V_sub [0, 1, 2] rfl (hk _ _)
    · refine V_aload_n hc dX9_takesAlbum_20 rfl 0 rfl ?_
      refine V_getr (C := RX9) (T := TX9) (N := 28) hc sP24 rfl qX9_takesAlbum_RX9 26 rfl (by decide) kX9_takesAlbum_82 rfl dX9_takesAlbum_21 ?_
      refine V_iload_n hc dX9_takesAlbum_24 rfl 2 rfl ?_
      refine V_aload_n hc dX9_takesAlbum_25 rfl 0 rfl ?_
      refine V_getr (C := RX9) (T := TX9) (N := 28) hc sP24 rfl qX9_takesAlbum_RX9 15 rfl (by decide) kX9_takesAlbum_54 rfl dX9_takesAlbum_26 ?_
      refine V_bipush (v := 80) hc dX9_takesAlbum_29 (by decide) ?_
      refine V_iload_n hc dX9_takesAlbum_31 rfl 1 rfl ?_
      refine V_imul hc dX9_takesAlbum_32 ?_
      refine V_iload_n hc dX9_takesAlbum_33 rfl 2 rfl ?_
      refine V_iadd hc dX9_takesAlbum_34 ?_
      refine V_cald hc sP39 dX9_takesAlbum_35 ?_
      refine V_cast hc sP48 dX9_takesAlbum_36 ?_
      refine V_bds (fun t2 => ?_)
      refine V_iinc (v := (x2 + 1)) (lv' := [(2, .int (x2 + 1)), (0, .ref (K.2.2 24)), (1, .int b1)]) hc dX9_takesAlbum_37 2 rfl rfl (by decide) rfl ?_
      refine V_goto (tgt := 12) hc dX9_takesAlbum_40 (by decide) ?_
      exact V_sub [1, 2, 0] rfl (ih _ _)
noncomputable def f_X9_takesAlbum (t : Sx) (a1 : Int32) : Option Sx := gd (vp_in a1 8) (bd (pI t 55 (gA t 36 (ix a1))) fun t1 => L_X9_takesAlbum_12 (a1) (fun z3 t4 => some t4) FU (0) (t1))
set_option maxRecDepth 20000 in
set_option maxHeartbeats 4000000 in
theorem c_X9_takesAlbum (l : Launch) (K : Kx) (t : Sx) (a1 : Int32) : CT l K yX9_takesAlbum wsX9_takesAlbum ({ frames := 0, cells := 0, slots := 0, locals := 0 } : Room) [.ref (K.2.2 24), .int a1] t (f_X9_takesAlbum t a1) kWV := by
  refine CT_of (cc := cX9_takesAlbum) (maxL := 3) (ret := none) (own := RX9) (by decide +kernel) rfl rfl (Nat.le_of_ble_eq_true rfl) ?_
  intro p e s m args below meth c hc
  refine V_sub (lv' := [(0, .ref (K.2.2 24)), (1, .int a1)]) [0, 1] rfl ?_
  unfold f_X9_takesAlbum
  refine V_aload_n hc dX9_takesAlbum_0 rfl 0 rfl ?_
  refine V_aload_n hc dX9_takesAlbum_1 rfl 0 rfl ?_
  refine V_getr (C := RX9) (T := TX9) (N := 28) hc sP24 rfl qX9_takesAlbum_RX9 14 rfl (by decide) kX9_takesAlbum_51 rfl dX9_takesAlbum_2 ?_
  refine V_iload_n hc dX9_takesAlbum_5 rfl 1 rfl ?_
  refine V_iald hc sP38 dX9_takesAlbum_6 ?_
  refine V_puti (C := RX9) (T := TX9) (N := 28) hc sP24 rfl qX9_takesAlbum_RX9 27 rfl (by decide) kX9_takesAlbum_127 rfl tyX9 tyX9_ok nmX9 rfl (tyX9_ok 27 (by decide)) dX9_takesAlbum_7 ?_
  refine V_bds (fun t1 => ?_)
  refine V_iconst (v := 0) hc dX9_takesAlbum_10 (by decide) ?_
  refine V_istore_n (lv' := [(2, .int 0), (0, .ref (K.2.2 24)), (1, .int a1)]) hc dX9_takesAlbum_11 rfl (by decide) rfl ?_
  refine V_sub (lv' := [(0, .ref (K.2.2 24)), (1, .int a1), (2, .int 0)]) [1, 2, 0] rfl ?_
  refine L_X9_takesAlbum_12_ok hc (a1) _ (fun z3 t4 => ?_) FU _ _
  exact V_vret hc rfl rfl dX9_takesAlbum_43

theorem kX9_names_127 : Cond.fieldLink RX9 127 RX9 (TX9 27).2.1 (TX9 27).2.2.1 ∈ wsX9_names := by decide +kernel
theorem qX9_names_RX9 : ∀ w ∈ u_ws RX9 TX9 28, w ∈ wsX9_names := by
  first
  | exact fun _ h => List.mem_cons_of_mem _ (List.mem_append_right _ h)
  | exact fun _ h => List.mem_cons_of_mem _ (List.mem_append_left _ (List.mem_append_right _ h))
  | exact fun _ h => List.mem_cons_of_mem _ (List.mem_append_left _ (List.mem_append_left _ (List.mem_append_right _ h)))
  | exact fun _ h => List.mem_cons_of_mem _ (List.mem_append_left _ (List.mem_append_left _ (List.mem_append_left _ (List.mem_append_right _ h))))
  | exact fun _ h => List.mem_cons_of_mem _ (List.mem_append_left _ (List.mem_append_left _ (List.mem_append_left _ (List.mem_append_left _ (List.mem_append_right _ h)))))
  | decide +kernel
theorem kX9_names_82 : Cond.fieldLink RX9 82 RX9 (TX9 26).2.1 (TX9 26).2.2.1 ∈ wsX9_names := by decide +kernel
theorem kX9_names_48 : Cond.fieldLink RX9 48 RX9 (TX9 13).2.1 (TX9 13).2.2.1 ∈ wsX9_names := by decide +kernel
noncomputable def L_X9_names_4 (t0 : Sx) (b1 : Int32) (kont : Int32 → Int32 → Option Int32) : Nat → Int32 → Int32 → Option Int32
  | 0, _, _ => none
  | n + 1, x2 , x3 => if (gI t0 55) ≤ (x3 + 1) then kont (x2) (x3) else gd (vp_in (x3 + 1) 80) (if x2 = 0 then L_X9_names_4 t0 b1 kont n (0) ((x3 + 1)) else gd (vp_in x3 80) (if (gA t0 45 (ix x3)) = 97 then if 8 ≤ ((gA t0 45 (ix (x3 + 1))) - 48) then L_X9_names_4 t0 b1 kont n (0) ((x3 + 1)) else if b1 ≤ ((gA t0 45 (ix (x3 + 1))) - 48) then L_X9_names_4 t0 b1 kont n (0) ((x3 + 1)) else gd (vp_in ((gA t0 45 (ix (x3 + 1))) - 48) 8) (bd ((gA t0 35 (ix ((gA t0 45 (ix (x3 + 1))) - 48)))) fun v1 => if v1 = 0 then L_X9_names_4 t0 b1 kont n (0) ((x3 + 1)) else L_X9_names_4 t0 b1 kont n (1) ((x3 + 1))) else L_X9_names_4 t0 b1 kont n (1) ((x3 + 1))))
set_option maxRecDepth 20000 in
set_option maxHeartbeats 4000000 in
theorem L_X9_names_4_ok {p : Program} {l : Launch} {K : Kx} {e : Env} {s : State} {m : MethodId} {args : Array Value} {below : List Frame} {meth : Method} {c : Code} (hc : Cx p ({ frames := 0, cells := 0, slots := 0, locals := 0 } : Room) s m args meth c cX9_names 5 wsX9_names RX9 K (aA K s.heap.size) (some .boolean) 0 0) (t0 : Sx) (b1 : Int32) (kont : Int32 → Int32 → Option Int32) (hk : ∀ x2 x3, V p l e ({ frames := 0, cells := 0, slots := 0, locals := 0 } : Room) s m args below meth c K (aA K s.heap.size) 0 0 5 (QM below K args s (kRI t0)) 77 [(0, .ref (K.2.2 24)), (1, .int b1), (2, .int x2), (3, .int x3)] [] t0 (kont x2 x3)) : ∀ (n : Nat) (x2 : Int32) (x3 : Int32), V p l e ({ frames := 0, cells := 0, slots := 0, locals := 0 } : Room) s m args below meth c K (aA K s.heap.size) 0 0 5 (QM below K args s (kRI t0)) 4 [(0, .ref (K.2.2 24)), (1, .int b1), (2, .int x2), (3, .int x3)] [] t0 (L_X9_names_4 t0 b1 kont n x2 x3) := by
  intro n
  induction n with
  | zero => intro x2 x3; exact V_none
  | succ n ih =>
    intro x2 x3
    rw [L_X9_names_4]
    refine V_iload_n hc dX9_names_4 rfl 3 rfl ?_
    refine V_iconst (v := 1) hc dX9_names_5 (by decide) ?_
    refine V_iadd hc dX9_names_6 ?_
    refine V_aload_n hc dX9_names_7 rfl 0 rfl ?_
    refine V_geti (C := RX9) (T := TX9) (N := 28) hc sP24 rfl qX9_names_RX9 27 rfl (by decide) kX9_names_127 rfl dX9_names_8 ?_
    refine V_icmp_ge (tgt := 77) hc dX9_names_11 (by decide) ?_ ?_
    · exact V_sub [0, 1, 2, 3] rfl (hk _ _)
    · refine V_aload_n hc dX9_names_14 rfl 0 rfl ?_
      refine V_getr (C := RX9) (T := TX9) (N := 28) hc sP24 rfl qX9_names_RX9 26 rfl (by decide) kX9_names_82 rfl dX9_names_15 ?_
      refine V_iload_n hc dX9_names_18 rfl 3 rfl ?_
      refine V_iconst (v := 1) hc dX9_names_19 (by decide) ?_
      refine V_iadd hc dX9_names_20 ?_
      refine V_cald hc sP48 dX9_names_21 ?_
      refine V_bipush (v := 48) hc dX9_names_22 (by decide) ?_
      refine V_isub hc dX9_names_24 ?_
      refine V_istore (lv' := [(4, .int ((gA t0 45 (ix (x3 + 1))) - 48)), (0, .ref (K.2.2 24)), (1, .int b1), (2, .int x2), (3, .int x3)]) hc dX9_names_25 (by decide) rfl ?_
      refine V_iload_n hc dX9_names_27 rfl 3 rfl ?_
      refine V_if_eq (tgt := 69) hc dX9_names_28 (by decide) ?_ ?_
      · refine V_iconst (v := 0) hc dX9_names_69 (by decide) ?_
        refine V_istore_n (lv' := [(2, .int 0), (4, .int ((gA t0 45 (ix (x3 + 1))) - 48)), (0, .ref (K.2.2 24)), (1, .int b1), (3, .int x3)]) hc dX9_names_70 rfl (by decide) rfl ?_
        refine V_iinc (v := (x3 + 1)) (lv' := [(3, .int (x3 + 1)), (2, .int 0), (4, .int ((gA t0 45 (ix (x3 + 1))) - 48)), (0, .ref (K.2.2 24)), (1, .int b1)]) hc dX9_names_71 4 rfl rfl (by decide) rfl ?_
        refine V_goto (tgt := 4) hc dX9_names_74 (by decide) ?_
        exact V_sub [3, 4, 1, 0] rfl (ih _ _)
      · refine V_aload_n hc dX9_names_31 rfl 1 rfl ?_
        refine V_getr (C := RX9) (T := TX9) (N := 28) hc sP24 rfl qX9_names_RX9 26 rfl (by decide) kX9_names_82 rfl dX9_names_32 ?_
        refine V_iload_n hc dX9_names_35 rfl 4 rfl ?_
        refine V_cald hc sP48 dX9_names_36 ?_
        refine V_bipush (v := 97) hc dX9_names_37 (by decide) ?_
        refine V_icmp_ne (tgt := 65) hc dX9_names_39 (by decide) ?_ ?_
        · refine V_iconst (v := 1) hc dX9_names_65 (by decide) ?_
          refine V_goto (tgt := 70) hc dX9_names_66 (by decide) ?_
          refine V_istore_n (lv' := [(2, .int 1), (4, .int ((gA t0 45 (ix (x3 + 1))) - 48)), (0, .ref (K.2.2 24)), (1, .int b1), (3, .int x3)]) hc dX9_names_70 rfl (by decide) rfl ?_
          refine V_iinc (v := (x3 + 1)) (lv' := [(3, .int (x3 + 1)), (2, .int 1), (4, .int ((gA t0 45 (ix (x3 + 1))) - 48)), (0, .ref (K.2.2 24)), (1, .int b1)]) hc dX9_names_71 4 rfl rfl (by decide) rfl ?_
          refine V_goto (tgt := 4) hc dX9_names_74 (by decide) ?_
          exact V_sub [3, 4, 1, 0] rfl (ih _ _)
        · refine V_iload hc dX9_names_42 0 rfl ?_
          refine V_bipush (v := 8) hc dX9_names_44 (by decide) ?_
          refine V_icmp_ge (tgt := 69) hc dX9_names_46 (by decide) ?_ ?_
          · refine V_iconst (v := 0) hc dX9_names_69 (by decide) ?_
            refine V_istore_n (lv' := [(2, .int 0), (4, .int ((gA t0 45 (ix (x3 + 1))) - 48)), (0, .ref (K.2.2 24)), (1, .int b1), (3, .int x3)]) hc dX9_names_70 rfl (by decide) rfl ?_
            refine V_iinc (v := (x3 + 1)) (lv' := [(3, .int (x3 + 1)), (2, .int 0), (4, .int ((gA t0 45 (ix (x3 + 1))) - 48)), (0, .ref (K.2.2 24)), (1, .int b1)]) hc dX9_names_71 4 rfl rfl (by decide) rfl ?_
            refine V_goto (tgt := 4) hc dX9_names_74 (by decide) ?_
            exact V_sub [3, 4, 1, 0] rfl (ih _ _)
          · refine V_iload hc dX9_names_49 0 rfl ?_
            refine V_iload_n hc dX9_names_51 rfl 2 rfl ?_
            refine V_icmp_ge (tgt := 69) hc dX9_names_52 (by decide) ?_ ?_
            · refine V_iconst (v := 0) hc dX9_names_69 (by decide) ?_
              refine V_istore_n (lv' := [(2, .int 0), (4, .int ((gA t0 45 (ix (x3 + 1))) - 48)), (0, .ref (K.2.2 24)), (1, .int b1), (3, .int x3)]) hc dX9_names_70 rfl (by decide) rfl ?_
              refine V_iinc (v := (x3 + 1)) (lv' := [(3, .int (x3 + 1)), (2, .int 0), (4, .int ((gA t0 45 (ix (x3 + 1))) - 48)), (0, .ref (K.2.2 24)), (1, .int b1)]) hc dX9_names_71 4 rfl rfl (by decide) rfl ?_
              refine V_goto (tgt := 4) hc dX9_names_74 (by decide) ?_
              exact V_sub [3, 4, 1, 0] rfl (ih _ _)
            · refine V_aload_n hc dX9_names_55 rfl 1 rfl ?_
              refine V_getr (C := RX9) (T := TX9) (N := 28) hc sP24 rfl qX9_names_RX9 13 rfl (by decide) kX9_names_48 rfl dX9_names_56 ?_
              refine V_iload hc dX9_names_59 0 rfl ?_
              refine V_zald hc sP37 dX9_names_61 ?_
              refine V_bdi (fun v1 => ?_)
              refine V_if_eq (tgt := 69) hc dX9_names_62 (by decide) ?_ ?_
              · refine V_iconst (v := 0) hc dX9_names_69 (by decide) ?_
                refine V_istore_n (lv' := [(2, .int 0), (4, .int ((gA t0 45 (ix (x3 + 1))) - 48)), (0, .ref (K.2.2 24)), (1, .int b1), (3, .int x3)]) hc dX9_names_70 rfl (by decide) rfl ?_
                refine V_iinc (v := (x3 + 1)) (lv' := [(3, .int (x3 + 1)), (2, .int 0), (4, .int ((gA t0 45 (ix (x3 + 1))) - 48)), (0, .ref (K.2.2 24)), (1, .int b1)]) hc dX9_names_71 4 rfl rfl (by decide) rfl ?_
                refine V_goto (tgt := 4) hc dX9_names_74 (by decide) ?_
                exact V_sub [3, 4, 1, 0] rfl (ih _ _)
              · refine V_iconst (v := 1) hc dX9_names_65 (by decide) ?_
                refine V_goto (tgt := 70) hc dX9_names_66 (by decide) ?_
                refine V_istore_n (lv' := [(2, .int 1), (4, .int ((gA t0 45 (ix (x3 + 1))) - 48)), (0, .ref (K.2.2 24)), (1, .int b1), (3, .int x3)]) hc dX9_names_70 rfl (by decide) rfl ?_
                refine V_iinc (v := (x3 + 1)) (lv' := [(3, .int (x3 + 1)), (2, .int 1), (4, .int ((gA t0 45 (ix (x3 + 1))) - 48)), (0, .ref (K.2.2 24)), (1, .int b1)]) hc dX9_names_71 4 rfl rfl (by decide) rfl ?_
                refine V_goto (tgt := 4) hc dX9_names_74 (by decide) ?_
                exact V_sub [3, 4, 1, 0] rfl (ih _ _)
noncomputable def f_X9_names (t : Sx) (a1 : Int32) : Option Int32 := L_X9_names_4 t (a1) (fun z2 z3 => gd (gz z2) (some z2)) FU (1) (0)
set_option maxRecDepth 20000 in
set_option maxHeartbeats 4000000 in
theorem c_X9_names (l : Launch) (K : Kx) (t : Sx) (a1 : Int32) : CT l K yX9_names wsX9_names ({ frames := 0, cells := 0, slots := 0, locals := 0 } : Room) [.ref (K.2.2 24), .int a1] t (f_X9_names t a1) (kRI t) := by
  refine CT_of (cc := cX9_names) (maxL := 5) (ret := (some .boolean)) (own := RX9) (by decide +kernel) rfl rfl (Nat.le_of_ble_eq_true rfl) ?_
  intro p e s m args below meth c hc
  refine V_sub (lv' := [(0, .ref (K.2.2 24)), (1, .int a1)]) [0, 1] rfl ?_
  unfold f_X9_names
  refine V_iconst (v := 1) hc dX9_names_0 (by decide) ?_
  refine V_istore_n (lv' := [(2, .int 1), (0, .ref (K.2.2 24)), (1, .int a1)]) hc dX9_names_1 rfl (by decide) rfl ?_
  refine V_iconst (v := 0) hc dX9_names_2 (by decide) ?_
  refine V_istore_n (lv' := [(3, .int 0), (2, .int 1), (0, .ref (K.2.2 24)), (1, .int a1)]) hc dX9_names_3 rfl (by decide) rfl ?_
  refine V_sub (lv' := [(0, .ref (K.2.2 24)), (1, .int a1), (2, .int 1), (3, .int 0)]) [2, 3, 1, 0] rfl ?_
  refine L_X9_names_4_ok hc t (a1) _ (fun z2 z3 => ?_) FU _ _
  refine V_iload_n hc dX9_names_77 rfl 2 rfl ?_
  exact V_zret hc rfl rfl dX9_names_78


noncomputable def f_X9_isRule (t : Sx) (a1 : Int32) : Option (Int32 × Sx) := (f_X9_fault t ).bind fun r1 => if r1 = (-4) then (f_X9_takesText t ).bind fun r2 => (f_X9_names r2 (a1)).bind fun r3 => gd (gz r3) (some (r3, r2)) else some (0, t)
set_option maxRecDepth 20000 in
set_option maxHeartbeats 4000000 in
theorem c_X9_isRule (l : Launch) (K : Kx) (t : Sx) (a1 : Int32) : CT l K yX9_isRule wsX9_isRule ({ frames := 3, cells := 0, slots := 0, locals := 67 } : Room) [.ref (K.2.2 24), .int a1] t (f_X9_isRule t a1) kWI := by
  refine CT_of (cc := cX9_isRule) (maxL := 2) (ret := (some .boolean)) (own := RX9) (by decide +kernel) rfl rfl (Nat.le_of_ble_eq_true rfl) ?_
  intro p e s m args below meth c hc
  refine V_sub (lv' := [(0, .ref (K.2.2 24)), (1, .int a1)]) [0, 1] rfl ?_
  unfold f_X9_isRule
  refine V_aload_n hc dX9_isRule_0 rfl 0 rfl ?_
  refine V_callV_RI (Cn := RX9) (T := TX9) (N := 28) hc (c_X9_fault l K t ) sP24 rfl 0 gX9_isRule_X9_fault rfl ⟨rfl, rfl⟩ (by decide) ⟨Nat.le_of_ble_eq_true rfl, Nat.le_of_ble_eq_true rfl⟩ rfl rfl (Nat.le_of_ble_eq_true rfl) dX9_isRule_1 (fun r1 => ?_)
  refine V_bipush (v := (-4)) hc dX9_isRule_4 (by decide) ?_
  refine V_icmp_eq (tgt := 11) hc dX9_isRule_6 (by decide) ?_ ?_
  · refine V_aload_n hc dX9_isRule_11 rfl 0 rfl ?_
    refine V_callV_WV (Cn := RX9) (T := TX9) (N := 28) hc (c_X9_takesText l K t ) sP24 rfl 0 gX9_isRule_X9_takesText rfl ⟨rfl, rfl⟩ (by decide) ⟨Nat.le_of_ble_eq_true rfl, Nat.le_of_ble_eq_true rfl⟩ rfl rfl (Nat.le_of_ble_eq_true rfl) dX9_isRule_12 (fun r2 => ?_)
    refine V_aload_n hc dX9_isRule_15 rfl 0 rfl ?_
    refine V_iload_n hc dX9_isRule_16 rfl 1 rfl ?_
    refine V_callV_RI (Cn := RX9) (T := TX9) (N := 28) hc (c_X9_names l K r2 (a1)) sP24 rfl 1 gX9_isRule_X9_names rfl ⟨rfl, rfl⟩ (by decide) ⟨Nat.le_of_ble_eq_true rfl, Nat.le_of_ble_eq_true rfl⟩ rfl rfl (Nat.le_of_ble_eq_true rfl) dX9_isRule_17 (fun r3 => ?_)
    exact V_zret hc rfl rfl dX9_isRule_20
  · refine V_iconst (v := 0) hc dX9_isRule_9 (by decide) ?_
    exact V_nret hc rfl rfl rfl dX9_isRule_10

theorem kX9_notes_167 : Cond.fieldLink RX9 167 RX9 (TX9 20).2.1 (TX9 20).2.2.1 ∈ wsX9_notes := by decide +kernel
theorem qX9_notes_RX9 : ∀ w ∈ u_ws RX9 TX9 28, w ∈ wsX9_notes := by
  first
  | exact fun _ h => List.mem_cons_of_mem _ (List.mem_append_right _ h)
  | exact fun _ h => List.mem_cons_of_mem _ (List.mem_append_left _ (List.mem_append_right _ h))
  | exact fun _ h => List.mem_cons_of_mem _ (List.mem_append_left _ (List.mem_append_left _ (List.mem_append_right _ h)))
  | exact fun _ h => List.mem_cons_of_mem _ (List.mem_append_left _ (List.mem_append_left _ (List.mem_append_left _ (List.mem_append_right _ h))))
  | exact fun _ h => List.mem_cons_of_mem _ (List.mem_append_left _ (List.mem_append_left _ (List.mem_append_left _ (List.mem_append_left _ (List.mem_append_right _ h)))))
  | decide +kernel
theorem kX9_notes_70 : Cond.fieldLink RX9 70 RX9 (TX9 21).2.1 (TX9 21).2.2.1 ∈ wsX9_notes := by decide +kernel
theorem kX9_notes_67 : Cond.fieldLink RX9 67 RX9 (TX9 19).2.1 (TX9 19).2.2.1 ∈ wsX9_notes := by decide +kernel
noncomputable def L_X9_notes_28 (b1 : Int32) (b2 : Int32) (b3 : Int32) (b4 : Int32) (kont : Int32 → Sx → Option Sx) : Nat → Int32 → Sx → Option Sx
  | 0, _, _ => none
  | n + 1, x5, y => if x5 < 0 then kont (x5) (y) else gd (vp_in x5 72) (gd (vp_in (x5 + 3) 72) (bd (pA y 41 (ix (x5 + 3)) (gA y 41 (ix x5))) fun t1 => L_X9_notes_28 b1 b2 b3 b4 kont n ((x5 + (-1))) (t1)))
set_option maxRecDepth 20000 in
set_option maxHeartbeats 4000000 in
theorem L_X9_notes_28_ok {p : Program} {l : Launch} {K : Kx} {e : Env} {s : State} {m : MethodId} {args : Array Value} {below : List Frame} {meth : Method} {c : Code} (hc : Cx p ({ frames := 0, cells := 0, slots := 0, locals := 0 } : Room) s m args meth c cX9_notes 6 wsX9_notes RX9 K (aA K s.heap.size) none 0 0) (b1 : Int32) (b2 : Int32) (b3 : Int32) (b4 : Int32) (kont : Int32 → Sx → Option Sx) (hk : ∀ x5 y, V p l e ({ frames := 0, cells := 0, slots := 0, locals := 0 } : Room) s m args below meth c K (aA K s.heap.size) 0 0 6 (QM below K args s kWV) 55 [(0, .ref (K.2.2 24)), (1, .int b1), (2, .int b2), (3, .int b3), (4, .int b4), (5, .int x5)] [] y (kont x5 y)) : ∀ (n : Nat) (x5 : Int32) (y : Sx), V p l e ({ frames := 0, cells := 0, slots := 0, locals := 0 } : Room) s m args below meth c K (aA K s.heap.size) 0 0 6 (QM below K args s kWV) 28 [(0, .ref (K.2.2 24)), (1, .int b1), (2, .int b2), (3, .int b3), (4, .int b4), (5, .int x5)] [] y (L_X9_notes_28 b1 b2 b3 b4 kont n x5 y) := by
  intro n
  induction n with
  | zero => intro x5 y; exact V_none
  | succ n ih =>
    intro x5 y
    rw [L_X9_notes_28]
    refine V_iload hc dX9_notes_28 5 rfl ?_
    refine V_if_lt (tgt := 55) hc dX9_notes_30 (by decide) ?_ ?_
    · exact V_sub [0, 1, 2, 3, 4, 5] rfl (hk _ _)
    · refine V_aload_n hc dX9_notes_33 rfl 0 rfl ?_
      refine V_getr (C := RX9) (T := TX9) (N := 28) hc sP24 rfl qX9_notes_RX9 21 rfl (by decide) kX9_notes_70 rfl dX9_notes_34 ?_
      refine V_iload hc dX9_notes_37 5 rfl ?_
      refine V_iconst (v := 3) hc dX9_notes_39 (by decide) ?_
      refine V_iadd hc dX9_notes_40 ?_
      refine V_aload_n hc dX9_notes_41 rfl 0 rfl ?_
      refine V_getr (C := RX9) (T := TX9) (N := 28) hc sP24 rfl qX9_notes_RX9 21 rfl (by decide) kX9_notes_70 rfl dX9_notes_42 ?_
      refine V_iload hc dX9_notes_45 5 rfl ?_
      refine V_iald hc sP44 dX9_notes_47 ?_
      refine V_iast hc sP44 dX9_notes_48 ?_
      refine V_bds (fun t1 => ?_)
      refine V_iinc (v := (x5 + (-1))) (lv' := [(5, .int (x5 + (-1))), (0, .ref (K.2.2 24)), (1, .int b1), (2, .int b2), (3, .int b3), (4, .int b4)]) hc dX9_notes_49 5 rfl rfl (by decide) rfl ?_
      refine V_goto (tgt := 28) hc dX9_notes_52 (by decide) ?_
      exact V_sub [1, 2, 3, 4, 5, 0] rfl (ih _ _)
noncomputable def f_X9_notes (t : Sx) (a1 : Int32) (a2 : Int32) (a3 : Int32) : Option Sx := if 24 ≤ (gI t 53) then L_X9_notes_28 (a1) (a2) (a3) (23) (fun z2 t3 => gd (vp_in 0 72) (bd (pA t3 41 (ix 0) a1) fun t4 => gd (vp_in 1 72) (bd (pA t4 41 (ix 1) a2) fun t5 => gd (vp_in 2 72) (bd (pA t5 41 (ix 2) a3) fun t6 => bd (pI t6 53 (23 + 1)) fun t7 => gd (vp_in ((2 * a1) + a3) 16) (gd (vp_in ((2 * a1) + a3) 16) (bd (pA t7 40 (ix ((2 * a1) + a3)) ((gA t7 40 (ix ((2 * a1) + a3))) + 1)) fun t8 => some t8)))))) FU (((3 * 23) - 1)) (t) else L_X9_notes_28 (a1) (a2) (a3) ((gI t 53)) (fun z9 t10 => gd (vp_in 0 72) (bd (pA t10 41 (ix 0) a1) fun t11 => gd (vp_in 1 72) (bd (pA t11 41 (ix 1) a2) fun t12 => gd (vp_in 2 72) (bd (pA t12 41 (ix 2) a3) fun t13 => bd (pI t13 53 ((gI t 53) + 1)) fun t14 => gd (vp_in ((2 * a1) + a3) 16) (gd (vp_in ((2 * a1) + a3) 16) (bd (pA t14 40 (ix ((2 * a1) + a3)) ((gA t14 40 (ix ((2 * a1) + a3))) + 1)) fun t15 => some t15)))))) FU (((3 * (gI t 53)) - 1)) (t)
set_option maxRecDepth 20000 in
set_option maxHeartbeats 4000000 in
theorem c_X9_notes (l : Launch) (K : Kx) (t : Sx) (a1 : Int32) (a2 : Int32) (a3 : Int32) : CT l K yX9_notes wsX9_notes ({ frames := 0, cells := 0, slots := 0, locals := 0 } : Room) [.ref (K.2.2 24), .int a1, .int a2, .int a3] t (f_X9_notes t a1 a2 a3) kWV := by
  refine CT_of (cc := cX9_notes) (maxL := 6) (ret := none) (own := RX9) (by decide +kernel) rfl rfl (Nat.le_of_ble_eq_true rfl) ?_
  intro p e s m args below meth c hc
  refine V_sub (lv' := [(0, .ref (K.2.2 24)), (1, .int a1), (2, .int a2), (3, .int a3)]) [0, 1, 2, 3] rfl ?_
  unfold f_X9_notes
  refine V_aload_n hc dX9_notes_0 rfl 0 rfl ?_
  refine V_geti (C := RX9) (T := TX9) (N := 28) hc sP24 rfl qX9_notes_RX9 20 rfl (by decide) kX9_notes_167 rfl dX9_notes_1 ?_
  refine V_bipush (v := 24) hc dX9_notes_4 (by decide) ?_
  refine V_icmp_ge (tgt := 16) hc dX9_notes_6 (by decide) ?_ ?_
  · refine V_bipush (v := 23) hc dX9_notes_16 (by decide) ?_
    refine V_istore (lv' := [(4, .int 23), (0, .ref (K.2.2 24)), (1, .int a1), (2, .int a2), (3, .int a3)]) hc dX9_notes_18 (by decide) rfl ?_
    refine V_iconst (v := 3) hc dX9_notes_20 (by decide) ?_
    refine V_iload hc dX9_notes_21 0 rfl ?_
    refine V_imul hc dX9_notes_23 ?_
    refine V_iconst (v := 1) hc dX9_notes_24 (by decide) ?_
    refine V_isub hc dX9_notes_25 ?_
    refine V_istore (lv' := [(5, .int ((3 * 23) - 1)), (4, .int 23), (0, .ref (K.2.2 24)), (1, .int a1), (2, .int a2), (3, .int a3)]) hc dX9_notes_26 (by decide) rfl ?_
    refine V_sub (lv' := [(0, .ref (K.2.2 24)), (1, .int a1), (2, .int a2), (3, .int a3), (4, .int 23), (5, .int ((3 * 23) - 1))]) [2, 3, 4, 5, 1, 0] rfl ?_
    refine L_X9_notes_28_ok hc (a1) (a2) (a3) (23) _ (fun z2 t3 => ?_) FU _ _
    refine V_aload_n hc dX9_notes_55 rfl 0 rfl ?_
    refine V_getr (C := RX9) (T := TX9) (N := 28) hc sP24 rfl qX9_notes_RX9 21 rfl (by decide) kX9_notes_70 rfl dX9_notes_56 ?_
    refine V_iconst (v := 0) hc dX9_notes_59 (by decide) ?_
    refine V_iload_n hc dX9_notes_60 rfl 1 rfl ?_
    refine V_iast hc sP44 dX9_notes_61 ?_
    refine V_bds (fun t4 => ?_)
    refine V_aload_n hc dX9_notes_62 rfl 0 rfl ?_
    refine V_getr (C := RX9) (T := TX9) (N := 28) hc sP24 rfl qX9_notes_RX9 21 rfl (by decide) kX9_notes_70 rfl dX9_notes_63 ?_
    refine V_iconst (v := 1) hc dX9_notes_66 (by decide) ?_
    refine V_iload_n hc dX9_notes_67 rfl 2 rfl ?_
    refine V_iast hc sP44 dX9_notes_68 ?_
    refine V_bds (fun t5 => ?_)
    refine V_aload_n hc dX9_notes_69 rfl 0 rfl ?_
    refine V_getr (C := RX9) (T := TX9) (N := 28) hc sP24 rfl qX9_notes_RX9 21 rfl (by decide) kX9_notes_70 rfl dX9_notes_70 ?_
    refine V_iconst (v := 2) hc dX9_notes_73 (by decide) ?_
    refine V_iload_n hc dX9_notes_74 rfl 3 rfl ?_
    refine V_iast hc sP44 dX9_notes_75 ?_
    refine V_bds (fun t6 => ?_)
    refine V_aload_n hc dX9_notes_76 rfl 0 rfl ?_
    refine V_iload hc dX9_notes_77 4 rfl ?_
    refine V_iconst (v := 1) hc dX9_notes_79 (by decide) ?_
    refine V_iadd hc dX9_notes_80 ?_
    refine V_puti (C := RX9) (T := TX9) (N := 28) hc sP24 rfl qX9_notes_RX9 20 rfl (by decide) kX9_notes_167 rfl tyX9 tyX9_ok nmX9 rfl (tyX9_ok 20 (by decide)) dX9_notes_81 ?_
    refine V_bds (fun t7 => ?_)
    refine V_aload_n hc dX9_notes_84 rfl 0 rfl ?_
    refine V_getr (C := RX9) (T := TX9) (N := 28) hc sP24 rfl qX9_notes_RX9 19 rfl (by decide) kX9_notes_67 rfl dX9_notes_85 ?_
    refine V_iconst (v := 2) hc dX9_notes_88 (by decide) ?_
    refine V_iload_n hc dX9_notes_89 rfl 1 rfl ?_
    refine V_imul hc dX9_notes_90 ?_
    refine V_iload_n hc dX9_notes_91 rfl 3 rfl ?_
    refine V_iadd hc dX9_notes_92 ?_
    refine V_dup2_11 hc dX9_notes_93 rfl rfl ?_
    refine V_iald hc sP43 dX9_notes_94 ?_
    refine V_iconst (v := 1) hc dX9_notes_95 (by decide) ?_
    refine V_iadd hc dX9_notes_96 ?_
    refine V_iast hc sP43 dX9_notes_97 ?_
    refine V_bds (fun t8 => ?_)
    exact V_vret hc rfl rfl dX9_notes_98
  · refine V_aload_n hc dX9_notes_9 rfl 0 rfl ?_
    refine V_geti (C := RX9) (T := TX9) (N := 28) hc sP24 rfl qX9_notes_RX9 20 rfl (by decide) kX9_notes_167 rfl dX9_notes_10 ?_
    refine V_goto (tgt := 18) hc dX9_notes_13 (by decide) ?_
    refine V_istore (lv' := [(4, .int (gI t 53)), (0, .ref (K.2.2 24)), (1, .int a1), (2, .int a2), (3, .int a3)]) hc dX9_notes_18 (by decide) rfl ?_
    refine V_iconst (v := 3) hc dX9_notes_20 (by decide) ?_
    refine V_iload hc dX9_notes_21 0 rfl ?_
    refine V_imul hc dX9_notes_23 ?_
    refine V_iconst (v := 1) hc dX9_notes_24 (by decide) ?_
    refine V_isub hc dX9_notes_25 ?_
    refine V_istore (lv' := [(5, .int ((3 * (gI t 53)) - 1)), (4, .int (gI t 53)), (0, .ref (K.2.2 24)), (1, .int a1), (2, .int a2), (3, .int a3)]) hc dX9_notes_26 (by decide) rfl ?_
    refine V_sub (lv' := [(0, .ref (K.2.2 24)), (1, .int a1), (2, .int a2), (3, .int a3), (4, .int (gI t 53)), (5, .int ((3 * (gI t 53)) - 1))]) [2, 3, 4, 5, 1, 0] rfl ?_
    refine L_X9_notes_28_ok hc (a1) (a2) (a3) ((gI t 53)) _ (fun z9 t10 => ?_) FU _ _
    refine V_aload_n hc dX9_notes_55 rfl 0 rfl ?_
    refine V_getr (C := RX9) (T := TX9) (N := 28) hc sP24 rfl qX9_notes_RX9 21 rfl (by decide) kX9_notes_70 rfl dX9_notes_56 ?_
    refine V_iconst (v := 0) hc dX9_notes_59 (by decide) ?_
    refine V_iload_n hc dX9_notes_60 rfl 1 rfl ?_
    refine V_iast hc sP44 dX9_notes_61 ?_
    refine V_bds (fun t11 => ?_)
    refine V_aload_n hc dX9_notes_62 rfl 0 rfl ?_
    refine V_getr (C := RX9) (T := TX9) (N := 28) hc sP24 rfl qX9_notes_RX9 21 rfl (by decide) kX9_notes_70 rfl dX9_notes_63 ?_
    refine V_iconst (v := 1) hc dX9_notes_66 (by decide) ?_
    refine V_iload_n hc dX9_notes_67 rfl 2 rfl ?_
    refine V_iast hc sP44 dX9_notes_68 ?_
    refine V_bds (fun t12 => ?_)
    refine V_aload_n hc dX9_notes_69 rfl 0 rfl ?_
    refine V_getr (C := RX9) (T := TX9) (N := 28) hc sP24 rfl qX9_notes_RX9 21 rfl (by decide) kX9_notes_70 rfl dX9_notes_70 ?_
    refine V_iconst (v := 2) hc dX9_notes_73 (by decide) ?_
    refine V_iload_n hc dX9_notes_74 rfl 3 rfl ?_
    refine V_iast hc sP44 dX9_notes_75 ?_
    refine V_bds (fun t13 => ?_)
    refine V_aload_n hc dX9_notes_76 rfl 0 rfl ?_
    refine V_iload hc dX9_notes_77 4 rfl ?_
    refine V_iconst (v := 1) hc dX9_notes_79 (by decide) ?_
    refine V_iadd hc dX9_notes_80 ?_
    refine V_puti (C := RX9) (T := TX9) (N := 28) hc sP24 rfl qX9_notes_RX9 20 rfl (by decide) kX9_notes_167 rfl tyX9 tyX9_ok nmX9 rfl (tyX9_ok 20 (by decide)) dX9_notes_81 ?_
    refine V_bds (fun t14 => ?_)
    refine V_aload_n hc dX9_notes_84 rfl 0 rfl ?_
    refine V_getr (C := RX9) (T := TX9) (N := 28) hc sP24 rfl qX9_notes_RX9 19 rfl (by decide) kX9_notes_67 rfl dX9_notes_85 ?_
    refine V_iconst (v := 2) hc dX9_notes_88 (by decide) ?_
    refine V_iload_n hc dX9_notes_89 rfl 1 rfl ?_
    refine V_imul hc dX9_notes_90 ?_
    refine V_iload_n hc dX9_notes_91 rfl 3 rfl ?_
    refine V_iadd hc dX9_notes_92 ?_
    refine V_dup2_11 hc dX9_notes_93 rfl rfl ?_
    refine V_iald hc sP43 dX9_notes_94 ?_
    refine V_iconst (v := 1) hc dX9_notes_95 (by decide) ?_
    refine V_iadd hc dX9_notes_96 ?_
    refine V_iast hc sP43 dX9_notes_97 ?_
    refine V_bds (fun t15 => ?_)
    exact V_vret hc rfl rfl dX9_notes_98
