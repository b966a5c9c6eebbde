theorem kX0_exists_18 : Cond.fieldLink RX0 18 RX0 (TX0 1).2.1 (TX0 1).2.2.1 ∈ wsX0_exists := by decide +kernel
theorem qX0_exists_RX0 : ∀ w ∈ u_ws RX0 TX0 7, w ∈ wsX0_exists := by
  first
  | exact fun _ h => List.mem_cons_of_mem _ (List.mem_append_right _ h)
  | exact fun _ h => List.mem_cons_of_mem _ (List.mem_append_left _ (List.mem_append_right _ h))
  | exact fun _ h => List.mem_cons_of_mem _ (List.mem_append_left _ (List.mem_append_left _ (List.mem_append_right _ h)))
  | exact fun _ h => List.mem_cons_of_mem _ (List.mem_append_left _ (List.mem_append_left _ (List.mem_append_left _ (List.mem_append_right _ h))))
  | exact fun _ h => List.mem_cons_of_mem _ (List.mem_append_left _ (List.mem_append_left _ (List.mem_append_left _ (List.mem_append_left _ (List.mem_append_right _ h)))))
  | decide +kernel
noncomputable def f_X0_exists (t : Sx) (k0 : Nat) : Option Int32 := gd (gz (gI t (100 + k0))) (some (gI t (100 + k0)))
set_option maxRecDepth 20000 in
set_option maxHeartbeats 4000000 in
theorem c_X0_exists (l : Launch) (K : Kx) (t : Sx) (k0 : Nat) (hk0 : k0 < 8) : CT l K yX0_exists wsX0_exists ({ frames := 0, cells := 0, slots := 0, locals := 0 } : Room) [.ref (K.2.2 (24 + k0))] t (f_X0_exists t k0) (kRI t) := by
  refine CT_of (cc := cX0_exists) (maxL := 1) (ret := (some .boolean)) (own := RX0) (by decide +kernel) rfl rfl (Nat.le_of_ble_eq_true rfl) ?_
  intro p e s m args below meth c hc
  refine V_sub (lv' := [(0, .ref (K.2.2 (24 + k0)))]) [0] rfl ?_
  unfold f_X0_exists
  refine V_aload_n hc dX0_exists_0 rfl 0 rfl ?_
  refine V_geti (C := RX0) (T := TX0) (N := 7) hc (sh_alb hk0) rfl qX0_exists_RX0 1 rfl (by decide) kX0_exists_18 rfl dX0_exists_1 ?_
  exact V_zret hc rfl rfl dX0_exists_4

theorem kX0_rule_12 : Cond.fieldLink RX0 12 RX0 (TX0 0).2.1 (TX0 0).2.2.1 ∈ wsX0_rule := by decide +kernel
theorem qX0_rule_RX0 : ∀ w ∈ u_ws RX0 TX0 7, w ∈ wsX0_rule := by
  first
  | exact fun _ h => List.mem_cons_of_mem _ (List.mem_append_right _ h)
  | exact fun _ h => List.mem_cons_of_mem _ (List.mem_append_left _ (List.mem_append_right _ h))
  | exact fun _ h => List.mem_cons_of_mem _ (List.mem_append_left _ (List.mem_append_left _ (List.mem_append_right _ h)))
  | exact fun _ h => List.mem_cons_of_mem _ (List.mem_append_left _ (List.mem_append_left _ (List.mem_append_left _ (List.mem_append_right _ h))))
  | exact fun _ h => List.mem_cons_of_mem _ (List.mem_append_left _ (List.mem_append_left _ (List.mem_append_left _ (List.mem_append_left _ (List.mem_append_right _ h)))))
  | decide +kernel
noncomputable def f_X0_rule (t : Sx) (k0 : Nat) : Option Nat := some (32 + k0)
set_option maxRecDepth 20000 in
set_option maxHeartbeats 4000000 in
theorem c_X0_rule (l : Launch) (K : Kx) (t : Sx) (k0 : Nat) (hk0 : k0 < 8) : CT l K yX0_rule wsX0_rule ({ frames := 0, cells := 0, slots := 0, locals := 0 } : Room) [.ref (K.2.2 (24 + k0))] t (f_X0_rule t k0) (kRR K t) := by
  refine CT_of (cc := cX0_rule) (maxL := 1) (ret := (some (.object "MediaCatalog$RuleText"))) (own := RX0) (by decide +kernel) rfl rfl (Nat.le_of_ble_eq_true rfl) ?_
  intro p e s m args below meth c hc
  refine V_sub (lv' := [(0, .ref (K.2.2 (24 + k0)))]) [0] rfl ?_
  unfold f_X0_rule
  refine V_aload_n hc dX0_rule_0 rfl 0 rfl ?_
  refine V_getr (C := RX0) (T := TX0) (N := 7) hc (sh_alb hk0) rfl qX0_rule_RX0 0 rfl (by decide) kX0_rule_12 rfl dX0_rule_1 ?_
  exact V_aret hc rfl rfl dX0_rule_4

theorem kX0_members_22 : Cond.fieldLink RX0 22 RX0 (TX0 2).2.1 (TX0 2).2.2.1 ∈ wsX0_members := by decide +kernel
theorem qX0_members_RX0 : ∀ w ∈ u_ws RX0 TX0 7, w ∈ wsX0_members := by
  first
  | exact fun _ h => List.mem_cons_of_mem _ (List.mem_append_right _ h)
  | exact fun _ h => List.mem_cons_of_mem _ (List.mem_append_left _ (List.mem_append_right _ h))
  | exact fun _ h => List.mem_cons_of_mem _ (List.mem_append_left _ (List.mem_append_left _ (List.mem_append_right _ h)))
  | exact fun _ h => List.mem_cons_of_mem _ (List.mem_append_left _ (List.mem_append_left _ (List.mem_append_left _ (List.mem_append_right _ h))))
  | exact fun _ h => List.mem_cons_of_mem _ (List.mem_append_left _ (List.mem_append_left _ (List.mem_append_left _ (List.mem_append_left _ (List.mem_append_right _ h)))))
  | decide +kernel
noncomputable def f_X0_members (t : Sx) (k0 : Nat) : Option Int64 := some (gL t (100 + k0))
set_option maxRecDepth 20000 in
set_option maxHeartbeats 4000000 in
theorem c_X0_members (l : Launch) (K : Kx) (t : Sx) (k0 : Nat) (hk0 : k0 < 8) : CT l K yX0_members wsX0_members ({ frames := 0, cells := 0, slots := 0, locals := 0 } : Room) [.ref (K.2.2 (24 + k0))] t (f_X0_members t k0) (kRL t) := by
  refine CT_of (cc := cX0_members) (maxL := 1) (ret := (some .long)) (own := RX0) (by decide +kernel) rfl rfl (Nat.le_of_ble_eq_true rfl) ?_
  intro p e s m args below meth c hc
  refine V_sub (lv' := [(0, .ref (K.2.2 (24 + k0)))]) [0] rfl ?_
  unfold f_X0_members
  refine V_aload_n hc dX0_members_0 rfl 0 rfl ?_
  refine V_getl (C := RX0) (T := TX0) (N := 7) hc (sh_alb hk0) rfl qX0_members_RX0 2 rfl (by decide) kX0_members_22 rfl dX0_members_1 ?_
  exact V_lret hc rfl rfl dX0_members_4

theorem kX0_become_22 : Cond.fieldLink RX0 22 RX0 (TX0 2).2.1 (TX0 2).2.2.1 ∈ wsX0_become := by decide +kernel
theorem qX0_become_RX0 : ∀ w ∈ u_ws RX0 TX0 7, w ∈ wsX0_become := by
  first
  | exact fun _ h => List.mem_cons_of_mem _ (List.mem_append_right _ h)
  | exact fun _ h => List.mem_cons_of_mem _ (List.mem_append_left _ (List.mem_append_right _ h))
  | exact fun _ h => List.mem_cons_of_mem _ (List.mem_append_left _ (List.mem_append_left _ (List.mem_append_right _ h)))
  | exact fun _ h => List.mem_cons_of_mem _ (List.mem_append_left _ (List.mem_append_left _ (List.mem_append_left _ (List.mem_append_right _ h))))
  | exact fun _ h => List.mem_cons_of_mem _ (List.mem_append_left _ (List.mem_append_left _ (List.mem_append_left _ (List.mem_append_left _ (List.mem_append_right _ h)))))
  | decide +kernel
theorem wX0_become_in54 : Cond.initialized yX8_holds.cls ∈ wsX0_become := by decide +kernel
theorem wX0_become_st54 : Cond.static yX8_holds ∈ wsX0_become := by decide +kernel
theorem kX0_become_26 : Cond.fieldLink RX0 26 RX0 (TX0 5).2.1 (TX0 5).2.2.1 ∈ wsX0_become := by decide +kernel
theorem kX0_become_30 : Cond.fieldLink RX0 30 RX0 (TX0 6).2.1 (TX0 6).2.2.1 ∈ wsX0_become := by decide +kernel
noncomputable def L_X0_become_11 (b0 : Nat) (b1 : Int64) (b3 : Int32) (b5 : Int64) (kont : Int32 → Sx → Option Sx) : Nat → Int32 → Sx → Option Sx
  | 0, _, _ => none
  | n + 1, x7, y => if 40 ≤ x7 then kont (x7) (y) else (f_X8_holds y (b5) (x7)).bind fun r1 => if r1 = 0 then L_X0_become_11 b0 b1 b3 b5 kont n ((x7 + 1)) (y) else (f_X8_holds y (b1) (x7)).bind fun r2 => (f_X3_note y (b3) (x7) (r2)).bind fun r3 => if r2 = 0 then bd (pI r3 (130 + b0) ((gI r3 (130 + b0)) + 0)) fun t4 => if r2 = 0 then bd (pI t4 (140 + b0) ((gI t4 (140 + b0)) + 1)) fun t5 => L_X0_become_11 b0 b1 b3 b5 kont n ((x7 + 1)) (t5) else bd (pI t4 (140 + b0) ((gI t4 (140 + b0)) + 0)) fun t6 => L_X0_become_11 b0 b1 b3 b5 kont n ((x7 + 1)) (t6) else bd (pI r3 (130 + b0) ((gI r3 (130 + b0)) + 1)) fun t7 => if r2 = 0 then bd (pI t7 (140 + b0) ((gI t7 (140 + b0)) + 1)) fun t8 => L_X0_become_11 b0 b1 b3 b5 kont n ((x7 + 1)) (t8) else bd (pI t7 (140 + b0) ((gI t7 (140 + b0)) + 0)) fun t9 => L_X0_become_11 b0 b1 b3 b5 kont n ((x7 + 1)) (t9)
set_option maxRecDepth 20000 in
set_option maxHeartbeats 4000000 in
theorem L_X0_become_11_ok {p : Program} {l : Launch} {K : Kx} {e : Env} {s : State} {m : MethodId} {args : Array Value} {below : List Frame} {meth : Method} {c : Code} (hc : Cx p ({ frames := 2, cells := 0, slots := 0, locals := 44 } : Room) s m args meth c cX0_become 9 wsX0_become RX0 K (aA K s.heap.size) none 0 0) (b0 : Nat) (b1 : Int64) (b3 : Int32) (b5 : Int64) (hb0 : b0 < 8) (kont : Int32 → Sx → Option Sx) (hk : ∀ x7 y, V p l e ({ frames := 2, cells := 0, slots := 0, locals := 44 } : Room) s m args below meth c K (aA K s.heap.size) 0 0 9 (QM below K args s kWV) 90 [(0, .ref (K.2.2 (24 + b0))), (1, .long b1), (3, .int b3), (4, .ref (K.2.2 20)), (5, .long b5), (7, .int x7)] [] y (kont x7 y)) : ∀ (n : Nat) (x7 : Int32) (y : Sx), V p l e ({ frames := 2, cells := 0, slots := 0, locals := 44 } : Room) s m args below meth c K (aA K s.heap.size) 0 0 9 (QM below K args s kWV) 11 [(0, .ref (K.2.2 (24 + b0))), (1, .long b1), (3, .int b3), (4, .ref (K.2.2 20)), (5, .long b5), (7, .int x7)] [] y (L_X0_become_11 b0 b1 b3 b5 kont n x7 y) := by
  intro n
  induction n with
  | zero => intro x7 y; exact V_none
  | succ n ih =>
    intro x7 y
    rw [L_X0_become_11]
    refine V_iload hc dX0_become_11 5 rfl ?_
    refine V_bipush (v := 40) hc dX0_become_13 (by decide) ?_
    refine V_icmp_ge (tgt := 90) hc dX0_become_15 (by decide) ?_ ?_
    · exact V_sub [0, 1, 2, 3, 4, 5] rfl (hk _ _)
    · refine V_lload hc dX0_become_18 4 rfl ?_
      refine V_iload hc dX0_become_20 5 rfl ?_
      refine V_callN_RI hc (c_X8_holds l K y (b5) (x7)) 2 gX0_become_X8_holds_n54 rfl ⟨rfl, rfl⟩ (List.mem_of_getElem? (i := 9) rfl) wX0_become_in54 wX0_become_st54 (by decide) ⟨Nat.le_of_ble_eq_true rfl, Nat.le_of_ble_eq_true rfl⟩ rfl rfl (Nat.le_of_ble_eq_true rfl) dX0_become_22 (fun r1 => ?_)
      refine V_if_eq (tgt := 84) hc dX0_become_25 (by decide) ?_ ?_
      · refine V_iinc (v := (x7 + 1)) (lv' := [(7, .int (x7 + 1)), (0, .ref (K.2.2 (24 + b0))), (1, .long b1), (3, .int b3), (4, .ref (K.2.2 20)), (5, .long b5)]) hc dX0_become_84 5 rfl rfl (by decide) rfl ?_
        refine V_goto (tgt := 11) hc dX0_become_87 (by decide) ?_
        exact V_sub [1, 2, 3, 4, 5, 0] rfl (ih _ _)
      · refine V_lload_n hc dX0_become_28 rfl 1 rfl ?_
        refine V_iload hc dX0_become_29 5 rfl ?_
        refine V_callN_RI hc (c_X8_holds l K y (b1) (x7)) 2 gX0_become_X8_holds_n54 rfl ⟨rfl, rfl⟩ (List.mem_of_getElem? (i := 9) rfl) wX0_become_in54 wX0_become_st54 (by decide) ⟨Nat.le_of_ble_eq_true rfl, Nat.le_of_ble_eq_true rfl⟩ rfl rfl (Nat.le_of_ble_eq_true rfl) dX0_become_31 (fun r2 => ?_)
        refine V_istore (lv' := [(8, .int r2), (0, .ref (K.2.2 (24 + b0))), (1, .long b1), (3, .int b3), (4, .ref (K.2.2 20)), (5, .long b5), (7, .int x7)]) hc dX0_become_34 (by decide) rfl ?_
        refine V_aload hc dX0_become_36 4 rfl ?_
        refine V_iload_n hc dX0_become_38 rfl 3 rfl ?_
        refine V_iload hc dX0_become_39 6 rfl ?_
        refine V_iload hc dX0_become_41 0 rfl ?_
        refine V_callV_WV (Cn := RX3) (T := TX3) (N := 5) hc (c_X3_note l K y (b3) (x7) (r2)) sP20 rfl 3 gX0_become_X3_note rfl ⟨rfl, rfl⟩ (by decide) ⟨Nat.le_of_ble_eq_true rfl, Nat.le_of_ble_eq_true rfl⟩ rfl rfl (Nat.le_of_ble_eq_true rfl) dX0_become_43 (fun r3 => ?_)
        refine V_aload_n hc dX0_become_46 rfl 1 rfl ?_
        refine V_dup hc dX0_become_47 rfl ?_
        refine V_geti (C := RX0) (T := TX0) (N := 7) hc (sh_alb hb0) rfl qX0_become_RX0 5 rfl (by decide) kX0_become_26 rfl dX0_become_48 ?_
        refine V_iload hc dX0_become_51 0 rfl ?_
        refine V_if_eq (tgt := 60) hc dX0_become_53 (by decide) ?_ ?_
        · refine V_iconst (v := 0) hc dX0_become_60 (by decide) ?_
          refine V_iadd hc dX0_become_61 ?_
          refine V_puti (C := RX0) (T := TX0) (N := 7) hc (sh_alb hb0) rfl qX0_become_RX0 5 rfl (by decide) kX0_become_26 rfl tyX0 tyX0_ok nmX0 rfl (tyX0_ok 5 (by decide)) dX0_become_62 ?_
          refine V_bds (fun t4 => ?_)
          refine V_aload_n hc dX0_become_65 rfl 1 rfl ?_
          refine V_dup hc dX0_become_66 rfl ?_
          refine V_geti (C := RX0) (T := TX0) (N := 7) hc (sh_alb hb0) rfl qX0_become_RX0 6 rfl (by decide) kX0_become_30 rfl dX0_become_67 ?_
          refine V_iload hc dX0_become_70 0 rfl ?_
          refine V_if_eq (tgt := 79) hc dX0_become_72 (by decide) ?_ ?_
          · refine V_iconst (v := 1) hc dX0_become_79 (by decide) ?_
            refine V_iadd hc dX0_become_80 ?_
            refine V_puti (C := RX0) (T := TX0) (N := 7) hc (sh_alb hb0) rfl qX0_become_RX0 6 rfl (by decide) kX0_become_30 rfl tyX0 tyX0_ok nmX0 rfl (tyX0_ok 6 (by decide)) dX0_become_81 ?_
            refine V_bds (fun t5 => ?_)
            refine V_iinc (v := (x7 + 1)) (lv' := [(7, .int (x7 + 1)), (8, .int r2), (0, .ref (K.2.2 (24 + b0))), (1, .long b1), (3, .int b3), (4, .ref (K.2.2 20)), (5, .long b5)]) hc dX0_become_84 6 rfl rfl (by decide) rfl ?_
            refine V_goto (tgt := 11) hc dX0_become_87 (by decide) ?_
            exact V_sub [2, 3, 4, 5, 6, 0] rfl (ih _ _)
          · refine V_iconst (v := 0) hc dX0_become_75 (by decide) ?_
            refine V_goto (tgt := 80) hc dX0_become_76 (by decide) ?_
            refine V_iadd hc dX0_become_80 ?_
            refine V_puti (C := RX0) (T := TX0) (N := 7) hc (sh_alb hb0) rfl qX0_become_RX0 6 rfl (by decide) kX0_become_30 rfl tyX0 tyX0_ok nmX0 rfl (tyX0_ok 6 (by decide)) dX0_become_81 ?_
            refine V_bds (fun t6 => ?_)
            refine V_iinc (v := (x7 + 1)) (lv' := [(7, .int (x7 + 1)), (8, .int r2), (0, .ref (K.2.2 (24 + b0))), (1, .long b1), (3, .int b3), (4, .ref (K.2.2 20)), (5, .long b5)]) hc dX0_become_84 6 rfl rfl (by decide) rfl ?_
            refine V_goto (tgt := 11) hc dX0_become_87 (by decide) ?_
            exact V_sub [2, 3, 4, 5, 6, 0] rfl (ih _ _)
        · refine V_iconst (v := 1) hc dX0_become_56 (by decide) ?_
          refine V_goto (tgt := 61) hc dX0_become_57 (by decide) ?_
          refine V_iadd hc dX0_become_61 ?_
          refine V_puti (C := RX0) (T := TX0) (N := 7) hc (sh_alb hb0) rfl qX0_become_RX0 5 rfl (by decide) kX0_become_26 rfl tyX0 tyX0_ok nmX0 rfl (tyX0_ok 5 (by decide)) dX0_become_62 ?_
          refine V_bds (fun t7 => ?_)
          refine V_aload_n hc dX0_become_65 rfl 1 rfl ?_
          refine V_dup hc dX0_become_66 rfl ?_
          refine V_geti (C := RX0) (T := TX0) (N := 7) hc (sh_alb hb0) rfl qX0_become_RX0 6 rfl (by decide) kX0_become_30 rfl dX0_become_67 ?_
          refine V_iload hc dX0_become_70 0 rfl ?_
          refine V_if_eq (tgt := 79) hc dX0_become_72 (by decide) ?_ ?_
          · refine V_iconst (v := 1) hc dX0_become_79 (by decide) ?_
            refine V_iadd hc dX0_become_80 ?_
            refine V_puti (C := RX0) (T := TX0) (N := 7) hc (sh_alb hb0) rfl qX0_become_RX0 6 rfl (by decide) kX0_become_30 rfl tyX0 tyX0_ok nmX0 rfl (tyX0_ok 6 (by decide)) dX0_become_81 ?_
            refine V_bds (fun t8 => ?_)
            refine V_iinc (v := (x7 + 1)) (lv' := [(7, .int (x7 + 1)), (8, .int r2), (0, .ref (K.2.2 (24 + b0))), (1, .long b1), (3, .int b3), (4, .ref (K.2.2 20)), (5, .long b5)]) hc dX0_become_84 6 rfl rfl (by decide) rfl ?_
            refine V_goto (tgt := 11) hc dX0_become_87 (by decide) ?_
            exact V_sub [2, 3, 4, 5, 6, 0] rfl (ih _ _)
          · refine V_iconst (v := 0) hc dX0_become_75 (by decide) ?_
            refine V_goto (tgt := 80) hc dX0_become_76 (by decide) ?_
            refine V_iadd hc dX0_become_80 ?_
            refine V_puti (C := RX0) (T := TX0) (N := 7) hc (sh_alb hb0) rfl qX0_become_RX0 6 rfl (by decide) kX0_become_30 rfl tyX0 tyX0_ok nmX0 rfl (tyX0_ok 6 (by decide)) dX0_become_81 ?_
            refine V_bds (fun t9 => ?_)
            refine V_iinc (v := (x7 + 1)) (lv' := [(7, .int (x7 + 1)), (8, .int r2), (0, .ref (K.2.2 (24 + b0))), (1, .long b1), (3, .int b3), (4, .ref (K.2.2 20)), (5, .long b5)]) hc dX0_become_84 6 rfl rfl (by decide) rfl ?_
            refine V_goto (tgt := 11) hc dX0_become_87 (by decide) ?_
            exact V_sub [2, 3, 4, 5, 6, 0] rfl (ih _ _)
noncomputable def f_X0_become (t : Sx) (k0 : Nat) (a1 : Int64) (a3 : Int32) : Option Sx := L_X0_become_11 (k0) (a1) (a3) (((gL t (100 + k0)) ^^^ a1)) (fun z10 t11 => bd (pL t11 (100 + k0) a1) fun t12 => some t12) FU (0) (t)
set_option maxRecDepth 20000 in
set_option maxHeartbeats 4000000 in
theorem c_X0_become (l : Launch) (K : Kx) (t : Sx) (k0 : Nat) (a1 : Int64) (a3 : Int32) (hk0 : k0 < 8) : CT l K yX0_become wsX0_become ({ frames := 2, cells := 0, slots := 0, locals := 44 } : Room) [.ref (K.2.2 (24 + k0)), .long a1, .int a3, .ref (K.2.2 20)] t (f_X0_become t k0 a1 a3) kWV := by
  refine CT_of (cc := cX0_become) (maxL := 9) (ret := none) (own := RX0) (by decide +kernel) rfl rfl (Nat.le_of_ble_eq_true rfl) ?_
  intro p e s m args below meth c hc
  refine V_sub (lv' := [(0, .ref (K.2.2 (24 + k0))), (1, .long a1), (3, .int a3), (4, .ref (K.2.2 20))]) [0, 1, 2, 3] rfl ?_
  unfold f_X0_become
  refine V_aload_n hc dX0_become_0 rfl 0 rfl ?_
  refine V_getl (C := RX0) (T := TX0) (N := 7) hc (sh_alb hk0) rfl qX0_become_RX0 2 rfl (by decide) kX0_become_22 rfl dX0_become_1 ?_
  refine V_lload_n hc dX0_become_4 rfl 1 rfl ?_
  refine V_lxor hc dX0_become_5 ?_
  refine V_lstore (lv' := [(5, .long ((gL t (100 + k0)) ^^^ a1)), (0, .ref (K.2.2 (24 + k0))), (1, .long a1), (3, .int a3), (4, .ref (K.2.2 20))]) hc dX0_become_6 (by decide) rfl ?_
  refine V_iconst (v := 0) hc dX0_become_8 (by decide) ?_
  refine V_istore (lv' := [(7, .int 0), (5, .long ((gL t (100 + k0)) ^^^ a1)), (0, .ref (K.2.2 (24 + k0))), (1, .long a1), (3, .int a3), (4, .ref (K.2.2 20))]) hc dX0_become_9 (by decide) rfl ?_
  refine V_sub (lv' := [(0, .ref (K.2.2 (24 + k0))), (1, .long a1), (3, .int a3), (4, .ref (K.2.2 20)), (5, .long ((gL t (100 + k0)) ^^^ a1)), (7, .int 0)]) [2, 3, 4, 5, 1, 0] rfl ?_
  refine L_X0_become_11_ok hc (k0) (a1) (a3) (((gL t (100 + k0)) ^^^ a1)) hk0 _ (fun z10 t11 => ?_) FU _ _
  refine V_aload_n hc dX0_become_90 rfl 0 rfl ?_
  refine V_lload_n hc dX0_become_91 rfl 1 rfl ?_
  refine V_putl (C := RX0) (T := TX0) (N := 7) hc (sh_alb hk0) rfl qX0_become_RX0 2 rfl (by decide) kX0_become_22 rfl tyX0 tyX0_ok nmX0 rfl (tyX0_ok 2 (by decide)) dX0_become_92 ?_
  refine V_bds (fun t12 => ?_)
  exact V_vret hc rfl rfl dX0_become_95

theorem kX0_sort_33 : Cond.fieldLink RX0 33 RX0 (TX0 3).2.1 (TX0 3).2.2.1 ∈ wsX0_sort := by decide +kernel
theorem qX0_sort_RX0 : ∀ w ∈ u_ws RX0 TX0 7, w ∈ wsX0_sort := by
  first
  | exact fun _ h => List.mem_cons_of_mem _ (List.mem_append_right _ h)
  | exact fun _ h => List.mem_cons_of_mem _ (List.mem_append_left _ (List.mem_append_right _ h))
  | exact fun _ h => List.mem_cons_of_mem _ (List.mem_append_left _ (List.mem_append_left _ (List.mem_append_right _ h)))
  | exact fun _ h => List.mem_cons_of_mem _ (List.mem_append_left _ (List.mem_append_left _ (List.mem_append_left _ (List.mem_append_right _ h))))
  | exact fun _ h => List.mem_cons_of_mem _ (List.mem_append_left _ (List.mem_append_left _ (List.mem_append_left _ (List.mem_append_left _ (List.mem_append_right _ h)))))
  | decide +kernel
theorem kX0_sort_36 : Cond.fieldLink RX0 36 RX0 (TX0 4).2.1 (TX0 4).2.2.1 ∈ wsX0_sort := by decide +kernel
noncomputable def f_X0_sort (t : Sx) (k0 : Nat) (a1 : Int32) (a2 : Int32) : Option Sx := bd (pI t (110 + k0) a1) fun t1 => gd (gz a2) (bd (pI t1 (120 + k0) a2) fun t2 => some t2)
set_option maxRecDepth 20000 in
set_option maxHeartbeats 4000000 in
theorem c_X0_sort (l : Launch) (K : Kx) (t : Sx) (k0 : Nat) (a1 : Int32) (a2 : Int32) (hk0 : k0 < 8) : CT l K yX0_sort wsX0_sort ({ frames := 0, cells := 0, slots := 0, locals := 0 } : Room) [.ref (K.2.2 (24 + k0)), .int a1, .int a2] t (f_X0_sort t k0 a1 a2) kWV := by
  refine CT_of (cc := cX0_sort) (maxL := 3) (ret := none) (own := RX0) (by decide +kernel) rfl rfl (Nat.le_of_ble_eq_true rfl) ?_
  intro p e s m args below meth c hc
  refine V_sub (lv' := [(0, .ref (K.2.2 (24 + k0))), (1, .int a1), (2, .int a2)]) [0, 1, 2] rfl ?_
  unfold f_X0_sort
  refine V_aload_n hc dX0_sort_0 rfl 0 rfl ?_
  refine V_iload_n hc dX0_sort_1 rfl 1 rfl ?_
  refine V_puti (C := RX0) (T := TX0) (N := 7) hc (sh_alb hk0) rfl qX0_sort_RX0 3 rfl (by decide) kX0_sort_33 rfl tyX0 tyX0_ok nmX0 rfl (tyX0_ok 3 (by decide)) dX0_sort_2 ?_
  refine V_bds (fun t1 => ?_)
  refine V_aload_n hc dX0_sort_5 rfl 0 rfl ?_
  refine V_iload_n hc dX0_sort_6 rfl 2 rfl ?_
  refine V_putz (C := RX0) (T := TX0) (N := 7) hc (sh_alb hk0) rfl qX0_sort_RX0 4 rfl (by decide) kX0_sort_36 rfl tyX0 tyX0_ok nmX0 rfl (tyX0_ok 4 (by decide)) dX0_sort_7 ?_
  refine V_bds (fun t2 => ?_)
  exact V_vret hc rfl rfl dX0_sort_10

theorem kX0_follow_12 : Cond.fieldLink RX0 12 RX0 (TX0 0).2.1 (TX0 0).2.2.1 ∈ wsX0_follow := by decide +kernel
theorem qX0_follow_RX0 : ∀ w ∈ u_ws RX0 TX0 7, w ∈ wsX0_follow := by
  first
  | exact fun _ h => List.mem_cons_of_mem _ (List.mem_append_right _ h)
  | exact fun _ h => List.mem_cons_of_mem _ (List.mem_append_left _ (List.mem_append_right _ h))
  | exact fun _ h => List.mem_cons_of_mem _ (List.mem_append_left _ (List.mem_append_left _ (List.mem_append_right _ h)))
  | exact fun _ h => List.mem_cons_of_mem _ (List.mem_append_left _ (List.mem_append_left _ (List.mem_append_left _ (List.mem_append_right _ h))))
  | exact fun _ h => List.mem_cons_of_mem _ (List.mem_append_left _ (List.mem_append_left _ (List.mem_append_left _ (List.mem_append_left _ (List.mem_append_right _ h)))))
  | decide +kernel
noncomputable def f_X0_follow (t : Sx) (k0 : Nat) (k1 : Nat) : Option Sx := (f_X5_copy t (k0) (k1)).bind fun r1 => some r1
set_option maxRecDepth 20000 in
set_option maxHeartbeats 4000000 in
theorem c_X0_follow (l : Launch) (K : Kx) (t : Sx) (k0 : Nat) (k1 : Nat) (hk0 : k0 < 8) (hk1 : k1 < 9) : CT l K yX0_follow wsX0_follow ({ frames := 2, cells := 0, slots := 0, locals := 69 } : Room) [.ref (K.2.2 (24 + k0)), .ref (K.2.2 (32 + k1))] t (f_X0_follow t k0 k1) kWV := by
  refine CT_of (cc := cX0_follow) (maxL := 2) (ret := none) (own := RX0) (by decide +kernel) rfl rfl (Nat.le_of_ble_eq_true rfl) ?_
  intro p e s m args below meth c hc
  refine V_sub (lv' := [(0, .ref (K.2.2 (24 + k0))), (1, .ref (K.2.2 (32 + k1)))]) [0, 1] rfl ?_
  unfold f_X0_follow
  refine V_aload_n hc dX0_follow_0 rfl 0 rfl ?_
  refine V_getr (C := RX0) (T := TX0) (N := 7) hc (sh_alb hk0) rfl qX0_follow_RX0 0 rfl (by decide) kX0_follow_12 rfl dX0_follow_1 ?_
  refine V_aload_n hc dX0_follow_4 rfl 1 rfl ?_
  refine V_callV_WV (Cn := RX5) (T := TX5) (N := 2) hc (c_X5_copy l K t (k0) (k1) (Nat.lt_succ_of_lt hk0) hk1) (sh_rtx (Nat.lt_succ_of_lt hk0)) rfl 1 gX0_follow_X5_copy rfl ⟨rfl, rfl⟩ (by decide) ⟨Nat.le_of_ble_eq_true rfl, Nat.le_of_ble_eq_true rfl⟩ rfl rfl (Nat.le_of_ble_eq_true rfl) dX0_follow_5 (fun r1 => ?_)
  exact V_vret hc rfl rfl dX0_follow_8

theorem kX0_begin_18 : Cond.fieldLink RX0 18 RX0 (TX0 1).2.1 (TX0 1).2.2.1 ∈ wsX0_begin := by decide +kernel
theorem qX0_begin_RX0 : ∀ w ∈ u_ws RX0 TX0 7, w ∈ wsX0_begin := by
  first
  | exact fun _ h => List.mem_cons_of_mem _ (List.mem_append_right _ h)
  | exact fun _ h => List.mem_cons_of_mem _ (List.mem_append_left _ (List.mem_append_right _ h))
  | exact fun _ h => List.mem_cons_of_mem _ (List.mem_append_left _ (List.mem_append_left _ (List.mem_append_right _ h)))
  | exact fun _ h => List.mem_cons_of_mem _ (List.mem_append_left _ (List.mem_append_left _ (List.mem_append_left _ (List.mem_append_right _ h))))
  | exact fun _ h => List.mem_cons_of_mem _ (List.mem_append_left _ (List.mem_append_left _ (List.mem_append_left _ (List.mem_append_left _ (List.mem_append_right _ h)))))
  | decide +kernel
theorem kX0_begin_22 : Cond.fieldLink RX0 22 RX0 (TX0 2).2.1 (TX0 2).2.2.1 ∈ wsX0_begin := by decide +kernel
theorem kX0_begin_26 : Cond.fieldLink RX0 26 RX0 (TX0 5).2.1 (TX0 5).2.2.1 ∈ wsX0_begin := by decide +kernel
theorem kX0_begin_30 : Cond.fieldLink RX0 30 RX0 (TX0 6).2.1 (TX0 6).2.2.1 ∈ wsX0_begin := by decide +kernel
noncomputable def f_X0_begin (t : Sx) (k0 : Nat) (k1 : Nat) : Option Sx := bd (pI t (100 + k0) 1) fun t1 => bd (pL t1 (100 + k0) 0) fun t2 => bd (pI t2 (130 + k0) 0) fun t3 => bd (pI t3 (140 + k0) 0) fun t4 => (f_X0_sort t4 (k0) (1) (1)).bind fun r5 => (f_X0_follow r5 (k0) (k1)).bind fun r6 => some r6
set_option maxRecDepth 20000 in
set_option maxHeartbeats 4000000 in
theorem c_X0_begin (l : Launch) (K : Kx) (t : Sx) (k0 : Nat) (k1 : Nat) (hk0 : k0 < 8) (hk1 : k1 < 9) : CT l K yX0_begin wsX0_begin ({ frames := 3, cells := 0, slots := 0, locals := 90 } : Room) [.ref (K.2.2 (24 + k0)), .ref (K.2.2 (32 + k1))] t (f_X0_begin t k0 k1) kWV := by
  refine CT_of (cc := cX0_begin) (maxL := 2) (ret := none) (own := RX0) (by decide +kernel) rfl rfl (Nat.le_of_ble_eq_true rfl) ?_
  intro p e s m args below meth c hc
  refine V_sub (lv' := [(0, .ref (K.2.2 (24 + k0))), (1, .ref (K.2.2 (32 + k1)))]) [0, 1] rfl ?_
  unfold f_X0_begin
  refine V_aload_n hc dX0_begin_0 rfl 0 rfl ?_
  refine V_iconst (v := 1) hc dX0_begin_1 (by decide) ?_
  refine V_putzc (C := RX0) (T := TX0) (N := 7) hc (sh_alb hk0) rfl qX0_begin_RX0 1 rfl (by decide) kX0_begin_18 rfl tyX0 tyX0_ok nmX0 rfl (tyX0_ok 1 (by decide)) (Or.inr rfl) dX0_begin_2 ?_
  refine V_bds (fun t1 => ?_)
  refine V_aload_n hc dX0_begin_5 rfl 0 rfl ?_
  refine V_lconst (v := 0) hc dX0_begin_6 (by decide) ?_
  refine V_putl (C := RX0) (T := TX0) (N := 7) hc (sh_alb hk0) rfl qX0_begin_RX0 2 rfl (by decide) kX0_begin_22 rfl tyX0 tyX0_ok nmX0 rfl (tyX0_ok 2 (by decide)) dX0_begin_7 ?_
  refine V_bds (fun t2 => ?_)
  refine V_aload_n hc dX0_begin_10 rfl 0 rfl ?_
  refine V_iconst (v := 0) hc dX0_begin_11 (by decide) ?_
  refine V_puti (C := RX0) (T := TX0) (N := 7) hc (sh_alb hk0) rfl qX0_begin_RX0 5 rfl (by decide) kX0_begin_26 rfl tyX0 tyX0_ok nmX0 rfl (tyX0_ok 5 (by decide)) dX0_begin_12 ?_
  refine V_bds (fun t3 => ?_)
  refine V_aload_n hc dX0_begin_15 rfl 0 rfl ?_
  refine V_iconst (v := 0) hc dX0_begin_16 (by decide) ?_
  refine V_puti (C := RX0) (T := TX0) (N := 7) hc (sh_alb hk0) rfl qX0_begin_RX0 6 rfl (by decide) kX0_begin_30 rfl tyX0 tyX0_ok nmX0 rfl (tyX0_ok 6 (by decide)) dX0_begin_17 ?_
  refine V_bds (fun t4 => ?_)
  refine V_aload_n hc dX0_begin_20 rfl 0 rfl ?_
  refine V_iconst (v := 1) hc dX0_begin_21 (by decide) ?_
  refine V_iconst (v := 1) hc dX0_begin_22 (by decide) ?_
  refine V_callV_WV (Cn := RX0) (T := TX0) (N := 7) hc (c_X0_sort l K t4 (k0) (1) (1) hk0) (sh_alb hk0) rfl 2 gX0_begin_X0_sort rfl ⟨rfl, rfl⟩ (by decide) ⟨Nat.le_of_ble_eq_true rfl, Nat.le_of_ble_eq_true rfl⟩ rfl rfl (Nat.le_of_ble_eq_true rfl) dX0_begin_23 (fun r5 => ?_)
  refine V_aload_n hc dX0_begin_26 rfl 0 rfl ?_
  refine V_aload_n hc dX0_begin_27 rfl 1 rfl ?_
  refine V_callV_WV (Cn := RX0) (T := TX0) (N := 7) hc (c_X0_follow l K r5 (k0) (k1) hk0 hk1) (sh_alb hk0) rfl 1 gX0_begin_X0_follow rfl ⟨rfl, rfl⟩ (by decide) ⟨Nat.le_of_ble_eq_true rfl, Nat.le_of_ble_eq_true rfl⟩ rfl rfl (Nat.le_of_ble_eq_true rfl) dX0_begin_28 (fun r6 => ?_)
  exact V_vret hc rfl rfl dX0_begin_31

theorem kX7_shown_15 : Cond.fieldLink RX7 15 RX7 (TX7 1).2.1 (TX7 1).2.2.1 ∈ wsX7_shown := by decide +kernel
theorem qX7_shown_RX7 : ∀ w ∈ u_ws RX7 TX7 2, w ∈ wsX7_shown := by
  first
  | exact fun _ h => List.mem_cons_of_mem _ (List.mem_append_right _ h)
  | exact fun _ h => List.mem_cons_of_mem _ (List.mem_append_left _ (List.mem_append_right _ h))
  | exact fun _ h => List.mem_cons_of_mem _ (List.mem_append_left _ (List.mem_append_left _ (List.mem_append_right _ h)))
  | exact fun _ h => List.mem_cons_of_mem _ (List.mem_append_left _ (List.mem_append_left _ (List.mem_append_left _ (List.mem_append_right _ h))))
  | exact fun _ h => List.mem_cons_of_mem _ (List.mem_append_left _ (List.mem_append_left _ (List.mem_append_left _ (List.mem_append_left _ (List.mem_append_right _ h)))))
  | decide +kernel
noncomputable def L_X7_shown_8 (t0 : Sx) (b1 : Nat) (kont : Int64 → Int32 → Option Int64) : Nat → Int64 → Int32 → Option Int64
  | 0, _, _ => none
  | n + 1, x2 , x4 => if 10 ≤ x4 then kont (x2) (x4) else (f_X6_has t0 (x4)).bind fun r2 => if r2 = 0 then L_X7_shown_8 t0 b1 kont n (x2) ((x4 + 1)) else (f_X6_isCollapsed t0 (x4)).bind fun r3 => if r3 = 0 then L_X7_shown_8 t0 b1 kont n (x2) ((x4 + 1)) else (f_X6_withoutHidden t0 (x4) (x2)).bind fun r4 => L_X7_shown_8 t0 b1 kont n (r4) ((x4 + 1))
set_option maxRecDepth 20000 in
set_option maxHeartbeats 4000000 in
theorem L_X7_shown_8_ok {p : Program} {l : Launch} {K : Kx} {e : Env} {s : State} {m : MethodId} {args : Array Value} {below : List Frame} {meth : Method} {c : Code} (hc : Cx p ({ frames := 3, cells := 0, slots := 0, locals := 74 } : Room) s m args meth c cX7_shown 5 wsX7_shown RX7 K (aA K s.heap.size) (some .long) 0 0) (t0 : Sx) (b1 : Nat) (hb1 : b1 < 8) (kont : Int64 → Int32 → Option Int64) (hk : ∀ x2 x4, V p l e ({ frames := 3, cells := 0, slots := 0, locals := 74 } : Room) s m args below meth c K (aA K s.heap.size) 0 0 5 (QM below K args s (kRL t0)) 56 [(0, .ref (K.2.2 19)), (1, .ref (K.2.2 (24 + b1))), (2, .long x2), (4, .int x4)] [] t0 (kont x2 x4)) : ∀ (n : Nat) (x2 : Int64) (x4 : Int32), V p l e ({ frames := 3, cells := 0, slots := 0, locals := 74 } : Room) s m args below meth c K (aA K s.heap.size) 0 0 5 (QM below K args s (kRL t0)) 8 [(0, .ref (K.2.2 19)), (1, .ref (K.2.2 (24 + b1))), (2, .long x2), (4, .int x4)] [] t0 (L_X7_shown_8 t0 b1 kont n x2 x4) := by
  intro n
  induction n with
  | zero => intro x2 x4; exact V_none
  | succ n ih =>
    intro x2 x4
    rw [L_X7_shown_8]
    refine V_iload hc dX7_shown_8 3 rfl ?_
    refine V_bipush (v := 10) hc dX7_shown_10 (by decide) ?_
    refine V_icmp_ge (tgt := 56) hc dX7_shown_12 (by decide) ?_ ?_
    · exact V_sub [0, 1, 2, 3] rfl (hk _ _)
    · refine V_aload_n hc dX7_shown_15 rfl 0 rfl ?_
      refine V_getr (C := RX7) (T := TX7) (N := 2) hc sP19 rfl qX7_shown_RX7 1 rfl (by decide) kX7_shown_15 rfl dX7_shown_16 ?_
      refine V_iload hc dX7_shown_19 3 rfl ?_
      refine V_callV_RI (Cn := RX6) (T := TX6) (N := 8) hc (c_X6_has l K t0 (x4)) sP8 rfl 1 gX7_shown_X6_has rfl ⟨rfl, rfl⟩ (by decide) ⟨Nat.le_of_ble_eq_true rfl, Nat.le_of_ble_eq_true rfl⟩ rfl rfl (Nat.le_of_ble_eq_true rfl) dX7_shown_21 (fun r2 => ?_)
      refine V_if_eq (tgt := 50) hc dX7_shown_24 (by decide) ?_ ?_
      · refine V_iinc (v := (x4 + 1)) (lv' := [(4, .int (x4 + 1)), (0, .ref (K.2.2 19)), (1, .ref (K.2.2 (24 + b1))), (2, .long x2)]) hc dX7_shown_50 3 rfl rfl (by decide) rfl ?_
        refine V_goto (tgt := 8) hc dX7_shown_53 (by decide) ?_
        exact V_sub [1, 2, 3, 0] rfl (ih _ _)
      · refine V_aload_n hc dX7_shown_27 rfl 0 rfl ?_
        refine V_getr (C := RX7) (T := TX7) (N := 2) hc sP19 rfl qX7_shown_RX7 1 rfl (by decide) kX7_shown_15 rfl dX7_shown_28 ?_
        refine V_iload hc dX7_shown_31 3 rfl ?_
        refine V_callV_RI (Cn := RX6) (T := TX6) (N := 8) hc (c_X6_isCollapsed l K t0 (x4)) sP8 rfl 1 gX7_shown_X6_isCollapsed rfl ⟨rfl, rfl⟩ (by decide) ⟨Nat.le_of_ble_eq_true rfl, Nat.le_of_ble_eq_true rfl⟩ rfl rfl (Nat.le_of_ble_eq_true rfl) dX7_shown_33 (fun r3 => ?_)
        refine V_if_eq (tgt := 50) hc dX7_shown_36 (by decide) ?_ ?_
        · refine V_iinc (v := (x4 + 1)) (lv' := [(4, .int (x4 + 1)), (0, .ref (K.2.2 19)), (1, .ref (K.2.2 (24 + b1))), (2, .long x2)]) hc dX7_shown_50 3 rfl rfl (by decide) rfl ?_
          refine V_goto (tgt := 8) hc dX7_shown_53 (by decide) ?_
          exact V_sub [1, 2, 3, 0] rfl (ih _ _)
        · refine V_aload_n hc dX7_shown_39 rfl 0 rfl ?_
          refine V_getr (C := RX7) (T := TX7) (N := 2) hc sP19 rfl qX7_shown_RX7 1 rfl (by decide) kX7_shown_15 rfl dX7_shown_40 ?_
          refine V_iload hc dX7_shown_43 3 rfl ?_
          refine V_lload_n hc dX7_shown_45 rfl 2 rfl ?_
          refine V_callV_RL (Cn := RX6) (T := TX6) (N := 8) hc (c_X6_withoutHidden l K t0 (x4) (x2)) sP8 rfl 2 gX7_shown_X6_withoutHidden rfl ⟨rfl, rfl⟩ (by decide) ⟨Nat.le_of_ble_eq_true rfl, Nat.le_of_ble_eq_true rfl⟩ rfl rfl (Nat.le_of_ble_eq_true rfl) dX7_shown_46 (fun r4 => ?_)
          refine V_lstore_n (lv' := [(2, .long r4), (0, .ref (K.2.2 19)), (1, .ref (K.2.2 (24 + b1))), (4, .int x4)]) hc dX7_shown_49 rfl (by decide) rfl ?_
          refine V_iinc (v := (x4 + 1)) (lv' := [(4, .int (x4 + 1)), (2, .long r4), (0, .ref (K.2.2 19)), (1, .ref (K.2.2 (24 + b1)))]) hc dX7_shown_50 3 rfl rfl (by decide) rfl ?_
          refine V_goto (tgt := 8) hc dX7_shown_53 (by decide) ?_
          exact V_sub [2, 3, 1, 0] rfl (ih _ _)
noncomputable def f_X7_shown (t : Sx) (k1 : Nat) : Option Int64 := (f_X0_members t (k1)).bind fun r1 => L_X7_shown_8 t (k1) (fun z5 z6 => some z5) FU (r1) (0)
set_option maxRecDepth 20000 in
set_option maxHeartbeats 4000000 in
theorem c_X7_shown (l : Launch) (K : Kx) (t : Sx) (k1 : Nat) (hk1 : k1 < 8) : CT l K yX7_shown wsX7_shown ({ frames := 3, cells := 0, slots := 0, locals := 74 } : Room) [.ref (K.2.2 19), .ref (K.2.2 (24 + k1))] t (f_X7_shown t k1) (kRL t) := by
  refine CT_of (cc := cX7_shown) (maxL := 5) (ret := (some .long)) (own := RX7) (by decide +kernel) rfl rfl (Nat.le_of_ble_eq_true rfl) ?_
  intro p e s m args below meth c hc
  refine V_sub (lv' := [(0, .ref (K.2.2 19)), (1, .ref (K.2.2 (24 + k1)))]) [0, 1] rfl ?_
  unfold f_X7_shown
  refine V_aload_n hc dX7_shown_0 rfl 1 rfl ?_
  refine V_callV_RL (Cn := RX0) (T := TX0) (N := 7) hc (c_X0_members l K t (k1) hk1) (sh_alb hk1) rfl 0 gX7_shown_X0_members rfl ⟨rfl, rfl⟩ (by decide) ⟨Nat.le_of_ble_eq_true rfl, Nat.le_of_ble_eq_true rfl⟩ rfl rfl (Nat.le_of_ble_eq_true rfl) dX7_shown_1 (fun r1 => ?_)
  refine V_lstore_n (lv' := [(2, .long r1), (0, .ref (K.2.2 19)), (1, .ref (K.2.2 (24 + k1)))]) hc dX7_shown_4 rfl (by decide) rfl ?_
  refine V_iconst (v := 0) hc dX7_shown_5 (by decide) ?_
  refine V_istore (lv' := [(4, .int 0), (2, .long r1), (0, .ref (K.2.2 19)), (1, .ref (K.2.2 (24 + k1)))]) hc dX7_shown_6 (by decide) rfl ?_
  refine V_sub (lv' := [(0, .ref (K.2.2 19)), (1, .ref (K.2.2 (24 + k1))), (2, .long r1), (4, .int 0)]) [2, 3, 1, 0] rfl ?_
  refine L_X7_shown_8_ok hc t (k1) hk1 _ (fun z5 z6 => ?_) FU _ _
  refine V_lload_n hc dX7_shown_56 rfl 2 rfl ?_
  exact V_lret hc rfl rfl dX7_shown_57

theorem kX0_sortField_33 : Cond.fieldLink RX0 33 RX0 (TX0 3).2.1 (TX0 3).2.2.1 ∈ wsX0_sortField := by decide +kernel
theorem qX0_sortField_RX0 : ∀ w ∈ u_ws RX0 TX0 7, w ∈ wsX0_sortField := by
  first
  | exact fun _ h => List.mem_cons_of_mem _ (List.mem_append_right _ h)
  | exact fun _ h => List.mem_cons_of_mem _ (List.mem_append_left _ (List.mem_append_right _ h))
  | exact fun _ h => List.mem_cons_of_mem _ (List.mem_append_left _ (List.mem_append_left _ (List.mem_append_right _ h)))
  | exact fun _ h => List.mem_cons_of_mem _ (List.mem_append_left _ (List.mem_append_left _ (List.mem_append_left _ (List.mem_append_right _ h))))
  | exact fun _ h => List.mem_cons_of_mem _ (List.mem_append_left _ (List.mem_append_left _ (List.mem_append_left _ (List.mem_append_left _ (List.mem_append_right _ h)))))
  | decide +kernel
noncomputable def f_X0_sortField (t : Sx) (k0 : Nat) : Option Int32 := some (gI t (110 + k0))
set_option maxRecDepth 20000 in
set_option maxHeartbeats 4000000 in
theorem c_X0_sortField (l : Launch) (K : Kx) (t : Sx) (k0 : Nat) (hk0 : k0 < 8) : CT l K yX0_sortField wsX0_sortField ({ frames := 0, cells := 0, slots := 0, locals := 0 } : Room) [.ref (K.2.2 (24 + k0))] t (f_X0_sortField t k0) (kRI t) := by
  refine CT_of (cc := cX0_sortField) (maxL := 1) (ret := (some .int)) (own := RX0) (by decide +kernel) rfl rfl (Nat.le_of_ble_eq_true rfl) ?_
  intro p e s m args below meth c hc
  refine V_sub (lv' := [(0, .ref (K.2.2 (24 + k0)))]) [0] rfl ?_
  unfold f_X0_sortField
  refine V_aload_n hc dX0_sortField_0 rfl 0 rfl ?_
  refine V_geti (C := RX0) (T := TX0) (N := 7) hc (sh_alb hk0) rfl qX0_sortField_RX0 3 rfl (by decide) kX0_sortField_33 rfl dX0_sortField_1 ?_
  exact V_iret hc rfl rfl dX0_sortField_4

theorem kX0_isDescending_36 : Cond.fieldLink RX0 36 RX0 (TX0 4).2.1 (TX0 4).2.2.1 ∈ wsX0_isDescending := by decide +kernel
theorem qX0_isDescending_RX0 : ∀ w ∈ u_ws RX0 TX0 7, w ∈ wsX0_isDescending := by
  first
  | exact fun _ h => List.mem_cons_of_mem _ (List.mem_append_right _ h)
  | exact fun _ h => List.mem_cons_of_mem _ (List.mem_append_left _ (List.mem_append_right _ h))
  | exact fun _ h => List.mem_cons_of_mem _ (List.mem_append_left _ (List.mem_append_left _ (List.mem_append_right _ h)))
  | exact fun _ h => List.mem_cons_of_mem _ (List.mem_append_left _ (List.mem_append_left _ (List.mem_append_left _ (List.mem_append_right _ h))))
  | exact fun _ h => List.mem_cons_of_mem _ (List.mem_append_left _ (List.mem_append_left _ (List.mem_append_left _ (List.mem_append_left _ (List.mem_append_right _ h)))))
  | decide +kernel
noncomputable def f_X0_isDescending (t : Sx) (k0 : Nat) : Option Int32 := gd (gz (gI t (120 + k0))) (some (gI t (120 + k0)))
set_option maxRecDepth 20000 in
set_option maxHeartbeats 4000000 in
theorem c_X0_isDescending (l : Launch) (K : Kx) (t : Sx) (k0 : Nat) (hk0 : k0 < 8) : CT l K yX0_isDescending wsX0_isDescending ({ frames := 0, cells := 0, slots := 0, locals := 0 } : Room) [.ref (K.2.2 (24 + k0))] t (f_X0_isDescending t k0) (kRI t) := by
  refine CT_of (cc := cX0_isDescending) (maxL := 1) (ret := (some .boolean)) (own := RX0) (by decide +kernel) rfl rfl (Nat.le_of_ble_eq_true rfl) ?_
  intro p e s m args below meth c hc
  refine V_sub (lv' := [(0, .ref (K.2.2 (24 + k0)))]) [0] rfl ?_
  unfold f_X0_isDescending
  refine V_aload_n hc dX0_isDescending_0 rfl 0 rfl ?_
  refine V_geti (C := RX0) (T := TX0) (N := 7) hc (sh_alb hk0) rfl qX0_isDescending_RX0 4 rfl (by decide) kX0_isDescending_36 rfl dX0_isDescending_1 ?_
  exact V_zret hc rfl rfl dX0_isDescending_4

theorem kX7_comesBefore_9 : Cond.fieldLink RX7 9 RX7 (TX7 0).2.1 (TX7 0).2.2.1 ∈ wsX7_comesBefore := by decide +kernel
theorem qX7_comesBefore_RX7 : ∀ w ∈ u_ws RX7 TX7 2, w ∈ wsX7_comesBefore := by
  first
  | exact fun _ h => List.mem_cons_of_mem _ (List.mem_append_right _ h)
  | exact fun _ h => List.mem_cons_of_mem _ (List.mem_append_left _ (List.mem_append_right _ h))
  | exact fun _ h => List.mem_cons_of_mem _ (List.mem_append_left _ (List.mem_append_left _ (List.mem_append_right _ h)))
  | exact fun _ h => List.mem_cons_of_mem _ (List.mem_append_left _ (List.mem_append_left _ (List.mem_append_left _ (List.mem_append_right _ h))))
  | exact fun _ h => List.mem_cons_of_mem _ (List.mem_append_left _ (List.mem_append_left _ (List.mem_append_left _ (List.mem_append_left _ (List.mem_append_right _ h)))))
  | decide +kernel
noncomputable def f_X7_comesBefore (t : Sx) (k1 : Nat) (a2 : Int32) (a3 : Int32) : Option Int32 := (f_X0_sortField t (k1)).bind fun r1 => (f_X1_settledValue t (a2) (r1)).bind fun r2 => (f_X0_sortField t (k1)).bind fun r3 => (f_X1_settledValue t (a3) (r3)).bind fun r4 => if r2 = r4 then if a3 ≤ a2 then some 0 else some 1 else if r2 = (-1) then if r4 = (-1) then some 1 else some 0 else if r4 = (-1) then if r4 = (-1) then some 1 else some 0 else (f_X0_isDescending t (k1)).bind fun r5 => if r5 = 0 then if r4 ≤ r2 then some 0 else some 1 else if r2 ≤ r4 then some 0 else some 1
set_option maxRecDepth 20000 in
set_option maxHeartbeats 4000000 in
theorem c_X7_comesBefore (l : Launch) (K : Kx) (t : Sx) (k1 : Nat) (a2 : Int32) (a3 : Int32) (hk1 : k1 < 8) : CT l K yX7_comesBefore wsX7_comesBefore ({ frames := 1, cells := 0, slots := 0, locals := 22 } : Room) [.ref (K.2.2 19), .ref (K.2.2 (24 + k1)), .int a2, .int a3] t (f_X7_comesBefore t k1 a2 a3) (kRI t) := by
  refine CT_of (cc := cX7_comesBefore) (maxL := 6) (ret := (some .boolean)) (own := RX7) (by decide +kernel) rfl rfl (Nat.le_of_ble_eq_true rfl) ?_
  intro p e s m args below meth c hc
  refine V_sub (lv' := [(0, .ref (K.2.2 19)), (1, .ref (K.2.2 (24 + k1))), (2, .int a2), (3, .int a3)]) [0, 1, 2, 3] rfl ?_
  unfold f_X7_comesBefore
  refine V_aload_n hc dX7_comesBefore_0 rfl 0 rfl ?_
  refine V_getr (C := RX7) (T := TX7) (N := 2) hc sP19 rfl qX7_comesBefore_RX7 0 rfl (by decide) kX7_comesBefore_9 rfl dX7_comesBefore_1 ?_
  refine V_iload_n hc dX7_comesBefore_4 rfl 2 rfl ?_
  refine V_aload_n hc dX7_comesBefore_5 rfl 1 rfl ?_
  refine V_callV_RI (Cn := RX0) (T := TX0) (N := 7) hc (c_X0_sortField l K t (k1) hk1) (sh_alb hk1) rfl 0 gX7_comesBefore_X0_sortField rfl ⟨rfl, rfl⟩ (by decide) ⟨Nat.le_of_ble_eq_true rfl, Nat.le_of_ble_eq_true rfl⟩ rfl rfl (Nat.le_of_ble_eq_true rfl) dX7_comesBefore_6 (fun r1 => ?_)
  refine V_callV_RI (Cn := RX1) (T := TX1) (N := 6) hc (c_X1_settledValue l K t (a2) (r1)) sP1 rfl 2 gX7_comesBefore_X1_settledValue rfl ⟨rfl, rfl⟩ (by decide) ⟨Nat.le_of_ble_eq_true rfl, Nat.le_of_ble_eq_true rfl⟩ rfl rfl (Nat.le_of_ble_eq_true rfl) dX7_comesBefore_9 (fun r2 => ?_)
  refine V_istore (lv' := [(4, .int r2), (0, .ref (K.2.2 19)), (1, .ref (K.2.2 (24 + k1))), (2, .int a2), (3, .int a3)]) hc dX7_comesBefore_12 (by decide) rfl ?_
  refine V_aload_n hc dX7_comesBefore_14 rfl 1 rfl ?_
  refine V_getr (C := RX7) (T := TX7) (N := 2) hc sP19 rfl qX7_comesBefore_RX7 0 rfl (by decide) kX7_comesBefore_9 rfl dX7_comesBefore_15 ?_
  refine V_iload_n hc dX7_comesBefore_18 rfl 4 rfl ?_
  refine V_aload_n hc dX7_comesBefore_19 rfl 2 rfl ?_
  refine V_callV_RI (Cn := RX0) (T := TX0) (N := 7) hc (c_X0_sortField l K t (k1) hk1) (sh_alb hk1) rfl 0 gX7_comesBefore_X0_sortField rfl ⟨rfl, rfl⟩ (by decide) ⟨Nat.le_of_ble_eq_true rfl, Nat.le_of_ble_eq_true rfl⟩ rfl rfl (Nat.le_of_ble_eq_true rfl) dX7_comesBefore_20 (fun r3 => ?_)
  refine V_callV_RI (Cn := RX1) (T := TX1) (N := 6) hc (c_X1_settledValue l K t (a3) (r3)) sP1 rfl 2 gX7_comesBefore_X1_settledValue rfl ⟨rfl, rfl⟩ (by decide) ⟨Nat.le_of_ble_eq_true rfl, Nat.le_of_ble_eq_true rfl⟩ rfl rfl (Nat.le_of_ble_eq_true rfl) dX7_comesBefore_23 (fun r4 => ?_)
  refine V_istore (lv' := [(5, .int r4), (4, .int r2), (0, .ref (K.2.2 19)), (1, .ref (K.2.2 (24 + k1))), (2, .int a2), (3, .int a3)]) hc dX7_comesBefore_26 (by decide) rfl ?_
  refine V_iload hc dX7_comesBefore_28 1 rfl ?_
  refine V_iload hc dX7_comesBefore_30 0 rfl ?_
  refine V_icmp_ne (tgt := 46) hc dX7_comesBefore_32 (by decide) ?_ ?_
  · refine V_iload hc dX7_comesBefore_46 1 rfl ?_
    refine V_iconst (v := (-1)) hc dX7_comesBefore_48 (by decide) ?_
    refine V_icmp_eq (tgt := 58) hc dX7_comesBefore_49 (by decide) ?_ ?_
    · refine V_iload hc dX7_comesBefore_58 0 rfl ?_
      refine V_iconst (v := (-1)) hc dX7_comesBefore_60 (by decide) ?_
      refine V_icmp_ne (tgt := 68) hc dX7_comesBefore_61 (by decide) ?_ ?_
      · refine V_iconst (v := 0) hc dX7_comesBefore_68 (by decide) ?_
        exact V_nret hc rfl rfl rfl dX7_comesBefore_69
      · refine V_iconst (v := 1) hc dX7_comesBefore_64 (by decide) ?_
        refine V_goto (tgt := 69) hc dX7_comesBefore_65 (by decide) ?_
        exact V_nret hc rfl rfl rfl dX7_comesBefore_69
    · refine V_iload hc dX7_comesBefore_52 0 rfl ?_
      refine V_iconst (v := (-1)) hc dX7_comesBefore_54 (by decide) ?_
      refine V_icmp_ne (tgt := 70) hc dX7_comesBefore_55 (by decide) ?_ ?_
      · refine V_aload_n hc dX7_comesBefore_70 rfl 3 rfl ?_
        refine V_callV_RI (Cn := RX0) (T := TX0) (N := 7) hc (c_X0_isDescending l K t (k1) hk1) (sh_alb hk1) rfl 0 gX7_comesBefore_X0_isDescending rfl ⟨rfl, rfl⟩ (by decide) ⟨Nat.le_of_ble_eq_true rfl, Nat.le_of_ble_eq_true rfl⟩ rfl rfl (Nat.le_of_ble_eq_true rfl) dX7_comesBefore_71 (fun r5 => ?_)
        refine V_if_eq (tgt := 92) hc dX7_comesBefore_74 (by decide) ?_ ?_
        · refine V_iload hc dX7_comesBefore_92 1 rfl ?_
          refine V_iload hc dX7_comesBefore_94 0 rfl ?_
          refine V_icmp_ge (tgt := 103) hc dX7_comesBefore_96 (by decide) ?_ ?_
          · refine V_iconst (v := 0) hc dX7_comesBefore_103 (by decide) ?_
            exact V_nret hc rfl rfl rfl dX7_comesBefore_104
          · refine V_iconst (v := 1) hc dX7_comesBefore_99 (by decide) ?_
            refine V_goto (tgt := 104) hc dX7_comesBefore_100 (by decide) ?_
            exact V_nret hc rfl rfl rfl dX7_comesBefore_104
        · refine V_iload hc dX7_comesBefore_77 1 rfl ?_
          refine V_iload hc dX7_comesBefore_79 0 rfl ?_
          refine V_icmp_le (tgt := 88) hc dX7_comesBefore_81 (by decide) ?_ ?_
          · refine V_iconst (v := 0) hc dX7_comesBefore_88 (by decide) ?_
            refine V_goto (tgt := 104) hc dX7_comesBefore_89 (by decide) ?_
            exact V_nret hc rfl rfl rfl dX7_comesBefore_104
          · refine V_iconst (v := 1) hc dX7_comesBefore_84 (by decide) ?_
            refine V_goto (tgt := 104) hc dX7_comesBefore_85 (by decide) ?_
            exact V_nret hc rfl rfl rfl dX7_comesBefore_104
      · refine V_iload hc dX7_comesBefore_58 0 rfl ?_
        refine V_iconst (v := (-1)) hc dX7_comesBefore_60 (by decide) ?_
        refine V_icmp_ne (tgt := 68) hc dX7_comesBefore_61 (by decide) ?_ ?_
        · refine V_iconst (v := 0) hc dX7_comesBefore_68 (by decide) ?_
          exact V_nret hc rfl rfl rfl dX7_comesBefore_69
        · refine V_iconst (v := 1) hc dX7_comesBefore_64 (by decide) ?_
          refine V_goto (tgt := 69) hc dX7_comesBefore_65 (by decide) ?_
          exact V_nret hc rfl rfl rfl dX7_comesBefore_69
  · refine V_iload_n hc dX7_comesBefore_35 rfl 4 rfl ?_
    refine V_iload_n hc dX7_comesBefore_36 rfl 5 rfl ?_
    refine V_icmp_ge (tgt := 44) hc dX7_comesBefore_37 (by decide) ?_ ?_
    · refine V_iconst (v := 0) hc dX7_comesBefore_44 (by decide) ?_
      exact V_nret hc rfl rfl rfl dX7_comesBefore_45
    · refine V_iconst (v := 1) hc dX7_comesBefore_40 (by decide) ?_
      refine V_goto (tgt := 45) hc dX7_comesBefore_41 (by decide) ?_
      exact V_nret hc rfl rfl rfl dX7_comesBefore_45

theorem wX7_placeOf_in42 : Cond.initialized yX8_holds.cls ∈ wsX7_placeOf := by decide +kernel
theorem wX7_placeOf_st42 : Cond.static yX8_holds ∈ wsX7_placeOf := by decide +kernel
noncomputable def L_X7_placeOf_6 (t0 : Sx) (b1 : Nat) (b2 : Int64) (b4 : Int32) (kont : Int32 → Int32 → Option Int32) : Nat → Int32 → Int32 → Option Int32
  | 0, _, _ => none
  | n + 1, x5 , x6 => if 40 ≤ x6 then kont (x5) (x6) else (f_X8_holds t0 (b2) (x6)).bind fun r1 => if r1 = 0 then L_X7_placeOf_6 t0 b1 b2 b4 kont n (x5) ((x6 + 1)) else (f_X7_comesBefore t0 (b1) (x6) (b4)).bind fun r2 => if r2 = 0 then L_X7_placeOf_6 t0 b1 b2 b4 kont n (x5) ((x6 + 1)) else L_X7_placeOf_6 t0 b1 b2 b4 kont n ((x5 + 1)) ((x6 + 1))
set_option maxRecDepth 20000 in
set_option maxHeartbeats 4000000 in
theorem L_X7_placeOf_6_ok {p : Program} {l : Launch} {K : Kx} {e : Env} {s : State} {m : MethodId} {args : Array Value} {below : List Frame} {meth : Method} {c : Code} (hc : Cx p ({ frames := 2, cells := 0, slots := 0, locals := 47 } : Room) s m args meth c cX7_placeOf 7 wsX7_placeOf RX7 K (aA K s.heap.size) (some .int) 0 0) (t0 : Sx) (b1 : Nat) (b2 : Int64) (b4 : Int32) (hb1 : b1 < 8) (kont : Int32 → Int32 → Option Int32) (hk : ∀ x5 x6, V p l e ({ frames := 2, cells := 0, slots := 0, locals := 47 } : Room) s m args below meth c K (aA K s.heap.size) 0 0 7 (QM below K args s (kRI t0)) 43 [(0, .ref (K.2.2 19)), (1, .ref (K.2.2 (24 + b1))), (2, .long b2), (4, .int b4), (5, .int x5), (6, .int x6)] [] t0 (kont x5 x6)) : ∀ (n : Nat) (x5 : Int32) (x6 : Int32), V p l e ({ frames := 2, cells := 0, slots := 0, locals := 47 } : Room) s m args below meth c K (aA K s.heap.size) 0 0 7 (QM below K args s (kRI t0)) 6 [(0, .ref (K.2.2 19)), (1, .ref (K.2.2 (24 + b1))), (2, .long b2), (4, .int b4), (5, .int x5), (6, .int x6)] [] t0 (L_X7_placeOf_6 t0 b1 b2 b4 kont n x5 x6) := by
  intro n
  induction n with
  | zero => intro x5 x6; exact V_none
  | succ n ih =>
    intro x5 x6
    rw [L_X7_placeOf_6]
    refine V_iload hc dX7_placeOf_6 5 rfl ?_
    refine V_bipush (v := 40) hc dX7_placeOf_8 (by decide) ?_
    refine V_icmp_ge (tgt := 43) hc dX7_placeOf_10 (by decide) ?_ ?_
    · exact V_sub [0, 1, 2, 3, 4, 5] rfl (hk _ _)
    · refine V_lload_n hc dX7_placeOf_13 rfl 2 rfl ?_
      refine V_iload hc dX7_placeOf_14 5 rfl ?_
      refine V_callN_RI hc (c_X8_holds l K t0 (b2) (x6)) 2 gX7_placeOf_X8_holds_n42 rfl ⟨rfl, rfl⟩ (List.mem_of_getElem? (i := 12) rfl) wX7_placeOf_in42 wX7_placeOf_st42 (by decide) ⟨Nat.le_of_ble_eq_true rfl, Nat.le_of_ble_eq_true rfl⟩ rfl rfl (Nat.le_of_ble_eq_true rfl) dX7_placeOf_16 (fun r1 => ?_)
      refine V_if_eq (tgt := 37) hc dX7_placeOf_19 (by decide) ?_ ?_
      · refine V_iinc (v := (x6 + 1)) (lv' := [(6, .int (x6 + 1)), (0, .ref (K.2.2 19)), (1, .ref (K.2.2 (24 + b1))), (2, .long b2), (4, .int b4), (5, .int x5)]) hc dX7_placeOf_37 5 rfl rfl (by decide) rfl ?_
        refine V_goto (tgt := 6) hc dX7_placeOf_40 (by decide) ?_
        exact V_sub [1, 2, 3, 4, 5, 0] rfl (ih _ _)
      · refine V_aload_n hc dX7_placeOf_22 rfl 0 rfl ?_
        refine V_aload_n hc dX7_placeOf_23 rfl 1 rfl ?_
        refine V_iload hc dX7_placeOf_24 5 rfl ?_
        refine V_iload hc dX7_placeOf_26 3 rfl ?_
        refine V_callV_RI (Cn := RX7) (T := TX7) (N := 2) hc (c_X7_comesBefore l K t0 (b1) (x6) (b4) hb1) sP19 rfl 3 gX7_placeOf_X7_comesBefore rfl ⟨rfl, rfl⟩ (by decide) ⟨Nat.le_of_ble_eq_true rfl, Nat.le_of_ble_eq_true rfl⟩ rfl rfl (Nat.le_of_ble_eq_true rfl) dX7_placeOf_28 (fun r2 => ?_)
        refine V_if_eq (tgt := 37) hc dX7_placeOf_31 (by decide) ?_ ?_
        · refine V_iinc (v := (x6 + 1)) (lv' := [(6, .int (x6 + 1)), (0, .ref (K.2.2 19)), (1, .ref (K.2.2 (24 + b1))), (2, .long b2), (4, .int b4), (5, .int x5)]) hc dX7_placeOf_37 5 rfl rfl (by decide) rfl ?_
          refine V_goto (tgt := 6) hc dX7_placeOf_40 (by decide) ?_
          exact V_sub [1, 2, 3, 4, 5, 0] rfl (ih _ _)
        · refine V_iinc (v := (x5 + 1)) (lv' := [(5, .int (x5 + 1)), (0, .ref (K.2.2 19)), (1, .ref (K.2.2 (24 + b1))), (2, .long b2), (4, .int b4), (6, .int x6)]) hc dX7_placeOf_34 4 rfl rfl (by decide) rfl ?_
          refine V_iinc (v := (x6 + 1)) (lv' := [(6, .int (x6 + 1)), (5, .int (x5 + 1)), (0, .ref (K.2.2 19)), (1, .ref (K.2.2 (24 + b1))), (2, .long b2), (4, .int b4)]) hc dX7_placeOf_37 5 rfl rfl (by decide) rfl ?_
          refine V_goto (tgt := 6) hc dX7_placeOf_40 (by decide) ?_
          exact V_sub [2, 3, 4, 5, 1, 0] rfl (ih _ _)
noncomputable def f_X7_placeOf (t : Sx) (k1 : Nat) (a2 : Int64) (a4 : Int32) : Option Int32 := L_X7_placeOf_6 t (k1) (a2) (a4) (fun z3 z4 => some z3) FU (0) (0)
set_option maxRecDepth 20000 in
set_option maxHeartbeats 4000000 in
theorem c_X7_placeOf (l : Launch) (K : Kx) (t : Sx) (k1 : Nat) (a2 : Int64) (a4 : Int32) (hk1 : k1 < 8) : CT l K yX7_placeOf wsX7_placeOf ({ frames := 2, cells := 0, slots := 0, locals := 47 } : Room) [.ref (K.2.2 19), .ref (K.2.2 (24 + k1)), .long a2, .int a4] t (f_X7_placeOf t k1 a2 a4) (kRI t) := by
  refine CT_of (cc := cX7_placeOf) (maxL := 7) (ret := (some .int)) (own := RX7) (by decide +kernel) rfl rfl (Nat.le_of_ble_eq_true rfl) ?_
  intro p e s m args below meth c hc
  refine V_sub (lv' := [(0, .ref (K.2.2 19)), (1, .ref (K.2.2 (24 + k1))), (2, .long a2), (4, .int a4)]) [0, 1, 2, 3] rfl ?_
  unfold f_X7_placeOf
  refine V_iconst (v := 0) hc dX7_placeOf_0 (by decide) ?_
  refine V_istore (lv' := [(5, .int 0), (0, .ref (K.2.2 19)), (1, .ref (K.2.2 (24 + k1))), (2, .long a2), (4, .int a4)]) hc dX7_placeOf_1 (by decide) rfl ?_
  refine V_iconst (v := 0) hc dX7_placeOf_3 (by decide) ?_
  refine V_istore (lv' := [(6, .int 0), (5, .int 0), (0, .ref (K.2.2 19)), (1, .ref (K.2.2 (24 + k1))), (2, .long a2), (4, .int a4)]) hc dX7_placeOf_4 (by decide) rfl ?_
  refine V_sub (lv' := [(0, .ref (K.2.2 19)), (1, .ref (K.2.2 (24 + k1))), (2, .long a2), (4, .int a4), (5, .int 0), (6, .int 0)]) [2, 3, 4, 5, 1, 0] rfl ?_
  refine L_X7_placeOf_6_ok hc t (k1) (a2) (a4) hk1 _ (fun z3 z4 => ?_) FU _ _
  refine V_iload hc dX7_placeOf_43 4 rfl ?_
  exact V_iret hc rfl rfl dX7_placeOf_45

theorem wX7_fileAt_in42 : Cond.initialized yX8_holds.cls ∈ wsX7_fileAt := by decide +kernel
theorem wX7_fileAt_st42 : Cond.static yX8_holds ∈ wsX7_fileAt := by decide +kernel
noncomputable def L_X7_fileAt_9 (t0 : Sx) (b1 : Nat) (b2 : Int32) (b3 : Int64) (kont : Int32 → Option Int32) : Nat → Int32 → Option Int32
  | 0, _ => none
  | n + 1, x5 => if 40 ≤ x5 then kont (x5) else (f_X8_holds t0 (b3) (x5)).bind fun r2 => if r2 = 0 then L_X7_fileAt_9 t0 b1 b2 b3 kont n ((x5 + 1)) else (f_X7_placeOf t0 (b1) (b3) (x5)).bind fun r3 => if r3 = b2 then some x5 else L_X7_fileAt_9 t0 b1 b2 b3 kont n ((x5 + 1))
set_option maxRecDepth 20000 in
set_option maxHeartbeats 4000000 in
theorem L_X7_fileAt_9_ok {p : Program} {l : Launch} {K : Kx} {e : Env} {s : State} {m : MethodId} {args : Array Value} {below : List Frame} {meth : Method} {c : Code} (hc : Cx p ({ frames := 4, cells := 0, slots := 0, locals := 98 } : Room) s m args meth c cX7_fileAt 6 wsX7_fileAt RX7 K (aA K s.heap.size) (some .int) 0 0) (t0 : Sx) (b1 : Nat) (b2 : Int32) (b3 : Int64) (hb1 : b1 < 8) (kont : Int32 → Option Int32) (hk : ∀ x5, V p l e ({ frames := 4, cells := 0, slots := 0, locals := 98 } : Room) s m args below meth c K (aA K s.heap.size) 0 0 6 (QM below K args s (kRI t0)) 46 [(0, .ref (K.2.2 19)), (1, .ref (K.2.2 (24 + b1))), (2, .int b2), (3, .long b3), (5, .int x5)] [] t0 (kont x5)) : ∀ (n : Nat) (x5 : Int32), V p l e ({ frames := 4, cells := 0, slots := 0, locals := 98 } : Room) s m args below meth c K (aA K s.heap.size) 0 0 6 (QM below K args s (kRI t0)) 9 [(0, .ref (K.2.2 19)), (1, .ref (K.2.2 (24 + b1))), (2, .int b2), (3, .long b3), (5, .int x5)] [] t0 (L_X7_fileAt_9 t0 b1 b2 b3 kont n x5) := by
  intro n
  induction n with
  | zero => intro x5; exact V_none
  | succ n ih =>
    intro x5
    rw [L_X7_fileAt_9]
    refine V_iload hc dX7_fileAt_9 4 rfl ?_
    refine V_bipush (v := 40) hc dX7_fileAt_11 (by decide) ?_
    refine V_icmp_ge (tgt := 46) hc dX7_fileAt_13 (by decide) ?_ ?_
    · exact V_sub [0, 1, 2, 3, 4] rfl (hk _)
    · refine V_lload_n hc dX7_fileAt_16 rfl 3 rfl ?_
      refine V_iload hc dX7_fileAt_17 4 rfl ?_
      refine V_callN_RI hc (c_X8_holds l K t0 (b3) (x5)) 2 gX7_fileAt_X8_holds_n42 rfl ⟨rfl, rfl⟩ (List.mem_of_getElem? (i := 12) rfl) wX7_fileAt_in42 wX7_fileAt_st42 (by decide) ⟨Nat.le_of_ble_eq_true rfl, Nat.le_of_ble_eq_true rfl⟩ rfl rfl (Nat.le_of_ble_eq_true rfl) dX7_fileAt_19 (fun r2 => ?_)
      refine V_if_eq (tgt := 40) hc dX7_fileAt_22 (by decide) ?_ ?_
      · refine V_iinc (v := (x5 + 1)) (lv' := [(5, .int (x5 + 1)), (0, .ref (K.2.2 19)), (1, .ref (K.2.2 (24 + b1))), (2, .int b2), (3, .long b3)]) hc dX7_fileAt_40 4 rfl rfl (by decide) rfl ?_
        refine V_goto (tgt := 9) hc dX7_fileAt_43 (by decide) ?_
        exact V_sub [1, 2, 3, 4, 0] rfl (ih _)
      · refine V_aload_n hc dX7_fileAt_25 rfl 0 rfl ?_
        refine V_aload_n hc dX7_fileAt_26 rfl 1 rfl ?_
        refine V_lload_n hc dX7_fileAt_27 rfl 3 rfl ?_
        refine V_iload hc dX7_fileAt_28 4 rfl ?_
        refine V_callV_RI (Cn := RX7) (T := TX7) (N := 2) hc (c_X7_placeOf l K t0 (b1) (b3) (x5) hb1) sP19 rfl 3 gX7_fileAt_X7_placeOf rfl ⟨rfl, rfl⟩ (by decide) ⟨Nat.le_of_ble_eq_true rfl, Nat.le_of_ble_eq_true rfl⟩ rfl rfl (Nat.le_of_ble_eq_true rfl) dX7_fileAt_30 (fun r3 => ?_)
        refine V_iload_n hc dX7_fileAt_33 rfl 2 rfl ?_
        refine V_icmp_ne (tgt := 40) hc dX7_fileAt_34 (by decide) ?_ ?_
        · refine V_iinc (v := (x5 + 1)) (lv' := [(5, .int (x5 + 1)), (0, .ref (K.2.2 19)), (1, .ref (K.2.2 (24 + b1))), (2, .int b2), (3, .long b3)]) hc dX7_fileAt_40 4 rfl rfl (by decide) rfl ?_
          refine V_goto (tgt := 9) hc dX7_fileAt_43 (by decide) ?_
          exact V_sub [1, 2, 3, 4, 0] rfl (ih _)
        · refine V_iload hc dX7_fileAt_37 4 rfl ?_
          exact V_iret hc rfl rfl dX7_fileAt_39
noncomputable def f_X7_fileAt (t : Sx) (k1 : Nat) (a2 : Int32) : Option Int32 := (f_X7_shown t (k1)).bind fun r1 => L_X7_fileAt_9 t (k1) (a2) (r1) (fun z4 => some (-1)) FU (0)
set_option maxRecDepth 20000 in
set_option maxHeartbeats 4000000 in
theorem c_X7_fileAt (l : Launch) (K : Kx) (t : Sx) (k1 : Nat) (a2 : Int32) (hk1 : k1 < 8) : CT l K yX7_fileAt wsX7_fileAt ({ frames := 4, cells := 0, slots := 0, locals := 98 } : Room) [.ref (K.2.2 19), .ref (K.2.2 (24 + k1)), .int a2] t (f_X7_fileAt t k1 a2) (kRI t) := by
  refine CT_of (cc := cX7_fileAt) (maxL := 6) (ret := (some .int)) (own := RX7) (by decide +kernel) rfl rfl (Nat.le_of_ble_eq_true rfl) ?_
  intro p e s m args below meth c hc
  refine V_sub (lv' := [(0, .ref (K.2.2 19)), (1, .ref (K.2.2 (24 + k1))), (2, .int a2)]) [0, 1, 2] rfl ?_
  unfold f_X7_fileAt
  refine V_aload_n hc dX7_fileAt_0 rfl 0 rfl ?_
  refine V_aload_n hc dX7_fileAt_1 rfl 1 rfl ?_
  refine V_callV_RL (Cn := RX7) (T := TX7) (N := 2) hc (c_X7_shown l K t (k1) hk1) sP19 rfl 1 gX7_fileAt_X7_shown rfl ⟨rfl, rfl⟩ (by decide) ⟨Nat.le_of_ble_eq_true rfl, Nat.le_of_ble_eq_true rfl⟩ rfl rfl (Nat.le_of_ble_eq_true rfl) dX7_fileAt_2 (fun r1 => ?_)
  refine V_lstore_n (lv' := [(3, .long r1), (0, .ref (K.2.2 19)), (1, .ref (K.2.2 (24 + k1))), (2, .int a2)]) hc dX7_fileAt_5 rfl (by decide) rfl ?_
  refine V_iconst (v := 0) hc dX7_fileAt_6 (by decide) ?_
  refine V_istore (lv' := [(5, .int 0), (3, .long r1), (0, .ref (K.2.2 19)), (1, .ref (K.2.2 (24 + k1))), (2, .int a2)]) hc dX7_fileAt_7 (by decide) rfl ?_
  refine V_sub (lv' := [(0, .ref (K.2.2 19)), (1, .ref (K.2.2 (24 + k1))), (2, .int a2), (3, .long r1), (5, .int 0)]) [2, 3, 4, 1, 0] rfl ?_
  refine L_X7_fileAt_9_ok hc t (k1) (a2) (r1) hk1 _ (fun z4 => ?_) FU _
  refine V_iconst (v := (-1)) hc dX7_fileAt_46 (by decide) ?_
  exact V_iret hc rfl rfl dX7_fileAt_47

theorem kX0_joined_26 : Cond.fieldLink RX0 26 RX0 (TX0 5).2.1 (TX0 5).2.2.1 ∈ wsX0_joined := by decide +kernel
theorem qX0_joined_RX0 : ∀ w ∈ u_ws RX0 TX0 7, w ∈ wsX0_joined := by
  first
  | exact fun _ h => List.mem_cons_of_mem _ (List.mem_append_right _ h)
  | exact fun _ h => List.mem_cons_of_mem _ (List.mem_append_left _ (List.mem_append_right _ h))
  | exact fun _ h => List.mem_cons_of_mem _ (List.mem_append_left _ (List.mem_append_left _ (List.mem_append_right _ h)))
  | exact fun _ h => List.mem_cons_of_mem _ (List.mem_append_left _ (List.mem_append_left _ (List.mem_append_left _ (List.mem_append_right _ h))))
  | exact fun _ h => List.mem_cons_of_mem _ (List.mem_append_left _ (List.mem_append_left _ (List.mem_append_left _ (List.mem_append_left _ (List.mem_append_right _ h)))))
  | decide +kernel
noncomputable def f_X0_joined (t : Sx) (k0 : Nat) : Option Int32 := some (gI t (130 + k0))
set_option maxRecDepth 20000 in
set_option maxHeartbeats 4000000 in
theorem c_X0_joined (l : Launch) (K : Kx) (t : Sx) (k0 : Nat) (hk0 : k0 < 8) : CT l K yX0_joined wsX0_joined ({ frames := 0, cells := 0, slots := 0, locals := 0 } : Room) [.ref (K.2.2 (24 + k0))] t (f_X0_joined t k0) (kRI t) := by
  refine CT_of (cc := cX0_joined) (maxL := 1) (ret := (some .int)) (own := RX0) (by decide +kernel) rfl rfl (Nat.le_of_ble_eq_true rfl) ?_
  intro p e s m args below meth c hc
  refine V_sub (lv' := [(0, .ref (K.2.2 (24 + k0)))]) [0] rfl ?_
  unfold f_X0_joined
  refine V_aload_n hc dX0_joined_0 rfl 0 rfl ?_
  refine V_geti (C := RX0) (T := TX0) (N := 7) hc (sh_alb hk0) rfl qX0_joined_RX0 5 rfl (by decide) kX0_joined_26 rfl dX0_joined_1 ?_
  exact V_iret hc rfl rfl dX0_joined_4

theorem kX0_left_30 : Cond.fieldLink RX0 30 RX0 (TX0 6).2.1 (TX0 6).2.2.1 ∈ wsX0_left := by decide +kernel
theorem qX0_left_RX0 : ∀ w ∈ u_ws RX0 TX0 7, w ∈ wsX0_left := by
  first
  | exact fun _ h => List.mem_cons_of_mem _ (List.mem_append_right _ h)
  | exact fun _ h => List.mem_cons_of_mem _ (List.mem_append_left _ (List.mem_append_right _ h))
  | exact fun _ h => List.mem_cons_of_mem _ (List.mem_append_left _ (List.mem_append_left _ (List.mem_append_right _ h)))
  | exact fun _ h => List.mem_cons_of_mem _ (List.mem_append_left _ (List.mem_append_left _ (List.mem_append_left _ (List.mem_append_right _ h))))
  | exact fun _ h => List.mem_cons_of_mem _ (List.mem_append_left _ (List.mem_append_left _ (List.mem_append_left _ (List.mem_append_left _ (List.mem_append_right _ h)))))
  | decide +kernel
noncomputable def f_X0_left (t : Sx) (k0 : Nat) : Option Int32 := some (gI t (140 + k0))
set_option maxRecDepth 20000 in
set_option maxHeartbeats 4000000 in
theorem c_X0_left (l : Launch) (K : Kx) (t : Sx) (k0 : Nat) (hk0 : k0 < 8) : CT l K yX0_left wsX0_left ({ frames := 0, cells := 0, slots := 0, locals := 0 } : Room) [.ref (K.2.2 (24 + k0))] t (f_X0_left t k0) (kRI t) := by
  refine CT_of (cc := cX0_left) (maxL := 1) (ret := (some .int)) (own := RX0) (by decide +kernel) rfl rfl (Nat.le_of_ble_eq_true rfl) ?_
  intro p e s m args below meth c hc
  refine V_sub (lv' := [(0, .ref (K.2.2 (24 + k0)))]) [0] rfl ?_
  unfold f_X0_left
  refine V_aload_n hc dX0_left_0 rfl 0 rfl ?_
  refine V_geti (C := RX0) (T := TX0) (N := 7) hc (sh_alb hk0) rfl qX0_left_RX0 6 rfl (by decide) kX0_left_30 rfl dX0_left_1 ?_
  exact V_iret hc rfl rfl dX0_left_4
