theorem wL_types_c15 : Cond.constantLong RL 15 (127) ∈ wsL_types := by decide +kernel
noncomputable def L_L_types_10 (b1 : Int64) (kont : Int32 → Int64 → Sx → Option (Int32 × Sx)) : Nat → Int32 → Int64 → Sx → Option (Int32 × Sx)
  | 0, _, _, _ => none
  | n + 1, x3 , x4, y => if (lg_cmp x4 0) ≤ 0 then kont (x3) (x4) (y) else if x3 = 0 then L_L_types_10 b1 kont n (0) ((shrL x4 8)) (y) else (f_X8_type y (Int64.toInt32 (x4 &&& 127))).bind fun r2 => if r2.1 ≤ 0 then L_L_types_10 b1 kont n (0) ((shrL x4 8)) (r2.2) else L_L_types_10 b1 kont n (1) ((shrL x4 8)) (r2.2)
set_option maxRecDepth 20000 in
set_option maxHeartbeats 4000000 in
theorem L_L_types_10_ok {p : Program} {l : Launch} {K : Kx} {e : Env} {s : State} {m : MethodId} {args : Array Value} {below : List Frame} {meth : Method} {c : Code} (hc : Cx p ({ frames := 2, cells := 0, slots := 0, locals := 43 } : Room) s m args meth c cL_types 6 wsL_types RL K (aA K s.heap.size) (some .boolean) 0 0) (b1 : Int64) (kont : Int32 → Int64 → Sx → Option (Int32 × Sx)) (hk : ∀ x3 x4 y, V p l e ({ frames := 2, cells := 0, slots := 0, locals := 43 } : Room) s m args below meth c K (aA K s.heap.size) 0 0 6 (QM below K args s kWI) 51 [(0, .ref (K.2.2 0)), (1, .long b1), (3, .int x3), (4, .long x4)] [] y (kont x3 x4 y)) : ∀ (n : Nat) (x3 : Int32) (x4 : Int64) (y : Sx), V p l e ({ frames := 2, cells := 0, slots := 0, locals := 43 } : Room) s m args below meth c K (aA K s.heap.size) 0 0 6 (QM below K args s kWI) 10 [(0, .ref (K.2.2 0)), (1, .long b1), (3, .int x3), (4, .long x4)] [] y (L_L_types_10 b1 kont n x3 x4 y) := by
  intro n
  induction n with
  | zero => intro x3 x4 y; exact V_none
  | succ n ih =>
    intro x3 x4 y
    rw [L_L_types_10]
    refine V_lload hc dL_types_10 3 rfl ?_
    refine V_lconst (v := 0) hc dL_types_12 (by decide) ?_
    refine V_lcmp hc dL_types_13 ?_
    refine V_if_le (tgt := 51) hc dL_types_14 (by decide) ?_ ?_
    · exact V_sub [0, 1, 2, 3] rfl (hk _ _ _)
    · refine V_iload_n hc dL_types_17 rfl 2 rfl ?_
      refine V_if_eq (tgt := 39) hc dL_types_18 (by decide) ?_ ?_
      · refine V_iconst (v := 0) hc dL_types_39 (by decide) ?_
        refine V_istore_n (lv' := [(3, .int 0), (0, .ref (K.2.2 0)), (1, .long b1), (4, .long x4)]) hc dL_types_40 rfl (by decide) rfl ?_
        refine V_lload hc dL_types_41 3 rfl ?_
        refine V_bipush (v := 8) hc dL_types_43 (by decide) ?_
        refine V_lshr hc dL_types_45 ?_
        refine V_lstore (lv' := [(4, .long (shrL x4 8)), (3, .int 0), (0, .ref (K.2.2 0)), (1, .long b1)]) hc dL_types_46 (by decide) rfl ?_
        refine V_goto (tgt := 10) hc dL_types_48 (by decide) ?_
        exact V_sub [2, 3, 1, 0] rfl (ih _ _ _)
      · refine V_aload_n hc dL_types_21 rfl 0 rfl ?_
        refine V_lload hc dL_types_22 3 rfl ?_
        refine V_ldc2 (v := 127) hc wL_types_c15 dL_types_24 ?_
        refine V_land hc dL_types_27 ?_
        refine V_l2i hc dL_types_28 ?_
        refine V_callV_WI (Cn := RX8) (T := TX8) (N := 8) hc (c_X8_type l K y (Int64.toInt32 (x4 &&& 127))) sP0 rfl 1 gL_types_X8_type rfl ⟨rfl, rfl⟩ (by decide) ⟨Nat.le_of_ble_eq_true rfl, Nat.le_of_ble_eq_true rfl⟩ rfl rfl (Nat.le_of_ble_eq_true rfl) dL_types_29 (fun r2 => ?_)
        refine V_if_le (tgt := 39) hc dL_types_32 (by decide) ?_ ?_
        · refine V_iconst (v := 0) hc dL_types_39 (by decide) ?_
          refine V_istore_n (lv' := [(3, .int 0), (0, .ref (K.2.2 0)), (1, .long b1), (4, .long x4)]) hc dL_types_40 rfl (by decide) rfl ?_
          refine V_lload hc dL_types_41 3 rfl ?_
          refine V_bipush (v := 8) hc dL_types_43 (by decide) ?_
          refine V_lshr hc dL_types_45 ?_
          refine V_lstore (lv' := [(4, .long (shrL x4 8)), (3, .int 0), (0, .ref (K.2.2 0)), (1, .long b1)]) hc dL_types_46 (by decide) rfl ?_
          refine V_goto (tgt := 10) hc dL_types_48 (by decide) ?_
          exact V_sub [2, 3, 1, 0] rfl (ih _ _ _)
        · refine V_iconst (v := 1) hc dL_types_35 (by decide) ?_
          refine V_goto (tgt := 40) hc dL_types_36 (by decide) ?_
          refine V_istore_n (lv' := [(3, .int 1), (0, .ref (K.2.2 0)), (1, .long b1), (4, .long x4)]) hc dL_types_40 rfl (by decide) rfl ?_
          refine V_lload hc dL_types_41 3 rfl ?_
          refine V_bipush (v := 8) hc dL_types_43 (by decide) ?_
          refine V_lshr hc dL_types_45 ?_
          refine V_lstore (lv' := [(4, .long (shrL x4 8)), (3, .int 1), (0, .ref (K.2.2 0)), (1, .long b1)]) hc dL_types_46 (by decide) rfl ?_
          refine V_goto (tgt := 10) hc dL_types_48 (by decide) ?_
          exact V_sub [2, 3, 1, 0] rfl (ih _ _ _)
noncomputable def f_L_types (t : Sx) (a1 : Int64) : Option (Int32 × Sx) := (f_X8_clearRule t ).bind fun r1 => L_L_types_10 (a1) (fun z3 z4 t5 => gd (gz z3) (some (z3, t5))) FU (1) (a1) (r1.2)
set_option maxRecDepth 20000 in
set_option maxHeartbeats 4000000 in
theorem c_L_types (l : Launch) (K : Kx) (t : Sx) (a1 : Int64) : CT l K yL_types wsL_types ({ frames := 2, cells := 0, slots := 0, locals := 43 } : Room) [.ref (K.2.2 0), .long a1] t (f_L_types t a1) kWI := by
  refine CT_of (cc := cL_types) (maxL := 6) (ret := (some .boolean)) (own := RL) (by decide +kernel) rfl rfl (Nat.le_of_ble_eq_true rfl) ?_
  intro p e s m args below meth c hc
  refine V_sub (lv' := [(0, .ref (K.2.2 0)), (1, .long a1)]) [0, 1] rfl ?_
  unfold f_L_types
  refine V_aload_n hc dL_types_0 rfl 0 rfl ?_
  refine V_callV_WI (Cn := RX8) (T := TX8) (N := 8) hc (c_X8_clearRule l K t ) sP0 rfl 0 gL_types_X8_clearRule rfl ⟨rfl, rfl⟩ (by decide) ⟨Nat.le_of_ble_eq_true rfl, Nat.le_of_ble_eq_true rfl⟩ rfl rfl (Nat.le_of_ble_eq_true rfl) dL_types_1 (fun r1 => ?_)
  refine V_pop hc dL_types_4 rfl ?_
  refine V_iconst (v := 1) hc dL_types_5 (by decide) ?_
  refine V_istore_n (lv' := [(3, .int 1), (0, .ref (K.2.2 0)), (1, .long a1)]) hc dL_types_6 rfl (by decide) rfl ?_
  refine V_lload_n hc dL_types_7 rfl 2 rfl ?_
  refine V_lstore (lv' := [(4, .long a1), (3, .int 1), (0, .ref (K.2.2 0)), (1, .long a1)]) hc dL_types_8 (by decide) rfl ?_
  refine V_sub (lv' := [(0, .ref (K.2.2 0)), (1, .long a1), (3, .int 1), (4, .long a1)]) [2, 3, 1, 0] rfl ?_
  refine L_L_types_10_ok hc (a1) _ (fun z3 z4 t5 => ?_) FU _ _ _
  refine V_iload_n hc dL_types_51 rfl 2 rfl ?_
  exact V_zret hc rfl rfl dL_types_52

theorem wL_text_c29 : Cond.constantLong RL 29 (3301665) ∈ wsL_text := by decide +kernel
theorem wL_text_c27 : Cond.constantLong RL 27 (54293237739617) ∈ wsL_text := by decide +kernel
theorem wL_text_c25 : Cond.constantLong RL 25 (272498062625) ∈ wsL_text := by decide +kernel
theorem wL_text_c23 : Cond.constantLong RL 23 (494565227638) ∈ wsL_text := by decide +kernel
theorem wL_text_c21 : Cond.constantLong RL 21 (54376369634930) ∈ wsL_text := by decide +kernel
noncomputable def f_L_text (t : Sx) (a0 : Int32) : Option Int64 := if a0 = 0 then some 54376369634930 else if a0 = 1 then some 494565227638 else if a0 = 2 then some 272498062625 else if a0 = 3 then some 54293237739617 else some 3301665
set_option maxRecDepth 20000 in
set_option maxHeartbeats 4000000 in
theorem c_L_text (l : Launch) (K : Kx) (t : Sx) (a0 : Int32) : CT l K yL_text wsL_text ({ frames := 0, cells := 0, slots := 0, locals := 0 } : Room) [.int a0] t (f_L_text t a0) (kRL t) := by
  refine CT_of (cc := cL_text) (maxL := 1) (ret := (some .long)) (own := RL) (by decide +kernel) rfl rfl (Nat.le_of_ble_eq_true rfl) ?_
  intro p e s m args below meth c hc
  refine V_sub (lv' := [(0, .int a0)]) [0] rfl ?_
  unfold f_L_text
  refine V_iload_n hc dL_text_0 rfl 0 rfl ?_
  refine V_if_ne (tgt := 10) hc dL_text_1 (by decide) ?_ ?_
  · refine V_iload_n hc dL_text_10 rfl 0 rfl ?_
    refine V_iconst (v := 1) hc dL_text_11 (by decide) ?_
    refine V_icmp_ne (tgt := 21) hc dL_text_12 (by decide) ?_ ?_
    · refine V_iload_n hc dL_text_21 rfl 0 rfl ?_
      refine V_iconst (v := 2) hc dL_text_22 (by decide) ?_
      refine V_icmp_ne (tgt := 32) hc dL_text_23 (by decide) ?_ ?_
      · refine V_iload_n hc dL_text_32 rfl 0 rfl ?_
        refine V_iconst (v := 3) hc dL_text_33 (by decide) ?_
        refine V_icmp_ne (tgt := 43) hc dL_text_34 (by decide) ?_ ?_
        · refine V_ldc2 (v := 3301665) hc wL_text_c29 dL_text_43 ?_
          exact V_lret hc rfl rfl dL_text_46
        · refine V_ldc2 (v := 54293237739617) hc wL_text_c27 dL_text_37 ?_
          refine V_goto (tgt := 46) hc dL_text_40 (by decide) ?_
          exact V_lret hc rfl rfl dL_text_46
      · refine V_ldc2 (v := 272498062625) hc wL_text_c25 dL_text_26 ?_
        refine V_goto (tgt := 46) hc dL_text_29 (by decide) ?_
        exact V_lret hc rfl rfl dL_text_46
    · refine V_ldc2 (v := 494565227638) hc wL_text_c23 dL_text_15 ?_
      refine V_goto (tgt := 46) hc dL_text_18 (by decide) ?_
      exact V_lret hc rfl rfl dL_text_46
  · refine V_ldc2 (v := 54376369634930) hc wL_text_c21 dL_text_4 ?_
    refine V_goto (tgt := 46) hc dL_text_7 (by decide) ?_
    exact V_lret hc rfl rfl dL_text_46


noncomputable def f_L_acts (t : Sx) (a1 : Int32) : Option (Int32 × Sx) := gd (¬ (12 : Int32) = 0) (bd (((a1 >>> (4 &&& 31)) - (a1 >>> (4 &&& 31)) / 12 * 12)) fun v1 => gd (¬ (12 : Int32) = 0) (bd (((a1 >>> (8 &&& 31)) - (a1 >>> (8 &&& 31)) / 12 * 12)) fun v2 => gd (¬ (16 : Int32) = 0) (bd (a1 - a1 / 16 * 16) fun v3 => if v3 = 0 then (f_X8_fileCount t ).bind fun r5 => if 11 < r5 then some (1, t) else gd (¬ (6 : Int32) = 0) (bd (((a1 >>> (12 &&& 31)) - (a1 >>> (12 &&& 31)) / 6 * 6)) fun v6 => gd (¬ (100 : Int32) = 0) (bd (((a1 >>> (15 &&& 31)) - (a1 >>> (15 &&& 31)) / 100 * 100)) fun v7 => (f_X8_add t (v6) (1 + v7)).bind fun r8 => if r8.1 < 0 then some (0, r8.2) else some (1, r8.2))) else if v3 = 1 then (f_X8_fileCount t ).bind fun r10 => if 11 < r10 then some (1, t) else gd (¬ (6 : Int32) = 0) (bd (((a1 >>> (12 &&& 31)) - (a1 >>> (12 &&& 31)) / 6 * 6)) fun v11 => gd (¬ (100 : Int32) = 0) (bd (((a1 >>> (15 &&& 31)) - (a1 >>> (15 &&& 31)) / 100 * 100)) fun v12 => (f_X8_add t (v11) (1 + v12)).bind fun r13 => if r13.1 < 0 then some (0, r13.2) else some (1, r13.2))) else if v3 = 2 then (f_X8_fileCount t ).bind fun r15 => if 11 < r15 then some (1, t) else gd (¬ (6 : Int32) = 0) (bd (((a1 >>> (12 &&& 31)) - (a1 >>> (12 &&& 31)) / 6 * 6)) fun v16 => gd (¬ (100 : Int32) = 0) (bd (((a1 >>> (15 &&& 31)) - (a1 >>> (15 &&& 31)) / 100 * 100)) fun v17 => (f_X8_add t (v16) (1 + v17)).bind fun r18 => if r18.1 < 0 then some (0, r18.2) else some (1, r18.2))) else if v3 = 3 then gd (¬ (3 : Int32) = 0) (gd (¬ (6 : Int32) = 0) (bd (((a1 >>> (12 &&& 31)) - (a1 >>> (12 &&& 31)) / 6 * 6)) fun v20 => (f_X8_setValue t (v1) (v2 - v2 / 3 * 3) (1) (v20)).bind fun r21 => if r21.1 ≤ (-5) then some (0, r21.2) else some (1, r21.2))) else if v3 = 4 then gd (¬ (3 : Int32) = 0) (gd (¬ (6 : Int32) = 0) (bd (((a1 >>> (12 &&& 31)) - (a1 >>> (12 &&& 31)) / 6 * 6)) fun v23 => (f_X8_setValue t (v1) (v2 - v2 / 3 * 3) (1) (v23)).bind fun r24 => if r24.1 ≤ (-5) then some (0, r24.2) else some (1, r24.2))) else if v3 = 5 then gd (¬ (3 : Int32) = 0) (gd (¬ (6 : Int32) = 0) (bd (((a1 >>> (12 &&& 31)) - (a1 >>> (12 &&& 31)) / 6 * 6)) fun v26 => (f_X8_setValue t (v1) (v2 - v2 / 3 * 3) (1) (v26)).bind fun r27 => if r27.1 ≤ (-5) then some (0, r27.2) else some (1, r27.2))) else if v3 = 6 then gd (¬ (3 : Int32) = 0) (gd (¬ (16 : Int32) = 0) (bd (((a1 >>> (12 &&& 31)) - (a1 >>> (12 &&& 31)) / 16 * 16)) fun v29 => (f_X8_setValue t (v1) (v2 - v2 / 3 * 3) (5) (v29)).bind fun r30 => if r30.1 ≤ (-5) then some (0, r30.2) else some (1, r30.2))) else if v3 = 7 then gd (¬ (3 : Int32) = 0) ((f_X8_clearValue t (v1) (v2 - v2 / 3 * 3) (1)).bind fun r32 => if r32.1 ≤ (-5) then some (0, r32.2) else some (1, r32.2)) else if v3 = 8 then (f_X8_stack t (v1) (v2)).bind fun r34 => if r34.1 ≤ (-4) then some (0, r34.2) else some (1, r34.2) else if v3 = 9 then (f_X8_stack t (v1) (v2)).bind fun r36 => if r36.1 ≤ (-4) then some (0, r36.2) else some (1, r36.2) else if v3 = 10 then gd (¬ (3 : Int32) = 0) ((f_X8_putInto t (v2 - v2 / 3 * 3) (v1) (0)).bind fun r38 => if r38.1 ≤ (-4) then some (0, r38.2) else some (1, r38.2)) else if v3 = 11 then (f_X8_takeOut t (v1)).bind fun r40 => if r40.1 ≤ (-3) then some (0, r40.2) else some (1, r40.2) else if v3 = 12 then gd (¬ (3 : Int32) = 0) (gd (¬ (2 : Int32) = 0) ((f_X8_collapse t (v2 - v2 / 3 * 3) (v1 - v1 / 2 * 2)).bind fun r42 => if r42.1 ≤ (-2) then some (0, r42.2) else gd (¬ (3 : Int32) = 0) ((f_X8_chooseCover r42.2 (v2 - v2 / 3 * 3) (v1)).bind fun r43 => if r43.1 ≤ (-3) then some (0, r43.2) else some (1, r43.2)))) else if v3 = 13 then gd (¬ (4 : Int32) = 0) (bd (((a1 >>> (12 &&& 31)) - (a1 >>> (12 &&& 31)) / 4 * 4)) fun v45 => if 0 < v45 then some (1, t) else (f_X8_merge t (v1)).bind fun r46 => if r46.1 ≤ (-3) then some (0, r46.2) else some (1, r46.2)) else if v3 = 14 then gd (¬ (3 : Int32) = 0) (bd (((a1 >>> (12 &&& 31)) - (a1 >>> (12 &&& 31)) / 3 * 3)) fun v48 => if 0 < v48 then some (1, t) else (f_X8_remove t (v1)).bind fun r49 => if r49.1 ≤ (-2) then some (0, r49.2) else some (1, r49.2)) else gd (¬ (6 : Int32) = 0) (bd (((a1 >>> (12 &&& 31)) - (a1 >>> (12 &&& 31)) / 6 * 6)) fun v50 => (f_X8_setDigest t (v1) (v50)).bind fun r51 => if r51.1 ≤ (-2) then some (0, r51.2) else gd (¬ (3 : Int32) = 0) (gd (¬ (3 : Int32) = 0) (gd (¬ (3 : Int32) = 0) ((f_X8_setOrder r51.2 (v2 - v2 / 3 * 3) ((v2 + 1) - (v2 + 1) / 3 * 3) ((v2 + 2) - (v2 + 2) / 3 * 3)).bind fun r52 => if r52.1 < 12 then some (0, r52.2) else some (1, r52.2))))))))
set_option maxRecDepth 20000 in
set_option maxHeartbeats 4000000 in
theorem c_L_acts (l : Launch) (K : Kx) (t : Sx) (a1 : Int32) : CT l K yL_acts wsL_acts ({ frames := 7, cells := 0, slots := 0, locals := 166 } : Room) [.ref (K.2.2 0), .int a1] t (f_L_acts t a1) kWI := by
  refine CT_of (cc := cL_acts) (maxL := 4) (ret := (some .boolean)) (own := RL) (by decide +kernel) rfl rfl (Nat.le_of_ble_eq_true rfl) ?_
  intro p e s m args below meth c hc
  refine V_sub (lv' := [(0, .ref (K.2.2 0)), (1, .int a1)]) [0, 1] rfl ?_
  unfold f_L_acts
  refine V_iload_n hc dL_acts_0 rfl 1 rfl ?_
  refine V_iconst (v := 4) hc dL_acts_1 (by decide) ?_
  refine V_ishr hc dL_acts_2 ?_
  refine V_bipush (v := 12) hc dL_acts_3 (by decide) ?_
  refine V_irem hc dL_acts_5 ?_
  refine V_bdi (fun v1 => ?_)
  refine V_istore_n (lv' := [(2, .int v1), (0, .ref (K.2.2 0)), (1, .int a1)]) hc dL_acts_6 rfl (by decide) rfl ?_
  refine V_iload_n hc dL_acts_7 rfl 2 rfl ?_
  refine V_bipush (v := 8) hc dL_acts_8 (by decide) ?_
  refine V_ishr hc dL_acts_10 ?_
  refine V_bipush (v := 12) hc dL_acts_11 (by decide) ?_
  refine V_irem hc dL_acts_13 ?_
  refine V_bdi (fun v2 => ?_)
  refine V_istore_n (lv' := [(3, .int v2), (2, .int v1), (0, .ref (K.2.2 0)), (1, .int a1)]) hc dL_acts_14 rfl (by decide) rfl ?_
  refine V_iload_n hc dL_acts_15 rfl 3 rfl ?_
  refine V_bipush (v := 16) hc dL_acts_16 (by decide) ?_
  refine V_irem hc dL_acts_18 ?_
  refine V_bdi (fun v3 => ?_)
  refine V_ite (fun h4 => ?_) (fun h4 => ?_)
  · refine V_tsIn (tgt := 92) hc dL_acts_19 (by rw [h4] <;> decide) (by rw [h4] <;> decide) (by rw [h4] <;> rfl) (by decide) ?_
    refine V_aload_n hc dL_acts_92 rfl 2 rfl ?_
    refine V_callV_RI (Cn := RX8) (T := TX8) (N := 8) hc (c_X8_fileCount l K t ) sP0 rfl 0 gL_acts_X8_fileCount rfl ⟨rfl, rfl⟩ (by decide) ⟨Nat.le_of_ble_eq_true rfl, Nat.le_of_ble_eq_true rfl⟩ rfl rfl (Nat.le_of_ble_eq_true rfl) dL_acts_93 (fun r5 => ?_)
    refine V_bipush (v := 11) hc dL_acts_96 (by decide) ?_
    refine V_icmp_gt (tgt := 124) hc dL_acts_98 (by decide) ?_ ?_
    · refine V_iconst (v := 1) hc dL_acts_124 (by decide) ?_
      refine V_goto (tgt := 129) hc dL_acts_125 (by decide) ?_
      exact V_nret hc rfl rfl rfl dL_acts_129
    · refine V_aload_n hc dL_acts_101 rfl 2 rfl ?_
      refine V_iload_n hc dL_acts_102 rfl 3 rfl ?_
      refine V_bipush (v := 12) hc dL_acts_103 (by decide) ?_
      refine V_ishr hc dL_acts_105 ?_
      refine V_bipush (v := 6) hc dL_acts_106 (by decide) ?_
      refine V_irem hc dL_acts_108 ?_
      refine V_bdi (fun v6 => ?_)
      refine V_iconst (v := 1) hc dL_acts_109 (by decide) ?_
      refine V_iload_n hc dL_acts_110 rfl 3 rfl ?_
      refine V_bipush (v := 15) hc dL_acts_111 (by decide) ?_
      refine V_ishr hc dL_acts_113 ?_
      refine V_bipush (v := 100) hc dL_acts_114 (by decide) ?_
      refine V_irem hc dL_acts_116 ?_
      refine V_bdi (fun v7 => ?_)
      refine V_iadd hc dL_acts_117 ?_
      refine V_callV_WI (Cn := RX8) (T := TX8) (N := 8) hc (c_X8_add l K t (v6) (1 + v7)) sP0 rfl 2 gL_acts_X8_add rfl ⟨rfl, rfl⟩ (by decide) ⟨Nat.le_of_ble_eq_true rfl, Nat.le_of_ble_eq_true rfl⟩ rfl rfl (Nat.le_of_ble_eq_true rfl) dL_acts_118 (fun r8 => ?_)
      refine V_if_lt (tgt := 128) hc dL_acts_121 (by decide) ?_ ?_
      · refine V_iconst (v := 0) hc dL_acts_128 (by decide) ?_
        exact V_nret hc rfl rfl rfl dL_acts_129
      · refine V_iconst (v := 1) hc dL_acts_124 (by decide) ?_
        refine V_goto (tgt := 129) hc dL_acts_125 (by decide) ?_
        exact V_nret hc rfl rfl rfl dL_acts_129
  · refine V_ite (fun h9 => ?_) (fun h9 => ?_)
    · refine V_tsIn (tgt := 92) hc dL_acts_19 (by rw [h9] <;> decide) (by rw [h9] <;> decide) (by rw [h9] <;> rfl) (by decide) ?_
      refine V_aload_n hc dL_acts_92 rfl 2 rfl ?_
      refine V_callV_RI (Cn := RX8) (T := TX8) (N := 8) hc (c_X8_fileCount l K t ) sP0 rfl 0 gL_acts_X8_fileCount rfl ⟨rfl, rfl⟩ (by decide) ⟨Nat.le_of_ble_eq_true rfl, Nat.le_of_ble_eq_true rfl⟩ rfl rfl (Nat.le_of_ble_eq_true rfl) dL_acts_93 (fun r10 => ?_)
      refine V_bipush (v := 11) hc dL_acts_96 (by decide) ?_
      refine V_icmp_gt (tgt := 124) hc dL_acts_98 (by decide) ?_ ?_
      · refine V_iconst (v := 1) hc dL_acts_124 (by decide) ?_
        refine V_goto (tgt := 129) hc dL_acts_125 (by decide) ?_
        exact V_nret hc rfl rfl rfl dL_acts_129
      · refine V_aload_n hc dL_acts_101 rfl 2 rfl ?_
        refine V_iload_n hc dL_acts_102 rfl 3 rfl ?_
        refine V_bipush (v := 12) hc dL_acts_103 (by decide) ?_
        refine V_ishr hc dL_acts_105 ?_
        refine V_bipush (v := 6) hc dL_acts_106 (by decide) ?_
        refine V_irem hc dL_acts_108 ?_
        refine V_bdi (fun v11 => ?_)
        refine V_iconst (v := 1) hc dL_acts_109 (by decide) ?_
        refine V_iload_n hc dL_acts_110 rfl 3 rfl ?_
        refine V_bipush (v := 15) hc dL_acts_111 (by decide) ?_
        refine V_ishr hc dL_acts_113 ?_
        refine V_bipush (v := 100) hc dL_acts_114 (by decide) ?_
        refine V_irem hc dL_acts_116 ?_
        refine V_bdi (fun v12 => ?_)
        refine V_iadd hc dL_acts_117 ?_
        refine V_callV_WI (Cn := RX8) (T := TX8) (N := 8) hc (c_X8_add l K t (v11) (1 + v12)) sP0 rfl 2 gL_acts_X8_add rfl ⟨rfl, rfl⟩ (by decide) ⟨Nat.le_of_ble_eq_true rfl, Nat.le_of_ble_eq_true rfl⟩ rfl rfl (Nat.le_of_ble_eq_true rfl) dL_acts_118 (fun r13 => ?_)
        refine V_if_lt (tgt := 128) hc dL_acts_121 (by decide) ?_ ?_
        · refine V_iconst (v := 0) hc dL_acts_128 (by decide) ?_
          exact V_nret hc rfl rfl rfl dL_acts_129
        · refine V_iconst (v := 1) hc dL_acts_124 (by decide) ?_
          refine V_goto (tgt := 129) hc dL_acts_125 (by decide) ?_
          exact V_nret hc rfl rfl rfl dL_acts_129
    · refine V_ite (fun h14 => ?_) (fun h14 => ?_)
      · refine V_tsIn (tgt := 92) hc dL_acts_19 (by rw [h14] <;> decide) (by rw [h14] <;> decide) (by rw [h14] <;> rfl) (by decide) ?_
        refine V_aload_n hc dL_acts_92 rfl 2 rfl ?_
        refine V_callV_RI (Cn := RX8) (T := TX8) (N := 8) hc (c_X8_fileCount l K t ) sP0 rfl 0 gL_acts_X8_fileCount rfl ⟨rfl, rfl⟩ (by decide) ⟨Nat.le_of_ble_eq_true rfl, Nat.le_of_ble_eq_true rfl⟩ rfl rfl (Nat.le_of_ble_eq_true rfl) dL_acts_93 (fun r15 => ?_)
        refine V_bipush (v := 11) hc dL_acts_96 (by decide) ?_
        refine V_icmp_gt (tgt := 124) hc dL_acts_98 (by decide) ?_ ?_
        · refine V_iconst (v := 1) hc dL_acts_124 (by decide) ?_
          refine V_goto (tgt := 129) hc dL_acts_125 (by decide) ?_
          exact V_nret hc rfl rfl rfl dL_acts_129
        · refine V_aload_n hc dL_acts_101 rfl 2 rfl ?_
          refine V_iload_n hc dL_acts_102 rfl 3 rfl ?_
          refine V_bipush (v := 12) hc dL_acts_103 (by decide) ?_
          refine V_ishr hc dL_acts_105 ?_
          refine V_bipush (v := 6) hc dL_acts_106 (by decide) ?_
          refine V_irem hc dL_acts_108 ?_
          refine V_bdi (fun v16 => ?_)
          refine V_iconst (v := 1) hc dL_acts_109 (by decide) ?_
          refine V_iload_n hc dL_acts_110 rfl 3 rfl ?_
          refine V_bipush (v := 15) hc dL_acts_111 (by decide) ?_
          refine V_ishr hc dL_acts_113 ?_
          refine V_bipush (v := 100) hc dL_acts_114 (by decide) ?_
          refine V_irem hc dL_acts_116 ?_
          refine V_bdi (fun v17 => ?_)
          refine V_iadd hc dL_acts_117 ?_
          refine V_callV_WI (Cn := RX8) (T := TX8) (N := 8) hc (c_X8_add l K t (v16) (1 + v17)) sP0 rfl 2 gL_acts_X8_add rfl ⟨rfl, rfl⟩ (by decide) ⟨Nat.le_of_ble_eq_true rfl, Nat.le_of_ble_eq_true rfl⟩ rfl rfl (Nat.le_of_ble_eq_true rfl) dL_acts_118 (fun r18 => ?_)
          refine V_if_lt (tgt := 128) hc dL_acts_121 (by decide) ?_ ?_
          · refine V_iconst (v := 0) hc dL_acts_128 (by decide) ?_
            exact V_nret hc rfl rfl rfl dL_acts_129
          · refine V_iconst (v := 1) hc dL_acts_124 (by decide) ?_
            refine V_goto (tgt := 129) hc dL_acts_125 (by decide) ?_
            exact V_nret hc rfl rfl rfl dL_acts_129
      · refine V_ite (fun h19 => ?_) (fun h19 => ?_)
        · refine V_tsIn (tgt := 130) hc dL_acts_19 (by rw [h19] <;> decide) (by rw [h19] <;> decide) (by rw [h19] <;> rfl) (by decide) ?_
          refine V_aload_n hc dL_acts_130 rfl 2 rfl ?_
          refine V_iload_n hc dL_acts_131 rfl 1 rfl ?_
          refine V_iload_n hc dL_acts_132 rfl 0 rfl ?_
          refine V_iconst (v := 3) hc dL_acts_133 (by decide) ?_
          refine V_irem hc dL_acts_134 ?_
          refine V_iconst (v := 1) hc dL_acts_135 (by decide) ?_
          refine V_iload_n hc dL_acts_136 rfl 3 rfl ?_
          refine V_bipush (v := 12) hc dL_acts_137 (by decide) ?_
          refine V_ishr hc dL_acts_139 ?_
          refine V_bipush (v := 6) hc dL_acts_140 (by decide) ?_
          refine V_irem hc dL_acts_142 ?_
          refine V_bdi (fun v20 => ?_)
          refine V_callV_WI (Cn := RX8) (T := TX8) (N := 8) hc (c_X8_setValue l K t (v1) (v2 - v2 / 3 * 3) (1) (v20)) sP0 rfl 4 gL_acts_X8_setValue rfl ⟨rfl, rfl⟩ (by decide) ⟨Nat.le_of_ble_eq_true rfl, Nat.le_of_ble_eq_true rfl⟩ rfl rfl (Nat.le_of_ble_eq_true rfl) dL_acts_143 (fun r21 => ?_)
          refine V_bipush (v := (-5)) hc dL_acts_146 (by decide) ?_
          refine V_icmp_le (tgt := 155) hc dL_acts_148 (by decide) ?_ ?_
          · refine V_iconst (v := 0) hc dL_acts_155 (by decide) ?_
            exact V_nret hc rfl rfl rfl dL_acts_156
          · refine V_iconst (v := 1) hc dL_acts_151 (by decide) ?_
            refine V_goto (tgt := 156) hc dL_acts_152 (by decide) ?_
            exact V_nret hc rfl rfl rfl dL_acts_156
        · refine V_ite (fun h22 => ?_) (fun h22 => ?_)
          · refine V_tsIn (tgt := 130) hc dL_acts_19 (by rw [h22] <;> decide) (by rw [h22] <;> decide) (by rw [h22] <;> rfl) (by decide) ?_
            refine V_aload_n hc dL_acts_130 rfl 2 rfl ?_
            refine V_iload_n hc dL_acts_131 rfl 1 rfl ?_
            refine V_iload_n hc dL_acts_132 rfl 0 rfl ?_
            refine V_iconst (v := 3) hc dL_acts_133 (by decide) ?_
            refine V_irem hc dL_acts_134 ?_
            refine V_iconst (v := 1) hc dL_acts_135 (by decide) ?_
            refine V_iload_n hc dL_acts_136 rfl 3 rfl ?_
            refine V_bipush (v := 12) hc dL_acts_137 (by decide) ?_
            refine V_ishr hc dL_acts_139 ?_
            refine V_bipush (v := 6) hc dL_acts_140 (by decide) ?_
            refine V_irem hc dL_acts_142 ?_
            refine V_bdi (fun v23 => ?_)
            refine V_callV_WI (Cn := RX8) (T := TX8) (N := 8) hc (c_X8_setValue l K t (v1) (v2 - v2 / 3 * 3) (1) (v23)) sP0 rfl 4 gL_acts_X8_setValue rfl ⟨rfl, rfl⟩ (by decide) ⟨Nat.le_of_ble_eq_true rfl, Nat.le_of_ble_eq_true rfl⟩ rfl rfl (Nat.le_of_ble_eq_true rfl) dL_acts_143 (fun r24 => ?_)
            refine V_bipush (v := (-5)) hc dL_acts_146 (by decide) ?_
            refine V_icmp_le (tgt := 155) hc dL_acts_148 (by decide) ?_ ?_
            · refine V_iconst (v := 0) hc dL_acts_155 (by decide) ?_
              exact V_nret hc rfl rfl rfl dL_acts_156
            · refine V_iconst (v := 1) hc dL_acts_151 (by decide) ?_
              refine V_goto (tgt := 156) hc dL_acts_152 (by decide) ?_
              exact V_nret hc rfl rfl rfl dL_acts_156
          · refine V_ite (fun h25 => ?_) (fun h25 => ?_)
            · refine V_tsIn (tgt := 130) hc dL_acts_19 (by rw [h25] <;> decide) (by rw [h25] <;> decide) (by rw [h25] <;> rfl) (by decide) ?_
              refine V_aload_n hc dL_acts_130 rfl 2 rfl ?_
              refine V_iload_n hc dL_acts_131 rfl 1 rfl ?_
              refine V_iload_n hc dL_acts_132 rfl 0 rfl ?_
              refine V_iconst (v := 3) hc dL_acts_133 (by decide) ?_
              refine V_irem hc dL_acts_134 ?_
              refine V_iconst (v := 1) hc dL_acts_135 (by decide) ?_
              refine V_iload_n hc dL_acts_136 rfl 3 rfl ?_
              refine V_bipush (v := 12) hc dL_acts_137 (by decide) ?_
              refine V_ishr hc dL_acts_139 ?_
              refine V_bipush (v := 6) hc dL_acts_140 (by decide) ?_
              refine V_irem hc dL_acts_142 ?_
              refine V_bdi (fun v26 => ?_)
              refine V_callV_WI (Cn := RX8) (T := TX8) (N := 8) hc (c_X8_setValue l K t (v1) (v2 - v2 / 3 * 3) (1) (v26)) sP0 rfl 4 gL_acts_X8_setValue rfl ⟨rfl, rfl⟩ (by decide) ⟨Nat.le_of_ble_eq_true rfl, Nat.le_of_ble_eq_true rfl⟩ rfl rfl (Nat.le_of_ble_eq_true rfl) dL_acts_143 (fun r27 => ?_)
              refine V_bipush (v := (-5)) hc dL_acts_146 (by decide) ?_
              refine V_icmp_le (tgt := 155) hc dL_acts_148 (by decide) ?_ ?_
              · refine V_iconst (v := 0) hc dL_acts_155 (by decide) ?_
                exact V_nret hc rfl rfl rfl dL_acts_156
              · refine V_iconst (v := 1) hc dL_acts_151 (by decide) ?_
                refine V_goto (tgt := 156) hc dL_acts_152 (by decide) ?_
                exact V_nret hc rfl rfl rfl dL_acts_156
            · refine V_ite (fun h28 => ?_) (fun h28 => ?_)
              · refine V_tsIn (tgt := 157) hc dL_acts_19 (by rw [h28] <;> decide) (by rw [h28] <;> decide) (by rw [h28] <;> rfl) (by decide) ?_
                refine V_aload_n hc dL_acts_157 rfl 2 rfl ?_
                refine V_iload_n hc dL_acts_158 rfl 1 rfl ?_
                refine V_iload_n hc dL_acts_159 rfl 0 rfl ?_
                refine V_iconst (v := 3) hc dL_acts_160 (by decide) ?_
                refine V_irem hc dL_acts_161 ?_
                refine V_iconst (v := 5) hc dL_acts_162 (by decide) ?_
                refine V_iload_n hc dL_acts_163 rfl 3 rfl ?_
                refine V_bipush (v := 12) hc dL_acts_164 (by decide) ?_
                refine V_ishr hc dL_acts_166 ?_
                refine V_bipush (v := 16) hc dL_acts_167 (by decide) ?_
                refine V_irem hc dL_acts_169 ?_
                refine V_bdi (fun v29 => ?_)
                refine V_callV_WI (Cn := RX8) (T := TX8) (N := 8) hc (c_X8_setValue l K t (v1) (v2 - v2 / 3 * 3) (5) (v29)) sP0 rfl 4 gL_acts_X8_setValue rfl ⟨rfl, rfl⟩ (by decide) ⟨Nat.le_of_ble_eq_true rfl, Nat.le_of_ble_eq_true rfl⟩ rfl rfl (Nat.le_of_ble_eq_true rfl) dL_acts_170 (fun r30 => ?_)
                refine V_bipush (v := (-5)) hc dL_acts_173 (by decide) ?_
                refine V_icmp_le (tgt := 182) hc dL_acts_175 (by decide) ?_ ?_
                · refine V_iconst (v := 0) hc dL_acts_182 (by decide) ?_
                  exact V_nret hc rfl rfl rfl dL_acts_183
                · refine V_iconst (v := 1) hc dL_acts_178 (by decide) ?_
                  refine V_goto (tgt := 183) hc dL_acts_179 (by decide) ?_
                  exact V_nret hc rfl rfl rfl dL_acts_183
              · refine V_ite (fun h31 => ?_) (fun h31 => ?_)
                · refine V_tsIn (tgt := 184) hc dL_acts_19 (by rw [h31] <;> decide) (by rw [h31] <;> decide) (by rw [h31] <;> rfl) (by decide) ?_
                  refine V_aload_n hc dL_acts_184 rfl 2 rfl ?_
                  refine V_iload_n hc dL_acts_185 rfl 1 rfl ?_
                  refine V_iload_n hc dL_acts_186 rfl 0 rfl ?_
                  refine V_iconst (v := 3) hc dL_acts_187 (by decide) ?_
                  refine V_irem hc dL_acts_188 ?_
                  refine V_iconst (v := 1) hc dL_acts_189 (by decide) ?_
                  refine V_callV_WI (Cn := RX8) (T := TX8) (N := 8) hc (c_X8_clearValue l K t (v1) (v2 - v2 / 3 * 3) (1)) sP0 rfl 3 gL_acts_X8_clearValue rfl ⟨rfl, rfl⟩ (by decide) ⟨Nat.le_of_ble_eq_true rfl, Nat.le_of_ble_eq_true rfl⟩ rfl rfl (Nat.le_of_ble_eq_true rfl) dL_acts_190 (fun r32 => ?_)
                  refine V_bipush (v := (-5)) hc dL_acts_193 (by decide) ?_
                  refine V_icmp_le (tgt := 202) hc dL_acts_195 (by decide) ?_ ?_
                  · refine V_iconst (v := 0) hc dL_acts_202 (by decide) ?_
                    exact V_nret hc rfl rfl rfl dL_acts_203
                  · refine V_iconst (v := 1) hc dL_acts_198 (by decide) ?_
                    refine V_goto (tgt := 203) hc dL_acts_199 (by decide) ?_
                    exact V_nret hc rfl rfl rfl dL_acts_203
                · refine V_ite (fun h33 => ?_) (fun h33 => ?_)
                  · refine V_tsIn (tgt := 204) hc dL_acts_19 (by rw [h33] <;> decide) (by rw [h33] <;> decide) (by rw [h33] <;> rfl) (by decide) ?_
                    refine V_aload_n hc dL_acts_204 rfl 2 rfl ?_
                    refine V_iload_n hc dL_acts_205 rfl 1 rfl ?_
                    refine V_iload_n hc dL_acts_206 rfl 0 rfl ?_
                    refine V_callV_WI (Cn := RX8) (T := TX8) (N := 8) hc (c_X8_stack l K t (v1) (v2)) sP0 rfl 2 gL_acts_X8_stack rfl ⟨rfl, rfl⟩ (by decide) ⟨Nat.le_of_ble_eq_true rfl, Nat.le_of_ble_eq_true rfl⟩ rfl rfl (Nat.le_of_ble_eq_true rfl) dL_acts_207 (fun r34 => ?_)
                    refine V_bipush (v := (-4)) hc dL_acts_210 (by decide) ?_
                    refine V_icmp_le (tgt := 219) hc dL_acts_212 (by decide) ?_ ?_
                    · refine V_iconst (v := 0) hc dL_acts_219 (by decide) ?_
                      exact V_nret hc rfl rfl rfl dL_acts_220
                    · refine V_iconst (v := 1) hc dL_acts_215 (by decide) ?_
                      refine V_goto (tgt := 220) hc dL_acts_216 (by decide) ?_
                      exact V_nret hc rfl rfl rfl dL_acts_220
                  · refine V_ite (fun h35 => ?_) (fun h35 => ?_)
                    · refine V_tsIn (tgt := 204) hc dL_acts_19 (by rw [h35] <;> decide) (by rw [h35] <;> decide) (by rw [h35] <;> rfl) (by decide) ?_
                      refine V_aload_n hc dL_acts_204 rfl 2 rfl ?_
                      refine V_iload_n hc dL_acts_205 rfl 1 rfl ?_
                      refine V_iload_n hc dL_acts_206 rfl 0 rfl ?_
                      refine V_callV_WI (Cn := RX8) (T := TX8) (N := 8) hc (c_X8_stack l K t (v1) (v2)) sP0 rfl 2 gL_acts_X8_stack rfl ⟨rfl, rfl⟩ (by decide) ⟨Nat.le_of_ble_eq_true rfl, Nat.le_of_ble_eq_true rfl⟩ rfl rfl (Nat.le_of_ble_eq_true rfl) dL_acts_207 (fun r36 => ?_)
                      refine V_bipush (v := (-4)) hc dL_acts_210 (by decide) ?_
                      refine V_icmp_le (tgt := 219) hc dL_acts_212 (by decide) ?_ ?_
                      · refine V_iconst (v := 0) hc dL_acts_219 (by decide) ?_
                        exact V_nret hc rfl rfl rfl dL_acts_220
                      · refine V_iconst (v := 1) hc dL_acts_215 (by decide) ?_
                        refine V_goto (tgt := 220) hc dL_acts_216 (by decide) ?_
                        exact V_nret hc rfl rfl rfl dL_acts_220
                    · refine V_ite (fun h37 => ?_) (fun h37 => ?_)
                      · refine V_tsIn (tgt := 221) hc dL_acts_19 (by rw [h37] <;> decide) (by rw [h37] <;> decide) (by rw [h37] <;> rfl) (by decide) ?_
                        refine V_aload_n hc dL_acts_221 rfl 2 rfl ?_
                        refine V_iload_n hc dL_acts_222 rfl 0 rfl ?_
                        refine V_iconst (v := 3) hc dL_acts_223 (by decide) ?_
                        refine V_irem hc dL_acts_224 ?_
                        refine V_iload_n hc dL_acts_225 rfl 1 rfl ?_
                        refine V_iconst (v := 0) hc dL_acts_226 (by decide) ?_
                        refine V_callV_WI (Cn := RX8) (T := TX8) (N := 8) hc (c_X8_putInto l K t (v2 - v2 / 3 * 3) (v1) (0)) sP0 rfl 3 gL_acts_X8_putInto rfl ⟨rfl, rfl⟩ (by decide) ⟨Nat.le_of_ble_eq_true rfl, Nat.le_of_ble_eq_true rfl⟩ rfl rfl (Nat.le_of_ble_eq_true rfl) dL_acts_227 (fun r38 => ?_)
                        refine V_bipush (v := (-4)) hc dL_acts_230 (by decide) ?_
                        refine V_icmp_le (tgt := 239) hc dL_acts_232 (by decide) ?_ ?_
                        · refine V_iconst (v := 0) hc dL_acts_239 (by decide) ?_
                          exact V_nret hc rfl rfl rfl dL_acts_240
                        · refine V_iconst (v := 1) hc dL_acts_235 (by decide) ?_
                          refine V_goto (tgt := 240) hc dL_acts_236 (by decide) ?_
                          exact V_nret hc rfl rfl rfl dL_acts_240
                      · refine V_ite (fun h39 => ?_) (fun h39 => ?_)
                        · refine V_tsIn (tgt := 241) hc dL_acts_19 (by rw [h39] <;> decide) (by rw [h39] <;> decide) (by rw [h39] <;> rfl) (by decide) ?_
                          refine V_aload_n hc dL_acts_241 rfl 2 rfl ?_
                          refine V_iload_n hc dL_acts_242 rfl 1 rfl ?_
                          refine V_callV_WI (Cn := RX8) (T := TX8) (N := 8) hc (c_X8_takeOut l K t (v1)) sP0 rfl 1 gL_acts_X8_takeOut rfl ⟨rfl, rfl⟩ (by decide) ⟨Nat.le_of_ble_eq_true rfl, Nat.le_of_ble_eq_true rfl⟩ rfl rfl (Nat.le_of_ble_eq_true rfl) dL_acts_243 (fun r40 => ?_)
                          refine V_bipush (v := (-3)) hc dL_acts_246 (by decide) ?_
                          refine V_icmp_le (tgt := 255) hc dL_acts_248 (by decide) ?_ ?_
                          · refine V_iconst (v := 0) hc dL_acts_255 (by decide) ?_
                            exact V_nret hc rfl rfl rfl dL_acts_256
                          · refine V_iconst (v := 1) hc dL_acts_251 (by decide) ?_
                            refine V_goto (tgt := 256) hc dL_acts_252 (by decide) ?_
                            exact V_nret hc rfl rfl rfl dL_acts_256
                        · refine V_ite (fun h41 => ?_) (fun h41 => ?_)
                          · refine V_tsIn (tgt := 257) hc dL_acts_19 (by rw [h41] <;> decide) (by rw [h41] <;> decide) (by rw [h41] <;> rfl) (by decide) ?_
                            refine V_aload_n hc dL_acts_257 rfl 2 rfl ?_
                            refine V_iload_n hc dL_acts_258 rfl 0 rfl ?_
                            refine V_iconst (v := 3) hc dL_acts_259 (by decide) ?_
                            refine V_irem hc dL_acts_260 ?_
                            refine V_iload_n hc dL_acts_261 rfl 1 rfl ?_
                            refine V_iconst (v := 2) hc dL_acts_262 (by decide) ?_
                            refine V_irem hc dL_acts_263 ?_
                            refine V_callV_WI (Cn := RX8) (T := TX8) (N := 8) hc (c_X8_collapse l K t (v2 - v2 / 3 * 3) (v1 - v1 / 2 * 2)) sP0 rfl 2 gL_acts_X8_collapse rfl ⟨rfl, rfl⟩ (by decide) ⟨Nat.le_of_ble_eq_true rfl, Nat.le_of_ble_eq_true rfl⟩ rfl rfl (Nat.le_of_ble_eq_true rfl) dL_acts_264 (fun r42 => ?_)
                            refine V_bipush (v := (-2)) hc dL_acts_267 (by decide) ?_
                            refine V_icmp_le (tgt := 289) hc dL_acts_269 (by decide) ?_ ?_
                            · refine V_iconst (v := 0) hc dL_acts_289 (by decide) ?_
                              exact V_nret hc rfl rfl rfl dL_acts_290
                            · refine V_aload_n hc dL_acts_272 rfl 2 rfl ?_
                              refine V_iload_n hc dL_acts_273 rfl 0 rfl ?_
                              refine V_iconst (v := 3) hc dL_acts_274 (by decide) ?_
                              refine V_irem hc dL_acts_275 ?_
                              refine V_iload_n hc dL_acts_276 rfl 1 rfl ?_
                              refine V_callV_WI (Cn := RX8) (T := TX8) (N := 8) hc (c_X8_chooseCover l K r42.2 (v2 - v2 / 3 * 3) (v1)) sP0 rfl 2 gL_acts_X8_chooseCover rfl ⟨rfl, rfl⟩ (by decide) ⟨Nat.le_of_ble_eq_true rfl, Nat.le_of_ble_eq_true rfl⟩ rfl rfl (Nat.le_of_ble_eq_true rfl) dL_acts_277 (fun r43 => ?_)
                              refine V_bipush (v := (-3)) hc dL_acts_280 (by decide) ?_
                              refine V_icmp_le (tgt := 289) hc dL_acts_282 (by decide) ?_ ?_
                              · refine V_iconst (v := 0) hc dL_acts_289 (by decide) ?_
                                exact V_nret hc rfl rfl rfl dL_acts_290
                              · refine V_iconst (v := 1) hc dL_acts_285 (by decide) ?_
                                refine V_goto (tgt := 290) hc dL_acts_286 (by decide) ?_
                                exact V_nret hc rfl rfl rfl dL_acts_290
                          · refine V_ite (fun h44 => ?_) (fun h44 => ?_)
                            · refine V_tsIn (tgt := 291) hc dL_acts_19 (by rw [h44] <;> decide) (by rw [h44] <;> decide) (by rw [h44] <;> rfl) (by decide) ?_
                              refine V_iload_n hc dL_acts_291 rfl 3 rfl ?_
                              refine V_bipush (v := 12) hc dL_acts_292 (by decide) ?_
                              refine V_ishr hc dL_acts_294 ?_
                              refine V_iconst (v := 4) hc dL_acts_295 (by decide) ?_
                              refine V_irem hc dL_acts_296 ?_
                              refine V_bdi (fun v45 => ?_)
                              refine V_if_gt (tgt := 310) hc dL_acts_297 (by decide) ?_ ?_
                              · refine V_iconst (v := 1) hc dL_acts_310 (by decide) ?_
                                refine V_goto (tgt := 315) hc dL_acts_311 (by decide) ?_
                                exact V_nret hc rfl rfl rfl dL_acts_315
                              · refine V_aload_n hc dL_acts_300 rfl 2 rfl ?_
                                refine V_iload_n hc dL_acts_301 rfl 1 rfl ?_
                                refine V_callV_WI (Cn := RX8) (T := TX8) (N := 8) hc (c_X8_merge l K t (v1)) sP0 rfl 1 gL_acts_X8_merge rfl ⟨rfl, rfl⟩ (by decide) ⟨Nat.le_of_ble_eq_true rfl, Nat.le_of_ble_eq_true rfl⟩ rfl rfl (Nat.le_of_ble_eq_true rfl) dL_acts_302 (fun r46 => ?_)
                                refine V_bipush (v := (-3)) hc dL_acts_305 (by decide) ?_
                                refine V_icmp_le (tgt := 314) hc dL_acts_307 (by decide) ?_ ?_
                                · refine V_iconst (v := 0) hc dL_acts_314 (by decide) ?_
                                  exact V_nret hc rfl rfl rfl dL_acts_315
                                · refine V_iconst (v := 1) hc dL_acts_310 (by decide) ?_
                                  refine V_goto (tgt := 315) hc dL_acts_311 (by decide) ?_
                                  exact V_nret hc rfl rfl rfl dL_acts_315
                            · refine V_ite (fun h47 => ?_) (fun h47 => ?_)
                              · refine V_tsIn (tgt := 316) hc dL_acts_19 (by rw [h47] <;> decide) (by rw [h47] <;> decide) (by rw [h47] <;> rfl) (by decide) ?_
                                refine V_iload_n hc dL_acts_316 rfl 3 rfl ?_
                                refine V_bipush (v := 12) hc dL_acts_317 (by decide) ?_
                                refine V_ishr hc dL_acts_319 ?_
                                refine V_iconst (v := 3) hc dL_acts_320 (by decide) ?_
                                refine V_irem hc dL_acts_321 ?_
                                refine V_bdi (fun v48 => ?_)
                                refine V_if_gt (tgt := 335) hc dL_acts_322 (by decide) ?_ ?_
                                · refine V_iconst (v := 1) hc dL_acts_335 (by decide) ?_
                                  refine V_goto (tgt := 340) hc dL_acts_336 (by decide) ?_
                                  exact V_nret hc rfl rfl rfl dL_acts_340
                                · refine V_aload_n hc dL_acts_325 rfl 2 rfl ?_
                                  refine V_iload_n hc dL_acts_326 rfl 1 rfl ?_
                                  refine V_callV_WI (Cn := RX8) (T := TX8) (N := 8) hc (c_X8_remove l K t (v1)) sP0 rfl 1 gL_acts_X8_remove rfl ⟨rfl, rfl⟩ (by decide) ⟨Nat.le_of_ble_eq_true rfl, Nat.le_of_ble_eq_true rfl⟩ rfl rfl (Nat.le_of_ble_eq_true rfl) dL_acts_327 (fun r49 => ?_)
                                  refine V_bipush (v := (-2)) hc dL_acts_330 (by decide) ?_
                                  refine V_icmp_le (tgt := 339) hc dL_acts_332 (by decide) ?_ ?_
                                  · refine V_iconst (v := 0) hc dL_acts_339 (by decide) ?_
                                    exact V_nret hc rfl rfl rfl dL_acts_340
                                  · refine V_iconst (v := 1) hc dL_acts_335 (by decide) ?_
                                    refine V_goto (tgt := 340) hc dL_acts_336 (by decide) ?_
                                    exact V_nret hc rfl rfl rfl dL_acts_340
                              · refine V_tsOut (tgt := 341) hc dL_acts_19 (ts_out (lo := 0) (n := 15) (fun i hi => match i, hi with | 0, _ => h4 | 1, _ => h9 | 2, _ => h14 | 3, _ => h19 | 4, _ => h22 | 5, _ => h25 | 6, _ => h28 | 7, _ => h31 | 8, _ => h33 | 9, _ => h35 | 10, _ => h37 | 11, _ => h39 | 12, _ => h41 | 13, _ => h44 | 14, _ => h47 | _ + 15, hi => absurd hi (by omega))) (by decide) ?_
                                refine V_aload_n hc dL_acts_341 rfl 2 rfl ?_
                                refine V_iload_n hc dL_acts_342 rfl 1 rfl ?_
                                refine V_iload_n hc dL_acts_343 rfl 3 rfl ?_
                                refine V_bipush (v := 12) hc dL_acts_344 (by decide) ?_
                                refine V_ishr hc dL_acts_346 ?_
                                refine V_bipush (v := 6) hc dL_acts_347 (by decide) ?_
                                refine V_irem hc dL_acts_349 ?_
                                refine V_bdi (fun v50 => ?_)
                                refine V_callV_WI (Cn := RX8) (T := TX8) (N := 8) hc (c_X8_setDigest l K t (v1) (v50)) sP0 rfl 2 gL_acts_X8_setDigest rfl ⟨rfl, rfl⟩ (by decide) ⟨Nat.le_of_ble_eq_true rfl, Nat.le_of_ble_eq_true rfl⟩ rfl rfl (Nat.le_of_ble_eq_true rfl) dL_acts_350 (fun r51 => ?_)
                                refine V_bipush (v := (-2)) hc dL_acts_353 (by decide) ?_
                                refine V_icmp_le (tgt := 384) hc dL_acts_355 (by decide) ?_ ?_
                                · refine V_iconst (v := 0) hc dL_acts_384 (by decide) ?_
                                  exact V_nret hc rfl rfl rfl dL_acts_385
                                · refine V_aload_n hc dL_acts_358 rfl 2 rfl ?_
                                  refine V_iload_n hc dL_acts_359 rfl 0 rfl ?_
                                  refine V_iconst (v := 3) hc dL_acts_360 (by decide) ?_
                                  refine V_irem hc dL_acts_361 ?_
                                  refine V_iload_n hc dL_acts_362 rfl 0 rfl ?_
                                  refine V_iconst (v := 1) hc dL_acts_363 (by decide) ?_
                                  refine V_iadd hc dL_acts_364 ?_
                                  refine V_iconst (v := 3) hc dL_acts_365 (by decide) ?_
                                  refine V_irem hc dL_acts_366 ?_
                                  refine V_iload_n hc dL_acts_367 rfl 0 rfl ?_
                                  refine V_iconst (v := 2) hc dL_acts_368 (by decide) ?_
                                  refine V_iadd hc dL_acts_369 ?_
                                  refine V_iconst (v := 3) hc dL_acts_370 (by decide) ?_
                                  refine V_irem hc dL_acts_371 ?_
                                  refine V_callV_WI (Cn := RX8) (T := TX8) (N := 8) hc (c_X8_setOrder l K r51.2 (v2 - v2 / 3 * 3) ((v2 + 1) - (v2 + 1) / 3 * 3) ((v2 + 2) - (v2 + 2) / 3 * 3)) sP0 rfl 3 gL_acts_X8_setOrder rfl ⟨rfl, rfl⟩ (by decide) ⟨Nat.le_of_ble_eq_true rfl, Nat.le_of_ble_eq_true rfl⟩ rfl rfl (Nat.le_of_ble_eq_true rfl) dL_acts_372 (fun r52 => ?_)
                                  refine V_bipush (v := 12) hc dL_acts_375 (by decide) ?_
                                  refine V_icmp_lt (tgt := 384) hc dL_acts_377 (by decide) ?_ ?_
                                  · refine V_iconst (v := 0) hc dL_acts_384 (by decide) ?_
                                    exact V_nret hc rfl rfl rfl dL_acts_385
                                  · refine V_iconst (v := 1) hc dL_acts_380 (by decide) ?_
                                    refine V_goto (tgt := 385) hc dL_acts_381 (by decide) ?_
                                    exact V_nret hc rfl rfl rfl dL_acts_385


noncomputable def L_L_albums_27 (b2 : Int32) (kont : Int32 → Int32 → Int32 → Sx → Option (Int32 × Sx)) : Nat → Int32 → Int32 → Int32 → Sx → Option (Int32 × Sx)
  | 0, _, _, _, _ => none
  | n + 1, x1 , x3 , x4, y => if 40 ≤ x4 then kont (x1) (x3) (x4) (y) else if x1 = 0 then kont (x1) (x3) (x4) (y) else (f_X8_isIn y (b2) (x4)).bind fun r3 => (f_X8_satisfies y (x4)).bind fun r4 => if r4.1 = r3 then if r3 = 1 then L_L_albums_27 b2 kont n (1) ((x3 + 1)) ((x4 + 1)) (r4.2) else L_L_albums_27 b2 kont n (1) ((x3 + 0)) ((x4 + 1)) (r4.2) else if r3 = 1 then L_L_albums_27 b2 kont n (0) ((x3 + 1)) ((x4 + 1)) (r4.2) else L_L_albums_27 b2 kont n (0) ((x3 + 0)) ((x4 + 1)) (r4.2)
set_option maxRecDepth 20000 in
set_option maxHeartbeats 4000000 in
theorem L_L_albums_27_ok {p : Program} {l : Launch} {K : Kx} {e : Env} {s : State} {m : MethodId} {args : Array Value} {below : List Frame} {meth : Method} {c : Code} (hc : Cx p ({ frames := 6, cells := 0, slots := 0, locals := 145 } : Room) s m args meth c cL_albums 11 wsL_albums RL K (aA K s.heap.size) (some .boolean) 0 0) (b2 : Int32) (kont : Int32 → Int32 → Int32 → Sx → Option (Int32 × Sx)) (hk : ∀ x1 x3 x4 y, V p l e ({ frames := 6, cells := 0, slots := 0, locals := 145 } : Room) s m args below meth c K (aA K s.heap.size) 0 0 11 (QM below K args s kWI) 84 [(0, .ref (K.2.2 0)), (1, .int x1), (2, .int b2), (3, .int x3), (4, .int x4)] [] y (kont x1 x3 x4 y)) : ∀ (n : Nat) (x1 : Int32) (x3 : Int32) (x4 : Int32) (y : Sx), V p l e ({ frames := 6, cells := 0, slots := 0, locals := 145 } : Room) s m args below meth c K (aA K s.heap.size) 0 0 11 (QM below K args s kWI) 27 [(0, .ref (K.2.2 0)), (1, .int x1), (2, .int b2), (3, .int x3), (4, .int x4)] [] y (L_L_albums_27 b2 kont n x1 x3 x4 y) := by
  intro n
  induction n with
  | zero => intro x1 x3 x4 y; exact V_none
  | succ n ih =>
    intro x1 x3 x4 y
    rw [L_L_albums_27]
    refine V_iload hc dL_albums_27 4 rfl ?_
    refine V_bipush (v := 40) hc dL_albums_29 (by decide) ?_
    refine V_icmp_ge (tgt := 84) hc dL_albums_31 (by decide) ?_ ?_
    · exact V_sub [0, 1, 2, 3, 4] rfl (hk _ _ _ _)
    · refine V_iload_n hc dL_albums_34 rfl 1 rfl ?_
      refine V_if_eq (tgt := 84) hc dL_albums_35 (by decide) ?_ ?_
      · exact V_sub [0, 1, 2, 3, 4] rfl (hk _ _ _ _)
      · refine V_aload_n hc dL_albums_38 rfl 0 rfl ?_
        refine V_iload_n hc dL_albums_39 rfl 2 rfl ?_
        refine V_iload hc dL_albums_40 4 rfl ?_
        refine V_callV_RI (Cn := RX8) (T := TX8) (N := 8) hc (c_X8_isIn l K y (b2) (x4)) sP0 rfl 2 gL_albums_X8_isIn rfl ⟨rfl, rfl⟩ (by decide) ⟨Nat.le_of_ble_eq_true rfl, Nat.le_of_ble_eq_true rfl⟩ rfl rfl (Nat.le_of_ble_eq_true rfl) dL_albums_42 (fun r3 => ?_)
        refine V_istore (lv' := [(5, .int r3), (0, .ref (K.2.2 0)), (1, .int x1), (2, .int b2), (3, .int x3), (4, .int x4)]) hc dL_albums_45 (by decide) rfl ?_
        refine V_aload_n hc dL_albums_47 rfl 1 rfl ?_
        refine V_iload hc dL_albums_48 5 rfl ?_
        refine V_callV_WI (Cn := RX8) (T := TX8) (N := 8) hc (c_X8_satisfies l K y (x4)) sP0 rfl 1 gL_albums_X8_satisfies rfl ⟨rfl, rfl⟩ (by decide) ⟨Nat.le_of_ble_eq_true rfl, Nat.le_of_ble_eq_true rfl⟩ rfl rfl (Nat.le_of_ble_eq_true rfl) dL_albums_50 (fun r4 => ?_)
        refine V_iload hc dL_albums_53 0 rfl ?_
        refine V_icmp_ne (tgt := 62) hc dL_albums_55 (by decide) ?_ ?_
        · refine V_iconst (v := 0) hc dL_albums_62 (by decide) ?_
          refine V_istore_n (lv' := [(1, .int 0), (5, .int r3), (0, .ref (K.2.2 0)), (2, .int b2), (3, .int x3), (4, .int x4)]) hc dL_albums_63 rfl (by decide) rfl ?_
          refine V_iload_n hc dL_albums_64 rfl 4 rfl ?_
          refine V_iload hc dL_albums_65 1 rfl ?_
          refine V_iconst (v := 1) hc dL_albums_67 (by decide) ?_
          refine V_icmp_ne (tgt := 75) hc dL_albums_68 (by decide) ?_ ?_
          · refine V_iconst (v := 0) hc dL_albums_75 (by decide) ?_
            refine V_iadd hc dL_albums_76 ?_
            refine V_istore_n (lv' := [(3, .int (x3 + 0)), (1, .int 0), (5, .int r3), (0, .ref (K.2.2 0)), (2, .int b2), (4, .int x4)]) hc dL_albums_77 rfl (by decide) rfl ?_
            refine V_iinc (v := (x4 + 1)) (lv' := [(4, .int (x4 + 1)), (3, .int (x3 + 0)), (1, .int 0), (5, .int r3), (0, .ref (K.2.2 0)), (2, .int b2)]) hc dL_albums_78 5 rfl rfl (by decide) rfl ?_
            refine V_goto (tgt := 27) hc dL_albums_81 (by decide) ?_
            exact V_sub [4, 2, 5, 1, 0] rfl (ih _ _ _ _)
          · refine V_iconst (v := 1) hc dL_albums_71 (by decide) ?_
            refine V_goto (tgt := 76) hc dL_albums_72 (by decide) ?_
            refine V_iadd hc dL_albums_76 ?_
            refine V_istore_n (lv' := [(3, .int (x3 + 1)), (1, .int 0), (5, .int r3), (0, .ref (K.2.2 0)), (2, .int b2), (4, .int x4)]) hc dL_albums_77 rfl (by decide) rfl ?_
            refine V_iinc (v := (x4 + 1)) (lv' := [(4, .int (x4 + 1)), (3, .int (x3 + 1)), (1, .int 0), (5, .int r3), (0, .ref (K.2.2 0)), (2, .int b2)]) hc dL_albums_78 5 rfl rfl (by decide) rfl ?_
            refine V_goto (tgt := 27) hc dL_albums_81 (by decide) ?_
            exact V_sub [4, 2, 5, 1, 0] rfl (ih _ _ _ _)
        · refine V_iconst (v := 1) hc dL_albums_58 (by decide) ?_
          refine V_goto (tgt := 63) hc dL_albums_59 (by decide) ?_
          refine V_istore_n (lv' := [(1, .int 1), (5, .int r3), (0, .ref (K.2.2 0)), (2, .int b2), (3, .int x3), (4, .int x4)]) hc dL_albums_63 rfl (by decide) rfl ?_
          refine V_iload_n hc dL_albums_64 rfl 4 rfl ?_
          refine V_iload hc dL_albums_65 1 rfl ?_
          refine V_iconst (v := 1) hc dL_albums_67 (by decide) ?_
          refine V_icmp_ne (tgt := 75) hc dL_albums_68 (by decide) ?_ ?_
          · refine V_iconst (v := 0) hc dL_albums_75 (by decide) ?_
            refine V_iadd hc dL_albums_76 ?_
            refine V_istore_n (lv' := [(3, .int (x3 + 0)), (1, .int 1), (5, .int r3), (0, .ref (K.2.2 0)), (2, .int b2), (4, .int x4)]) hc dL_albums_77 rfl (by decide) rfl ?_
            refine V_iinc (v := (x4 + 1)) (lv' := [(4, .int (x4 + 1)), (3, .int (x3 + 0)), (1, .int 1), (5, .int r3), (0, .ref (K.2.2 0)), (2, .int b2)]) hc dL_albums_78 5 rfl rfl (by decide) rfl ?_
            refine V_goto (tgt := 27) hc dL_albums_81 (by decide) ?_
            exact V_sub [4, 2, 5, 1, 0] rfl (ih _ _ _ _)
          · refine V_iconst (v := 1) hc dL_albums_71 (by decide) ?_
            refine V_goto (tgt := 76) hc dL_albums_72 (by decide) ?_
            refine V_iadd hc dL_albums_76 ?_
            refine V_istore_n (lv' := [(3, .int (x3 + 1)), (1, .int 1), (5, .int r3), (0, .ref (K.2.2 0)), (2, .int b2), (4, .int x4)]) hc dL_albums_77 rfl (by decide) rfl ?_
            refine V_iinc (v := (x4 + 1)) (lv' := [(4, .int (x4 + 1)), (3, .int (x3 + 1)), (1, .int 1), (5, .int r3), (0, .ref (K.2.2 0)), (2, .int b2)]) hc dL_albums_78 5 rfl rfl (by decide) rfl ?_
            refine V_goto (tgt := 27) hc dL_albums_81 (by decide) ?_
            exact V_sub [4, 2, 5, 1, 0] rfl (ih _ _ _ _)
noncomputable def L_L_albums_228 (b2 : Int32) (b3 : Int32) (b4 : Int32) (b5 : Int32) (b6 : Int32) (b7 : Int32) (b8 : Int32) (kont : Int32 → Int32 → Sx → Option (Int32 × Sx)) : Nat → Int32 → Int32 → Sx → Option (Int32 × Sx)
  | 0, _, _, _ => none
  | n + 1, x1 , x9, y => if b6 ≤ x9 then kont (x1) (x9) (y) else if x1 = 0 then kont (x1) (x9) (y) else (f_X8_stackOf y (b7)).bind fun r12 => (f_X8_viewAt y (b2) (x9)).bind fun r13 => if r13 = b7 then L_L_albums_228 b2 b3 b4 b5 b6 b7 b8 kont n (0) ((x9 + 1)) (y) else if r12 < 0 then L_L_albums_228 b2 b3 b4 b5 b6 b7 b8 kont n (1) ((x9 + 1)) (y) else (f_X8_viewAt y (b2) (x9)).bind fun r14 => (f_X8_stackOf y (r14)).bind fun r15 => if r15 = r12 then (f_X8_collapse y (r12) (0)).bind fun r16 => if r16.1 = 0 then L_L_albums_228 b2 b3 b4 b5 b6 b7 b8 kont n (1) ((x9 + 1)) (r16.2) else L_L_albums_228 b2 b3 b4 b5 b6 b7 b8 kont n (0) ((x9 + 1)) (r16.2) else L_L_albums_228 b2 b3 b4 b5 b6 b7 b8 kont n (1) ((x9 + 1)) (y)
set_option maxRecDepth 20000 in
set_option maxHeartbeats 4000000 in
theorem L_L_albums_228_ok {p : Program} {l : Launch} {K : Kx} {e : Env} {s : State} {m : MethodId} {args : Array Value} {below : List Frame} {meth : Method} {c : Code} (hc : Cx p ({ frames := 6, cells := 0, slots := 0, locals := 145 } : Room) s m args meth c cL_albums 11 wsL_albums RL K (aA K s.heap.size) (some .boolean) 0 0) (b2 : Int32) (b3 : Int32) (b4 : Int32) (b5 : Int32) (b6 : Int32) (b7 : Int32) (b8 : Int32) (kont : Int32 → Int32 → Sx → Option (Int32 × Sx)) (hk : ∀ x1 x9 y, V p l e ({ frames := 6, cells := 0, slots := 0, locals := 145 } : Room) s m args below meth c K (aA K s.heap.size) 0 0 11 (QM below K args s kWI) 302 [(0, .ref (K.2.2 0)), (1, .int x1), (2, .int b2), (3, .int b3), (4, .int b4), (5, .int b5), (6, .int b6), (7, .int b7), (8, .int b8), (9, .int x9)] [] y (kont x1 x9 y)) : ∀ (n : Nat) (x1 : Int32) (x9 : Int32) (y : Sx), V p l e ({ frames := 6, cells := 0, slots := 0, locals := 145 } : Room) s m args below meth c K (aA K s.heap.size) 0 0 11 (QM below K args s kWI) 228 [(0, .ref (K.2.2 0)), (1, .int x1), (2, .int b2), (3, .int b3), (4, .int b4), (5, .int b5), (6, .int b6), (7, .int b7), (8, .int b8), (9, .int x9)] [] y (L_L_albums_228 b2 b3 b4 b5 b6 b7 b8 kont n x1 x9 y) := by
  intro n
  induction n with
  | zero => intro x1 x9 y; exact V_none
  | succ n ih =>
    intro x1 x9 y
    rw [L_L_albums_228]
    refine V_iload hc dL_albums_228 9 rfl ?_
    refine V_iload hc dL_albums_230 6 rfl ?_
    refine V_icmp_ge (tgt := 302) hc dL_albums_232 (by decide) ?_ ?_
    · exact V_sub [0, 1, 2, 3, 4, 5, 6, 7, 8, 9] rfl (hk _ _ _)
    · refine V_iload_n hc dL_albums_235 rfl 1 rfl ?_
      refine V_if_eq (tgt := 302) hc dL_albums_236 (by decide) ?_ ?_
      · exact V_sub [0, 1, 2, 3, 4, 5, 6, 7, 8, 9] rfl (hk _ _ _)
      · refine V_aload_n hc dL_albums_239 rfl 0 rfl ?_
        refine V_iload hc dL_albums_240 7 rfl ?_
        refine V_callV_RI (Cn := RX8) (T := TX8) (N := 8) hc (c_X8_stackOf l K y (b7)) sP0 rfl 1 gL_albums_X8_stackOf rfl ⟨rfl, rfl⟩ (by decide) ⟨Nat.le_of_ble_eq_true rfl, Nat.le_of_ble_eq_true rfl⟩ rfl rfl (Nat.le_of_ble_eq_true rfl) dL_albums_242 (fun r12 => ?_)
        refine V_istore (lv' := [(10, .int r12), (0, .ref (K.2.2 0)), (1, .int x1), (2, .int b2), (3, .int b3), (4, .int b4), (5, .int b5), (6, .int b6), (7, .int b7), (8, .int b8), (9, .int x9)]) hc dL_albums_245 (by decide) rfl ?_
        refine V_aload_n hc dL_albums_247 rfl 1 rfl ?_
        refine V_iload_n hc dL_albums_248 rfl 3 rfl ?_
        refine V_iload hc dL_albums_249 10 rfl ?_
        refine V_callV_RI (Cn := RX8) (T := TX8) (N := 8) hc (c_X8_viewAt l K y (b2) (x9)) sP0 rfl 2 gL_albums_X8_viewAt rfl ⟨rfl, rfl⟩ (by decide) ⟨Nat.le_of_ble_eq_true rfl, Nat.le_of_ble_eq_true rfl⟩ rfl rfl (Nat.le_of_ble_eq_true rfl) dL_albums_251 (fun r13 => ?_)
        refine V_iload hc dL_albums_254 8 rfl ?_
        refine V_icmp_eq (tgt := 294) hc dL_albums_256 (by decide) ?_ ?_
        · refine V_iconst (v := 0) hc dL_albums_294 (by decide) ?_
          refine V_istore_n (lv' := [(1, .int 0), (10, .int r12), (0, .ref (K.2.2 0)), (2, .int b2), (3, .int b3), (4, .int b4), (5, .int b5), (6, .int b6), (7, .int b7), (8, .int b8), (9, .int x9)]) hc dL_albums_295 rfl (by decide) rfl ?_
          refine V_iinc (v := (x9 + 1)) (lv' := [(9, .int (x9 + 1)), (1, .int 0), (10, .int r12), (0, .ref (K.2.2 0)), (2, .int b2), (3, .int b3), (4, .int b4), (5, .int b5), (6, .int b6), (7, .int b7), (8, .int b8)]) hc dL_albums_296 10 rfl rfl (by decide) rfl ?_
          refine V_goto (tgt := 228) hc dL_albums_299 (by decide) ?_
          exact V_sub [3, 1, 4, 5, 6, 7, 8, 9, 10, 0] rfl (ih _ _ _)
        · refine V_iload hc dL_albums_259 0 rfl ?_
          refine V_if_lt (tgt := 290) hc dL_albums_261 (by decide) ?_ ?_
          · refine V_iconst (v := 1) hc dL_albums_290 (by decide) ?_
            refine V_goto (tgt := 295) hc dL_albums_291 (by decide) ?_
            refine V_istore_n (lv' := [(1, .int 1), (10, .int r12), (0, .ref (K.2.2 0)), (2, .int b2), (3, .int b3), (4, .int b4), (5, .int b5), (6, .int b6), (7, .int b7), (8, .int b8), (9, .int x9)]) hc dL_albums_295 rfl (by decide) rfl ?_
            refine V_iinc (v := (x9 + 1)) (lv' := [(9, .int (x9 + 1)), (1, .int 1), (10, .int r12), (0, .ref (K.2.2 0)), (2, .int b2), (3, .int b3), (4, .int b4), (5, .int b5), (6, .int b6), (7, .int b7), (8, .int b8)]) hc dL_albums_296 10 rfl rfl (by decide) rfl ?_
            refine V_goto (tgt := 228) hc dL_albums_299 (by decide) ?_
            exact V_sub [3, 1, 4, 5, 6, 7, 8, 9, 10, 0] rfl (ih _ _ _)
          · refine V_aload_n hc dL_albums_264 rfl 1 rfl ?_
            refine V_aload_n hc dL_albums_265 rfl 1 rfl ?_
            refine V_iload_n hc dL_albums_266 rfl 3 rfl ?_
            refine V_iload hc dL_albums_267 10 rfl ?_
            refine V_callV_RI (Cn := RX8) (T := TX8) (N := 8) hc (c_X8_viewAt l K y (b2) (x9)) sP0 rfl 2 gL_albums_X8_viewAt rfl ⟨rfl, rfl⟩ (by decide) ⟨Nat.le_of_ble_eq_true rfl, Nat.le_of_ble_eq_true rfl⟩ rfl rfl (Nat.le_of_ble_eq_true rfl) dL_albums_269 (fun r14 => ?_)
            refine V_callV_RI (Cn := RX8) (T := TX8) (N := 8) hc (c_X8_stackOf l K y (r14)) sP0 rfl 1 gL_albums_X8_stackOf rfl ⟨rfl, rfl⟩ (by decide) ⟨Nat.le_of_ble_eq_true rfl, Nat.le_of_ble_eq_true rfl⟩ rfl rfl (Nat.le_of_ble_eq_true rfl) dL_albums_272 (fun r15 => ?_)
            refine V_iload hc dL_albums_275 0 rfl ?_
            refine V_icmp_ne (tgt := 290) hc dL_albums_277 (by decide) ?_ ?_
            · refine V_iconst (v := 1) hc dL_albums_290 (by decide) ?_
              refine V_goto (tgt := 295) hc dL_albums_291 (by decide) ?_
              refine V_istore_n (lv' := [(1, .int 1), (10, .int r12), (0, .ref (K.2.2 0)), (2, .int b2), (3, .int b3), (4, .int b4), (5, .int b5), (6, .int b6), (7, .int b7), (8, .int b8), (9, .int x9)]) hc dL_albums_295 rfl (by decide) rfl ?_
              refine V_iinc (v := (x9 + 1)) (lv' := [(9, .int (x9 + 1)), (1, .int 1), (10, .int r12), (0, .ref (K.2.2 0)), (2, .int b2), (3, .int b3), (4, .int b4), (5, .int b5), (6, .int b6), (7, .int b7), (8, .int b8)]) hc dL_albums_296 10 rfl rfl (by decide) rfl ?_
              refine V_goto (tgt := 228) hc dL_albums_299 (by decide) ?_
              exact V_sub [3, 1, 4, 5, 6, 7, 8, 9, 10, 0] rfl (ih _ _ _)
            · refine V_aload_n hc dL_albums_280 rfl 1 rfl ?_
              refine V_iload hc dL_albums_281 0 rfl ?_
              refine V_iconst (v := 0) hc dL_albums_283 (by decide) ?_
              refine V_callV_WI (Cn := RX8) (T := TX8) (N := 8) hc (c_X8_collapse l K y (r12) (0)) sP0 rfl 2 gL_albums_X8_collapse rfl ⟨rfl, rfl⟩ (by decide) ⟨Nat.le_of_ble_eq_true rfl, Nat.le_of_ble_eq_true rfl⟩ rfl rfl (Nat.le_of_ble_eq_true rfl) dL_albums_284 (fun r16 => ?_)
              refine V_if_ne (tgt := 294) hc dL_albums_287 (by decide) ?_ ?_
              · refine V_iconst (v := 0) hc dL_albums_294 (by decide) ?_
                refine V_istore_n (lv' := [(1, .int 0), (10, .int r12), (0, .ref (K.2.2 0)), (2, .int b2), (3, .int b3), (4, .int b4), (5, .int b5), (6, .int b6), (7, .int b7), (8, .int b8), (9, .int x9)]) hc dL_albums_295 rfl (by decide) rfl ?_
                refine V_iinc (v := (x9 + 1)) (lv' := [(9, .int (x9 + 1)), (1, .int 0), (10, .int r12), (0, .ref (K.2.2 0)), (2, .int b2), (3, .int b3), (4, .int b4), (5, .int b5), (6, .int b6), (7, .int b7), (8, .int b8)]) hc dL_albums_296 10 rfl rfl (by decide) rfl ?_
                refine V_goto (tgt := 228) hc dL_albums_299 (by decide) ?_
                exact V_sub [3, 1, 4, 5, 6, 7, 8, 9, 10, 0] rfl (ih _ _ _)
              · refine V_iconst (v := 1) hc dL_albums_290 (by decide) ?_
                refine V_goto (tgt := 295) hc dL_albums_291 (by decide) ?_
                refine V_istore_n (lv' := [(1, .int 1), (10, .int r12), (0, .ref (K.2.2 0)), (2, .int b2), (3, .int b3), (4, .int b4), (5, .int b5), (6, .int b6), (7, .int b7), (8, .int b8), (9, .int x9)]) hc dL_albums_295 rfl (by decide) rfl ?_
                refine V_iinc (v := (x9 + 1)) (lv' := [(9, .int (x9 + 1)), (1, .int 1), (10, .int r12), (0, .ref (K.2.2 0)), (2, .int b2), (3, .int b3), (4, .int b4), (5, .int b5), (6, .int b6), (7, .int b7), (8, .int b8)]) hc dL_albums_296 10 rfl rfl (by decide) rfl ?_
                refine V_goto (tgt := 228) hc dL_albums_299 (by decide) ?_
                exact V_sub [3, 1, 4, 5, 6, 7, 8, 9, 10, 0] rfl (ih _ _ _)
noncomputable def L_L_albums_150 (b2 : Int32) (b3 : Int32) (b4 : Int32) (kont : Int32 → Int32 → Int32 → Sx → Option (Int32 × Sx)) : Nat → Int32 → Int32 → Int32 → Sx → Option (Int32 × Sx)
  | 0, _, _, _, _ => none
  | n + 1, x1 , x5 , x6, y => if b4 ≤ x6 then kont (x1) (x5) (x6) (y) else if x1 = 0 then kont (x1) (x5) (x6) (y) else (f_X8_viewAt y (b2) (x6)).bind fun r9 => (f_X8_value y (r9) (1)).bind fun r10 => (f_X8_isIn y (b2) (r9)).bind fun r11 => if r11 = 1 then if 0 ≤ r10 then if x5 < r10 then if 0 ≤ r10 then L_L_albums_228 (b2) (b3) (b4) (r10) (x6) (r9) (r10) (fun z23 z24 t25 => L_L_albums_150 b2 b3 b4 kont n (z23) (r10) ((x6 + 1)) (t25)) FU (0) (0) (y) else L_L_albums_228 (b2) (b3) (b4) ((-1)) (x6) (r9) (r10) (fun z26 z27 t28 => L_L_albums_150 b2 b3 b4 kont n (z26) ((-1)) ((x6 + 1)) (t28)) FU (0) (0) (y) else if 0 ≤ r10 then L_L_albums_228 (b2) (b3) (b4) (r10) (x6) (r9) (r10) (fun z29 z30 t31 => L_L_albums_150 b2 b3 b4 kont n (z29) (r10) ((x6 + 1)) (t31)) FU (1) (0) (y) else L_L_albums_228 (b2) (b3) (b4) ((-1)) (x6) (r9) (r10) (fun z32 z33 t34 => L_L_albums_150 b2 b3 b4 kont n (z32) ((-1)) ((x6 + 1)) (t34)) FU (1) (0) (y) else if x5 < ((-1) : Int32) then if 0 ≤ r10 then L_L_albums_228 (b2) (b3) (b4) (r10) (x6) (r9) (r10) (fun z35 z36 t37 => L_L_albums_150 b2 b3 b4 kont n (z35) (r10) ((x6 + 1)) (t37)) FU (0) (0) (y) else L_L_albums_228 (b2) (b3) (b4) ((-1)) (x6) (r9) (r10) (fun z38 z39 t40 => L_L_albums_150 b2 b3 b4 kont n (z38) ((-1)) ((x6 + 1)) (t40)) FU (0) (0) (y) else if 0 ≤ r10 then L_L_albums_228 (b2) (b3) (b4) (r10) (x6) (r9) (r10) (fun z41 z42 t43 => L_L_albums_150 b2 b3 b4 kont n (z41) (r10) ((x6 + 1)) (t43)) FU (1) (0) (y) else L_L_albums_228 (b2) (b3) (b4) ((-1)) (x6) (r9) (r10) (fun z44 z45 t46 => L_L_albums_150 b2 b3 b4 kont n (z44) ((-1)) ((x6 + 1)) (t46)) FU (1) (0) (y) else if 0 ≤ r10 then L_L_albums_228 (b2) (b3) (b4) (r10) (x6) (r9) (r10) (fun z17 z18 t19 => L_L_albums_150 b2 b3 b4 kont n (z17) (r10) ((x6 + 1)) (t19)) FU (0) (0) (y) else L_L_albums_228 (b2) (b3) (b4) ((-1)) (x6) (r9) (r10) (fun z20 z21 t22 => L_L_albums_150 b2 b3 b4 kont n (z20) ((-1)) ((x6 + 1)) (t22)) FU (0) (0) (y)
set_option maxRecDepth 20000 in
set_option maxHeartbeats 4000000 in
theorem L_L_albums_150_ok {p : Program} {l : Launch} {K : Kx} {e : Env} {s : State} {m : MethodId} {args : Array Value} {below : List Frame} {meth : Method} {c : Code} (hc : Cx p ({ frames := 6, cells := 0, slots := 0, locals := 145 } : Room) s m args meth c cL_albums 11 wsL_albums RL K (aA K s.heap.size) (some .boolean) 0 0) (b2 : Int32) (b3 : Int32) (b4 : Int32) (kont : Int32 → Int32 → Int32 → Sx → Option (Int32 × Sx)) (hk : ∀ x1 x5 x6 y, V p l e ({ frames := 6, cells := 0, slots := 0, locals := 145 } : Room) s m args below meth c K (aA K s.heap.size) 0 0 11 (QM below K args s kWI) 308 [(0, .ref (K.2.2 0)), (1, .int x1), (2, .int b2), (3, .int b3), (4, .int b4), (5, .int x5), (6, .int x6)] [] y (kont x1 x5 x6 y)) : ∀ (n : Nat) (x1 : Int32) (x5 : Int32) (x6 : Int32) (y : Sx), V p l e ({ frames := 6, cells := 0, slots := 0, locals := 145 } : Room) s m args below meth c K (aA K s.heap.size) 0 0 11 (QM below K args s kWI) 150 [(0, .ref (K.2.2 0)), (1, .int x1), (2, .int b2), (3, .int b3), (4, .int b4), (5, .int x5), (6, .int x6)] [] y (L_L_albums_150 b2 b3 b4 kont n x1 x5 x6 y) := by
  intro n
  induction n with
  | zero => intro x1 x5 x6 y; exact V_none
  | succ n ih =>
    intro x1 x5 x6 y
    rw [L_L_albums_150]
    refine V_iload hc dL_albums_150 6 rfl ?_
    refine V_iload hc dL_albums_152 4 rfl ?_
    refine V_icmp_ge (tgt := 308) hc dL_albums_154 (by decide) ?_ ?_
    · exact V_sub [0, 1, 2, 3, 4, 5, 6] rfl (hk _ _ _ _)
    · refine V_iload_n hc dL_albums_157 rfl 1 rfl ?_
      refine V_if_eq (tgt := 308) hc dL_albums_158 (by decide) ?_ ?_
      · exact V_sub [0, 1, 2, 3, 4, 5, 6] rfl (hk _ _ _ _)
      · refine V_aload_n hc dL_albums_161 rfl 0 rfl ?_
        refine V_iload_n hc dL_albums_162 rfl 2 rfl ?_
        refine V_iload hc dL_albums_163 6 rfl ?_
        refine V_callV_RI (Cn := RX8) (T := TX8) (N := 8) hc (c_X8_viewAt l K y (b2) (x6)) sP0 rfl 2 gL_albums_X8_viewAt rfl ⟨rfl, rfl⟩ (by decide) ⟨Nat.le_of_ble_eq_true rfl, Nat.le_of_ble_eq_true rfl⟩ rfl rfl (Nat.le_of_ble_eq_true rfl) dL_albums_165 (fun r9 => ?_)
        refine V_istore (lv' := [(7, .int r9), (0, .ref (K.2.2 0)), (1, .int x1), (2, .int b2), (3, .int b3), (4, .int b4), (5, .int x5), (6, .int x6)]) hc dL_albums_168 (by decide) rfl ?_
        refine V_aload_n hc dL_albums_170 rfl 1 rfl ?_
        refine V_iload hc dL_albums_171 0 rfl ?_
        refine V_iconst (v := 1) hc dL_albums_173 (by decide) ?_
        refine V_callV_RI (Cn := RX8) (T := TX8) (N := 8) hc (c_X8_value l K y (r9) (1)) sP0 rfl 2 gL_albums_X8_value rfl ⟨rfl, rfl⟩ (by decide) ⟨Nat.le_of_ble_eq_true rfl, Nat.le_of_ble_eq_true rfl⟩ rfl rfl (Nat.le_of_ble_eq_true rfl) dL_albums_174 (fun r10 => ?_)
        refine V_istore (lv' := [(8, .int r10), (7, .int r9), (0, .ref (K.2.2 0)), (1, .int x1), (2, .int b2), (3, .int b3), (4, .int b4), (5, .int x5), (6, .int x6)]) hc dL_albums_177 (by decide) rfl ?_
        refine V_aload_n hc dL_albums_179 rfl 2 rfl ?_
        refine V_iload_n hc dL_albums_180 rfl 4 rfl ?_
        refine V_iload hc dL_albums_181 1 rfl ?_
        refine V_callV_RI (Cn := RX8) (T := TX8) (N := 8) hc (c_X8_isIn l K y (b2) (r9)) sP0 rfl 2 gL_albums_X8_isIn rfl ⟨rfl, rfl⟩ (by decide) ⟨Nat.le_of_ble_eq_true rfl, Nat.le_of_ble_eq_true rfl⟩ rfl rfl (Nat.le_of_ble_eq_true rfl) dL_albums_183 (fun r11 => ?_)
        refine V_iconst (v := 1) hc dL_albums_186 (by decide) ?_
        refine V_icmp_ne (tgt := 210) hc dL_albums_187 (by decide) ?_ ?_
        · refine V_iconst (v := 0) hc dL_albums_210 (by decide) ?_
          refine V_istore_n (lv' := [(1, .int 0), (8, .int r10), (7, .int r9), (0, .ref (K.2.2 0)), (2, .int b2), (3, .int b3), (4, .int b4), (5, .int x5), (6, .int x6)]) hc dL_albums_211 rfl (by decide) rfl ?_
          refine V_iload hc dL_albums_212 1 rfl ?_
          refine V_if_ge (tgt := 221) hc dL_albums_214 (by decide) ?_ ?_
          · refine V_iload hc dL_albums_221 1 rfl ?_
            refine V_istore (lv' := [(5, .int r10), (1, .int 0), (8, .int r10), (7, .int r9), (0, .ref (K.2.2 0)), (2, .int b2), (3, .int b3), (4, .int b4), (6, .int x6)]) hc dL_albums_223 (by decide) rfl ?_
            refine V_iconst (v := 0) hc dL_albums_225 (by decide) ?_
            refine V_istore (lv' := [(9, .int 0), (5, .int r10), (1, .int 0), (8, .int r10), (7, .int r9), (0, .ref (K.2.2 0)), (2, .int b2), (3, .int b3), (4, .int b4), (6, .int x6)]) hc dL_albums_226 (by decide) rfl ?_
            refine V_sub (lv' := [(0, .ref (K.2.2 0)), (1, .int 0), (2, .int b2), (3, .int b3), (4, .int b4), (5, .int r10), (6, .int x6), (7, .int r9), (8, .int r10), (9, .int 0)]) [5, 2, 6, 7, 8, 1, 9, 4, 3, 0] rfl ?_
            refine L_L_albums_228_ok hc (b2) (b3) (b4) (r10) (x6) (r9) (r10) _ (fun z17 z18 t19 => ?_) FU _ _ _
            refine V_iinc (v := (x6 + 1)) (lv' := [(6, .int (x6 + 1)), (0, .ref (K.2.2 0)), (1, .int z17), (2, .int b2), (3, .int b3), (4, .int b4), (5, .int r10), (7, .int r9), (8, .int r10), (9, .int z18)]) hc dL_albums_302 6 rfl rfl (by decide) rfl ?_
            refine V_goto (tgt := 150) hc dL_albums_305 (by decide) ?_
            exact V_sub [1, 2, 3, 4, 5, 6, 0] rfl (ih _ _ _ _)
          · refine V_iconst (v := (-1)) hc dL_albums_217 (by decide) ?_
            refine V_goto (tgt := 223) hc dL_albums_218 (by decide) ?_
            refine V_istore (lv' := [(5, .int (-1)), (1, .int 0), (8, .int r10), (7, .int r9), (0, .ref (K.2.2 0)), (2, .int b2), (3, .int b3), (4, .int b4), (6, .int x6)]) hc dL_albums_223 (by decide) rfl ?_
            refine V_iconst (v := 0) hc dL_albums_225 (by decide) ?_
            refine V_istore (lv' := [(9, .int 0), (5, .int (-1)), (1, .int 0), (8, .int r10), (7, .int r9), (0, .ref (K.2.2 0)), (2, .int b2), (3, .int b3), (4, .int b4), (6, .int x6)]) hc dL_albums_226 (by decide) rfl ?_
            refine V_sub (lv' := [(0, .ref (K.2.2 0)), (1, .int 0), (2, .int b2), (3, .int b3), (4, .int b4), (5, .int (-1)), (6, .int x6), (7, .int r9), (8, .int r10), (9, .int 0)]) [5, 2, 6, 7, 8, 1, 9, 4, 3, 0] rfl ?_
            refine L_L_albums_228_ok hc (b2) (b3) (b4) ((-1)) (x6) (r9) (r10) _ (fun z20 z21 t22 => ?_) FU _ _ _
            refine V_iinc (v := (x6 + 1)) (lv' := [(6, .int (x6 + 1)), (0, .ref (K.2.2 0)), (1, .int z20), (2, .int b2), (3, .int b3), (4, .int b4), (5, .int (-1)), (7, .int r9), (8, .int r10), (9, .int z21)]) hc dL_albums_302 6 rfl rfl (by decide) rfl ?_
            refine V_goto (tgt := 150) hc dL_albums_305 (by decide) ?_
            exact V_sub [1, 2, 3, 4, 5, 6, 0] rfl (ih _ _ _ _)
        · refine V_iload hc dL_albums_190 0 rfl ?_
          refine V_if_ge (tgt := 199) hc dL_albums_192 (by decide) ?_ ?_
          · refine V_iload hc dL_albums_199 0 rfl ?_
            refine V_iload hc dL_albums_201 7 rfl ?_
            refine V_icmp_gt (tgt := 210) hc dL_albums_203 (by decide) ?_ ?_
            · refine V_iconst (v := 0) hc dL_albums_210 (by decide) ?_
              refine V_istore_n (lv' := [(1, .int 0), (8, .int r10), (7, .int r9), (0, .ref (K.2.2 0)), (2, .int b2), (3, .int b3), (4, .int b4), (5, .int x5), (6, .int x6)]) hc dL_albums_211 rfl (by decide) rfl ?_
              refine V_iload hc dL_albums_212 1 rfl ?_
              refine V_if_ge (tgt := 221) hc dL_albums_214 (by decide) ?_ ?_
              · refine V_iload hc dL_albums_221 1 rfl ?_
                refine V_istore (lv' := [(5, .int r10), (1, .int 0), (8, .int r10), (7, .int r9), (0, .ref (K.2.2 0)), (2, .int b2), (3, .int b3), (4, .int b4), (6, .int x6)]) hc dL_albums_223 (by decide) rfl ?_
                refine V_iconst (v := 0) hc dL_albums_225 (by decide) ?_
                refine V_istore (lv' := [(9, .int 0), (5, .int r10), (1, .int 0), (8, .int r10), (7, .int r9), (0, .ref (K.2.2 0)), (2, .int b2), (3, .int b3), (4, .int b4), (6, .int x6)]) hc dL_albums_226 (by decide) rfl ?_
                refine V_sub (lv' := [(0, .ref (K.2.2 0)), (1, .int 0), (2, .int b2), (3, .int b3), (4, .int b4), (5, .int r10), (6, .int x6), (7, .int r9), (8, .int r10), (9, .int 0)]) [5, 2, 6, 7, 8, 1, 9, 4, 3, 0] rfl ?_
                refine L_L_albums_228_ok hc (b2) (b3) (b4) (r10) (x6) (r9) (r10) _ (fun z23 z24 t25 => ?_) FU _ _ _
                refine V_iinc (v := (x6 + 1)) (lv' := [(6, .int (x6 + 1)), (0, .ref (K.2.2 0)), (1, .int z23), (2, .int b2), (3, .int b3), (4, .int b4), (5, .int r10), (7, .int r9), (8, .int r10), (9, .int z24)]) hc dL_albums_302 6 rfl rfl (by decide) rfl ?_
                refine V_goto (tgt := 150) hc dL_albums_305 (by decide) ?_
                exact V_sub [1, 2, 3, 4, 5, 6, 0] rfl (ih _ _ _ _)
              · refine V_iconst (v := (-1)) hc dL_albums_217 (by decide) ?_
                refine V_goto (tgt := 223) hc dL_albums_218 (by decide) ?_
                refine V_istore (lv' := [(5, .int (-1)), (1, .int 0), (8, .int r10), (7, .int r9), (0, .ref (K.2.2 0)), (2, .int b2), (3, .int b3), (4, .int b4), (6, .int x6)]) hc dL_albums_223 (by decide) rfl ?_
                refine V_iconst (v := 0) hc dL_albums_225 (by decide) ?_
                refine V_istore (lv' := [(9, .int 0), (5, .int (-1)), (1, .int 0), (8, .int r10), (7, .int r9), (0, .ref (K.2.2 0)), (2, .int b2), (3, .int b3), (4, .int b4), (6, .int x6)]) hc dL_albums_226 (by decide) rfl ?_
                refine V_sub (lv' := [(0, .ref (K.2.2 0)), (1, .int 0), (2, .int b2), (3, .int b3), (4, .int b4), (5, .int (-1)), (6, .int x6), (7, .int r9), (8, .int r10), (9, .int 0)]) [5, 2, 6, 7, 8, 1, 9, 4, 3, 0] rfl ?_
                refine L_L_albums_228_ok hc (b2) (b3) (b4) ((-1)) (x6) (r9) (r10) _ (fun z26 z27 t28 => ?_) FU _ _ _
                refine V_iinc (v := (x6 + 1)) (lv' := [(6, .int (x6 + 1)), (0, .ref (K.2.2 0)), (1, .int z26), (2, .int b2), (3, .int b3), (4, .int b4), (5, .int (-1)), (7, .int r9), (8, .int r10), (9, .int z27)]) hc dL_albums_302 6 rfl rfl (by decide) rfl ?_
                refine V_goto (tgt := 150) hc dL_albums_305 (by decide) ?_
                exact V_sub [1, 2, 3, 4, 5, 6, 0] rfl (ih _ _ _ _)
            · refine V_iconst (v := 1) hc dL_albums_206 (by decide) ?_
              refine V_goto (tgt := 211) hc dL_albums_207 (by decide) ?_
              refine V_istore_n (lv' := [(1, .int 1), (8, .int r10), (7, .int r9), (0, .ref (K.2.2 0)), (2, .int b2), (3, .int b3), (4, .int b4), (5, .int x5), (6, .int x6)]) hc dL_albums_211 rfl (by decide) rfl ?_
              refine V_iload hc dL_albums_212 1 rfl ?_
              refine V_if_ge (tgt := 221) hc dL_albums_214 (by decide) ?_ ?_
              · refine V_iload hc dL_albums_221 1 rfl ?_
                refine V_istore (lv' := [(5, .int r10), (1, .int 1), (8, .int r10), (7, .int r9), (0, .ref (K.2.2 0)), (2, .int b2), (3, .int b3), (4, .int b4), (6, .int x6)]) hc dL_albums_223 (by decide) rfl ?_
                refine V_iconst (v := 0) hc dL_albums_225 (by decide) ?_
                refine V_istore (lv' := [(9, .int 0), (5, .int r10), (1, .int 1), (8, .int r10), (7, .int r9), (0, .ref (K.2.2 0)), (2, .int b2), (3, .int b3), (4, .int b4), (6, .int x6)]) hc dL_albums_226 (by decide) rfl ?_
                refine V_sub (lv' := [(0, .ref (K.2.2 0)), (1, .int 1), (2, .int b2), (3, .int b3), (4, .int b4), (5, .int r10), (6, .int x6), (7, .int r9), (8, .int r10), (9, .int 0)]) [5, 2, 6, 7, 8, 1, 9, 4, 3, 0] rfl ?_
                refine L_L_albums_228_ok hc (b2) (b3) (b4) (r10) (x6) (r9) (r10) _ (fun z29 z30 t31 => ?_) FU _ _ _
                refine V_iinc (v := (x6 + 1)) (lv' := [(6, .int (x6 + 1)), (0, .ref (K.2.2 0)), (1, .int z29), (2, .int b2), (3, .int b3), (4, .int b4), (5, .int r10), (7, .int r9), (8, .int r10), (9, .int z30)]) hc dL_albums_302 6 rfl rfl (by decide) rfl ?_
                refine V_goto (tgt := 150) hc dL_albums_305 (by decide) ?_
                exact V_sub [1, 2, 3, 4, 5, 6, 0] rfl (ih _ _ _ _)
              · refine V_iconst (v := (-1)) hc dL_albums_217 (by decide) ?_
                refine V_goto (tgt := 223) hc dL_albums_218 (by decide) ?_
                refine V_istore (lv' := [(5, .int (-1)), (1, .int 1), (8, .int r10), (7, .int r9), (0, .ref (K.2.2 0)), (2, .int b2), (3, .int b3), (4, .int b4), (6, .int x6)]) hc dL_albums_223 (by decide) rfl ?_
                refine V_iconst (v := 0) hc dL_albums_225 (by decide) ?_
                refine V_istore (lv' := [(9, .int 0), (5, .int (-1)), (1, .int 1), (8, .int r10), (7, .int r9), (0, .ref (K.2.2 0)), (2, .int b2), (3, .int b3), (4, .int b4), (6, .int x6)]) hc dL_albums_226 (by decide) rfl ?_
                refine V_sub (lv' := [(0, .ref (K.2.2 0)), (1, .int 1), (2, .int b2), (3, .int b3), (4, .int b4), (5, .int (-1)), (6, .int x6), (7, .int r9), (8, .int r10), (9, .int 0)]) [5, 2, 6, 7, 8, 1, 9, 4, 3, 0] rfl ?_
                refine L_L_albums_228_ok hc (b2) (b3) (b4) ((-1)) (x6) (r9) (r10) _ (fun z32 z33 t34 => ?_) FU _ _ _
                refine V_iinc (v := (x6 + 1)) (lv' := [(6, .int (x6 + 1)), (0, .ref (K.2.2 0)), (1, .int z32), (2, .int b2), (3, .int b3), (4, .int b4), (5, .int (-1)), (7, .int r9), (8, .int r10), (9, .int z33)]) hc dL_albums_302 6 rfl rfl (by decide) rfl ?_
                refine V_goto (tgt := 150) hc dL_albums_305 (by decide) ?_
                exact V_sub [1, 2, 3, 4, 5, 6, 0] rfl (ih _ _ _ _)
          · refine V_iconst (v := (-1)) hc dL_albums_195 (by decide) ?_
            refine V_goto (tgt := 201) hc dL_albums_196 (by decide) ?_
            refine V_iload hc dL_albums_201 7 rfl ?_
            refine V_icmp_gt (tgt := 210) hc dL_albums_203 (by decide) ?_ ?_
            · refine V_iconst (v := 0) hc dL_albums_210 (by decide) ?_
              refine V_istore_n (lv' := [(1, .int 0), (8, .int r10), (7, .int r9), (0, .ref (K.2.2 0)), (2, .int b2), (3, .int b3), (4, .int b4), (5, .int x5), (6, .int x6)]) hc dL_albums_211 rfl (by decide) rfl ?_
              refine V_iload hc dL_albums_212 1 rfl ?_
              refine V_if_ge (tgt := 221) hc dL_albums_214 (by decide) ?_ ?_
              · refine V_iload hc dL_albums_221 1 rfl ?_
                refine V_istore (lv' := [(5, .int r10), (1, .int 0), (8, .int r10), (7, .int r9), (0, .ref (K.2.2 0)), (2, .int b2), (3, .int b3), (4, .int b4), (6, .int x6)]) hc dL_albums_223 (by decide) rfl ?_
                refine V_iconst (v := 0) hc dL_albums_225 (by decide) ?_
                refine V_istore (lv' := [(9, .int 0), (5, .int r10), (1, .int 0), (8, .int r10), (7, .int r9), (0, .ref (K.2.2 0)), (2, .int b2), (3, .int b3), (4, .int b4), (6, .int x6)]) hc dL_albums_226 (by decide) rfl ?_
                refine V_sub (lv' := [(0, .ref (K.2.2 0)), (1, .int 0), (2, .int b2), (3, .int b3), (4, .int b4), (5, .int r10), (6, .int x6), (7, .int r9), (8, .int r10), (9, .int 0)]) [5, 2, 6, 7, 8, 1, 9, 4, 3, 0] rfl ?_
                refine L_L_albums_228_ok hc (b2) (b3) (b4) (r10) (x6) (r9) (r10) _ (fun z35 z36 t37 => ?_) FU _ _ _
                refine V_iinc (v := (x6 + 1)) (lv' := [(6, .int (x6 + 1)), (0, .ref (K.2.2 0)), (1, .int z35), (2, .int b2), (3, .int b3), (4, .int b4), (5, .int r10), (7, .int r9), (8, .int r10), (9, .int z36)]) hc dL_albums_302 6 rfl rfl (by decide) rfl ?_
                refine V_goto (tgt := 150) hc dL_albums_305 (by decide) ?_
                exact V_sub [1, 2, 3, 4, 5, 6, 0] rfl (ih _ _ _ _)
              · refine V_iconst (v := (-1)) hc dL_albums_217 (by decide) ?_
                refine V_goto (tgt := 223) hc dL_albums_218 (by decide) ?_
                refine V_istore (lv' := [(5, .int (-1)), (1, .int 0), (8, .int r10), (7, .int r9), (0, .ref (K.2.2 0)), (2, .int b2), (3, .int b3), (4, .int b4), (6, .int x6)]) hc dL_albums_223 (by decide) rfl ?_
                refine V_iconst (v := 0) hc dL_albums_225 (by decide) ?_
                refine V_istore (lv' := [(9, .int 0), (5, .int (-1)), (1, .int 0), (8, .int r10), (7, .int r9), (0, .ref (K.2.2 0)), (2, .int b2), (3, .int b3), (4, .int b4), (6, .int x6)]) hc dL_albums_226 (by decide) rfl ?_
                refine V_sub (lv' := [(0, .ref (K.2.2 0)), (1, .int 0), (2, .int b2), (3, .int b3), (4, .int b4), (5, .int (-1)), (6, .int x6), (7, .int r9), (8, .int r10), (9, .int 0)]) [5, 2, 6, 7, 8, 1, 9, 4, 3, 0] rfl ?_
                refine L_L_albums_228_ok hc (b2) (b3) (b4) ((-1)) (x6) (r9) (r10) _ (fun z38 z39 t40 => ?_) FU _ _ _
                refine V_iinc (v := (x6 + 1)) (lv' := [(6, .int (x6 + 1)), (0, .ref (K.2.2 0)), (1, .int z38), (2, .int b2), (3, .int b3), (4, .int b4), (5, .int (-1)), (7, .int r9), (8, .int r10), (9, .int z39)]) hc dL_albums_302 6 rfl rfl (by decide) rfl ?_
                refine V_goto (tgt := 150) hc dL_albums_305 (by decide) ?_
                exact V_sub [1, 2, 3, 4, 5, 6, 0] rfl (ih _ _ _ _)
            · refine V_iconst (v := 1) hc dL_albums_206 (by decide) ?_
              refine V_goto (tgt := 211) hc dL_albums_207 (by decide) ?_
              refine V_istore_n (lv' := [(1, .int 1), (8, .int r10), (7, .int r9), (0, .ref (K.2.2 0)), (2, .int b2), (3, .int b3), (4, .int b4), (5, .int x5), (6, .int x6)]) hc dL_albums_211 rfl (by decide) rfl ?_
              refine V_iload hc dL_albums_212 1 rfl ?_
              refine V_if_ge (tgt := 221) hc dL_albums_214 (by decide) ?_ ?_
              · refine V_iload hc dL_albums_221 1 rfl ?_
                refine V_istore (lv' := [(5, .int r10), (1, .int 1), (8, .int r10), (7, .int r9), (0, .ref (K.2.2 0)), (2, .int b2), (3, .int b3), (4, .int b4), (6, .int x6)]) hc dL_albums_223 (by decide) rfl ?_
                refine V_iconst (v := 0) hc dL_albums_225 (by decide) ?_
                refine V_istore (lv' := [(9, .int 0), (5, .int r10), (1, .int 1), (8, .int r10), (7, .int r9), (0, .ref (K.2.2 0)), (2, .int b2), (3, .int b3), (4, .int b4), (6, .int x6)]) hc dL_albums_226 (by decide) rfl ?_
                refine V_sub (lv' := [(0, .ref (K.2.2 0)), (1, .int 1), (2, .int b2), (3, .int b3), (4, .int b4), (5, .int r10), (6, .int x6), (7, .int r9), (8, .int r10), (9, .int 0)]) [5, 2, 6, 7, 8, 1, 9, 4, 3, 0] rfl ?_
                refine L_L_albums_228_ok hc (b2) (b3) (b4) (r10) (x6) (r9) (r10) _ (fun z41 z42 t43 => ?_) FU _ _ _
                refine V_iinc (v := (x6 + 1)) (lv' := [(6, .int (x6 + 1)), (0, .ref (K.2.2 0)), (1, .int z41), (2, .int b2), (3, .int b3), (4, .int b4), (5, .int r10), (7, .int r9), (8, .int r10), (9, .int z42)]) hc dL_albums_302 6 rfl rfl (by decide) rfl ?_
                refine V_goto (tgt := 150) hc dL_albums_305 (by decide) ?_
                exact V_sub [1, 2, 3, 4, 5, 6, 0] rfl (ih _ _ _ _)
              · refine V_iconst (v := (-1)) hc dL_albums_217 (by decide) ?_
                refine V_goto (tgt := 223) hc dL_albums_218 (by decide) ?_
                refine V_istore (lv' := [(5, .int (-1)), (1, .int 1), (8, .int r10), (7, .int r9), (0, .ref (K.2.2 0)), (2, .int b2), (3, .int b3), (4, .int b4), (6, .int x6)]) hc dL_albums_223 (by decide) rfl ?_
                refine V_iconst (v := 0) hc dL_albums_225 (by decide) ?_
                refine V_istore (lv' := [(9, .int 0), (5, .int (-1)), (1, .int 1), (8, .int r10), (7, .int r9), (0, .ref (K.2.2 0)), (2, .int b2), (3, .int b3), (4, .int b4), (6, .int x6)]) hc dL_albums_226 (by decide) rfl ?_
                refine V_sub (lv' := [(0, .ref (K.2.2 0)), (1, .int 1), (2, .int b2), (3, .int b3), (4, .int b4), (5, .int (-1)), (6, .int x6), (7, .int r9), (8, .int r10), (9, .int 0)]) [5, 2, 6, 7, 8, 1, 9, 4, 3, 0] rfl ?_
                refine L_L_albums_228_ok hc (b2) (b3) (b4) ((-1)) (x6) (r9) (r10) _ (fun z44 z45 t46 => ?_) FU _ _ _
                refine V_iinc (v := (x6 + 1)) (lv' := [(6, .int (x6 + 1)), (0, .ref (K.2.2 0)), (1, .int z44), (2, .int b2), (3, .int b3), (4, .int b4), (5, .int (-1)), (7, .int r9), (8, .int r10), (9, .int z45)]) hc dL_albums_302 6 rfl rfl (by decide) rfl ?_
                refine V_goto (tgt := 150) hc dL_albums_305 (by decide) ?_
                exact V_sub [1, 2, 3, 4, 5, 6, 0] rfl (ih _ _ _ _)
noncomputable def L_L_albums_4  (kont : Int32 → Int32 → Sx → Option (Int32 × Sx)) : Nat → Int32 → Int32 → Sx → Option (Int32 × Sx)
  | 0, _, _, _ => none
  | n + 1, x1 , x2, y => if 5 ≤ x2 then kont (x1) (x2) (y) else if x1 = 0 then kont (x1) (x2) (y) else (f_L_text y (x2)).bind fun r1 => (f_L_types y (r1)).bind fun r2 => L_L_albums_27 (x2) (fun z5 z6 z7 t8 => if z5 = 0 then if (0 : Int32) = 0 then L_L_albums_150 (x2) (z6) (0) (fun z47 z48 z49 t50 => if z47 = 0 then L_L_albums_4  kont n (0) ((x2 + 1)) (t50) else if z6 < (0 : Int32) then L_L_albums_4  kont n (0) ((x2 + 1)) (t50) else L_L_albums_4  kont n (1) ((x2 + 1)) (t50)) FU (0) (6) (0) (t8) else none else (f_X8_albumSize t8 (x2)).bind fun r51 => if r51 = z6 then (f_X8_select t8 ).bind fun r56 => if r56.1 = z6 then (f_X8_turnover r56.2 (x2) (1)).bind fun r61 => (f_X8_turnover r56.2 (x2) (0)).bind fun r62 => if (r61 - r62) = z6 then if (1 : Int32) = 0 then none else (f_X8_viewSize r56.2 (x2)).bind fun r67 => L_L_albums_150 (x2) (z6) (r67) (fun z68 z69 z70 t71 => if z68 = 0 then L_L_albums_4  kont n (0) ((x2 + 1)) (t71) else if z6 < r67 then L_L_albums_4  kont n (0) ((x2 + 1)) (t71) else L_L_albums_4  kont n (1) ((x2 + 1)) (t71)) FU (1) (6) (0) (r56.2) else if (0 : Int32) = 0 then L_L_albums_150 (x2) (z6) (0) (fun z63 z64 z65 t66 => if z63 = 0 then L_L_albums_4  kont n (0) ((x2 + 1)) (t66) else if z6 < (0 : Int32) then L_L_albums_4  kont n (0) ((x2 + 1)) (t66) else L_L_albums_4  kont n (1) ((x2 + 1)) (t66)) FU (0) (6) (0) (r56.2) else none else if (0 : Int32) = 0 then L_L_albums_150 (x2) (z6) (0) (fun z57 z58 z59 t60 => if z57 = 0 then L_L_albums_4  kont n (0) ((x2 + 1)) (t60) else if z6 < (0 : Int32) then L_L_albums_4  kont n (0) ((x2 + 1)) (t60) else L_L_albums_4  kont n (1) ((x2 + 1)) (t60)) FU (0) (6) (0) (r56.2) else none else if (0 : Int32) = 0 then L_L_albums_150 (x2) (z6) (0) (fun z52 z53 z54 t55 => if z52 = 0 then L_L_albums_4  kont n (0) ((x2 + 1)) (t55) else if z6 < (0 : Int32) then L_L_albums_4  kont n (0) ((x2 + 1)) (t55) else L_L_albums_4  kont n (1) ((x2 + 1)) (t55)) FU (0) (6) (0) (t8) else none) FU (r2.1) (0) (0) (r2.2)
set_option maxRecDepth 20000 in
set_option maxHeartbeats 4000000 in
theorem L_L_albums_4_ok {p : Program} {l : Launch} {K : Kx} {e : Env} {s : State} {m : MethodId} {args : Array Value} {below : List Frame} {meth : Method} {c : Code} (hc : Cx p ({ frames := 6, cells := 0, slots := 0, locals := 145 } : Room) s m args meth c cL_albums 11 wsL_albums RL K (aA K s.heap.size) (some .boolean) 0 0)  (kont : Int32 → Int32 → Sx → Option (Int32 × Sx)) (hk : ∀ x1 x2 y, V p l e ({ frames := 6, cells := 0, slots := 0, locals := 145 } : Room) s m args below meth c K (aA K s.heap.size) 0 0 11 (QM below K args s kWI) 330 [(0, .ref (K.2.2 0)), (1, .int x1), (2, .int x2)] [] y (kont x1 x2 y)) : ∀ (n : Nat) (x1 : Int32) (x2 : Int32) (y : Sx), V p l e ({ frames := 6, cells := 0, slots := 0, locals := 145 } : Room) s m args below meth c K (aA K s.heap.size) 0 0 11 (QM below K args s kWI) 4 [(0, .ref (K.2.2 0)), (1, .int x1), (2, .int x2)] [] y (L_L_albums_4  kont n x1 x2 y) := by
  intro n
  induction n with
  | zero => intro x1 x2 y; exact V_none
  | succ n ih =>
    intro x1 x2 y
    rw [L_L_albums_4]
    refine V_iload_n hc dL_albums_4 rfl 2 rfl ?_
    refine V_iconst (v := 5) hc dL_albums_5 (by decide) ?_
    refine V_icmp_ge (tgt := 330) hc dL_albums_6 (by decide) ?_ ?_
    · exact V_sub [0, 1, 2] rfl (hk _ _ _)
    · refine V_iload_n hc dL_albums_9 rfl 1 rfl ?_
      refine V_if_eq (tgt := 330) hc dL_albums_10 (by decide) ?_ ?_
      · exact V_sub [0, 1, 2] rfl (hk _ _ _)
      · refine V_iconst (v := 0) hc dL_albums_13 (by decide) ?_
        refine V_istore_n (lv' := [(3, .int 0), (0, .ref (K.2.2 0)), (1, .int x1), (2, .int x2)]) hc dL_albums_14 rfl (by decide) rfl ?_
        refine V_aload_n hc dL_albums_15 rfl 1 rfl ?_
        refine V_iload_n hc dL_albums_16 rfl 3 rfl ?_
        refine V_callS_RL hc (c_L_text l K y (x2)) 1 gL_albums_L_text rfl ⟨rfl, rfl⟩ (by decide) ⟨Nat.le_of_ble_eq_true rfl, Nat.le_of_ble_eq_true rfl⟩ rfl rfl (Nat.le_of_ble_eq_true rfl) dL_albums_17 (fun r1 => ?_)
        refine V_callS_WI hc (c_L_types l K y (r1)) 2 gL_albums_L_types rfl ⟨rfl, rfl⟩ (by decide) ⟨Nat.le_of_ble_eq_true rfl, Nat.le_of_ble_eq_true rfl⟩ rfl rfl (Nat.le_of_ble_eq_true rfl) dL_albums_20 (fun r2 => ?_)
        refine V_istore_n (lv' := [(1, .int r2.1), (3, .int 0), (0, .ref (K.2.2 0)), (2, .int x2)]) hc dL_albums_23 rfl (by decide) rfl ?_
        refine V_iconst (v := 0) hc dL_albums_24 (by decide) ?_
        refine V_istore (lv' := [(4, .int 0), (1, .int r2.1), (3, .int 0), (0, .ref (K.2.2 0)), (2, .int x2)]) hc dL_albums_25 (by decide) rfl ?_
        refine V_sub (lv' := [(0, .ref (K.2.2 0)), (1, .int r2.1), (2, .int x2), (3, .int 0), (4, .int 0)]) [3, 1, 4, 2, 0] rfl ?_
        refine L_L_albums_27_ok hc (x2) _ (fun z5 z6 z7 t8 => ?_) FU _ _ _ _
        refine V_iload_n hc dL_albums_84 rfl 1 rfl ?_
        refine V_if_eq (tgt := 126) hc dL_albums_85 (by decide) ?_ ?_
        · refine V_iconst (v := 0) hc dL_albums_126 (by decide) ?_
          refine V_istore_n (lv' := [(1, .int 0), (0, .ref (K.2.2 0)), (2, .int x2), (3, .int z6), (4, .int z7)]) hc dL_albums_127 rfl (by decide) rfl ?_
          refine V_iload_n hc dL_albums_128 rfl 0 rfl ?_
          refine V_if_eq (tgt := 140) hc dL_albums_129 (by decide) ?_ ?_
          · refine V_iconst (v := 0) hc dL_albums_140 (by decide) ?_
            refine V_istore (lv' := [(4, .int 0), (1, .int 0), (0, .ref (K.2.2 0)), (2, .int x2), (3, .int z6)]) hc dL_albums_141 (by decide) rfl ?_
            refine V_bipush (v := 6) hc dL_albums_143 (by decide) ?_
            refine V_istore (lv' := [(5, .int 6), (4, .int 0), (1, .int 0), (0, .ref (K.2.2 0)), (2, .int x2), (3, .int z6)]) hc dL_albums_145 (by decide) rfl ?_
            refine V_iconst (v := 0) hc dL_albums_147 (by decide) ?_
            refine V_istore (lv' := [(6, .int 0), (5, .int 6), (4, .int 0), (1, .int 0), (0, .ref (K.2.2 0)), (2, .int x2), (3, .int z6)]) hc dL_albums_148 (by decide) rfl ?_
            refine V_sub (lv' := [(0, .ref (K.2.2 0)), (1, .int 0), (2, .int x2), (3, .int z6), (4, .int 0), (5, .int 6), (6, .int 0)]) [4, 3, 5, 6, 2, 1, 0] rfl ?_
            refine L_L_albums_150_ok hc (x2) (z6) (0) _ (fun z47 z48 z49 t50 => ?_) FU _ _ _ _
            refine V_iload_n hc dL_albums_308 rfl 1 rfl ?_
            refine V_if_eq (tgt := 322) hc dL_albums_309 (by decide) ?_ ?_
            · refine V_iconst (v := 0) hc dL_albums_322 (by decide) ?_
              refine V_istore_n (lv' := [(1, .int 0), (0, .ref (K.2.2 0)), (2, .int x2), (3, .int z6), (4, .int 0), (5, .int z48), (6, .int z49)]) hc dL_albums_323 rfl (by decide) rfl ?_
              refine V_iinc (v := (x2 + 1)) (lv' := [(2, .int (x2 + 1)), (1, .int 0), (0, .ref (K.2.2 0)), (3, .int z6), (4, .int 0), (5, .int z48), (6, .int z49)]) hc dL_albums_324 2 rfl rfl (by decide) rfl ?_
              refine V_goto (tgt := 4) hc dL_albums_327 (by decide) ?_
              exact V_sub [2, 1, 0] rfl (ih _ _ _)
            · refine V_iload hc dL_albums_312 4 rfl ?_
              refine V_iload_n hc dL_albums_314 rfl 3 rfl ?_
              refine V_icmp_gt (tgt := 322) hc dL_albums_315 (by decide) ?_ ?_
              · refine V_iconst (v := 0) hc dL_albums_322 (by decide) ?_
                refine V_istore_n (lv' := [(1, .int 0), (0, .ref (K.2.2 0)), (2, .int x2), (3, .int z6), (4, .int 0), (5, .int z48), (6, .int z49)]) hc dL_albums_323 rfl (by decide) rfl ?_
                refine V_iinc (v := (x2 + 1)) (lv' := [(2, .int (x2 + 1)), (1, .int 0), (0, .ref (K.2.2 0)), (3, .int z6), (4, .int 0), (5, .int z48), (6, .int z49)]) hc dL_albums_324 2 rfl rfl (by decide) rfl ?_
                refine V_goto (tgt := 4) hc dL_albums_327 (by decide) ?_
                exact V_sub [2, 1, 0] rfl (ih _ _ _)
              · refine V_iconst (v := 1) hc dL_albums_318 (by decide) ?_
                refine V_goto (tgt := 323) hc dL_albums_319 (by decide) ?_
                refine V_istore_n (lv' := [(1, .int 1), (0, .ref (K.2.2 0)), (2, .int x2), (3, .int z6), (4, .int 0), (5, .int z48), (6, .int z49)]) hc dL_albums_323 rfl (by decide) rfl ?_
                refine V_iinc (v := (x2 + 1)) (lv' := [(2, .int (x2 + 1)), (1, .int 1), (0, .ref (K.2.2 0)), (3, .int z6), (4, .int 0), (5, .int z48), (6, .int z49)]) hc dL_albums_324 2 rfl rfl (by decide) rfl ?_
                refine V_goto (tgt := 4) hc dL_albums_327 (by decide) ?_
                exact V_sub [2, 1, 0] rfl (ih _ _ _)
          · exact V_none
        · refine V_aload_n hc dL_albums_88 rfl 0 rfl ?_
          refine V_iload_n hc dL_albums_89 rfl 2 rfl ?_
          refine V_callV_RI (Cn := RX8) (T := TX8) (N := 8) hc (c_X8_albumSize l K t8 (x2)) sP0 rfl 1 gL_albums_X8_albumSize rfl ⟨rfl, rfl⟩ (by decide) ⟨Nat.le_of_ble_eq_true rfl, Nat.le_of_ble_eq_true rfl⟩ rfl rfl (Nat.le_of_ble_eq_true rfl) dL_albums_90 (fun r51 => ?_)
          refine V_iload_n hc dL_albums_93 rfl 3 rfl ?_
          refine V_icmp_ne (tgt := 126) hc dL_albums_94 (by decide) ?_ ?_
          · refine V_iconst (v := 0) hc dL_albums_126 (by decide) ?_
            refine V_istore_n (lv' := [(1, .int 0), (0, .ref (K.2.2 0)), (2, .int x2), (3, .int z6), (4, .int z7)]) hc dL_albums_127 rfl (by decide) rfl ?_
            refine V_iload_n hc dL_albums_128 rfl 0 rfl ?_
            refine V_if_eq (tgt := 140) hc dL_albums_129 (by decide) ?_ ?_
            · refine V_iconst (v := 0) hc dL_albums_140 (by decide) ?_
              refine V_istore (lv' := [(4, .int 0), (1, .int 0), (0, .ref (K.2.2 0)), (2, .int x2), (3, .int z6)]) hc dL_albums_141 (by decide) rfl ?_
              refine V_bipush (v := 6) hc dL_albums_143 (by decide) ?_
              refine V_istore (lv' := [(5, .int 6), (4, .int 0), (1, .int 0), (0, .ref (K.2.2 0)), (2, .int x2), (3, .int z6)]) hc dL_albums_145 (by decide) rfl ?_
              refine V_iconst (v := 0) hc dL_albums_147 (by decide) ?_
              refine V_istore (lv' := [(6, .int 0), (5, .int 6), (4, .int 0), (1, .int 0), (0, .ref (K.2.2 0)), (2, .int x2), (3, .int z6)]) hc dL_albums_148 (by decide) rfl ?_
              refine V_sub (lv' := [(0, .ref (K.2.2 0)), (1, .int 0), (2, .int x2), (3, .int z6), (4, .int 0), (5, .int 6), (6, .int 0)]) [4, 3, 5, 6, 2, 1, 0] rfl ?_
              refine L_L_albums_150_ok hc (x2) (z6) (0) _ (fun z52 z53 z54 t55 => ?_) FU _ _ _ _
              refine V_iload_n hc dL_albums_308 rfl 1 rfl ?_
              refine V_if_eq (tgt := 322) hc dL_albums_309 (by decide) ?_ ?_
              · refine V_iconst (v := 0) hc dL_albums_322 (by decide) ?_
                refine V_istore_n (lv' := [(1, .int 0), (0, .ref (K.2.2 0)), (2, .int x2), (3, .int z6), (4, .int 0), (5, .int z53), (6, .int z54)]) hc dL_albums_323 rfl (by decide) rfl ?_
                refine V_iinc (v := (x2 + 1)) (lv' := [(2, .int (x2 + 1)), (1, .int 0), (0, .ref (K.2.2 0)), (3, .int z6), (4, .int 0), (5, .int z53), (6, .int z54)]) hc dL_albums_324 2 rfl rfl (by decide) rfl ?_
                refine V_goto (tgt := 4) hc dL_albums_327 (by decide) ?_
                exact V_sub [2, 1, 0] rfl (ih _ _ _)
              · refine V_iload hc dL_albums_312 4 rfl ?_
                refine V_iload_n hc dL_albums_314 rfl 3 rfl ?_
                refine V_icmp_gt (tgt := 322) hc dL_albums_315 (by decide) ?_ ?_
                · refine V_iconst (v := 0) hc dL_albums_322 (by decide) ?_
                  refine V_istore_n (lv' := [(1, .int 0), (0, .ref (K.2.2 0)), (2, .int x2), (3, .int z6), (4, .int 0), (5, .int z53), (6, .int z54)]) hc dL_albums_323 rfl (by decide) rfl ?_
                  refine V_iinc (v := (x2 + 1)) (lv' := [(2, .int (x2 + 1)), (1, .int 0), (0, .ref (K.2.2 0)), (3, .int z6), (4, .int 0), (5, .int z53), (6, .int z54)]) hc dL_albums_324 2 rfl rfl (by decide) rfl ?_
                  refine V_goto (tgt := 4) hc dL_albums_327 (by decide) ?_
                  exact V_sub [2, 1, 0] rfl (ih _ _ _)
                · refine V_iconst (v := 1) hc dL_albums_318 (by decide) ?_
                  refine V_goto (tgt := 323) hc dL_albums_319 (by decide) ?_
                  refine V_istore_n (lv' := [(1, .int 1), (0, .ref (K.2.2 0)), (2, .int x2), (3, .int z6), (4, .int 0), (5, .int z53), (6, .int z54)]) hc dL_albums_323 rfl (by decide) rfl ?_
                  refine V_iinc (v := (x2 + 1)) (lv' := [(2, .int (x2 + 1)), (1, .int 1), (0, .ref (K.2.2 0)), (3, .int z6), (4, .int 0), (5, .int z53), (6, .int z54)]) hc dL_albums_324 2 rfl rfl (by decide) rfl ?_
                  refine V_goto (tgt := 4) hc dL_albums_327 (by decide) ?_
                  exact V_sub [2, 1, 0] rfl (ih _ _ _)
            · exact V_none
          · refine V_aload_n hc dL_albums_97 rfl 0 rfl ?_
            refine V_callV_WI (Cn := RX8) (T := TX8) (N := 8) hc (c_X8_select l K t8 ) sP0 rfl 0 gL_albums_X8_select rfl ⟨rfl, rfl⟩ (by decide) ⟨Nat.le_of_ble_eq_true rfl, Nat.le_of_ble_eq_true rfl⟩ rfl rfl (Nat.le_of_ble_eq_true rfl) dL_albums_98 (fun r56 => ?_)
            refine V_iload_n hc dL_albums_101 rfl 3 rfl ?_
            refine V_icmp_ne (tgt := 126) hc dL_albums_102 (by decide) ?_ ?_
            · refine V_iconst (v := 0) hc dL_albums_126 (by decide) ?_
              refine V_istore_n (lv' := [(1, .int 0), (0, .ref (K.2.2 0)), (2, .int x2), (3, .int z6), (4, .int z7)]) hc dL_albums_127 rfl (by decide) rfl ?_
              refine V_iload_n hc dL_albums_128 rfl 0 rfl ?_
              refine V_if_eq (tgt := 140) hc dL_albums_129 (by decide) ?_ ?_
              · refine V_iconst (v := 0) hc dL_albums_140 (by decide) ?_
                refine V_istore (lv' := [(4, .int 0), (1, .int 0), (0, .ref (K.2.2 0)), (2, .int x2), (3, .int z6)]) hc dL_albums_141 (by decide) rfl ?_
                refine V_bipush (v := 6) hc dL_albums_143 (by decide) ?_
                refine V_istore (lv' := [(5, .int 6), (4, .int 0), (1, .int 0), (0, .ref (K.2.2 0)), (2, .int x2), (3, .int z6)]) hc dL_albums_145 (by decide) rfl ?_
                refine V_iconst (v := 0) hc dL_albums_147 (by decide) ?_
                refine V_istore (lv' := [(6, .int 0), (5, .int 6), (4, .int 0), (1, .int 0), (0, .ref (K.2.2 0)), (2, .int x2), (3, .int z6)]) hc dL_albums_148 (by decide) rfl ?_
                refine V_sub (lv' := [(0, .ref (K.2.2 0)), (1, .int 0), (2, .int x2), (3, .int z6), (4, .int 0), (5, .int 6), (6, .int 0)]) [4, 3, 5, 6, 2, 1, 0] rfl ?_
                refine L_L_albums_150_ok hc (x2) (z6) (0) _ (fun z57 z58 z59 t60 => ?_) FU _ _ _ _
                refine V_iload_n hc dL_albums_308 rfl 1 rfl ?_
                refine V_if_eq (tgt := 322) hc dL_albums_309 (by decide) ?_ ?_
                · refine V_iconst (v := 0) hc dL_albums_322 (by decide) ?_
                  refine V_istore_n (lv' := [(1, .int 0), (0, .ref (K.2.2 0)), (2, .int x2), (3, .int z6), (4, .int 0), (5, .int z58), (6, .int z59)]) hc dL_albums_323 rfl (by decide) rfl ?_
                  refine V_iinc (v := (x2 + 1)) (lv' := [(2, .int (x2 + 1)), (1, .int 0), (0, .ref (K.2.2 0)), (3, .int z6), (4, .int 0), (5, .int z58), (6, .int z59)]) hc dL_albums_324 2 rfl rfl (by decide) rfl ?_
                  refine V_goto (tgt := 4) hc dL_albums_327 (by decide) ?_
                  exact V_sub [2, 1, 0] rfl (ih _ _ _)
                · refine V_iload hc dL_albums_312 4 rfl ?_
                  refine V_iload_n hc dL_albums_314 rfl 3 rfl ?_
                  refine V_icmp_gt (tgt := 322) hc dL_albums_315 (by decide) ?_ ?_
                  · refine V_iconst (v := 0) hc dL_albums_322 (by decide) ?_
                    refine V_istore_n (lv' := [(1, .int 0), (0, .ref (K.2.2 0)), (2, .int x2), (3, .int z6), (4, .int 0), (5, .int z58), (6, .int z59)]) hc dL_albums_323 rfl (by decide) rfl ?_
                    refine V_iinc (v := (x2 + 1)) (lv' := [(2, .int (x2 + 1)), (1, .int 0), (0, .ref (K.2.2 0)), (3, .int z6), (4, .int 0), (5, .int z58), (6, .int z59)]) hc dL_albums_324 2 rfl rfl (by decide) rfl ?_
                    refine V_goto (tgt := 4) hc dL_albums_327 (by decide) ?_
                    exact V_sub [2, 1, 0] rfl (ih _ _ _)
                  · refine V_iconst (v := 1) hc dL_albums_318 (by decide) ?_
                    refine V_goto (tgt := 323) hc dL_albums_319 (by decide) ?_
                    refine V_istore_n (lv' := [(1, .int 1), (0, .ref (K.2.2 0)), (2, .int x2), (3, .int z6), (4, .int 0), (5, .int z58), (6, .int z59)]) hc dL_albums_323 rfl (by decide) rfl ?_
                    refine V_iinc (v := (x2 + 1)) (lv' := [(2, .int (x2 + 1)), (1, .int 1), (0, .ref (K.2.2 0)), (3, .int z6), (4, .int 0), (5, .int z58), (6, .int z59)]) hc dL_albums_324 2 rfl rfl (by decide) rfl ?_
                    refine V_goto (tgt := 4) hc dL_albums_327 (by decide) ?_
                    exact V_sub [2, 1, 0] rfl (ih _ _ _)
              · exact V_none
            · refine V_aload_n hc dL_albums_105 rfl 0 rfl ?_
              refine V_iload_n hc dL_albums_106 rfl 2 rfl ?_
              refine V_iconst (v := 1) hc dL_albums_107 (by decide) ?_
              refine V_callV_RI (Cn := RX8) (T := TX8) (N := 8) hc (c_X8_turnover l K r56.2 (x2) (1)) sP0 rfl 2 gL_albums_X8_turnover rfl ⟨rfl, rfl⟩ (by decide) ⟨Nat.le_of_ble_eq_true rfl, Nat.le_of_ble_eq_true rfl⟩ rfl rfl (Nat.le_of_ble_eq_true rfl) dL_albums_108 (fun r61 => ?_)
              refine V_aload_n hc dL_albums_111 rfl 0 rfl ?_
              refine V_iload_n hc dL_albums_112 rfl 2 rfl ?_
              refine V_iconst (v := 0) hc dL_albums_113 (by decide) ?_
              refine V_callV_RI (Cn := RX8) (T := TX8) (N := 8) hc (c_X8_turnover l K r56.2 (x2) (0)) sP0 rfl 2 gL_albums_X8_turnover rfl ⟨rfl, rfl⟩ (by decide) ⟨Nat.le_of_ble_eq_true rfl, Nat.le_of_ble_eq_true rfl⟩ rfl rfl (Nat.le_of_ble_eq_true rfl) dL_albums_114 (fun r62 => ?_)
              refine V_isub hc dL_albums_117 ?_
              refine V_iload_n hc dL_albums_118 rfl 3 rfl ?_
              refine V_icmp_ne (tgt := 126) hc dL_albums_119 (by decide) ?_ ?_
              · refine V_iconst (v := 0) hc dL_albums_126 (by decide) ?_
                refine V_istore_n (lv' := [(1, .int 0), (0, .ref (K.2.2 0)), (2, .int x2), (3, .int z6), (4, .int z7)]) hc dL_albums_127 rfl (by decide) rfl ?_
                refine V_iload_n hc dL_albums_128 rfl 0 rfl ?_
                refine V_if_eq (tgt := 140) hc dL_albums_129 (by decide) ?_ ?_
                · refine V_iconst (v := 0) hc dL_albums_140 (by decide) ?_
                  refine V_istore (lv' := [(4, .int 0), (1, .int 0), (0, .ref (K.2.2 0)), (2, .int x2), (3, .int z6)]) hc dL_albums_141 (by decide) rfl ?_
                  refine V_bipush (v := 6) hc dL_albums_143 (by decide) ?_
                  refine V_istore (lv' := [(5, .int 6), (4, .int 0), (1, .int 0), (0, .ref (K.2.2 0)), (2, .int x2), (3, .int z6)]) hc dL_albums_145 (by decide) rfl ?_
                  refine V_iconst (v := 0) hc dL_albums_147 (by decide) ?_
                  refine V_istore (lv' := [(6, .int 0), (5, .int 6), (4, .int 0), (1, .int 0), (0, .ref (K.2.2 0)), (2, .int x2), (3, .int z6)]) hc dL_albums_148 (by decide) rfl ?_
                  refine V_sub (lv' := [(0, .ref (K.2.2 0)), (1, .int 0), (2, .int x2), (3, .int z6), (4, .int 0), (5, .int 6), (6, .int 0)]) [4, 3, 5, 6, 2, 1, 0] rfl ?_
                  refine L_L_albums_150_ok hc (x2) (z6) (0) _ (fun z63 z64 z65 t66 => ?_) FU _ _ _ _
                  refine V_iload_n hc dL_albums_308 rfl 1 rfl ?_
                  refine V_if_eq (tgt := 322) hc dL_albums_309 (by decide) ?_ ?_
                  · refine V_iconst (v := 0) hc dL_albums_322 (by decide) ?_
                    refine V_istore_n (lv' := [(1, .int 0), (0, .ref (K.2.2 0)), (2, .int x2), (3, .int z6), (4, .int 0), (5, .int z64), (6, .int z65)]) hc dL_albums_323 rfl (by decide) rfl ?_
                    refine V_iinc (v := (x2 + 1)) (lv' := [(2, .int (x2 + 1)), (1, .int 0), (0, .ref (K.2.2 0)), (3, .int z6), (4, .int 0), (5, .int z64), (6, .int z65)]) hc dL_albums_324 2 rfl rfl (by decide) rfl ?_
                    refine V_goto (tgt := 4) hc dL_albums_327 (by decide) ?_
                    exact V_sub [2, 1, 0] rfl (ih _ _ _)
                  · refine V_iload hc dL_albums_312 4 rfl ?_
                    refine V_iload_n hc dL_albums_314 rfl 3 rfl ?_
                    refine V_icmp_gt (tgt := 322) hc dL_albums_315 (by decide) ?_ ?_
                    · refine V_iconst (v := 0) hc dL_albums_322 (by decide) ?_
                      refine V_istore_n (lv' := [(1, .int 0), (0, .ref (K.2.2 0)), (2, .int x2), (3, .int z6), (4, .int 0), (5, .int z64), (6, .int z65)]) hc dL_albums_323 rfl (by decide) rfl ?_
                      refine V_iinc (v := (x2 + 1)) (lv' := [(2, .int (x2 + 1)), (1, .int 0), (0, .ref (K.2.2 0)), (3, .int z6), (4, .int 0), (5, .int z64), (6, .int z65)]) hc dL_albums_324 2 rfl rfl (by decide) rfl ?_
                      refine V_goto (tgt := 4) hc dL_albums_327 (by decide) ?_
                      exact V_sub [2, 1, 0] rfl (ih _ _ _)
                    · refine V_iconst (v := 1) hc dL_albums_318 (by decide) ?_
                      refine V_goto (tgt := 323) hc dL_albums_319 (by decide) ?_
                      refine V_istore_n (lv' := [(1, .int 1), (0, .ref (K.2.2 0)), (2, .int x2), (3, .int z6), (4, .int 0), (5, .int z64), (6, .int z65)]) hc dL_albums_323 rfl (by decide) rfl ?_
                      refine V_iinc (v := (x2 + 1)) (lv' := [(2, .int (x2 + 1)), (1, .int 1), (0, .ref (K.2.2 0)), (3, .int z6), (4, .int 0), (5, .int z64), (6, .int z65)]) hc dL_albums_324 2 rfl rfl (by decide) rfl ?_
                      refine V_goto (tgt := 4) hc dL_albums_327 (by decide) ?_
                      exact V_sub [2, 1, 0] rfl (ih _ _ _)
                · exact V_none
              · refine V_iconst (v := 1) hc dL_albums_122 (by decide) ?_
                refine V_goto (tgt := 127) hc dL_albums_123 (by decide) ?_
                refine V_istore_n (lv' := [(1, .int 1), (0, .ref (K.2.2 0)), (2, .int x2), (3, .int z6), (4, .int z7)]) hc dL_albums_127 rfl (by decide) rfl ?_
                refine V_iload_n hc dL_albums_128 rfl 0 rfl ?_
                refine V_if_eq (tgt := 140) hc dL_albums_129 (by decide) ?_ ?_
                · exact V_none
                · refine V_aload_n hc dL_albums_132 rfl 1 rfl ?_
                  refine V_iload_n hc dL_albums_133 rfl 2 rfl ?_
                  refine V_callV_RI (Cn := RX8) (T := TX8) (N := 8) hc (c_X8_viewSize l K r56.2 (x2)) sP0 rfl 1 gL_albums_X8_viewSize rfl ⟨rfl, rfl⟩ (by decide) ⟨Nat.le_of_ble_eq_true rfl, Nat.le_of_ble_eq_true rfl⟩ rfl rfl (Nat.le_of_ble_eq_true rfl) dL_albums_134 (fun r67 => ?_)
                  refine V_goto (tgt := 141) hc dL_albums_137 (by decide) ?_
                  refine V_istore (lv' := [(4, .int r67), (1, .int 1), (0, .ref (K.2.2 0)), (2, .int x2), (3, .int z6)]) hc dL_albums_141 (by decide) rfl ?_
                  refine V_bipush (v := 6) hc dL_albums_143 (by decide) ?_
                  refine V_istore (lv' := [(5, .int 6), (4, .int r67), (1, .int 1), (0, .ref (K.2.2 0)), (2, .int x2), (3, .int z6)]) hc dL_albums_145 (by decide) rfl ?_
                  refine V_iconst (v := 0) hc dL_albums_147 (by decide) ?_
                  refine V_istore (lv' := [(6, .int 0), (5, .int 6), (4, .int r67), (1, .int 1), (0, .ref (K.2.2 0)), (2, .int x2), (3, .int z6)]) hc dL_albums_148 (by decide) rfl ?_
                  refine V_sub (lv' := [(0, .ref (K.2.2 0)), (1, .int 1), (2, .int x2), (3, .int z6), (4, .int r67), (5, .int 6), (6, .int 0)]) [4, 3, 5, 6, 2, 1, 0] rfl ?_
                  refine L_L_albums_150_ok hc (x2) (z6) (r67) _ (fun z68 z69 z70 t71 => ?_) FU _ _ _ _
                  refine V_iload_n hc dL_albums_308 rfl 1 rfl ?_
                  refine V_if_eq (tgt := 322) hc dL_albums_309 (by decide) ?_ ?_
                  · refine V_iconst (v := 0) hc dL_albums_322 (by decide) ?_
                    refine V_istore_n (lv' := [(1, .int 0), (0, .ref (K.2.2 0)), (2, .int x2), (3, .int z6), (4, .int r67), (5, .int z69), (6, .int z70)]) hc dL_albums_323 rfl (by decide) rfl ?_
                    refine V_iinc (v := (x2 + 1)) (lv' := [(2, .int (x2 + 1)), (1, .int 0), (0, .ref (K.2.2 0)), (3, .int z6), (4, .int r67), (5, .int z69), (6, .int z70)]) hc dL_albums_324 2 rfl rfl (by decide) rfl ?_
                    refine V_goto (tgt := 4) hc dL_albums_327 (by decide) ?_
                    exact V_sub [2, 1, 0] rfl (ih _ _ _)
                  · refine V_iload hc dL_albums_312 4 rfl ?_
                    refine V_iload_n hc dL_albums_314 rfl 3 rfl ?_
                    refine V_icmp_gt (tgt := 322) hc dL_albums_315 (by decide) ?_ ?_
                    · refine V_iconst (v := 0) hc dL_albums_322 (by decide) ?_
                      refine V_istore_n (lv' := [(1, .int 0), (0, .ref (K.2.2 0)), (2, .int x2), (3, .int z6), (4, .int r67), (5, .int z69), (6, .int z70)]) hc dL_albums_323 rfl (by decide) rfl ?_
                      refine V_iinc (v := (x2 + 1)) (lv' := [(2, .int (x2 + 1)), (1, .int 0), (0, .ref (K.2.2 0)), (3, .int z6), (4, .int r67), (5, .int z69), (6, .int z70)]) hc dL_albums_324 2 rfl rfl (by decide) rfl ?_
                      refine V_goto (tgt := 4) hc dL_albums_327 (by decide) ?_
                      exact V_sub [2, 1, 0] rfl (ih _ _ _)
                    · refine V_iconst (v := 1) hc dL_albums_318 (by decide) ?_
                      refine V_goto (tgt := 323) hc dL_albums_319 (by decide) ?_
                      refine V_istore_n (lv' := [(1, .int 1), (0, .ref (K.2.2 0)), (2, .int x2), (3, .int z6), (4, .int r67), (5, .int z69), (6, .int z70)]) hc dL_albums_323 rfl (by decide) rfl ?_
                      refine V_iinc (v := (x2 + 1)) (lv' := [(2, .int (x2 + 1)), (1, .int 1), (0, .ref (K.2.2 0)), (3, .int z6), (4, .int r67), (5, .int z69), (6, .int z70)]) hc dL_albums_324 2 rfl rfl (by decide) rfl ?_
                      refine V_goto (tgt := 4) hc dL_albums_327 (by decide) ?_
                      exact V_sub [2, 1, 0] rfl (ih _ _ _)
noncomputable def f_L_albums (t : Sx)  : Option (Int32 × Sx) := L_L_albums_4  (fun z72 z73 t74 => gd (gz z72) (some (z72, t74))) FU (1) (0) (t)
set_option maxRecDepth 20000 in
set_option maxHeartbeats 4000000 in
theorem c_L_albums (l : Launch) (K : Kx) (t : Sx)  : CT l K yL_albums wsL_albums ({ frames := 6, cells := 0, slots := 0, locals := 145 } : Room) [.ref (K.2.2 0)] t (f_L_albums t ) kWI := by
  refine CT_of (cc := cL_albums) (maxL := 11) (ret := (some .boolean)) (own := RL) (by decide +kernel) rfl rfl (Nat.le_of_ble_eq_true rfl) ?_
  intro p e s m args below meth c hc
  refine V_sub (lv' := [(0, .ref (K.2.2 0))]) [0] rfl ?_
  unfold f_L_albums
  refine V_iconst (v := 1) hc dL_albums_0 (by decide) ?_
  refine V_istore_n (lv' := [(1, .int 1), (0, .ref (K.2.2 0))]) hc dL_albums_1 rfl (by decide) rfl ?_
  refine V_iconst (v := 0) hc dL_albums_2 (by decide) ?_
  refine V_istore_n (lv' := [(2, .int 0), (1, .int 1), (0, .ref (K.2.2 0))]) hc dL_albums_3 rfl (by decide) rfl ?_
  refine V_sub (lv' := [(0, .ref (K.2.2 0)), (1, .int 1), (2, .int 0)]) [2, 1, 0] rfl ?_
  refine L_L_albums_4_ok hc  _ (fun z72 z73 t74 => ?_) FU _ _ _
  refine V_iload_n hc dL_albums_330 rfl 1 rfl ?_
  exact V_zret hc rfl rfl dL_albums_331


noncomputable def L_L_groups_12 (t0 : Sx) (kont : Int32 → Int32 → Int32 → Int32 → Int32 → Option Int32) : Nat → Int32 → Int32 → Int32 → Int32 → Int32 → Option Int32
  | 0, _, _, _, _, _ => none
  | n + 1, x1 , x2 , x3 , x4 , x5 => if 40 ≤ x5 then kont (x1) (x2) (x3) (x4) (x5) else if x4 = 0 then kont (x1) (x2) (x3) (x4) (x5) else (f_X8_keeperOf t0 (x5)).bind fun r1 => if r1 < 0 then L_L_groups_12 t0 kont n (x1) (x2) (x3) (x4) ((x5 + 1)) else (f_X8_keeperOf t0 (r1)).bind fun r2 => if r2 = r1 then (f_X8_value t0 (r1) (6)).bind fun r14 => (f_X8_value t0 (x5) (6)).bind fun r15 => if r14 = r15 then (f_X8_groupSize t0 (r1)).bind fun r27 => (f_X8_groupSize t0 (x5)).bind fun r28 => if r27 = r28 then if r1 = x5 then (f_X8_value t0 (x5) (7)).bind fun r58 => if r1 = x5 then (f_X8_groupSize t0 (x5)).bind fun r64 => if r64 ≤ 1 then (f_X8_stackOf t0 (x5)).bind fun r65 => if (1 : Int32) = 0 then none else if r65 < 0 then L_L_groups_12 t0 kont n ((x1 + 0)) ((x2 + r58)) ((x3 + 0)) (1) ((x5 + 1)) else (f_X8_coverOf t0 (r65)).bind fun r66 => (f_X8_stackOf t0 (r66)).bind fun r67 => if r67 = r65 then (f_X8_stackAt t0 (r65) (1)).bind fun r68 => if r68 < 0 then L_L_groups_12 t0 kont n ((x1 + 0)) ((x2 + r58)) ((x3 + 0)) (0) ((x5 + 1)) else (f_X8_stackAt t0 (r65) (8)).bind fun r69 => if r69 = (-4) then L_L_groups_12 t0 kont n ((x1 + 0)) ((x2 + r58)) ((x3 + 0)) (1) ((x5 + 1)) else L_L_groups_12 t0 kont n ((x1 + 0)) ((x2 + r58)) ((x3 + 0)) (0) ((x5 + 1)) else L_L_groups_12 t0 kont n ((x1 + 0)) ((x2 + r58)) ((x3 + 0)) (0) ((x5 + 1)) else (f_X8_stackOf t0 (x5)).bind fun r70 => if (1 : Int32) = 0 then none else if r70 < 0 then L_L_groups_12 t0 kont n ((x1 + 0)) ((x2 + r58)) ((x3 + 1)) (1) ((x5 + 1)) else (f_X8_coverOf t0 (r70)).bind fun r71 => (f_X8_stackOf t0 (r71)).bind fun r72 => if r72 = r70 then (f_X8_stackAt t0 (r70) (1)).bind fun r73 => if r73 < 0 then L_L_groups_12 t0 kont n ((x1 + 0)) ((x2 + r58)) ((x3 + 1)) (0) ((x5 + 1)) else (f_X8_stackAt t0 (r70) (8)).bind fun r74 => if r74 = (-4) then L_L_groups_12 t0 kont n ((x1 + 0)) ((x2 + r58)) ((x3 + 1)) (1) ((x5 + 1)) else L_L_groups_12 t0 kont n ((x1 + 0)) ((x2 + r58)) ((x3 + 1)) (0) ((x5 + 1)) else L_L_groups_12 t0 kont n ((x1 + 0)) ((x2 + r58)) ((x3 + 1)) (0) ((x5 + 1)) else (f_X8_stackOf t0 (x5)).bind fun r59 => if (1 : Int32) = 0 then none else if r59 < 0 then L_L_groups_12 t0 kont n ((x1 + 0)) ((x2 + r58)) ((x3 + 0)) (1) ((x5 + 1)) else (f_X8_coverOf t0 (r59)).bind fun r60 => (f_X8_stackOf t0 (r60)).bind fun r61 => if r61 = r59 then (f_X8_stackAt t0 (r59) (1)).bind fun r62 => if r62 < 0 then L_L_groups_12 t0 kont n ((x1 + 0)) ((x2 + r58)) ((x3 + 0)) (0) ((x5 + 1)) else (f_X8_stackAt t0 (r59) (8)).bind fun r63 => if r63 = (-4) then L_L_groups_12 t0 kont n ((x1 + 0)) ((x2 + r58)) ((x3 + 0)) (1) ((x5 + 1)) else L_L_groups_12 t0 kont n ((x1 + 0)) ((x2 + r58)) ((x3 + 0)) (0) ((x5 + 1)) else L_L_groups_12 t0 kont n ((x1 + 0)) ((x2 + r58)) ((x3 + 0)) (0) ((x5 + 1)) else (f_X8_value t0 (x5) (7)).bind fun r40 => (f_X8_value t0 (x5) (7)).bind fun r41 => if r1 = x5 then (f_X8_groupSize t0 (x5)).bind fun r47 => if r47 ≤ 1 then (f_X8_stackOf t0 (x5)).bind fun r48 => if (1 : Int32) = 0 then none else if r48 < 0 then L_L_groups_12 t0 kont n ((x1 + r40)) ((x2 + r41)) ((x3 + 0)) (1) ((x5 + 1)) else (f_X8_coverOf t0 (r48)).bind fun r49 => (f_X8_stackOf t0 (r49)).bind fun r50 => if r50 = r48 then (f_X8_stackAt t0 (r48) (1)).bind fun r51 => if r51 < 0 then L_L_groups_12 t0 kont n ((x1 + r40)) ((x2 + r41)) ((x3 + 0)) (0) ((x5 + 1)) else (f_X8_stackAt t0 (r48) (8)).bind fun r52 => if r52 = (-4) then L_L_groups_12 t0 kont n ((x1 + r40)) ((x2 + r41)) ((x3 + 0)) (1) ((x5 + 1)) else L_L_groups_12 t0 kont n ((x1 + r40)) ((x2 + r41)) ((x3 + 0)) (0) ((x5 + 1)) else L_L_groups_12 t0 kont n ((x1 + r40)) ((x2 + r41)) ((x3 + 0)) (0) ((x5 + 1)) else (f_X8_stackOf t0 (x5)).bind fun r53 => if (1 : Int32) = 0 then none else if r53 < 0 then L_L_groups_12 t0 kont n ((x1 + r40)) ((x2 + r41)) ((x3 + 1)) (1) ((x5 + 1)) else (f_X8_coverOf t0 (r53)).bind fun r54 => (f_X8_stackOf t0 (r54)).bind fun r55 => if r55 = r53 then (f_X8_stackAt t0 (r53) (1)).bind fun r56 => if r56 < 0 then L_L_groups_12 t0 kont n ((x1 + r40)) ((x2 + r41)) ((x3 + 1)) (0) ((x5 + 1)) else (f_X8_stackAt t0 (r53) (8)).bind fun r57 => if r57 = (-4) then L_L_groups_12 t0 kont n ((x1 + r40)) ((x2 + r41)) ((x3 + 1)) (1) ((x5 + 1)) else L_L_groups_12 t0 kont n ((x1 + r40)) ((x2 + r41)) ((x3 + 1)) (0) ((x5 + 1)) else L_L_groups_12 t0 kont n ((x1 + r40)) ((x2 + r41)) ((x3 + 1)) (0) ((x5 + 1)) else (f_X8_stackOf t0 (x5)).bind fun r42 => if (1 : Int32) = 0 then none else if r42 < 0 then L_L_groups_12 t0 kont n ((x1 + r40)) ((x2 + r41)) ((x3 + 0)) (1) ((x5 + 1)) else (f_X8_coverOf t0 (r42)).bind fun r43 => (f_X8_stackOf t0 (r43)).bind fun r44 => if r44 = r42 then (f_X8_stackAt t0 (r42) (1)).bind fun r45 => if r45 < 0 then L_L_groups_12 t0 kont n ((x1 + r40)) ((x2 + r41)) ((x3 + 0)) (0) ((x5 + 1)) else (f_X8_stackAt t0 (r42) (8)).bind fun r46 => if r46 = (-4) then L_L_groups_12 t0 kont n ((x1 + r40)) ((x2 + r41)) ((x3 + 0)) (1) ((x5 + 1)) else L_L_groups_12 t0 kont n ((x1 + r40)) ((x2 + r41)) ((x3 + 0)) (0) ((x5 + 1)) else L_L_groups_12 t0 kont n ((x1 + r40)) ((x2 + r41)) ((x3 + 0)) (0) ((x5 + 1)) else if r1 = x5 then (f_X8_value t0 (x5) (7)).bind fun r35 => if r1 = x5 then (f_X8_groupSize t0 (x5)).bind fun r37 => if r37 ≤ 1 then (f_X8_stackOf t0 (x5)).bind fun r38 => if (0 : Int32) = 0 then L_L_groups_12 t0 kont n ((x1 + 0)) ((x2 + r35)) ((x3 + 0)) (0) ((x5 + 1)) else none else (f_X8_stackOf t0 (x5)).bind fun r39 => if (0 : Int32) = 0 then L_L_groups_12 t0 kont n ((x1 + 0)) ((x2 + r35)) ((x3 + 1)) (0) ((x5 + 1)) else none else (f_X8_stackOf t0 (x5)).bind fun r36 => if (0 : Int32) = 0 then L_L_groups_12 t0 kont n ((x1 + 0)) ((x2 + r35)) ((x3 + 0)) (0) ((x5 + 1)) else none else (f_X8_value t0 (x5) (7)).bind fun r29 => (f_X8_value t0 (x5) (7)).bind fun r30 => if r1 = x5 then (f_X8_groupSize t0 (x5)).bind fun r32 => if r32 ≤ 1 then (f_X8_stackOf t0 (x5)).bind fun r33 => if (0 : Int32) = 0 then L_L_groups_12 t0 kont n ((x1 + r29)) ((x2 + r30)) ((x3 + 0)) (0) ((x5 + 1)) else none else (f_X8_stackOf t0 (x5)).bind fun r34 => if (0 : Int32) = 0 then L_L_groups_12 t0 kont n ((x1 + r29)) ((x2 + r30)) ((x3 + 1)) (0) ((x5 + 1)) else none else (f_X8_stackOf t0 (x5)).bind fun r31 => if (0 : Int32) = 0 then L_L_groups_12 t0 kont n ((x1 + r29)) ((x2 + r30)) ((x3 + 0)) (0) ((x5 + 1)) else none else if r1 = x5 then (f_X8_value t0 (x5) (7)).bind fun r22 => if r1 = x5 then (f_X8_groupSize t0 (x5)).bind fun r24 => if r24 ≤ 1 then (f_X8_stackOf t0 (x5)).bind fun r25 => if (0 : Int32) = 0 then L_L_groups_12 t0 kont n ((x1 + 0)) ((x2 + r22)) ((x3 + 0)) (0) ((x5 + 1)) else none else (f_X8_stackOf t0 (x5)).bind fun r26 => if (0 : Int32) = 0 then L_L_groups_12 t0 kont n ((x1 + 0)) ((x2 + r22)) ((x3 + 1)) (0) ((x5 + 1)) else none else (f_X8_stackOf t0 (x5)).bind fun r23 => if (0 : Int32) = 0 then L_L_groups_12 t0 kont n ((x1 + 0)) ((x2 + r22)) ((x3 + 0)) (0) ((x5 + 1)) else none else (f_X8_value t0 (x5) (7)).bind fun r16 => (f_X8_value t0 (x5) (7)).bind fun r17 => if r1 = x5 then (f_X8_groupSize t0 (x5)).bind fun r19 => if r19 ≤ 1 then (f_X8_stackOf t0 (x5)).bind fun r20 => if (0 : Int32) = 0 then L_L_groups_12 t0 kont n ((x1 + r16)) ((x2 + r17)) ((x3 + 0)) (0) ((x5 + 1)) else none else (f_X8_stackOf t0 (x5)).bind fun r21 => if (0 : Int32) = 0 then L_L_groups_12 t0 kont n ((x1 + r16)) ((x2 + r17)) ((x3 + 1)) (0) ((x5 + 1)) else none else (f_X8_stackOf t0 (x5)).bind fun r18 => if (0 : Int32) = 0 then L_L_groups_12 t0 kont n ((x1 + r16)) ((x2 + r17)) ((x3 + 0)) (0) ((x5 + 1)) else none else if r1 = x5 then (f_X8_value t0 (x5) (7)).bind fun r9 => if r1 = x5 then (f_X8_groupSize t0 (x5)).bind fun r11 => if r11 ≤ 1 then (f_X8_stackOf t0 (x5)).bind fun r12 => if (0 : Int32) = 0 then L_L_groups_12 t0 kont n ((x1 + 0)) ((x2 + r9)) ((x3 + 0)) (0) ((x5 + 1)) else none else (f_X8_stackOf t0 (x5)).bind fun r13 => if (0 : Int32) = 0 then L_L_groups_12 t0 kont n ((x1 + 0)) ((x2 + r9)) ((x3 + 1)) (0) ((x5 + 1)) else none else (f_X8_stackOf t0 (x5)).bind fun r10 => if (0 : Int32) = 0 then L_L_groups_12 t0 kont n ((x1 + 0)) ((x2 + r9)) ((x3 + 0)) (0) ((x5 + 1)) else none else (f_X8_value t0 (x5) (7)).bind fun r3 => (f_X8_value t0 (x5) (7)).bind fun r4 => if r1 = x5 then (f_X8_groupSize t0 (x5)).bind fun r6 => if r6 ≤ 1 then (f_X8_stackOf t0 (x5)).bind fun r7 => if (0 : Int32) = 0 then L_L_groups_12 t0 kont n ((x1 + r3)) ((x2 + r4)) ((x3 + 0)) (0) ((x5 + 1)) else none else (f_X8_stackOf t0 (x5)).bind fun r8 => if (0 : Int32) = 0 then L_L_groups_12 t0 kont n ((x1 + r3)) ((x2 + r4)) ((x3 + 1)) (0) ((x5 + 1)) else none else (f_X8_stackOf t0 (x5)).bind fun r5 => if (0 : Int32) = 0 then L_L_groups_12 t0 kont n ((x1 + r3)) ((x2 + r4)) ((x3 + 0)) (0) ((x5 + 1)) else none
set_option maxRecDepth 20000 in
set_option maxHeartbeats 4000000 in
theorem L_L_groups_12_ok {p : Program} {l : Launch} {K : Kx} {e : Env} {s : State} {m : MethodId} {args : Array Value} {below : List Frame} {meth : Method} {c : Code} (hc : Cx p ({ frames := 6, cells := 0, slots := 0, locals := 134 } : Room) s m args meth c cL_groups 8 wsL_groups RL K (aA K s.heap.size) (some .boolean) 0 0) (t0 : Sx) (kont : Int32 → Int32 → Int32 → Int32 → Int32 → Option Int32) (hk : ∀ x1 x2 x3 x4 x5, V p l e ({ frames := 6, cells := 0, slots := 0, locals := 134 } : Room) s m args below meth c K (aA K s.heap.size) 0 0 8 (QM below K args s (kRI t0)) 216 [(0, .ref (K.2.2 0)), (1, .int x1), (2, .int x2), (3, .int x3), (4, .int x4), (5, .int x5)] [] t0 (kont x1 x2 x3 x4 x5)) : ∀ (n : Nat) (x1 : Int32) (x2 : Int32) (x3 : Int32) (x4 : Int32) (x5 : Int32), V p l e ({ frames := 6, cells := 0, slots := 0, locals := 134 } : Room) s m args below meth c K (aA K s.heap.size) 0 0 8 (QM below K args s (kRI t0)) 12 [(0, .ref (K.2.2 0)), (1, .int x1), (2, .int x2), (3, .int x3), (4, .int x4), (5, .int x5)] [] t0 (L_L_groups_12 t0 kont n x1 x2 x3 x4 x5) := by
  intro n
  induction n with
  | zero => intro x1 x2 x3 x4 x5; exact V_none
  | succ n ih =>
    intro x1 x2 x3 x4 x5
    rw [L_L_groups_12]
    refine V_iload hc dL_groups_12 5 rfl ?_
    refine V_bipush (v := 40) hc dL_groups_14 (by decide) ?_
    refine V_icmp_ge (tgt := 216) hc dL_groups_16 (by decide) ?_ ?_
    · exact V_sub [0, 1, 2, 3, 4, 5] rfl (hk _ _ _ _ _)
    · refine V_iload hc dL_groups_19 4 rfl ?_
      refine V_if_eq (tgt := 216) hc dL_groups_21 (by decide) ?_ ?_
      · exact V_sub [0, 1, 2, 3, 4, 5] rfl (hk _ _ _ _ _)
      · refine V_aload_n hc dL_groups_24 rfl 0 rfl ?_
        refine V_iload hc dL_groups_25 5 rfl ?_
        refine V_callV_RI (Cn := RX8) (T := TX8) (N := 8) hc (c_X8_keeperOf l K t0 (x5)) sP0 rfl 1 gL_groups_X8_keeperOf rfl ⟨rfl, rfl⟩ (by decide) ⟨Nat.le_of_ble_eq_true rfl, Nat.le_of_ble_eq_true rfl⟩ rfl rfl (Nat.le_of_ble_eq_true rfl) dL_groups_27 (fun r1 => ?_)
        refine V_istore (lv' := [(6, .int r1), (0, .ref (K.2.2 0)), (1, .int x1), (2, .int x2), (3, .int x3), (4, .int x4), (5, .int x5)]) hc dL_groups_30 (by decide) rfl ?_
        refine V_iload hc dL_groups_32 0 rfl ?_
        refine V_if_lt (tgt := 210) hc dL_groups_34 (by decide) ?_ ?_
        · refine V_iinc (v := (x5 + 1)) (lv' := [(5, .int (x5 + 1)), (6, .int r1), (0, .ref (K.2.2 0)), (1, .int x1), (2, .int x2), (3, .int x3), (4, .int x4)]) hc dL_groups_210 6 rfl rfl (by decide) rfl ?_
          refine V_goto (tgt := 12) hc dL_groups_213 (by decide) ?_
          exact V_sub [2, 3, 4, 5, 6, 0] rfl (ih _ _ _ _ _)
        · refine V_aload_n hc dL_groups_37 rfl 1 rfl ?_
          refine V_iload hc dL_groups_38 0 rfl ?_
          refine V_callV_RI (Cn := RX8) (T := TX8) (N := 8) hc (c_X8_keeperOf l K t0 (r1)) sP0 rfl 1 gL_groups_X8_keeperOf rfl ⟨rfl, rfl⟩ (by decide) ⟨Nat.le_of_ble_eq_true rfl, Nat.le_of_ble_eq_true rfl⟩ rfl rfl (Nat.le_of_ble_eq_true rfl) dL_groups_40 (fun r2 => ?_)
          refine V_iload hc dL_groups_43 0 rfl ?_
          refine V_icmp_ne (tgt := 86) hc dL_groups_45 (by decide) ?_ ?_
          · refine V_iconst (v := 0) hc dL_groups_86 (by decide) ?_
            refine V_istore (lv' := [(4, .int 0), (6, .int r1), (0, .ref (K.2.2 0)), (1, .int x1), (2, .int x2), (3, .int x3), (5, .int x5)]) hc dL_groups_87 (by decide) rfl ?_
            refine V_iload_n hc dL_groups_89 rfl 3 rfl ?_
            refine V_iload hc dL_groups_90 1 rfl ?_
            refine V_iload hc dL_groups_92 6 rfl ?_
            refine V_icmp_ne (tgt := 101) hc dL_groups_94 (by decide) ?_ ?_
            · refine V_aload_n hc dL_groups_101 rfl 2 rfl ?_
              refine V_iload hc dL_groups_102 6 rfl ?_
              refine V_bipush (v := 7) hc dL_groups_104 (by decide) ?_
              refine V_callV_RI (Cn := RX8) (T := TX8) (N := 8) hc (c_X8_value l K t0 (x5) (7)) sP0 rfl 2 gL_groups_X8_value rfl ⟨rfl, rfl⟩ (by decide) ⟨Nat.le_of_ble_eq_true rfl, Nat.le_of_ble_eq_true rfl⟩ rfl rfl (Nat.le_of_ble_eq_true rfl) dL_groups_106 (fun r3 => ?_)
              refine V_iadd hc dL_groups_109 ?_
              refine V_istore_n (lv' := [(1, .int (x1 + r3)), (4, .int 0), (6, .int r1), (0, .ref (K.2.2 0)), (2, .int x2), (3, .int x3), (5, .int x5)]) hc dL_groups_110 rfl (by decide) rfl ?_
              refine V_iload_n hc dL_groups_111 rfl 4 rfl ?_
              refine V_aload_n hc dL_groups_112 rfl 3 rfl ?_
              refine V_iload hc dL_groups_113 6 rfl ?_
              refine V_bipush (v := 7) hc dL_groups_115 (by decide) ?_
              refine V_callV_RI (Cn := RX8) (T := TX8) (N := 8) hc (c_X8_value l K t0 (x5) (7)) sP0 rfl 2 gL_groups_X8_value rfl ⟨rfl, rfl⟩ (by decide) ⟨Nat.le_of_ble_eq_true rfl, Nat.le_of_ble_eq_true rfl⟩ rfl rfl (Nat.le_of_ble_eq_true rfl) dL_groups_117 (fun r4 => ?_)
              refine V_iadd hc dL_groups_120 ?_
              refine V_istore_n (lv' := [(2, .int (x2 + r4)), (1, .int (x1 + r3)), (4, .int 0), (6, .int r1), (0, .ref (K.2.2 0)), (3, .int x3), (5, .int x5)]) hc dL_groups_121 rfl (by decide) rfl ?_
              refine V_iload_n hc dL_groups_122 rfl 5 rfl ?_
              refine V_iload hc dL_groups_123 3 rfl ?_
              refine V_iload hc dL_groups_125 6 rfl ?_
              refine V_icmp_ne (tgt := 144) hc dL_groups_127 (by decide) ?_ ?_
              · refine V_iconst (v := 0) hc dL_groups_144 (by decide) ?_
                refine V_iadd hc dL_groups_145 ?_
                refine V_istore_n (lv' := [(3, .int (x3 + 0)), (2, .int (x2 + r4)), (1, .int (x1 + r3)), (4, .int 0), (6, .int r1), (0, .ref (K.2.2 0)), (5, .int x5)]) hc dL_groups_146 rfl (by decide) rfl ?_
                refine V_aload_n hc dL_groups_147 rfl 5 rfl ?_
                refine V_iload hc dL_groups_148 6 rfl ?_
                refine V_callV_RI (Cn := RX8) (T := TX8) (N := 8) hc (c_X8_stackOf l K t0 (x5)) sP0 rfl 1 gL_groups_X8_stackOf rfl ⟨rfl, rfl⟩ (by decide) ⟨Nat.le_of_ble_eq_true rfl, Nat.le_of_ble_eq_true rfl⟩ rfl rfl (Nat.le_of_ble_eq_true rfl) dL_groups_150 (fun r5 => ?_)
                refine V_istore (lv' := [(7, .int r5), (3, .int (x3 + 0)), (2, .int (x2 + r4)), (1, .int (x1 + r3)), (4, .int 0), (6, .int r1), (0, .ref (K.2.2 0)), (5, .int x5)]) hc dL_groups_153 (by decide) rfl ?_
                refine V_iload hc dL_groups_155 4 rfl ?_
                refine V_if_eq (tgt := 207) hc dL_groups_157 (by decide) ?_ ?_
                · refine V_iconst (v := 0) hc dL_groups_207 (by decide) ?_
                  refine V_istore (lv' := [(4, .int 0), (7, .int r5), (3, .int (x3 + 0)), (2, .int (x2 + r4)), (1, .int (x1 + r3)), (6, .int r1), (0, .ref (K.2.2 0)), (5, .int x5)]) hc dL_groups_208 (by decide) rfl ?_
                  refine V_iinc (v := (x5 + 1)) (lv' := [(5, .int (x5 + 1)), (4, .int 0), (7, .int r5), (3, .int (x3 + 0)), (2, .int (x2 + r4)), (1, .int (x1 + r3)), (6, .int r1), (0, .ref (K.2.2 0))]) hc dL_groups_210 7 rfl rfl (by decide) rfl ?_
                  refine V_goto (tgt := 12) hc dL_groups_213 (by decide) ?_
                  exact V_sub [7, 5, 4, 3, 1, 0] rfl (ih _ _ _ _ _)
                · exact V_none
              · refine V_aload_n hc dL_groups_130 rfl 4 rfl ?_
                refine V_iload hc dL_groups_131 6 rfl ?_
                refine V_callV_RI (Cn := RX8) (T := TX8) (N := 8) hc (c_X8_groupSize l K t0 (x5)) sP0 rfl 1 gL_groups_X8_groupSize rfl ⟨rfl, rfl⟩ (by decide) ⟨Nat.le_of_ble_eq_true rfl, Nat.le_of_ble_eq_true rfl⟩ rfl rfl (Nat.le_of_ble_eq_true rfl) dL_groups_133 (fun r6 => ?_)
                refine V_iconst (v := 1) hc dL_groups_136 (by decide) ?_
                refine V_icmp_le (tgt := 144) hc dL_groups_137 (by decide) ?_ ?_
                · refine V_iconst (v := 0) hc dL_groups_144 (by decide) ?_
                  refine V_iadd hc dL_groups_145 ?_
                  refine V_istore_n (lv' := [(3, .int (x3 + 0)), (2, .int (x2 + r4)), (1, .int (x1 + r3)), (4, .int 0), (6, .int r1), (0, .ref (K.2.2 0)), (5, .int x5)]) hc dL_groups_146 rfl (by decide) rfl ?_
                  refine V_aload_n hc dL_groups_147 rfl 5 rfl ?_
                  refine V_iload hc dL_groups_148 6 rfl ?_
                  refine V_callV_RI (Cn := RX8) (T := TX8) (N := 8) hc (c_X8_stackOf l K t0 (x5)) sP0 rfl 1 gL_groups_X8_stackOf rfl ⟨rfl, rfl⟩ (by decide) ⟨Nat.le_of_ble_eq_true rfl, Nat.le_of_ble_eq_true rfl⟩ rfl rfl (Nat.le_of_ble_eq_true rfl) dL_groups_150 (fun r7 => ?_)
                  refine V_istore (lv' := [(7, .int r7), (3, .int (x3 + 0)), (2, .int (x2 + r4)), (1, .int (x1 + r3)), (4, .int 0), (6, .int r1), (0, .ref (K.2.2 0)), (5, .int x5)]) hc dL_groups_153 (by decide) rfl ?_
                  refine V_iload hc dL_groups_155 4 rfl ?_
                  refine V_if_eq (tgt := 207) hc dL_groups_157 (by decide) ?_ ?_
                  · refine V_iconst (v := 0) hc dL_groups_207 (by decide) ?_
                    refine V_istore (lv' := [(4, .int 0), (7, .int r7), (3, .int (x3 + 0)), (2, .int (x2 + r4)), (1, .int (x1 + r3)), (6, .int r1), (0, .ref (K.2.2 0)), (5, .int x5)]) hc dL_groups_208 (by decide) rfl ?_
                    refine V_iinc (v := (x5 + 1)) (lv' := [(5, .int (x5 + 1)), (4, .int 0), (7, .int r7), (3, .int (x3 + 0)), (2, .int (x2 + r4)), (1, .int (x1 + r3)), (6, .int r1), (0, .ref (K.2.2 0))]) hc dL_groups_210 7 rfl rfl (by decide) rfl ?_
                    refine V_goto (tgt := 12) hc dL_groups_213 (by decide) ?_
                    exact V_sub [7, 5, 4, 3, 1, 0] rfl (ih _ _ _ _ _)
                  · exact V_none
                · refine V_iconst (v := 1) hc dL_groups_140 (by decide) ?_
                  refine V_goto (tgt := 145) hc dL_groups_141 (by decide) ?_
                  refine V_iadd hc dL_groups_145 ?_
                  refine V_istore_n (lv' := [(3, .int (x3 + 1)), (2, .int (x2 + r4)), (1, .int (x1 + r3)), (4, .int 0), (6, .int r1), (0, .ref (K.2.2 0)), (5, .int x5)]) hc dL_groups_146 rfl (by decide) rfl ?_
                  refine V_aload_n hc dL_groups_147 rfl 5 rfl ?_
                  refine V_iload hc dL_groups_148 6 rfl ?_
                  refine V_callV_RI (Cn := RX8) (T := TX8) (N := 8) hc (c_X8_stackOf l K t0 (x5)) sP0 rfl 1 gL_groups_X8_stackOf rfl ⟨rfl, rfl⟩ (by decide) ⟨Nat.le_of_ble_eq_true rfl, Nat.le_of_ble_eq_true rfl⟩ rfl rfl (Nat.le_of_ble_eq_true rfl) dL_groups_150 (fun r8 => ?_)
                  refine V_istore (lv' := [(7, .int r8), (3, .int (x3 + 1)), (2, .int (x2 + r4)), (1, .int (x1 + r3)), (4, .int 0), (6, .int r1), (0, .ref (K.2.2 0)), (5, .int x5)]) hc dL_groups_153 (by decide) rfl ?_
                  refine V_iload hc dL_groups_155 4 rfl ?_
                  refine V_if_eq (tgt := 207) hc dL_groups_157 (by decide) ?_ ?_
                  · refine V_iconst (v := 0) hc dL_groups_207 (by decide) ?_
                    refine V_istore (lv' := [(4, .int 0), (7, .int r8), (3, .int (x3 + 1)), (2, .int (x2 + r4)), (1, .int (x1 + r3)), (6, .int r1), (0, .ref (K.2.2 0)), (5, .int x5)]) hc dL_groups_208 (by decide) rfl ?_
                    refine V_iinc (v := (x5 + 1)) (lv' := [(5, .int (x5 + 1)), (4, .int 0), (7, .int r8), (3, .int (x3 + 1)), (2, .int (x2 + r4)), (1, .int (x1 + r3)), (6, .int r1), (0, .ref (K.2.2 0))]) hc dL_groups_210 7 rfl rfl (by decide) rfl ?_
                    refine V_goto (tgt := 12) hc dL_groups_213 (by decide) ?_
                    exact V_sub [7, 5, 4, 3, 1, 0] rfl (ih _ _ _ _ _)
                  · exact V_none
            · refine V_iconst (v := 0) hc dL_groups_97 (by decide) ?_
              refine V_goto (tgt := 109) hc dL_groups_98 (by decide) ?_
              refine V_iadd hc dL_groups_109 ?_
              refine V_istore_n (lv' := [(1, .int (x1 + 0)), (4, .int 0), (6, .int r1), (0, .ref (K.2.2 0)), (2, .int x2), (3, .int x3), (5, .int x5)]) hc dL_groups_110 rfl (by decide) rfl ?_
              refine V_iload_n hc dL_groups_111 rfl 4 rfl ?_
              refine V_aload_n hc dL_groups_112 rfl 3 rfl ?_
              refine V_iload hc dL_groups_113 6 rfl ?_
              refine V_bipush (v := 7) hc dL_groups_115 (by decide) ?_
              refine V_callV_RI (Cn := RX8) (T := TX8) (N := 8) hc (c_X8_value l K t0 (x5) (7)) sP0 rfl 2 gL_groups_X8_value rfl ⟨rfl, rfl⟩ (by decide) ⟨Nat.le_of_ble_eq_true rfl, Nat.le_of_ble_eq_true rfl⟩ rfl rfl (Nat.le_of_ble_eq_true rfl) dL_groups_117 (fun r9 => ?_)
              refine V_iadd hc dL_groups_120 ?_
              refine V_istore_n (lv' := [(2, .int (x2 + r9)), (1, .int (x1 + 0)), (4, .int 0), (6, .int r1), (0, .ref (K.2.2 0)), (3, .int x3), (5, .int x5)]) hc dL_groups_121 rfl (by decide) rfl ?_
              refine V_iload_n hc dL_groups_122 rfl 5 rfl ?_
              refine V_iload hc dL_groups_123 3 rfl ?_
              refine V_iload hc dL_groups_125 6 rfl ?_
              refine V_icmp_ne (tgt := 144) hc dL_groups_127 (by decide) ?_ ?_
              · refine V_iconst (v := 0) hc dL_groups_144 (by decide) ?_
                refine V_iadd hc dL_groups_145 ?_
                refine V_istore_n (lv' := [(3, .int (x3 + 0)), (2, .int (x2 + r9)), (1, .int (x1 + 0)), (4, .int 0), (6, .int r1), (0, .ref (K.2.2 0)), (5, .int x5)]) hc dL_groups_146 rfl (by decide) rfl ?_
                refine V_aload_n hc dL_groups_147 rfl 5 rfl ?_
                refine V_iload hc dL_groups_148 6 rfl ?_
                refine V_callV_RI (Cn := RX8) (T := TX8) (N := 8) hc (c_X8_stackOf l K t0 (x5)) sP0 rfl 1 gL_groups_X8_stackOf rfl ⟨rfl, rfl⟩ (by decide) ⟨Nat.le_of_ble_eq_true rfl, Nat.le_of_ble_eq_true rfl⟩ rfl rfl (Nat.le_of_ble_eq_true rfl) dL_groups_150 (fun r10 => ?_)
                refine V_istore (lv' := [(7, .int r10), (3, .int (x3 + 0)), (2, .int (x2 + r9)), (1, .int (x1 + 0)), (4, .int 0), (6, .int r1), (0, .ref (K.2.2 0)), (5, .int x5)]) hc dL_groups_153 (by decide) rfl ?_
                refine V_iload hc dL_groups_155 4 rfl ?_
                refine V_if_eq (tgt := 207) hc dL_groups_157 (by decide) ?_ ?_
                · refine V_iconst (v := 0) hc dL_groups_207 (by decide) ?_
                  refine V_istore (lv' := [(4, .int 0), (7, .int r10), (3, .int (x3 + 0)), (2, .int (x2 + r9)), (1, .int (x1 + 0)), (6, .int r1), (0, .ref (K.2.2 0)), (5, .int x5)]) hc dL_groups_208 (by decide) rfl ?_
                  refine V_iinc (v := (x5 + 1)) (lv' := [(5, .int (x5 + 1)), (4, .int 0), (7, .int r10), (3, .int (x3 + 0)), (2, .int (x2 + r9)), (1, .int (x1 + 0)), (6, .int r1), (0, .ref (K.2.2 0))]) hc dL_groups_210 7 rfl rfl (by decide) rfl ?_
                  refine V_goto (tgt := 12) hc dL_groups_213 (by decide) ?_
                  exact V_sub [7, 5, 4, 3, 1, 0] rfl (ih _ _ _ _ _)
                · exact V_none
              · refine V_aload_n hc dL_groups_130 rfl 4 rfl ?_
                refine V_iload hc dL_groups_131 6 rfl ?_
                refine V_callV_RI (Cn := RX8) (T := TX8) (N := 8) hc (c_X8_groupSize l K t0 (x5)) sP0 rfl 1 gL_groups_X8_groupSize rfl ⟨rfl, rfl⟩ (by decide) ⟨Nat.le_of_ble_eq_true rfl, Nat.le_of_ble_eq_true rfl⟩ rfl rfl (Nat.le_of_ble_eq_true rfl) dL_groups_133 (fun r11 => ?_)
                refine V_iconst (v := 1) hc dL_groups_136 (by decide) ?_
                refine V_icmp_le (tgt := 144) hc dL_groups_137 (by decide) ?_ ?_
                · refine V_iconst (v := 0) hc dL_groups_144 (by decide) ?_
                  refine V_iadd hc dL_groups_145 ?_
                  refine V_istore_n (lv' := [(3, .int (x3 + 0)), (2, .int (x2 + r9)), (1, .int (x1 + 0)), (4, .int 0), (6, .int r1), (0, .ref (K.2.2 0)), (5, .int x5)]) hc dL_groups_146 rfl (by decide) rfl ?_
                  refine V_aload_n hc dL_groups_147 rfl 5 rfl ?_
                  refine V_iload hc dL_groups_148 6 rfl ?_
                  refine V_callV_RI (Cn := RX8) (T := TX8) (N := 8) hc (c_X8_stackOf l K t0 (x5)) sP0 rfl 1 gL_groups_X8_stackOf rfl ⟨rfl, rfl⟩ (by decide) ⟨Nat.le_of_ble_eq_true rfl, Nat.le_of_ble_eq_true rfl⟩ rfl rfl (Nat.le_of_ble_eq_true rfl) dL_groups_150 (fun r12 => ?_)
                  refine V_istore (lv' := [(7, .int r12), (3, .int (x3 + 0)), (2, .int (x2 + r9)), (1, .int (x1 + 0)), (4, .int 0), (6, .int r1), (0, .ref (K.2.2 0)), (5, .int x5)]) hc dL_groups_153 (by decide) rfl ?_
                  refine V_iload hc dL_groups_155 4 rfl ?_
                  refine V_if_eq (tgt := 207) hc dL_groups_157 (by decide) ?_ ?_
                  · refine V_iconst (v := 0) hc dL_groups_207 (by decide) ?_
                    refine V_istore (lv' := [(4, .int 0), (7, .int r12), (3, .int (x3 + 0)), (2, .int (x2 + r9)), (1, .int (x1 + 0)), (6, .int r1), (0, .ref (K.2.2 0)), (5, .int x5)]) hc dL_groups_208 (by decide) rfl ?_
                    refine V_iinc (v := (x5 + 1)) (lv' := [(5, .int (x5 + 1)), (4, .int 0), (7, .int r12), (3, .int (x3 + 0)), (2, .int (x2 + r9)), (1, .int (x1 + 0)), (6, .int r1), (0, .ref (K.2.2 0))]) hc dL_groups_210 7 rfl rfl (by decide) rfl ?_
                    refine V_goto (tgt := 12) hc dL_groups_213 (by decide) ?_
                    exact V_sub [7, 5, 4, 3, 1, 0] rfl (ih _ _ _ _ _)
                  · exact V_none
                · refine V_iconst (v := 1) hc dL_groups_140 (by decide) ?_
                  refine V_goto (tgt := 145) hc dL_groups_141 (by decide) ?_
                  refine V_iadd hc dL_groups_145 ?_
                  refine V_istore_n (lv' := [(3, .int (x3 + 1)), (2, .int (x2 + r9)), (1, .int (x1 + 0)), (4, .int 0), (6, .int r1), (0, .ref (K.2.2 0)), (5, .int x5)]) hc dL_groups_146 rfl (by decide) rfl ?_
                  refine V_aload_n hc dL_groups_147 rfl 5 rfl ?_
                  refine V_iload hc dL_groups_148 6 rfl ?_
                  refine V_callV_RI (Cn := RX8) (T := TX8) (N := 8) hc (c_X8_stackOf l K t0 (x5)) sP0 rfl 1 gL_groups_X8_stackOf rfl ⟨rfl, rfl⟩ (by decide) ⟨Nat.le_of_ble_eq_true rfl, Nat.le_of_ble_eq_true rfl⟩ rfl rfl (Nat.le_of_ble_eq_true rfl) dL_groups_150 (fun r13 => ?_)
                  refine V_istore (lv' := [(7, .int r13), (3, .int (x3 + 1)), (2, .int (x2 + r9)), (1, .int (x1 + 0)), (4, .int 0), (6, .int r1), (0, .ref (K.2.2 0)), (5, .int x5)]) hc dL_groups_153 (by decide) rfl ?_
                  refine V_iload hc dL_groups_155 4 rfl ?_
                  refine V_if_eq (tgt := 207) hc dL_groups_157 (by decide) ?_ ?_
                  · refine V_iconst (v := 0) hc dL_groups_207 (by decide) ?_
                    refine V_istore (lv' := [(4, .int 0), (7, .int r13), (3, .int (x3 + 1)), (2, .int (x2 + r9)), (1, .int (x1 + 0)), (6, .int r1), (0, .ref (K.2.2 0)), (5, .int x5)]) hc dL_groups_208 (by decide) rfl ?_
                    refine V_iinc (v := (x5 + 1)) (lv' := [(5, .int (x5 + 1)), (4, .int 0), (7, .int r13), (3, .int (x3 + 1)), (2, .int (x2 + r9)), (1, .int (x1 + 0)), (6, .int r1), (0, .ref (K.2.2 0))]) hc dL_groups_210 7 rfl rfl (by decide) rfl ?_
                    refine V_goto (tgt := 12) hc dL_groups_213 (by decide) ?_
                    exact V_sub [7, 5, 4, 3, 1, 0] rfl (ih _ _ _ _ _)
                  · exact V_none
          · refine V_aload_n hc dL_groups_48 rfl 1 rfl ?_
            refine V_iload hc dL_groups_49 0 rfl ?_
            refine V_bipush (v := 6) hc dL_groups_51 (by decide) ?_
            refine V_callV_RI (Cn := RX8) (T := TX8) (N := 8) hc (c_X8_value l K t0 (r1) (6)) sP0 rfl 2 gL_groups_X8_value rfl ⟨rfl, rfl⟩ (by decide) ⟨Nat.le_of_ble_eq_true rfl, Nat.le_of_ble_eq_true rfl⟩ rfl rfl (Nat.le_of_ble_eq_true rfl) dL_groups_53 (fun r14 => ?_)
            refine V_aload_n hc dL_groups_56 rfl 1 rfl ?_
            refine V_iload hc dL_groups_57 6 rfl ?_
            refine V_bipush (v := 6) hc dL_groups_59 (by decide) ?_
            refine V_callV_RI (Cn := RX8) (T := TX8) (N := 8) hc (c_X8_value l K t0 (x5) (6)) sP0 rfl 2 gL_groups_X8_value rfl ⟨rfl, rfl⟩ (by decide) ⟨Nat.le_of_ble_eq_true rfl, Nat.le_of_ble_eq_true rfl⟩ rfl rfl (Nat.le_of_ble_eq_true rfl) dL_groups_61 (fun r15 => ?_)
            refine V_icmp_ne (tgt := 86) hc dL_groups_64 (by decide) ?_ ?_
            · refine V_iconst (v := 0) hc dL_groups_86 (by decide) ?_
              refine V_istore (lv' := [(4, .int 0), (6, .int r1), (0, .ref (K.2.2 0)), (1, .int x1), (2, .int x2), (3, .int x3), (5, .int x5)]) hc dL_groups_87 (by decide) rfl ?_
              refine V_iload_n hc dL_groups_89 rfl 3 rfl ?_
              refine V_iload hc dL_groups_90 1 rfl ?_
              refine V_iload hc dL_groups_92 6 rfl ?_
              refine V_icmp_ne (tgt := 101) hc dL_groups_94 (by decide) ?_ ?_
              · refine V_aload_n hc dL_groups_101 rfl 2 rfl ?_
                refine V_iload hc dL_groups_102 6 rfl ?_
                refine V_bipush (v := 7) hc dL_groups_104 (by decide) ?_
                refine V_callV_RI (Cn := RX8) (T := TX8) (N := 8) hc (c_X8_value l K t0 (x5) (7)) sP0 rfl 2 gL_groups_X8_value rfl ⟨rfl, rfl⟩ (by decide) ⟨Nat.le_of_ble_eq_true rfl, Nat.le_of_ble_eq_true rfl⟩ rfl rfl (Nat.le_of_ble_eq_true rfl) dL_groups_106 (fun r16 => ?_)
                refine V_iadd hc dL_groups_109 ?_
                refine V_istore_n (lv' := [(1, .int (x1 + r16)), (4, .int 0), (6, .int r1), (0, .ref (K.2.2 0)), (2, .int x2), (3, .int x3), (5, .int x5)]) hc dL_groups_110 rfl (by decide) rfl ?_
                refine V_iload_n hc dL_groups_111 rfl 4 rfl ?_
                refine V_aload_n hc dL_groups_112 rfl 3 rfl ?_
                refine V_iload hc dL_groups_113 6 rfl ?_
                refine V_bipush (v := 7) hc dL_groups_115 (by decide) ?_
                refine V_callV_RI (Cn := RX8) (T := TX8) (N := 8) hc (c_X8_value l K t0 (x5) (7)) sP0 rfl 2 gL_groups_X8_value rfl ⟨rfl, rfl⟩ (by decide) ⟨Nat.le_of_ble_eq_true rfl, Nat.le_of_ble_eq_true rfl⟩ rfl rfl (Nat.le_of_ble_eq_true rfl) dL_groups_117 (fun r17 => ?_)
                refine V_iadd hc dL_groups_120 ?_
                refine V_istore_n (lv' := [(2, .int (x2 + r17)), (1, .int (x1 + r16)), (4, .int 0), (6, .int r1), (0, .ref (K.2.2 0)), (3, .int x3), (5, .int x5)]) hc dL_groups_121 rfl (by decide) rfl ?_
                refine V_iload_n hc dL_groups_122 rfl 5 rfl ?_
                refine V_iload hc dL_groups_123 3 rfl ?_
                refine V_iload hc dL_groups_125 6 rfl ?_
                refine V_icmp_ne (tgt := 144) hc dL_groups_127 (by decide) ?_ ?_
                · refine V_iconst (v := 0) hc dL_groups_144 (by decide) ?_
                  refine V_iadd hc dL_groups_145 ?_
                  refine V_istore_n (lv' := [(3, .int (x3 + 0)), (2, .int (x2 + r17)), (1, .int (x1 + r16)), (4, .int 0), (6, .int r1), (0, .ref (K.2.2 0)), (5, .int x5)]) hc dL_groups_146 rfl (by decide) rfl ?_
                  refine V_aload_n hc dL_groups_147 rfl 5 rfl ?_
                  refine V_iload hc dL_groups_148 6 rfl ?_
                  refine V_callV_RI (Cn := RX8) (T := TX8) (N := 8) hc (c_X8_stackOf l K t0 (x5)) sP0 rfl 1 gL_groups_X8_stackOf rfl ⟨rfl, rfl⟩ (by decide) ⟨Nat.le_of_ble_eq_true rfl, Nat.le_of_ble_eq_true rfl⟩ rfl rfl (Nat.le_of_ble_eq_true rfl) dL_groups_150 (fun r18 => ?_)
                  refine V_istore (lv' := [(7, .int r18), (3, .int (x3 + 0)), (2, .int (x2 + r17)), (1, .int (x1 + r16)), (4, .int 0), (6, .int r1), (0, .ref (K.2.2 0)), (5, .int x5)]) hc dL_groups_153 (by decide) rfl ?_
                  refine V_iload hc dL_groups_155 4 rfl ?_
                  refine V_if_eq (tgt := 207) hc dL_groups_157 (by decide) ?_ ?_
                  · refine V_iconst (v := 0) hc dL_groups_207 (by decide) ?_
                    refine V_istore (lv' := [(4, .int 0), (7, .int r18), (3, .int (x3 + 0)), (2, .int (x2 + r17)), (1, .int (x1 + r16)), (6, .int r1), (0, .ref (K.2.2 0)), (5, .int x5)]) hc dL_groups_208 (by decide) rfl ?_
                    refine V_iinc (v := (x5 + 1)) (lv' := [(5, .int (x5 + 1)), (4, .int 0), (7, .int r18), (3, .int (x3 + 0)), (2, .int (x2 + r17)), (1, .int (x1 + r16)), (6, .int r1), (0, .ref (K.2.2 0))]) hc dL_groups_210 7 rfl rfl (by decide) rfl ?_
                    refine V_goto (tgt := 12) hc dL_groups_213 (by decide) ?_
                    exact V_sub [7, 5, 4, 3, 1, 0] rfl (ih _ _ _ _ _)
                  · exact V_none
                · refine V_aload_n hc dL_groups_130 rfl 4 rfl ?_
                  refine V_iload hc dL_groups_131 6 rfl ?_
                  refine V_callV_RI (Cn := RX8) (T := TX8) (N := 8) hc (c_X8_groupSize l K t0 (x5)) sP0 rfl 1 gL_groups_X8_groupSize rfl ⟨rfl, rfl⟩ (by decide) ⟨Nat.le_of_ble_eq_true rfl, Nat.le_of_ble_eq_true rfl⟩ rfl rfl (Nat.le_of_ble_eq_true rfl) dL_groups_133 (fun r19 => ?_)
                  refine V_iconst (v := 1) hc dL_groups_136 (by decide) ?_
                  refine V_icmp_le (tgt := 144) hc dL_groups_137 (by decide) ?_ ?_
                  · refine V_iconst (v := 0) hc dL_groups_144 (by decide) ?_
                    refine V_iadd hc dL_groups_145 ?_
                    refine V_istore_n (lv' := [(3, .int (x3 + 0)), (2, .int (x2 + r17)), (1, .int (x1 + r16)), (4, .int 0), (6, .int r1), (0, .ref (K.2.2 0)), (5, .int x5)]) hc dL_groups_146 rfl (by decide) rfl ?_
                    refine V_aload_n hc dL_groups_147 rfl 5 rfl ?_
                    refine V_iload hc dL_groups_148 6 rfl ?_
                    refine V_callV_RI (Cn := RX8) (T := TX8) (N := 8) hc (c_X8_stackOf l K t0 (x5)) sP0 rfl 1 gL_groups_X8_stackOf rfl ⟨rfl, rfl⟩ (by decide) ⟨Nat.le_of_ble_eq_true rfl, Nat.le_of_ble_eq_true rfl⟩ rfl rfl (Nat.le_of_ble_eq_true rfl) dL_groups_150 (fun r20 => ?_)
                    refine V_istore (lv' := [(7, .int r20), (3, .int (x3 + 0)), (2, .int (x2 + r17)), (1, .int (x1 + r16)), (4, .int 0), (6, .int r1), (0, .ref (K.2.2 0)), (5, .int x5)]) hc dL_groups_153 (by decide) rfl ?_
                    refine V_iload hc dL_groups_155 4 rfl ?_
                    refine V_if_eq (tgt := 207) hc dL_groups_157 (by decide) ?_ ?_
                    · refine V_iconst (v := 0) hc dL_groups_207 (by decide) ?_
                      refine V_istore (lv' := [(4, .int 0), (7, .int r20), (3, .int (x3 + 0)), (2, .int (x2 + r17)), (1, .int (x1 + r16)), (6, .int r1), (0, .ref (K.2.2 0)), (5, .int x5)]) hc dL_groups_208 (by decide) rfl ?_
                      refine V_iinc (v := (x5 + 1)) (lv' := [(5, .int (x5 + 1)), (4, .int 0), (7, .int r20), (3, .int (x3 + 0)), (2, .int (x2 + r17)), (1, .int (x1 + r16)), (6, .int r1), (0, .ref (K.2.2 0))]) hc dL_groups_210 7 rfl rfl (by decide) rfl ?_
                      refine V_goto (tgt := 12) hc dL_groups_213 (by decide) ?_
                      exact V_sub [7, 5, 4, 3, 1, 0] rfl (ih _ _ _ _ _)
                    · exact V_none
                  · refine V_iconst (v := 1) hc dL_groups_140 (by decide) ?_
                    refine V_goto (tgt := 145) hc dL_groups_141 (by decide) ?_
                    refine V_iadd hc dL_groups_145 ?_
                    refine V_istore_n (lv' := [(3, .int (x3 + 1)), (2, .int (x2 + r17)), (1, .int (x1 + r16)), (4, .int 0), (6, .int r1), (0, .ref (K.2.2 0)), (5, .int x5)]) hc dL_groups_146 rfl (by decide) rfl ?_
                    refine V_aload_n hc dL_groups_147 rfl 5 rfl ?_
                    refine V_iload hc dL_groups_148 6 rfl ?_
                    refine V_callV_RI (Cn := RX8) (T := TX8) (N := 8) hc (c_X8_stackOf l K t0 (x5)) sP0 rfl 1 gL_groups_X8_stackOf rfl ⟨rfl, rfl⟩ (by decide) ⟨Nat.le_of_ble_eq_true rfl, Nat.le_of_ble_eq_true rfl⟩ rfl rfl (Nat.le_of_ble_eq_true rfl) dL_groups_150 (fun r21 => ?_)
                    refine V_istore (lv' := [(7, .int r21), (3, .int (x3 + 1)), (2, .int (x2 + r17)), (1, .int (x1 + r16)), (4, .int 0), (6, .int r1), (0, .ref (K.2.2 0)), (5, .int x5)]) hc dL_groups_153 (by decide) rfl ?_
                    refine V_iload hc dL_groups_155 4 rfl ?_
                    refine V_if_eq (tgt := 207) hc dL_groups_157 (by decide) ?_ ?_
                    · refine V_iconst (v := 0) hc dL_groups_207 (by decide) ?_
                      refine V_istore (lv' := [(4, .int 0), (7, .int r21), (3, .int (x3 + 1)), (2, .int (x2 + r17)), (1, .int (x1 + r16)), (6, .int r1), (0, .ref (K.2.2 0)), (5, .int x5)]) hc dL_groups_208 (by decide) rfl ?_
                      refine V_iinc (v := (x5 + 1)) (lv' := [(5, .int (x5 + 1)), (4, .int 0), (7, .int r21), (3, .int (x3 + 1)), (2, .int (x2 + r17)), (1, .int (x1 + r16)), (6, .int r1), (0, .ref (K.2.2 0))]) hc dL_groups_210 7 rfl rfl (by decide) rfl ?_
                      refine V_goto (tgt := 12) hc dL_groups_213 (by decide) ?_
                      exact V_sub [7, 5, 4, 3, 1, 0] rfl (ih _ _ _ _ _)
                    · exact V_none
              · refine V_iconst (v := 0) hc dL_groups_97 (by decide) ?_
                refine V_goto (tgt := 109) hc dL_groups_98 (by decide) ?_
                refine V_iadd hc dL_groups_109 ?_
                refine V_istore_n (lv' := [(1, .int (x1 + 0)), (4, .int 0), (6, .int r1), (0, .ref (K.2.2 0)), (2, .int x2), (3, .int x3), (5, .int x5)]) hc dL_groups_110 rfl (by decide) rfl ?_
                refine V_iload_n hc dL_groups_111 rfl 4 rfl ?_
                refine V_aload_n hc dL_groups_112 rfl 3 rfl ?_
                refine V_iload hc dL_groups_113 6 rfl ?_
                refine V_bipush (v := 7) hc dL_groups_115 (by decide) ?_
                refine V_callV_RI (Cn := RX8) (T := TX8) (N := 8) hc (c_X8_value l K t0 (x5) (7)) sP0 rfl 2 gL_groups_X8_value rfl ⟨rfl, rfl⟩ (by decide) ⟨Nat.le_of_ble_eq_true rfl, Nat.le_of_ble_eq_true rfl⟩ rfl rfl (Nat.le_of_ble_eq_true rfl) dL_groups_117 (fun r22 => ?_)
                refine V_iadd hc dL_groups_120 ?_
                refine V_istore_n (lv' := [(2, .int (x2 + r22)), (1, .int (x1 + 0)), (4, .int 0), (6, .int r1), (0, .ref (K.2.2 0)), (3, .int x3), (5, .int x5)]) hc dL_groups_121 rfl (by decide) rfl ?_
                refine V_iload_n hc dL_groups_122 rfl 5 rfl ?_
                refine V_iload hc dL_groups_123 3 rfl ?_
                refine V_iload hc dL_groups_125 6 rfl ?_
                refine V_icmp_ne (tgt := 144) hc dL_groups_127 (by decide) ?_ ?_
                · refine V_iconst (v := 0) hc dL_groups_144 (by decide) ?_
                  refine V_iadd hc dL_groups_145 ?_
                  refine V_istore_n (lv' := [(3, .int (x3 + 0)), (2, .int (x2 + r22)), (1, .int (x1 + 0)), (4, .int 0), (6, .int r1), (0, .ref (K.2.2 0)), (5, .int x5)]) hc dL_groups_146 rfl (by decide) rfl ?_
                  refine V_aload_n hc dL_groups_147 rfl 5 rfl ?_
                  refine V_iload hc dL_groups_148 6 rfl ?_
                  refine V_callV_RI (Cn := RX8) (T := TX8) (N := 8) hc (c_X8_stackOf l K t0 (x5)) sP0 rfl 1 gL_groups_X8_stackOf rfl ⟨rfl, rfl⟩ (by decide) ⟨Nat.le_of_ble_eq_true rfl, Nat.le_of_ble_eq_true rfl⟩ rfl rfl (Nat.le_of_ble_eq_true rfl) dL_groups_150 (fun r23 => ?_)
                  refine V_istore (lv' := [(7, .int r23), (3, .int (x3 + 0)), (2, .int (x2 + r22)), (1, .int (x1 + 0)), (4, .int 0), (6, .int r1), (0, .ref (K.2.2 0)), (5, .int x5)]) hc dL_groups_153 (by decide) rfl ?_
                  refine V_iload hc dL_groups_155 4 rfl ?_
                  refine V_if_eq (tgt := 207) hc dL_groups_157 (by decide) ?_ ?_
                  · refine V_iconst (v := 0) hc dL_groups_207 (by decide) ?_
                    refine V_istore (lv' := [(4, .int 0), (7, .int r23), (3, .int (x3 + 0)), (2, .int (x2 + r22)), (1, .int (x1 + 0)), (6, .int r1), (0, .ref (K.2.2 0)), (5, .int x5)]) hc dL_groups_208 (by decide) rfl ?_
                    refine V_iinc (v := (x5 + 1)) (lv' := [(5, .int (x5 + 1)), (4, .int 0), (7, .int r23), (3, .int (x3 + 0)), (2, .int (x2 + r22)), (1, .int (x1 + 0)), (6, .int r1), (0, .ref (K.2.2 0))]) hc dL_groups_210 7 rfl rfl (by decide) rfl ?_
                    refine V_goto (tgt := 12) hc dL_groups_213 (by decide) ?_
                    exact V_sub [7, 5, 4, 3, 1, 0] rfl (ih _ _ _ _ _)
                  · exact V_none
                · refine V_aload_n hc dL_groups_130 rfl 4 rfl ?_
                  refine V_iload hc dL_groups_131 6 rfl ?_
                  refine V_callV_RI (Cn := RX8) (T := TX8) (N := 8) hc (c_X8_groupSize l K t0 (x5)) sP0 rfl 1 gL_groups_X8_groupSize rfl ⟨rfl, rfl⟩ (by decide) ⟨Nat.le_of_ble_eq_true rfl, Nat.le_of_ble_eq_true rfl⟩ rfl rfl (Nat.le_of_ble_eq_true rfl) dL_groups_133 (fun r24 => ?_)
                  refine V_iconst (v := 1) hc dL_groups_136 (by decide) ?_
                  refine V_icmp_le (tgt := 144) hc dL_groups_137 (by decide) ?_ ?_
                  · refine V_iconst (v := 0) hc dL_groups_144 (by decide) ?_
                    refine V_iadd hc dL_groups_145 ?_
                    refine V_istore_n (lv' := [(3, .int (x3 + 0)), (2, .int (x2 + r22)), (1, .int (x1 + 0)), (4, .int 0), (6, .int r1), (0, .ref (K.2.2 0)), (5, .int x5)]) hc dL_groups_146 rfl (by decide) rfl ?_
                    refine V_aload_n hc dL_groups_147 rfl 5 rfl ?_
                    refine V_iload hc dL_groups_148 6 rfl ?_
                    refine V_callV_RI (Cn := RX8) (T := TX8) (N := 8) hc (c_X8_stackOf l K t0 (x5)) sP0 rfl 1 gL_groups_X8_stackOf rfl ⟨rfl, rfl⟩ (by decide) ⟨Nat.le_of_ble_eq_true rfl, Nat.le_of_ble_eq_true rfl⟩ rfl rfl (Nat.le_of_ble_eq_true rfl) dL_groups_150 (fun r25 => ?_)
                    refine V_istore (lv' := [(7, .int r25), (3, .int (x3 + 0)), (2, .int (x2 + r22)), (1, .int (x1 + 0)), (4, .int 0), (6, .int r1), (0, .ref (K.2.2 0)), (5, .int x5)]) hc dL_groups_153 (by decide) rfl ?_
                    refine V_iload hc dL_groups_155 4 rfl ?_
                    refine V_if_eq (tgt := 207) hc dL_groups_157 (by decide) ?_ ?_
                    · refine V_iconst (v := 0) hc dL_groups_207 (by decide) ?_
                      refine V_istore (lv' := [(4, .int 0), (7, .int r25), (3, .int (x3 + 0)), (2, .int (x2 + r22)), (1, .int (x1 + 0)), (6, .int r1), (0, .ref (K.2.2 0)), (5, .int x5)]) hc dL_groups_208 (by decide) rfl ?_
                      refine V_iinc (v := (x5 + 1)) (lv' := [(5, .int (x5 + 1)), (4, .int 0), (7, .int r25), (3, .int (x3 + 0)), (2, .int (x2 + r22)), (1, .int (x1 + 0)), (6, .int r1), (0, .ref (K.2.2 0))]) hc dL_groups_210 7 rfl rfl (by decide) rfl ?_
                      refine V_goto (tgt := 12) hc dL_groups_213 (by decide) ?_
                      exact V_sub [7, 5, 4, 3, 1, 0] rfl (ih _ _ _ _ _)
                    · exact V_none
                  · refine V_iconst (v := 1) hc dL_groups_140 (by decide) ?_
                    refine V_goto (tgt := 145) hc dL_groups_141 (by decide) ?_
                    refine V_iadd hc dL_groups_145 ?_
                    refine V_istore_n (lv' := [(3, .int (x3 + 1)), (2, .int (x2 + r22)), (1, .int (x1 + 0)), (4, .int 0), (6, .int r1), (0, .ref (K.2.2 0)), (5, .int x5)]) hc dL_groups_146 rfl (by decide) rfl ?_
                    refine V_aload_n hc dL_groups_147 rfl 5 rfl ?_
                    refine V_iload hc dL_groups_148 6 rfl ?_
                    refine V_callV_RI (Cn := RX8) (T := TX8) (N := 8) hc (c_X8_stackOf l K t0 (x5)) sP0 rfl 1 gL_groups_X8_stackOf rfl ⟨rfl, rfl⟩ (by decide) ⟨Nat.le_of_ble_eq_true rfl, Nat.le_of_ble_eq_true rfl⟩ rfl rfl (Nat.le_of_ble_eq_true rfl) dL_groups_150 (fun r26 => ?_)
                    refine V_istore (lv' := [(7, .int r26), (3, .int (x3 + 1)), (2, .int (x2 + r22)), (1, .int (x1 + 0)), (4, .int 0), (6, .int r1), (0, .ref (K.2.2 0)), (5, .int x5)]) hc dL_groups_153 (by decide) rfl ?_
                    refine V_iload hc dL_groups_155 4 rfl ?_
                    refine V_if_eq (tgt := 207) hc dL_groups_157 (by decide) ?_ ?_
                    · refine V_iconst (v := 0) hc dL_groups_207 (by decide) ?_
                      refine V_istore (lv' := [(4, .int 0), (7, .int r26), (3, .int (x3 + 1)), (2, .int (x2 + r22)), (1, .int (x1 + 0)), (6, .int r1), (0, .ref (K.2.2 0)), (5, .int x5)]) hc dL_groups_208 (by decide) rfl ?_
                      refine V_iinc (v := (x5 + 1)) (lv' := [(5, .int (x5 + 1)), (4, .int 0), (7, .int r26), (3, .int (x3 + 1)), (2, .int (x2 + r22)), (1, .int (x1 + 0)), (6, .int r1), (0, .ref (K.2.2 0))]) hc dL_groups_210 7 rfl rfl (by decide) rfl ?_
                      refine V_goto (tgt := 12) hc dL_groups_213 (by decide) ?_
                      exact V_sub [7, 5, 4, 3, 1, 0] rfl (ih _ _ _ _ _)
                    · exact V_none
            · refine V_aload_n hc dL_groups_67 rfl 1 rfl ?_
              refine V_iload hc dL_groups_68 0 rfl ?_
              refine V_callV_RI (Cn := RX8) (T := TX8) (N := 8) hc (c_X8_groupSize l K t0 (r1)) sP0 rfl 1 gL_groups_X8_groupSize rfl ⟨rfl, rfl⟩ (by decide) ⟨Nat.le_of_ble_eq_true rfl, Nat.le_of_ble_eq_true rfl⟩ rfl rfl (Nat.le_of_ble_eq_true rfl) dL_groups_70 (fun r27 => ?_)
              refine V_aload_n hc dL_groups_73 rfl 1 rfl ?_
              refine V_iload hc dL_groups_74 6 rfl ?_
              refine V_callV_RI (Cn := RX8) (T := TX8) (N := 8) hc (c_X8_groupSize l K t0 (x5)) sP0 rfl 1 gL_groups_X8_groupSize rfl ⟨rfl, rfl⟩ (by decide) ⟨Nat.le_of_ble_eq_true rfl, Nat.le_of_ble_eq_true rfl⟩ rfl rfl (Nat.le_of_ble_eq_true rfl) dL_groups_76 (fun r28 => ?_)
              refine V_icmp_ne (tgt := 86) hc dL_groups_79 (by decide) ?_ ?_
              · refine V_iconst (v := 0) hc dL_groups_86 (by decide) ?_
                refine V_istore (lv' := [(4, .int 0), (6, .int r1), (0, .ref (K.2.2 0)), (1, .int x1), (2, .int x2), (3, .int x3), (5, .int x5)]) hc dL_groups_87 (by decide) rfl ?_
                refine V_iload_n hc dL_groups_89 rfl 3 rfl ?_
                refine V_iload hc dL_groups_90 1 rfl ?_
                refine V_iload hc dL_groups_92 6 rfl ?_
                refine V_icmp_ne (tgt := 101) hc dL_groups_94 (by decide) ?_ ?_
                · refine V_aload_n hc dL_groups_101 rfl 2 rfl ?_
                  refine V_iload hc dL_groups_102 6 rfl ?_
                  refine V_bipush (v := 7) hc dL_groups_104 (by decide) ?_
                  refine V_callV_RI (Cn := RX8) (T := TX8) (N := 8) hc (c_X8_value l K t0 (x5) (7)) sP0 rfl 2 gL_groups_X8_value rfl ⟨rfl, rfl⟩ (by decide) ⟨Nat.le_of_ble_eq_true rfl, Nat.le_of_ble_eq_true rfl⟩ rfl rfl (Nat.le_of_ble_eq_true rfl) dL_groups_106 (fun r29 => ?_)
                  refine V_iadd hc dL_groups_109 ?_
                  refine V_istore_n (lv' := [(1, .int (x1 + r29)), (4, .int 0), (6, .int r1), (0, .ref (K.2.2 0)), (2, .int x2), (3, .int x3), (5, .int x5)]) hc dL_groups_110 rfl (by decide) rfl ?_
                  refine V_iload_n hc dL_groups_111 rfl 4 rfl ?_
                  refine V_aload_n hc dL_groups_112 rfl 3 rfl ?_
                  refine V_iload hc dL_groups_113 6 rfl ?_
                  refine V_bipush (v := 7) hc dL_groups_115 (by decide) ?_
                  refine V_callV_RI (Cn := RX8) (T := TX8) (N := 8) hc (c_X8_value l K t0 (x5) (7)) sP0 rfl 2 gL_groups_X8_value rfl ⟨rfl, rfl⟩ (by decide) ⟨Nat.le_of_ble_eq_true rfl, Nat.le_of_ble_eq_true rfl⟩ rfl rfl (Nat.le_of_ble_eq_true rfl) dL_groups_117 (fun r30 => ?_)
                  refine V_iadd hc dL_groups_120 ?_
                  refine V_istore_n (lv' := [(2, .int (x2 + r30)), (1, .int (x1 + r29)), (4, .int 0), (6, .int r1), (0, .ref (K.2.2 0)), (3, .int x3), (5, .int x5)]) hc dL_groups_121 rfl (by decide) rfl ?_
                  refine V_iload_n hc dL_groups_122 rfl 5 rfl ?_
                  refine V_iload hc dL_groups_123 3 rfl ?_
                  refine V_iload hc dL_groups_125 6 rfl ?_
                  refine V_icmp_ne (tgt := 144) hc dL_groups_127 (by decide) ?_ ?_
                  · refine V_iconst (v := 0) hc dL_groups_144 (by decide) ?_
                    refine V_iadd hc dL_groups_145 ?_
                    refine V_istore_n (lv' := [(3, .int (x3 + 0)), (2, .int (x2 + r30)), (1, .int (x1 + r29)), (4, .int 0), (6, .int r1), (0, .ref (K.2.2 0)), (5, .int x5)]) hc dL_groups_146 rfl (by decide) rfl ?_
                    refine V_aload_n hc dL_groups_147 rfl 5 rfl ?_
                    refine V_iload hc dL_groups_148 6 rfl ?_
                    refine V_callV_RI (Cn := RX8) (T := TX8) (N := 8) hc (c_X8_stackOf l K t0 (x5)) sP0 rfl 1 gL_groups_X8_stackOf rfl ⟨rfl, rfl⟩ (by decide) ⟨Nat.le_of_ble_eq_true rfl, Nat.le_of_ble_eq_true rfl⟩ rfl rfl (Nat.le_of_ble_eq_true rfl) dL_groups_150 (fun r31 => ?_)
                    refine V_istore (lv' := [(7, .int r31), (3, .int (x3 + 0)), (2, .int (x2 + r30)), (1, .int (x1 + r29)), (4, .int 0), (6, .int r1), (0, .ref (K.2.2 0)), (5, .int x5)]) hc dL_groups_153 (by decide) rfl ?_
                    refine V_iload hc dL_groups_155 4 rfl ?_
                    refine V_if_eq (tgt := 207) hc dL_groups_157 (by decide) ?_ ?_
                    · refine V_iconst (v := 0) hc dL_groups_207 (by decide) ?_
                      refine V_istore (lv' := [(4, .int 0), (7, .int r31), (3, .int (x3 + 0)), (2, .int (x2 + r30)), (1, .int (x1 + r29)), (6, .int r1), (0, .ref (K.2.2 0)), (5, .int x5)]) hc dL_groups_208 (by decide) rfl ?_
                      refine V_iinc (v := (x5 + 1)) (lv' := [(5, .int (x5 + 1)), (4, .int 0), (7, .int r31), (3, .int (x3 + 0)), (2, .int (x2 + r30)), (1, .int (x1 + r29)), (6, .int r1), (0, .ref (K.2.2 0))]) hc dL_groups_210 7 rfl rfl (by decide) rfl ?_
                      refine V_goto (tgt := 12) hc dL_groups_213 (by decide) ?_
                      exact V_sub [7, 5, 4, 3, 1, 0] rfl (ih _ _ _ _ _)
                    · exact V_none
                  · refine V_aload_n hc dL_groups_130 rfl 4 rfl ?_
                    refine V_iload hc dL_groups_131 6 rfl ?_
                    refine V_callV_RI (Cn := RX8) (T := TX8) (N := 8) hc (c_X8_groupSize l K t0 (x5)) sP0 rfl 1 gL_groups_X8_groupSize rfl ⟨rfl, rfl⟩ (by decide) ⟨Nat.le_of_ble_eq_true rfl, Nat.le_of_ble_eq_true rfl⟩ rfl rfl (Nat.le_of_ble_eq_true rfl) dL_groups_133 (fun r32 => ?_)
                    refine V_iconst (v := 1) hc dL_groups_136 (by decide) ?_
                    refine V_icmp_le (tgt := 144) hc dL_groups_137 (by decide) ?_ ?_
                    · refine V_iconst (v := 0) hc dL_groups_144 (by decide) ?_
                      refine V_iadd hc dL_groups_145 ?_
                      refine V_istore_n (lv' := [(3, .int (x3 + 0)), (2, .int (x2 + r30)), (1, .int (x1 + r29)), (4, .int 0), (6, .int r1), (0, .ref (K.2.2 0)), (5, .int x5)]) hc dL_groups_146 rfl (by decide) rfl ?_
                      refine V_aload_n hc dL_groups_147 rfl 5 rfl ?_
                      refine V_iload hc dL_groups_148 6 rfl ?_
                      refine V_callV_RI (Cn := RX8) (T := TX8) (N := 8) hc (c_X8_stackOf l K t0 (x5)) sP0 rfl 1 gL_groups_X8_stackOf rfl ⟨rfl, rfl⟩ (by decide) ⟨Nat.le_of_ble_eq_true rfl, Nat.le_of_ble_eq_true rfl⟩ rfl rfl (Nat.le_of_ble_eq_true rfl) dL_groups_150 (fun r33 => ?_)
                      refine V_istore (lv' := [(7, .int r33), (3, .int (x3 + 0)), (2, .int (x2 + r30)), (1, .int (x1 + r29)), (4, .int 0), (6, .int r1), (0, .ref (K.2.2 0)), (5, .int x5)]) hc dL_groups_153 (by decide) rfl ?_
                      refine V_iload hc dL_groups_155 4 rfl ?_
                      refine V_if_eq (tgt := 207) hc dL_groups_157 (by decide) ?_ ?_
                      · refine V_iconst (v := 0) hc dL_groups_207 (by decide) ?_
                        refine V_istore (lv' := [(4, .int 0), (7, .int r33), (3, .int (x3 + 0)), (2, .int (x2 + r30)), (1, .int (x1 + r29)), (6, .int r1), (0, .ref (K.2.2 0)), (5, .int x5)]) hc dL_groups_208 (by decide) rfl ?_
                        refine V_iinc (v := (x5 + 1)) (lv' := [(5, .int (x5 + 1)), (4, .int 0), (7, .int r33), (3, .int (x3 + 0)), (2, .int (x2 + r30)), (1, .int (x1 + r29)), (6, .int r1), (0, .ref (K.2.2 0))]) hc dL_groups_210 7 rfl rfl (by decide) rfl ?_
                        refine V_goto (tgt := 12) hc dL_groups_213 (by decide) ?_
                        exact V_sub [7, 5, 4, 3, 1, 0] rfl (ih _ _ _ _ _)
                      · exact V_none
                    · refine V_iconst (v := 1) hc dL_groups_140 (by decide) ?_
                      refine V_goto (tgt := 145) hc dL_groups_141 (by decide) ?_
                      refine V_iadd hc dL_groups_145 ?_
                      refine V_istore_n (lv' := [(3, .int (x3 + 1)), (2, .int (x2 + r30)), (1, .int (x1 + r29)), (4, .int 0), (6, .int r1), (0, .ref (K.2.2 0)), (5, .int x5)]) hc dL_groups_146 rfl (by decide) rfl ?_
                      refine V_aload_n hc dL_groups_147 rfl 5 rfl ?_
                      refine V_iload hc dL_groups_148 6 rfl ?_
                      refine V_callV_RI (Cn := RX8) (T := TX8) (N := 8) hc (c_X8_stackOf l K t0 (x5)) sP0 rfl 1 gL_groups_X8_stackOf rfl ⟨rfl, rfl⟩ (by decide) ⟨Nat.le_of_ble_eq_true rfl, Nat.le_of_ble_eq_true rfl⟩ rfl rfl (Nat.le_of_ble_eq_true rfl) dL_groups_150 (fun r34 => ?_)
                      refine V_istore (lv' := [(7, .int r34), (3, .int (x3 + 1)), (2, .int (x2 + r30)), (1, .int (x1 + r29)), (4, .int 0), (6, .int r1), (0, .ref (K.2.2 0)), (5, .int x5)]) hc dL_groups_153 (by decide) rfl ?_
                      refine V_iload hc dL_groups_155 4 rfl ?_
                      refine V_if_eq (tgt := 207) hc dL_groups_157 (by decide) ?_ ?_
                      · refine V_iconst (v := 0) hc dL_groups_207 (by decide) ?_
                        refine V_istore (lv' := [(4, .int 0), (7, .int r34), (3, .int (x3 + 1)), (2, .int (x2 + r30)), (1, .int (x1 + r29)), (6, .int r1), (0, .ref (K.2.2 0)), (5, .int x5)]) hc dL_groups_208 (by decide) rfl ?_
                        refine V_iinc (v := (x5 + 1)) (lv' := [(5, .int (x5 + 1)), (4, .int 0), (7, .int r34), (3, .int (x3 + 1)), (2, .int (x2 + r30)), (1, .int (x1 + r29)), (6, .int r1), (0, .ref (K.2.2 0))]) hc dL_groups_210 7 rfl rfl (by decide) rfl ?_
                        refine V_goto (tgt := 12) hc dL_groups_213 (by decide) ?_
                        exact V_sub [7, 5, 4, 3, 1, 0] rfl (ih _ _ _ _ _)
                      · exact V_none
                · refine V_iconst (v := 0) hc dL_groups_97 (by decide) ?_
                  refine V_goto (tgt := 109) hc dL_groups_98 (by decide) ?_
                  refine V_iadd hc dL_groups_109 ?_
                  refine V_istore_n (lv' := [(1, .int (x1 + 0)), (4, .int 0), (6, .int r1), (0, .ref (K.2.2 0)), (2, .int x2), (3, .int x3), (5, .int x5)]) hc dL_groups_110 rfl (by decide) rfl ?_
                  refine V_iload_n hc dL_groups_111 rfl 4 rfl ?_
                  refine V_aload_n hc dL_groups_112 rfl 3 rfl ?_
                  refine V_iload hc dL_groups_113 6 rfl ?_
                  refine V_bipush (v := 7) hc dL_groups_115 (by decide) ?_
                  refine V_callV_RI (Cn := RX8) (T := TX8) (N := 8) hc (c_X8_value l K t0 (x5) (7)) sP0 rfl 2 gL_groups_X8_value rfl ⟨rfl, rfl⟩ (by decide) ⟨Nat.le_of_ble_eq_true rfl, Nat.le_of_ble_eq_true rfl⟩ rfl rfl (Nat.le_of_ble_eq_true rfl) dL_groups_117 (fun r35 => ?_)
                  refine V_iadd hc dL_groups_120 ?_
                  refine V_istore_n (lv' := [(2, .int (x2 + r35)), (1, .int (x1 + 0)), (4, .int 0), (6, .int r1), (0, .ref (K.2.2 0)), (3, .int x3), (5, .int x5)]) hc dL_groups_121 rfl (by decide) rfl ?_
                  refine V_iload_n hc dL_groups_122 rfl 5 rfl ?_
                  refine V_iload hc dL_groups_123 3 rfl ?_
                  refine V_iload hc dL_groups_125 6 rfl ?_
                  refine V_icmp_ne (tgt := 144) hc dL_groups_127 (by decide) ?_ ?_
                  · refine V_iconst (v := 0) hc dL_groups_144 (by decide) ?_
                    refine V_iadd hc dL_groups_145 ?_
                    refine V_istore_n (lv' := [(3, .int (x3 + 0)), (2, .int (x2 + r35)), (1, .int (x1 + 0)), (4, .int 0), (6, .int r1), (0, .ref (K.2.2 0)), (5, .int x5)]) hc dL_groups_146 rfl (by decide) rfl ?_
                    refine V_aload_n hc dL_groups_147 rfl 5 rfl ?_
                    refine V_iload hc dL_groups_148 6 rfl ?_
                    refine V_callV_RI (Cn := RX8) (T := TX8) (N := 8) hc (c_X8_stackOf l K t0 (x5)) sP0 rfl 1 gL_groups_X8_stackOf rfl ⟨rfl, rfl⟩ (by decide) ⟨Nat.le_of_ble_eq_true rfl, Nat.le_of_ble_eq_true rfl⟩ rfl rfl (Nat.le_of_ble_eq_true rfl) dL_groups_150 (fun r36 => ?_)
                    refine V_istore (lv' := [(7, .int r36), (3, .int (x3 + 0)), (2, .int (x2 + r35)), (1, .int (x1 + 0)), (4, .int 0), (6, .int r1), (0, .ref (K.2.2 0)), (5, .int x5)]) hc dL_groups_153 (by decide) rfl ?_
                    refine V_iload hc dL_groups_155 4 rfl ?_
                    refine V_if_eq (tgt := 207) hc dL_groups_157 (by decide) ?_ ?_
                    · refine V_iconst (v := 0) hc dL_groups_207 (by decide) ?_
                      refine V_istore (lv' := [(4, .int 0), (7, .int r36), (3, .int (x3 + 0)), (2, .int (x2 + r35)), (1, .int (x1 + 0)), (6, .int r1), (0, .ref (K.2.2 0)), (5, .int x5)]) hc dL_groups_208 (by decide) rfl ?_
                      refine V_iinc (v := (x5 + 1)) (lv' := [(5, .int (x5 + 1)), (4, .int 0), (7, .int r36), (3, .int (x3 + 0)), (2, .int (x2 + r35)), (1, .int (x1 + 0)), (6, .int r1), (0, .ref (K.2.2 0))]) hc dL_groups_210 7 rfl rfl (by decide) rfl ?_
                      refine V_goto (tgt := 12) hc dL_groups_213 (by decide) ?_
                      exact V_sub [7, 5, 4, 3, 1, 0] rfl (ih _ _ _ _ _)
                    · exact V_none
                  · refine V_aload_n hc dL_groups_130 rfl 4 rfl ?_
                    refine V_iload hc dL_groups_131 6 rfl ?_
                    refine V_callV_RI (Cn := RX8) (T := TX8) (N := 8) hc (c_X8_groupSize l K t0 (x5)) sP0 rfl 1 gL_groups_X8_groupSize rfl ⟨rfl, rfl⟩ (by decide) ⟨Nat.le_of_ble_eq_true rfl, Nat.le_of_ble_eq_true rfl⟩ rfl rfl (Nat.le_of_ble_eq_true rfl) dL_groups_133 (fun r37 => ?_)
                    refine V_iconst (v := 1) hc dL_groups_136 (by decide) ?_
                    refine V_icmp_le (tgt := 144) hc dL_groups_137 (by decide) ?_ ?_
                    · refine V_iconst (v := 0) hc dL_groups_144 (by decide) ?_
                      refine V_iadd hc dL_groups_145 ?_
                      refine V_istore_n (lv' := [(3, .int (x3 + 0)), (2, .int (x2 + r35)), (1, .int (x1 + 0)), (4, .int 0), (6, .int r1), (0, .ref (K.2.2 0)), (5, .int x5)]) hc dL_groups_146 rfl (by decide) rfl ?_
                      refine V_aload_n hc dL_groups_147 rfl 5 rfl ?_
                      refine V_iload hc dL_groups_148 6 rfl ?_
                      refine V_callV_RI (Cn := RX8) (T := TX8) (N := 8) hc (c_X8_stackOf l K t0 (x5)) sP0 rfl 1 gL_groups_X8_stackOf rfl ⟨rfl, rfl⟩ (by decide) ⟨Nat.le_of_ble_eq_true rfl, Nat.le_of_ble_eq_true rfl⟩ rfl rfl (Nat.le_of_ble_eq_true rfl) dL_groups_150 (fun r38 => ?_)
                      refine V_istore (lv' := [(7, .int r38), (3, .int (x3 + 0)), (2, .int (x2 + r35)), (1, .int (x1 + 0)), (4, .int 0), (6, .int r1), (0, .ref (K.2.2 0)), (5, .int x5)]) hc dL_groups_153 (by decide) rfl ?_
                      refine V_iload hc dL_groups_155 4 rfl ?_
                      refine V_if_eq (tgt := 207) hc dL_groups_157 (by decide) ?_ ?_
                      · refine V_iconst (v := 0) hc dL_groups_207 (by decide) ?_
                        refine V_istore (lv' := [(4, .int 0), (7, .int r38), (3, .int (x3 + 0)), (2, .int (x2 + r35)), (1, .int (x1 + 0)), (6, .int r1), (0, .ref (K.2.2 0)), (5, .int x5)]) hc dL_groups_208 (by decide) rfl ?_
                        refine V_iinc (v := (x5 + 1)) (lv' := [(5, .int (x5 + 1)), (4, .int 0), (7, .int r38), (3, .int (x3 + 0)), (2, .int (x2 + r35)), (1, .int (x1 + 0)), (6, .int r1), (0, .ref (K.2.2 0))]) hc dL_groups_210 7 rfl rfl (by decide) rfl ?_
                        refine V_goto (tgt := 12) hc dL_groups_213 (by decide) ?_
                        exact V_sub [7, 5, 4, 3, 1, 0] rfl (ih _ _ _ _ _)
                      · exact V_none
                    · refine V_iconst (v := 1) hc dL_groups_140 (by decide) ?_
                      refine V_goto (tgt := 145) hc dL_groups_141 (by decide) ?_
                      refine V_iadd hc dL_groups_145 ?_
                      refine V_istore_n (lv' := [(3, .int (x3 + 1)), (2, .int (x2 + r35)), (1, .int (x1 + 0)), (4, .int 0), (6, .int r1), (0, .ref (K.2.2 0)), (5, .int x5)]) hc dL_groups_146 rfl (by decide) rfl ?_
                      refine V_aload_n hc dL_groups_147 rfl 5 rfl ?_
                      refine V_iload hc dL_groups_148 6 rfl ?_
                      refine V_callV_RI (Cn := RX8) (T := TX8) (N := 8) hc (c_X8_stackOf l K t0 (x5)) sP0 rfl 1 gL_groups_X8_stackOf rfl ⟨rfl, rfl⟩ (by decide) ⟨Nat.le_of_ble_eq_true rfl, Nat.le_of_ble_eq_true rfl⟩ rfl rfl (Nat.le_of_ble_eq_true rfl) dL_groups_150 (fun r39 => ?_)
                      refine V_istore (lv' := [(7, .int r39), (3, .int (x3 + 1)), (2, .int (x2 + r35)), (1, .int (x1 + 0)), (4, .int 0), (6, .int r1), (0, .ref (K.2.2 0)), (5, .int x5)]) hc dL_groups_153 (by decide) rfl ?_
                      refine V_iload hc dL_groups_155 4 rfl ?_
                      refine V_if_eq (tgt := 207) hc dL_groups_157 (by decide) ?_ ?_
                      · refine V_iconst (v := 0) hc dL_groups_207 (by decide) ?_
                        refine V_istore (lv' := [(4, .int 0), (7, .int r39), (3, .int (x3 + 1)), (2, .int (x2 + r35)), (1, .int (x1 + 0)), (6, .int r1), (0, .ref (K.2.2 0)), (5, .int x5)]) hc dL_groups_208 (by decide) rfl ?_
                        refine V_iinc (v := (x5 + 1)) (lv' := [(5, .int (x5 + 1)), (4, .int 0), (7, .int r39), (3, .int (x3 + 1)), (2, .int (x2 + r35)), (1, .int (x1 + 0)), (6, .int r1), (0, .ref (K.2.2 0))]) hc dL_groups_210 7 rfl rfl (by decide) rfl ?_
                        refine V_goto (tgt := 12) hc dL_groups_213 (by decide) ?_
                        exact V_sub [7, 5, 4, 3, 1, 0] rfl (ih _ _ _ _ _)
                      · exact V_none
              · refine V_iconst (v := 1) hc dL_groups_82 (by decide) ?_
                refine V_goto (tgt := 87) hc dL_groups_83 (by decide) ?_
                refine V_istore (lv' := [(4, .int 1), (6, .int r1), (0, .ref (K.2.2 0)), (1, .int x1), (2, .int x2), (3, .int x3), (5, .int x5)]) hc dL_groups_87 (by decide) rfl ?_
                refine V_iload_n hc dL_groups_89 rfl 3 rfl ?_
                refine V_iload hc dL_groups_90 1 rfl ?_
                refine V_iload hc dL_groups_92 6 rfl ?_
                refine V_icmp_ne (tgt := 101) hc dL_groups_94 (by decide) ?_ ?_
                · refine V_aload_n hc dL_groups_101 rfl 2 rfl ?_
                  refine V_iload hc dL_groups_102 6 rfl ?_
                  refine V_bipush (v := 7) hc dL_groups_104 (by decide) ?_
                  refine V_callV_RI (Cn := RX8) (T := TX8) (N := 8) hc (c_X8_value l K t0 (x5) (7)) sP0 rfl 2 gL_groups_X8_value rfl ⟨rfl, rfl⟩ (by decide) ⟨Nat.le_of_ble_eq_true rfl, Nat.le_of_ble_eq_true rfl⟩ rfl rfl (Nat.le_of_ble_eq_true rfl) dL_groups_106 (fun r40 => ?_)
                  refine V_iadd hc dL_groups_109 ?_
                  refine V_istore_n (lv' := [(1, .int (x1 + r40)), (4, .int 1), (6, .int r1), (0, .ref (K.2.2 0)), (2, .int x2), (3, .int x3), (5, .int x5)]) hc dL_groups_110 rfl (by decide) rfl ?_
                  refine V_iload_n hc dL_groups_111 rfl 4 rfl ?_
                  refine V_aload_n hc dL_groups_112 rfl 3 rfl ?_
                  refine V_iload hc dL_groups_113 6 rfl ?_
                  refine V_bipush (v := 7) hc dL_groups_115 (by decide) ?_
                  refine V_callV_RI (Cn := RX8) (T := TX8) (N := 8) hc (c_X8_value l K t0 (x5) (7)) sP0 rfl 2 gL_groups_X8_value rfl ⟨rfl, rfl⟩ (by decide) ⟨Nat.le_of_ble_eq_true rfl, Nat.le_of_ble_eq_true rfl⟩ rfl rfl (Nat.le_of_ble_eq_true rfl) dL_groups_117 (fun r41 => ?_)
                  refine V_iadd hc dL_groups_120 ?_
                  refine V_istore_n (lv' := [(2, .int (x2 + r41)), (1, .int (x1 + r40)), (4, .int 1), (6, .int r1), (0, .ref (K.2.2 0)), (3, .int x3), (5, .int x5)]) hc dL_groups_121 rfl (by decide) rfl ?_
                  refine V_iload_n hc dL_groups_122 rfl 5 rfl ?_
                  refine V_iload hc dL_groups_123 3 rfl ?_
                  refine V_iload hc dL_groups_125 6 rfl ?_
                  refine V_icmp_ne (tgt := 144) hc dL_groups_127 (by decide) ?_ ?_
                  · refine V_iconst (v := 0) hc dL_groups_144 (by decide) ?_
                    refine V_iadd hc dL_groups_145 ?_
                    refine V_istore_n (lv' := [(3, .int (x3 + 0)), (2, .int (x2 + r41)), (1, .int (x1 + r40)), (4, .int 1), (6, .int r1), (0, .ref (K.2.2 0)), (5, .int x5)]) hc dL_groups_146 rfl (by decide) rfl ?_
                    refine V_aload_n hc dL_groups_147 rfl 5 rfl ?_
                    refine V_iload hc dL_groups_148 6 rfl ?_
                    refine V_callV_RI (Cn := RX8) (T := TX8) (N := 8) hc (c_X8_stackOf l K t0 (x5)) sP0 rfl 1 gL_groups_X8_stackOf rfl ⟨rfl, rfl⟩ (by decide) ⟨Nat.le_of_ble_eq_true rfl, Nat.le_of_ble_eq_true rfl⟩ rfl rfl (Nat.le_of_ble_eq_true rfl) dL_groups_150 (fun r42 => ?_)
                    refine V_istore (lv' := [(7, .int r42), (3, .int (x3 + 0)), (2, .int (x2 + r41)), (1, .int (x1 + r40)), (4, .int 1), (6, .int r1), (0, .ref (K.2.2 0)), (5, .int x5)]) hc dL_groups_153 (by decide) rfl ?_
                    refine V_iload hc dL_groups_155 4 rfl ?_
                    refine V_if_eq (tgt := 207) hc dL_groups_157 (by decide) ?_ ?_
                    · exact V_none
                    · refine V_iload hc dL_groups_160 0 rfl ?_
                      refine V_if_lt (tgt := 203) hc dL_groups_162 (by decide) ?_ ?_
                      · refine V_iconst (v := 1) hc dL_groups_203 (by decide) ?_
                        refine V_goto (tgt := 208) hc dL_groups_204 (by decide) ?_
                        refine V_istore (lv' := [(4, .int 1), (7, .int r42), (3, .int (x3 + 0)), (2, .int (x2 + r41)), (1, .int (x1 + r40)), (6, .int r1), (0, .ref (K.2.2 0)), (5, .int x5)]) hc dL_groups_208 (by decide) rfl ?_
                        refine V_iinc (v := (x5 + 1)) (lv' := [(5, .int (x5 + 1)), (4, .int 1), (7, .int r42), (3, .int (x3 + 0)), (2, .int (x2 + r41)), (1, .int (x1 + r40)), (6, .int r1), (0, .ref (K.2.2 0))]) hc dL_groups_210 7 rfl rfl (by decide) rfl ?_
                        refine V_goto (tgt := 12) hc dL_groups_213 (by decide) ?_
                        exact V_sub [7, 5, 4, 3, 1, 0] rfl (ih _ _ _ _ _)
                      · refine V_aload_n hc dL_groups_165 rfl 6 rfl ?_
                        refine V_aload_n hc dL_groups_166 rfl 6 rfl ?_
                        refine V_iload hc dL_groups_167 0 rfl ?_
                        refine V_callV_RI (Cn := RX8) (T := TX8) (N := 8) hc (c_X8_coverOf l K t0 (r42)) sP0 rfl 1 gL_groups_X8_coverOf rfl ⟨rfl, rfl⟩ (by decide) ⟨Nat.le_of_ble_eq_true rfl, Nat.le_of_ble_eq_true rfl⟩ rfl rfl (Nat.le_of_ble_eq_true rfl) dL_groups_169 (fun r43 => ?_)
                        refine V_callV_RI (Cn := RX8) (T := TX8) (N := 8) hc (c_X8_stackOf l K t0 (r43)) sP0 rfl 1 gL_groups_X8_stackOf rfl ⟨rfl, rfl⟩ (by decide) ⟨Nat.le_of_ble_eq_true rfl, Nat.le_of_ble_eq_true rfl⟩ rfl rfl (Nat.le_of_ble_eq_true rfl) dL_groups_172 (fun r44 => ?_)
                        refine V_iload hc dL_groups_175 0 rfl ?_
                        refine V_icmp_ne (tgt := 207) hc dL_groups_177 (by decide) ?_ ?_
                        · refine V_iconst (v := 0) hc dL_groups_207 (by decide) ?_
                          refine V_istore (lv' := [(4, .int 0), (7, .int r42), (3, .int (x3 + 0)), (2, .int (x2 + r41)), (1, .int (x1 + r40)), (6, .int r1), (0, .ref (K.2.2 0)), (5, .int x5)]) hc dL_groups_208 (by decide) rfl ?_
                          refine V_iinc (v := (x5 + 1)) (lv' := [(5, .int (x5 + 1)), (4, .int 0), (7, .int r42), (3, .int (x3 + 0)), (2, .int (x2 + r41)), (1, .int (x1 + r40)), (6, .int r1), (0, .ref (K.2.2 0))]) hc dL_groups_210 7 rfl rfl (by decide) rfl ?_
                          refine V_goto (tgt := 12) hc dL_groups_213 (by decide) ?_
                          exact V_sub [7, 5, 4, 3, 1, 0] rfl (ih _ _ _ _ _)
                        · refine V_aload_n hc dL_groups_180 rfl 6 rfl ?_
                          refine V_iload hc dL_groups_181 0 rfl ?_
                          refine V_iconst (v := 1) hc dL_groups_183 (by decide) ?_
                          refine V_callV_RI (Cn := RX8) (T := TX8) (N := 8) hc (c_X8_stackAt l K t0 (r42) (1)) sP0 rfl 2 gL_groups_X8_stackAt rfl ⟨rfl, rfl⟩ (by decide) ⟨Nat.le_of_ble_eq_true rfl, Nat.le_of_ble_eq_true rfl⟩ rfl rfl (Nat.le_of_ble_eq_true rfl) dL_groups_184 (fun r45 => ?_)
                          refine V_if_lt (tgt := 207) hc dL_groups_187 (by decide) ?_ ?_
                          · refine V_iconst (v := 0) hc dL_groups_207 (by decide) ?_
                            refine V_istore (lv' := [(4, .int 0), (7, .int r42), (3, .int (x3 + 0)), (2, .int (x2 + r41)), (1, .int (x1 + r40)), (6, .int r1), (0, .ref (K.2.2 0)), (5, .int x5)]) hc dL_groups_208 (by decide) rfl ?_
                            refine V_iinc (v := (x5 + 1)) (lv' := [(5, .int (x5 + 1)), (4, .int 0), (7, .int r42), (3, .int (x3 + 0)), (2, .int (x2 + r41)), (1, .int (x1 + r40)), (6, .int r1), (0, .ref (K.2.2 0))]) hc dL_groups_210 7 rfl rfl (by decide) rfl ?_
                            refine V_goto (tgt := 12) hc dL_groups_213 (by decide) ?_
                            exact V_sub [7, 5, 4, 3, 1, 0] rfl (ih _ _ _ _ _)
                          · refine V_aload_n hc dL_groups_190 rfl 6 rfl ?_
                            refine V_iload hc dL_groups_191 0 rfl ?_
                            refine V_bipush (v := 8) hc dL_groups_193 (by decide) ?_
                            refine V_callV_RI (Cn := RX8) (T := TX8) (N := 8) hc (c_X8_stackAt l K t0 (r42) (8)) sP0 rfl 2 gL_groups_X8_stackAt rfl ⟨rfl, rfl⟩ (by decide) ⟨Nat.le_of_ble_eq_true rfl, Nat.le_of_ble_eq_true rfl⟩ rfl rfl (Nat.le_of_ble_eq_true rfl) dL_groups_195 (fun r46 => ?_)
                            refine V_bipush (v := (-4)) hc dL_groups_198 (by decide) ?_
                            refine V_icmp_ne (tgt := 207) hc dL_groups_200 (by decide) ?_ ?_
                            · refine V_iconst (v := 0) hc dL_groups_207 (by decide) ?_
                              refine V_istore (lv' := [(4, .int 0), (7, .int r42), (3, .int (x3 + 0)), (2, .int (x2 + r41)), (1, .int (x1 + r40)), (6, .int r1), (0, .ref (K.2.2 0)), (5, .int x5)]) hc dL_groups_208 (by decide) rfl ?_
                              refine V_iinc (v := (x5 + 1)) (lv' := [(5, .int (x5 + 1)), (4, .int 0), (7, .int r42), (3, .int (x3 + 0)), (2, .int (x2 + r41)), (1, .int (x1 + r40)), (6, .int r1), (0, .ref (K.2.2 0))]) hc dL_groups_210 7 rfl rfl (by decide) rfl ?_
                              refine V_goto (tgt := 12) hc dL_groups_213 (by decide) ?_
                              exact V_sub [7, 5, 4, 3, 1, 0] rfl (ih _ _ _ _ _)
                            · refine V_iconst (v := 1) hc dL_groups_203 (by decide) ?_
                              refine V_goto (tgt := 208) hc dL_groups_204 (by decide) ?_
                              refine V_istore (lv' := [(4, .int 1), (7, .int r42), (3, .int (x3 + 0)), (2, .int (x2 + r41)), (1, .int (x1 + r40)), (6, .int r1), (0, .ref (K.2.2 0)), (5, .int x5)]) hc dL_groups_208 (by decide) rfl ?_
                              refine V_iinc (v := (x5 + 1)) (lv' := [(5, .int (x5 + 1)), (4, .int 1), (7, .int r42), (3, .int (x3 + 0)), (2, .int (x2 + r41)), (1, .int (x1 + r40)), (6, .int r1), (0, .ref (K.2.2 0))]) hc dL_groups_210 7 rfl rfl (by decide) rfl ?_
                              refine V_goto (tgt := 12) hc dL_groups_213 (by decide) ?_
                              exact V_sub [7, 5, 4, 3, 1, 0] rfl (ih _ _ _ _ _)
                  · refine V_aload_n hc dL_groups_130 rfl 4 rfl ?_
                    refine V_iload hc dL_groups_131 6 rfl ?_
                    refine V_callV_RI (Cn := RX8) (T := TX8) (N := 8) hc (c_X8_groupSize l K t0 (x5)) sP0 rfl 1 gL_groups_X8_groupSize rfl ⟨rfl, rfl⟩ (by decide) ⟨Nat.le_of_ble_eq_true rfl, Nat.le_of_ble_eq_true rfl⟩ rfl rfl (Nat.le_of_ble_eq_true rfl) dL_groups_133 (fun r47 => ?_)
                    refine V_iconst (v := 1) hc dL_groups_136 (by decide) ?_
                    refine V_icmp_le (tgt := 144) hc dL_groups_137 (by decide) ?_ ?_
                    · refine V_iconst (v := 0) hc dL_groups_144 (by decide) ?_
                      refine V_iadd hc dL_groups_145 ?_
                      refine V_istore_n (lv' := [(3, .int (x3 + 0)), (2, .int (x2 + r41)), (1, .int (x1 + r40)), (4, .int 1), (6, .int r1), (0, .ref (K.2.2 0)), (5, .int x5)]) hc dL_groups_146 rfl (by decide) rfl ?_
                      refine V_aload_n hc dL_groups_147 rfl 5 rfl ?_
                      refine V_iload hc dL_groups_148 6 rfl ?_
                      refine V_callV_RI (Cn := RX8) (T := TX8) (N := 8) hc (c_X8_stackOf l K t0 (x5)) sP0 rfl 1 gL_groups_X8_stackOf rfl ⟨rfl, rfl⟩ (by decide) ⟨Nat.le_of_ble_eq_true rfl, Nat.le_of_ble_eq_true rfl⟩ rfl rfl (Nat.le_of_ble_eq_true rfl) dL_groups_150 (fun r48 => ?_)
                      refine V_istore (lv' := [(7, .int r48), (3, .int (x3 + 0)), (2, .int (x2 + r41)), (1, .int (x1 + r40)), (4, .int 1), (6, .int r1), (0, .ref (K.2.2 0)), (5, .int x5)]) hc dL_groups_153 (by decide) rfl ?_
                      refine V_iload hc dL_groups_155 4 rfl ?_
                      refine V_if_eq (tgt := 207) hc dL_groups_157 (by decide) ?_ ?_
                      · exact V_none
                      · refine V_iload hc dL_groups_160 0 rfl ?_
                        refine V_if_lt (tgt := 203) hc dL_groups_162 (by decide) ?_ ?_
                        · refine V_iconst (v := 1) hc dL_groups_203 (by decide) ?_
                          refine V_goto (tgt := 208) hc dL_groups_204 (by decide) ?_
                          refine V_istore (lv' := [(4, .int 1), (7, .int r48), (3, .int (x3 + 0)), (2, .int (x2 + r41)), (1, .int (x1 + r40)), (6, .int r1), (0, .ref (K.2.2 0)), (5, .int x5)]) hc dL_groups_208 (by decide) rfl ?_
                          refine V_iinc (v := (x5 + 1)) (lv' := [(5, .int (x5 + 1)), (4, .int 1), (7, .int r48), (3, .int (x3 + 0)), (2, .int (x2 + r41)), (1, .int (x1 + r40)), (6, .int r1), (0, .ref (K.2.2 0))]) hc dL_groups_210 7 rfl rfl (by decide) rfl ?_
                          refine V_goto (tgt := 12) hc dL_groups_213 (by decide) ?_
                          exact V_sub [7, 5, 4, 3, 1, 0] rfl (ih _ _ _ _ _)
                        · refine V_aload_n hc dL_groups_165 rfl 6 rfl ?_
                          refine V_aload_n hc dL_groups_166 rfl 6 rfl ?_
                          refine V_iload hc dL_groups_167 0 rfl ?_
                          refine V_callV_RI (Cn := RX8) (T := TX8) (N := 8) hc (c_X8_coverOf l K t0 (r48)) sP0 rfl 1 gL_groups_X8_coverOf rfl ⟨rfl, rfl⟩ (by decide) ⟨Nat.le_of_ble_eq_true rfl, Nat.le_of_ble_eq_true rfl⟩ rfl rfl (Nat.le_of_ble_eq_true rfl) dL_groups_169 (fun r49 => ?_)
                          refine V_callV_RI (Cn := RX8) (T := TX8) (N := 8) hc (c_X8_stackOf l K t0 (r49)) sP0 rfl 1 gL_groups_X8_stackOf rfl ⟨rfl, rfl⟩ (by decide) ⟨Nat.le_of_ble_eq_true rfl, Nat.le_of_ble_eq_true rfl⟩ rfl rfl (Nat.le_of_ble_eq_true rfl) dL_groups_172 (fun r50 => ?_)
                          refine V_iload hc dL_groups_175 0 rfl ?_
                          refine V_icmp_ne (tgt := 207) hc dL_groups_177 (by decide) ?_ ?_
                          · refine V_iconst (v := 0) hc dL_groups_207 (by decide) ?_
                            refine V_istore (lv' := [(4, .int 0), (7, .int r48), (3, .int (x3 + 0)), (2, .int (x2 + r41)), (1, .int (x1 + r40)), (6, .int r1), (0, .ref (K.2.2 0)), (5, .int x5)]) hc dL_groups_208 (by decide) rfl ?_
                            refine V_iinc (v := (x5 + 1)) (lv' := [(5, .int (x5 + 1)), (4, .int 0), (7, .int r48), (3, .int (x3 + 0)), (2, .int (x2 + r41)), (1, .int (x1 + r40)), (6, .int r1), (0, .ref (K.2.2 0))]) hc dL_groups_210 7 rfl rfl (by decide) rfl ?_
                            refine V_goto (tgt := 12) hc dL_groups_213 (by decide) ?_
                            exact V_sub [7, 5, 4, 3, 1, 0] rfl (ih _ _ _ _ _)
                          · refine V_aload_n hc dL_groups_180 rfl 6 rfl ?_
                            refine V_iload hc dL_groups_181 0 rfl ?_
                            refine V_iconst (v := 1) hc dL_groups_183 (by decide) ?_
                            refine V_callV_RI (Cn := RX8) (T := TX8) (N := 8) hc (c_X8_stackAt l K t0 (r48) (1)) sP0 rfl 2 gL_groups_X8_stackAt rfl ⟨rfl, rfl⟩ (by decide) ⟨Nat.le_of_ble_eq_true rfl, Nat.le_of_ble_eq_true rfl⟩ rfl rfl (Nat.le_of_ble_eq_true rfl) dL_groups_184 (fun r51 => ?_)
                            refine V_if_lt (tgt := 207) hc dL_groups_187 (by decide) ?_ ?_
                            · refine V_iconst (v := 0) hc dL_groups_207 (by decide) ?_
                              refine V_istore (lv' := [(4, .int 0), (7, .int r48), (3, .int (x3 + 0)), (2, .int (x2 + r41)), (1, .int (x1 + r40)), (6, .int r1), (0, .ref (K.2.2 0)), (5, .int x5)]) hc dL_groups_208 (by decide) rfl ?_
                              refine V_iinc (v := (x5 + 1)) (lv' := [(5, .int (x5 + 1)), (4, .int 0), (7, .int r48), (3, .int (x3 + 0)), (2, .int (x2 + r41)), (1, .int (x1 + r40)), (6, .int r1), (0, .ref (K.2.2 0))]) hc dL_groups_210 7 rfl rfl (by decide) rfl ?_
                              refine V_goto (tgt := 12) hc dL_groups_213 (by decide) ?_
                              exact V_sub [7, 5, 4, 3, 1, 0] rfl (ih _ _ _ _ _)
                            · refine V_aload_n hc dL_groups_190 rfl 6 rfl ?_
                              refine V_iload hc dL_groups_191 0 rfl ?_
                              refine V_bipush (v := 8) hc dL_groups_193 (by decide) ?_
                              refine V_callV_RI (Cn := RX8) (T := TX8) (N := 8) hc (c_X8_stackAt l K t0 (r48) (8)) sP0 rfl 2 gL_groups_X8_stackAt rfl ⟨rfl, rfl⟩ (by decide) ⟨Nat.le_of_ble_eq_true rfl, Nat.le_of_ble_eq_true rfl⟩ rfl rfl (Nat.le_of_ble_eq_true rfl) dL_groups_195 (fun r52 => ?_)
                              refine V_bipush (v := (-4)) hc dL_groups_198 (by decide) ?_
                              refine V_icmp_ne (tgt := 207) hc dL_groups_200 (by decide) ?_ ?_
                              · refine V_iconst (v := 0) hc dL_groups_207 (by decide) ?_
                                refine V_istore (lv' := [(4, .int 0), (7, .int r48), (3, .int (x3 + 0)), (2, .int (x2 + r41)), (1, .int (x1 + r40)), (6, .int r1), (0, .ref (K.2.2 0)), (5, .int x5)]) hc dL_groups_208 (by decide) rfl ?_
                                refine V_iinc (v := (x5 + 1)) (lv' := [(5, .int (x5 + 1)), (4, .int 0), (7, .int r48), (3, .int (x3 + 0)), (2, .int (x2 + r41)), (1, .int (x1 + r40)), (6, .int r1), (0, .ref (K.2.2 0))]) hc dL_groups_210 7 rfl rfl (by decide) rfl ?_
                                refine V_goto (tgt := 12) hc dL_groups_213 (by decide) ?_
                                exact V_sub [7, 5, 4, 3, 1, 0] rfl (ih _ _ _ _ _)
                              · refine V_iconst (v := 1) hc dL_groups_203 (by decide) ?_
                                refine V_goto (tgt := 208) hc dL_groups_204 (by decide) ?_
                                refine V_istore (lv' := [(4, .int 1), (7, .int r48), (3, .int (x3 + 0)), (2, .int (x2 + r41)), (1, .int (x1 + r40)), (6, .int r1), (0, .ref (K.2.2 0)), (5, .int x5)]) hc dL_groups_208 (by decide) rfl ?_
                                refine V_iinc (v := (x5 + 1)) (lv' := [(5, .int (x5 + 1)), (4, .int 1), (7, .int r48), (3, .int (x3 + 0)), (2, .int (x2 + r41)), (1, .int (x1 + r40)), (6, .int r1), (0, .ref (K.2.2 0))]) hc dL_groups_210 7 rfl rfl (by decide) rfl ?_
                                refine V_goto (tgt := 12) hc dL_groups_213 (by decide) ?_
                                exact V_sub [7, 5, 4, 3, 1, 0] rfl (ih _ _ _ _ _)
                    · refine V_iconst (v := 1) hc dL_groups_140 (by decide) ?_
                      refine V_goto (tgt := 145) hc dL_groups_141 (by decide) ?_
                      refine V_iadd hc dL_groups_145 ?_
                      refine V_istore_n (lv' := [(3, .int (x3 + 1)), (2, .int (x2 + r41)), (1, .int (x1 + r40)), (4, .int 1), (6, .int r1), (0, .ref (K.2.2 0)), (5, .int x5)]) hc dL_groups_146 rfl (by decide) rfl ?_
                      refine V_aload_n hc dL_groups_147 rfl 5 rfl ?_
                      refine V_iload hc dL_groups_148 6 rfl ?_
                      refine V_callV_RI (Cn := RX8) (T := TX8) (N := 8) hc (c_X8_stackOf l K t0 (x5)) sP0 rfl 1 gL_groups_X8_stackOf rfl ⟨rfl, rfl⟩ (by decide) ⟨Nat.le_of_ble_eq_true rfl, Nat.le_of_ble_eq_true rfl⟩ rfl rfl (Nat.le_of_ble_eq_true rfl) dL_groups_150 (fun r53 => ?_)
                      refine V_istore (lv' := [(7, .int r53), (3, .int (x3 + 1)), (2, .int (x2 + r41)), (1, .int (x1 + r40)), (4, .int 1), (6, .int r1), (0, .ref (K.2.2 0)), (5, .int x5)]) hc dL_groups_153 (by decide) rfl ?_
                      refine V_iload hc dL_groups_155 4 rfl ?_
                      refine V_if_eq (tgt := 207) hc dL_groups_157 (by decide) ?_ ?_
                      · exact V_none
                      · refine V_iload hc dL_groups_160 0 rfl ?_
                        refine V_if_lt (tgt := 203) hc dL_groups_162 (by decide) ?_ ?_
                        · refine V_iconst (v := 1) hc dL_groups_203 (by decide) ?_
                          refine V_goto (tgt := 208) hc dL_groups_204 (by decide) ?_
                          refine V_istore (lv' := [(4, .int 1), (7, .int r53), (3, .int (x3 + 1)), (2, .int (x2 + r41)), (1, .int (x1 + r40)), (6, .int r1), (0, .ref (K.2.2 0)), (5, .int x5)]) hc dL_groups_208 (by decide) rfl ?_
                          refine V_iinc (v := (x5 + 1)) (lv' := [(5, .int (x5 + 1)), (4, .int 1), (7, .int r53), (3, .int (x3 + 1)), (2, .int (x2 + r41)), (1, .int (x1 + r40)), (6, .int r1), (0, .ref (K.2.2 0))]) hc dL_groups_210 7 rfl rfl (by decide) rfl ?_
                          refine V_goto (tgt := 12) hc dL_groups_213 (by decide) ?_
                          exact V_sub [7, 5, 4, 3, 1, 0] rfl (ih _ _ _ _ _)
                        · refine V_aload_n hc dL_groups_165 rfl 6 rfl ?_
                          refine V_aload_n hc dL_groups_166 rfl 6 rfl ?_
                          refine V_iload hc dL_groups_167 0 rfl ?_
                          refine V_callV_RI (Cn := RX8) (T := TX8) (N := 8) hc (c_X8_coverOf l K t0 (r53)) sP0 rfl 1 gL_groups_X8_coverOf rfl ⟨rfl, rfl⟩ (by decide) ⟨Nat.le_of_ble_eq_true rfl, Nat.le_of_ble_eq_true rfl⟩ rfl rfl (Nat.le_of_ble_eq_true rfl) dL_groups_169 (fun r54 => ?_)
                          refine V_callV_RI (Cn := RX8) (T := TX8) (N := 8) hc (c_X8_stackOf l K t0 (r54)) sP0 rfl 1 gL_groups_X8_stackOf rfl ⟨rfl, rfl⟩ (by decide) ⟨Nat.le_of_ble_eq_true rfl, Nat.le_of_ble_eq_true rfl⟩ rfl rfl (Nat.le_of_ble_eq_true rfl) dL_groups_172 (fun r55 => ?_)
                          refine V_iload hc dL_groups_175 0 rfl ?_
                          refine V_icmp_ne (tgt := 207) hc dL_groups_177 (by decide) ?_ ?_
                          · refine V_iconst (v := 0) hc dL_groups_207 (by decide) ?_
                            refine V_istore (lv' := [(4, .int 0), (7, .int r53), (3, .int (x3 + 1)), (2, .int (x2 + r41)), (1, .int (x1 + r40)), (6, .int r1), (0, .ref (K.2.2 0)), (5, .int x5)]) hc dL_groups_208 (by decide) rfl ?_
                            refine V_iinc (v := (x5 + 1)) (lv' := [(5, .int (x5 + 1)), (4, .int 0), (7, .int r53), (3, .int (x3 + 1)), (2, .int (x2 + r41)), (1, .int (x1 + r40)), (6, .int r1), (0, .ref (K.2.2 0))]) hc dL_groups_210 7 rfl rfl (by decide) rfl ?_
                            refine V_goto (tgt := 12) hc dL_groups_213 (by decide) ?_
                            exact V_sub [7, 5, 4, 3, 1, 0] rfl (ih _ _ _ _ _)
                          · refine V_aload_n hc dL_groups_180 rfl 6 rfl ?_
                            refine V_iload hc dL_groups_181 0 rfl ?_
                            refine V_iconst (v := 1) hc dL_groups_183 (by decide) ?_
                            refine V_callV_RI (Cn := RX8) (T := TX8) (N := 8) hc (c_X8_stackAt l K t0 (r53) (1)) sP0 rfl 2 gL_groups_X8_stackAt rfl ⟨rfl, rfl⟩ (by decide) ⟨Nat.le_of_ble_eq_true rfl, Nat.le_of_ble_eq_true rfl⟩ rfl rfl (Nat.le_of_ble_eq_true rfl) dL_groups_184 (fun r56 => ?_)
                            refine V_if_lt (tgt := 207) hc dL_groups_187 (by decide) ?_ ?_
                            · refine V_iconst (v := 0) hc dL_groups_207 (by decide) ?_
                              refine V_istore (lv' := [(4, .int 0), (7, .int r53), (3, .int (x3 + 1)), (2, .int (x2 + r41)), (1, .int (x1 + r40)), (6, .int r1), (0, .ref (K.2.2 0)), (5, .int x5)]) hc dL_groups_208 (by decide) rfl ?_
                              refine V_iinc (v := (x5 + 1)) (lv' := [(5, .int (x5 + 1)), (4, .int 0), (7, .int r53), (3, .int (x3 + 1)), (2, .int (x2 + r41)), (1, .int (x1 + r40)), (6, .int r1), (0, .ref (K.2.2 0))]) hc dL_groups_210 7 rfl rfl (by decide) rfl ?_
                              refine V_goto (tgt := 12) hc dL_groups_213 (by decide) ?_
                              exact V_sub [7, 5, 4, 3, 1, 0] rfl (ih _ _ _ _ _)
                            · refine V_aload_n hc dL_groups_190 rfl 6 rfl ?_
                              refine V_iload hc dL_groups_191 0 rfl ?_
                              refine V_bipush (v := 8) hc dL_groups_193 (by decide) ?_
                              refine V_callV_RI (Cn := RX8) (T := TX8) (N := 8) hc (c_X8_stackAt l K t0 (r53) (8)) sP0 rfl 2 gL_groups_X8_stackAt rfl ⟨rfl, rfl⟩ (by decide) ⟨Nat.le_of_ble_eq_true rfl, Nat.le_of_ble_eq_true rfl⟩ rfl rfl (Nat.le_of_ble_eq_true rfl) dL_groups_195 (fun r57 => ?_)
                              refine V_bipush (v := (-4)) hc dL_groups_198 (by decide) ?_
                              refine V_icmp_ne (tgt := 207) hc dL_groups_200 (by decide) ?_ ?_
                              · refine V_iconst (v := 0) hc dL_groups_207 (by decide) ?_
                                refine V_istore (lv' := [(4, .int 0), (7, .int r53), (3, .int (x3 + 1)), (2, .int (x2 + r41)), (1, .int (x1 + r40)), (6, .int r1), (0, .ref (K.2.2 0)), (5, .int x5)]) hc dL_groups_208 (by decide) rfl ?_
                                refine V_iinc (v := (x5 + 1)) (lv' := [(5, .int (x5 + 1)), (4, .int 0), (7, .int r53), (3, .int (x3 + 1)), (2, .int (x2 + r41)), (1, .int (x1 + r40)), (6, .int r1), (0, .ref (K.2.2 0))]) hc dL_groups_210 7 rfl rfl (by decide) rfl ?_
                                refine V_goto (tgt := 12) hc dL_groups_213 (by decide) ?_
                                exact V_sub [7, 5, 4, 3, 1, 0] rfl (ih _ _ _ _ _)
                              · refine V_iconst (v := 1) hc dL_groups_203 (by decide) ?_
                                refine V_goto (tgt := 208) hc dL_groups_204 (by decide) ?_
                                refine V_istore (lv' := [(4, .int 1), (7, .int r53), (3, .int (x3 + 1)), (2, .int (x2 + r41)), (1, .int (x1 + r40)), (6, .int r1), (0, .ref (K.2.2 0)), (5, .int x5)]) hc dL_groups_208 (by decide) rfl ?_
                                refine V_iinc (v := (x5 + 1)) (lv' := [(5, .int (x5 + 1)), (4, .int 1), (7, .int r53), (3, .int (x3 + 1)), (2, .int (x2 + r41)), (1, .int (x1 + r40)), (6, .int r1), (0, .ref (K.2.2 0))]) hc dL_groups_210 7 rfl rfl (by decide) rfl ?_
                                refine V_goto (tgt := 12) hc dL_groups_213 (by decide) ?_
                                exact V_sub [7, 5, 4, 3, 1, 0] rfl (ih _ _ _ _ _)
                · refine V_iconst (v := 0) hc dL_groups_97 (by decide) ?_
                  refine V_goto (tgt := 109) hc dL_groups_98 (by decide) ?_
                  refine V_iadd hc dL_groups_109 ?_
                  refine V_istore_n (lv' := [(1, .int (x1 + 0)), (4, .int 1), (6, .int r1), (0, .ref (K.2.2 0)), (2, .int x2), (3, .int x3), (5, .int x5)]) hc dL_groups_110 rfl (by decide) rfl ?_
                  refine V_iload_n hc dL_groups_111 rfl 4 rfl ?_
                  refine V_aload_n hc dL_groups_112 rfl 3 rfl ?_
                  refine V_iload hc dL_groups_113 6 rfl ?_
                  refine V_bipush (v := 7) hc dL_groups_115 (by decide) ?_
                  refine V_callV_RI (Cn := RX8) (T := TX8) (N := 8) hc (c_X8_value l K t0 (x5) (7)) sP0 rfl 2 gL_groups_X8_value rfl ⟨rfl, rfl⟩ (by decide) ⟨Nat.le_of_ble_eq_true rfl, Nat.le_of_ble_eq_true rfl⟩ rfl rfl (Nat.le_of_ble_eq_true rfl) dL_groups_117 (fun r58 => ?_)
                  refine V_iadd hc dL_groups_120 ?_
                  refine V_istore_n (lv' := [(2, .int (x2 + r58)), (1, .int (x1 + 0)), (4, .int 1), (6, .int r1), (0, .ref (K.2.2 0)), (3, .int x3), (5, .int x5)]) hc dL_groups_121 rfl (by decide) rfl ?_
                  refine V_iload_n hc dL_groups_122 rfl 5 rfl ?_
                  refine V_iload hc dL_groups_123 3 rfl ?_
                  refine V_iload hc dL_groups_125 6 rfl ?_
                  refine V_icmp_ne (tgt := 144) hc dL_groups_127 (by decide) ?_ ?_
                  · refine V_iconst (v := 0) hc dL_groups_144 (by decide) ?_
                    refine V_iadd hc dL_groups_145 ?_
                    refine V_istore_n (lv' := [(3, .int (x3 + 0)), (2, .int (x2 + r58)), (1, .int (x1 + 0)), (4, .int 1), (6, .int r1), (0, .ref (K.2.2 0)), (5, .int x5)]) hc dL_groups_146 rfl (by decide) rfl ?_
                    refine V_aload_n hc dL_groups_147 rfl 5 rfl ?_
                    refine V_iload hc dL_groups_148 6 rfl ?_
                    refine V_callV_RI (Cn := RX8) (T := TX8) (N := 8) hc (c_X8_stackOf l K t0 (x5)) sP0 rfl 1 gL_groups_X8_stackOf rfl ⟨rfl, rfl⟩ (by decide) ⟨Nat.le_of_ble_eq_true rfl, Nat.le_of_ble_eq_true rfl⟩ rfl rfl (Nat.le_of_ble_eq_true rfl) dL_groups_150 (fun r59 => ?_)
                    refine V_istore (lv' := [(7, .int r59), (3, .int (x3 + 0)), (2, .int (x2 + r58)), (1, .int (x1 + 0)), (4, .int 1), (6, .int r1), (0, .ref (K.2.2 0)), (5, .int x5)]) hc dL_groups_153 (by decide) rfl ?_
                    refine V_iload hc dL_groups_155 4 rfl ?_
                    refine V_if_eq (tgt := 207) hc dL_groups_157 (by decide) ?_ ?_
                    · exact V_none
                    · refine V_iload hc dL_groups_160 0 rfl ?_
                      refine V_if_lt (tgt := 203) hc dL_groups_162 (by decide) ?_ ?_
                      · refine V_iconst (v := 1) hc dL_groups_203 (by decide) ?_
                        refine V_goto (tgt := 208) hc dL_groups_204 (by decide) ?_
                        refine V_istore (lv' := [(4, .int 1), (7, .int r59), (3, .int (x3 + 0)), (2, .int (x2 + r58)), (1, .int (x1 + 0)), (6, .int r1), (0, .ref (K.2.2 0)), (5, .int x5)]) hc dL_groups_208 (by decide) rfl ?_
                        refine V_iinc (v := (x5 + 1)) (lv' := [(5, .int (x5 + 1)), (4, .int 1), (7, .int r59), (3, .int (x3 + 0)), (2, .int (x2 + r58)), (1, .int (x1 + 0)), (6, .int r1), (0, .ref (K.2.2 0))]) hc dL_groups_210 7 rfl rfl (by decide) rfl ?_
                        refine V_goto (tgt := 12) hc dL_groups_213 (by decide) ?_
                        exact V_sub [7, 5, 4, 3, 1, 0] rfl (ih _ _ _ _ _)
                      · refine V_aload_n hc dL_groups_165 rfl 6 rfl ?_
                        refine V_aload_n hc dL_groups_166 rfl 6 rfl ?_
                        refine V_iload hc dL_groups_167 0 rfl ?_
                        refine V_callV_RI (Cn := RX8) (T := TX8) (N := 8) hc (c_X8_coverOf l K t0 (r59)) sP0 rfl 1 gL_groups_X8_coverOf rfl ⟨rfl, rfl⟩ (by decide) ⟨Nat.le_of_ble_eq_true rfl, Nat.le_of_ble_eq_true rfl⟩ rfl rfl (Nat.le_of_ble_eq_true rfl) dL_groups_169 (fun r60 => ?_)
                        refine V_callV_RI (Cn := RX8) (T := TX8) (N := 8) hc (c_X8_stackOf l K t0 (r60)) sP0 rfl 1 gL_groups_X8_stackOf rfl ⟨rfl, rfl⟩ (by decide) ⟨Nat.le_of_ble_eq_true rfl, Nat.le_of_ble_eq_true rfl⟩ rfl rfl (Nat.le_of_ble_eq_true rfl) dL_groups_172 (fun r61 => ?_)
                        refine V_iload hc dL_groups_175 0 rfl ?_
                        refine V_icmp_ne (tgt := 207) hc dL_groups_177 (by decide) ?_ ?_
                        · refine V_iconst (v := 0) hc dL_groups_207 (by decide) ?_
                          refine V_istore (lv' := [(4, .int 0), (7, .int r59), (3, .int (x3 + 0)), (2, .int (x2 + r58)), (1, .int (x1 + 0)), (6, .int r1), (0, .ref (K.2.2 0)), (5, .int x5)]) hc dL_groups_208 (by decide) rfl ?_
                          refine V_iinc (v := (x5 + 1)) (lv' := [(5, .int (x5 + 1)), (4, .int 0), (7, .int r59), (3, .int (x3 + 0)), (2, .int (x2 + r58)), (1, .int (x1 + 0)), (6, .int r1), (0, .ref (K.2.2 0))]) hc dL_groups_210 7 rfl rfl (by decide) rfl ?_
                          refine V_goto (tgt := 12) hc dL_groups_213 (by decide) ?_
                          exact V_sub [7, 5, 4, 3, 1, 0] rfl (ih _ _ _ _ _)
                        · refine V_aload_n hc dL_groups_180 rfl 6 rfl ?_
                          refine V_iload hc dL_groups_181 0 rfl ?_
                          refine V_iconst (v := 1) hc dL_groups_183 (by decide) ?_
                          refine V_callV_RI (Cn := RX8) (T := TX8) (N := 8) hc (c_X8_stackAt l K t0 (r59) (1)) sP0 rfl 2 gL_groups_X8_stackAt rfl ⟨rfl, rfl⟩ (by decide) ⟨Nat.le_of_ble_eq_true rfl, Nat.le_of_ble_eq_true rfl⟩ rfl rfl (Nat.le_of_ble_eq_true rfl) dL_groups_184 (fun r62 => ?_)
                          refine V_if_lt (tgt := 207) hc dL_groups_187 (by decide) ?_ ?_
                          · refine V_iconst (v := 0) hc dL_groups_207 (by decide) ?_
                            refine V_istore (lv' := [(4, .int 0), (7, .int r59), (3, .int (x3 + 0)), (2, .int (x2 + r58)), (1, .int (x1 + 0)), (6, .int r1), (0, .ref (K.2.2 0)), (5, .int x5)]) hc dL_groups_208 (by decide) rfl ?_
                            refine V_iinc (v := (x5 + 1)) (lv' := [(5, .int (x5 + 1)), (4, .int 0), (7, .int r59), (3, .int (x3 + 0)), (2, .int (x2 + r58)), (1, .int (x1 + 0)), (6, .int r1), (0, .ref (K.2.2 0))]) hc dL_groups_210 7 rfl rfl (by decide) rfl ?_
                            refine V_goto (tgt := 12) hc dL_groups_213 (by decide) ?_
                            exact V_sub [7, 5, 4, 3, 1, 0] rfl (ih _ _ _ _ _)
                          · refine V_aload_n hc dL_groups_190 rfl 6 rfl ?_
                            refine V_iload hc dL_groups_191 0 rfl ?_
                            refine V_bipush (v := 8) hc dL_groups_193 (by decide) ?_
                            refine V_callV_RI (Cn := RX8) (T := TX8) (N := 8) hc (c_X8_stackAt l K t0 (r59) (8)) sP0 rfl 2 gL_groups_X8_stackAt rfl ⟨rfl, rfl⟩ (by decide) ⟨Nat.le_of_ble_eq_true rfl, Nat.le_of_ble_eq_true rfl⟩ rfl rfl (Nat.le_of_ble_eq_true rfl) dL_groups_195 (fun r63 => ?_)
                            refine V_bipush (v := (-4)) hc dL_groups_198 (by decide) ?_
                            refine V_icmp_ne (tgt := 207) hc dL_groups_200 (by decide) ?_ ?_
                            · refine V_iconst (v := 0) hc dL_groups_207 (by decide) ?_
                              refine V_istore (lv' := [(4, .int 0), (7, .int r59), (3, .int (x3 + 0)), (2, .int (x2 + r58)), (1, .int (x1 + 0)), (6, .int r1), (0, .ref (K.2.2 0)), (5, .int x5)]) hc dL_groups_208 (by decide) rfl ?_
                              refine V_iinc (v := (x5 + 1)) (lv' := [(5, .int (x5 + 1)), (4, .int 0), (7, .int r59), (3, .int (x3 + 0)), (2, .int (x2 + r58)), (1, .int (x1 + 0)), (6, .int r1), (0, .ref (K.2.2 0))]) hc dL_groups_210 7 rfl rfl (by decide) rfl ?_
                              refine V_goto (tgt := 12) hc dL_groups_213 (by decide) ?_
                              exact V_sub [7, 5, 4, 3, 1, 0] rfl (ih _ _ _ _ _)
                            · refine V_iconst (v := 1) hc dL_groups_203 (by decide) ?_
                              refine V_goto (tgt := 208) hc dL_groups_204 (by decide) ?_
                              refine V_istore (lv' := [(4, .int 1), (7, .int r59), (3, .int (x3 + 0)), (2, .int (x2 + r58)), (1, .int (x1 + 0)), (6, .int r1), (0, .ref (K.2.2 0)), (5, .int x5)]) hc dL_groups_208 (by decide) rfl ?_
                              refine V_iinc (v := (x5 + 1)) (lv' := [(5, .int (x5 + 1)), (4, .int 1), (7, .int r59), (3, .int (x3 + 0)), (2, .int (x2 + r58)), (1, .int (x1 + 0)), (6, .int r1), (0, .ref (K.2.2 0))]) hc dL_groups_210 7 rfl rfl (by decide) rfl ?_
                              refine V_goto (tgt := 12) hc dL_groups_213 (by decide) ?_
                              exact V_sub [7, 5, 4, 3, 1, 0] rfl (ih _ _ _ _ _)
                  · refine V_aload_n hc dL_groups_130 rfl 4 rfl ?_
                    refine V_iload hc dL_groups_131 6 rfl ?_
                    refine V_callV_RI (Cn := RX8) (T := TX8) (N := 8) hc (c_X8_groupSize l K t0 (x5)) sP0 rfl 1 gL_groups_X8_groupSize rfl ⟨rfl, rfl⟩ (by decide) ⟨Nat.le_of_ble_eq_true rfl, Nat.le_of_ble_eq_true rfl⟩ rfl rfl (Nat.le_of_ble_eq_true rfl) dL_groups_133 (fun r64 => ?_)
                    refine V_iconst (v := 1) hc dL_groups_136 (by decide) ?_
                    refine V_icmp_le (tgt := 144) hc dL_groups_137 (by decide) ?_ ?_
                    · refine V_iconst (v := 0) hc dL_groups_144 (by decide) ?_
                      refine V_iadd hc dL_groups_145 ?_
                      refine V_istore_n (lv' := [(3, .int (x3 + 0)), (2, .int (x2 + r58)), (1, .int (x1 + 0)), (4, .int 1), (6, .int r1), (0, .ref (K.2.2 0)), (5, .int x5)]) hc dL_groups_146 rfl (by decide) rfl ?_
                      refine V_aload_n hc dL_groups_147 rfl 5 rfl ?_
                      refine V_iload hc dL_groups_148 6 rfl ?_
                      refine V_callV_RI (Cn := RX8) (T := TX8) (N := 8) hc (c_X8_stackOf l K t0 (x5)) sP0 rfl 1 gL_groups_X8_stackOf rfl ⟨rfl, rfl⟩ (by decide) ⟨Nat.le_of_ble_eq_true rfl, Nat.le_of_ble_eq_true rfl⟩ rfl rfl (Nat.le_of_ble_eq_true rfl) dL_groups_150 (fun r65 => ?_)
                      refine V_istore (lv' := [(7, .int r65), (3, .int (x3 + 0)), (2, .int (x2 + r58)), (1, .int (x1 + 0)), (4, .int 1), (6, .int r1), (0, .ref (K.2.2 0)), (5, .int x5)]) hc dL_groups_153 (by decide) rfl ?_
                      refine V_iload hc dL_groups_155 4 rfl ?_
                      refine V_if_eq (tgt := 207) hc dL_groups_157 (by decide) ?_ ?_
                      · exact V_none
                      · refine V_iload hc dL_groups_160 0 rfl ?_
                        refine V_if_lt (tgt := 203) hc dL_groups_162 (by decide) ?_ ?_
                        · refine V_iconst (v := 1) hc dL_groups_203 (by decide) ?_
                          refine V_goto (tgt := 208) hc dL_groups_204 (by decide) ?_
                          refine V_istore (lv' := [(4, .int 1), (7, .int r65), (3, .int (x3 + 0)), (2, .int (x2 + r58)), (1, .int (x1 + 0)), (6, .int r1), (0, .ref (K.2.2 0)), (5, .int x5)]) hc dL_groups_208 (by decide) rfl ?_
                          refine V_iinc (v := (x5 + 1)) (lv' := [(5, .int (x5 + 1)), (4, .int 1), (7, .int r65), (3, .int (x3 + 0)), (2, .int (x2 + r58)), (1, .int (x1 + 0)), (6, .int r1), (0, .ref (K.2.2 0))]) hc dL_groups_210 7 rfl rfl (by decide) rfl ?_
                          refine V_goto (tgt := 12) hc dL_groups_213 (by decide) ?_
                          exact V_sub [7, 5, 4, 3, 1, 0] rfl (ih _ _ _ _ _)
                        · refine V_aload_n hc dL_groups_165 rfl 6 rfl ?_
                          refine V_aload_n hc dL_groups_166 rfl 6 rfl ?_
                          refine V_iload hc dL_groups_167 0 rfl ?_
                          refine V_callV_RI (Cn := RX8) (T := TX8) (N := 8) hc (c_X8_coverOf l K t0 (r65)) sP0 rfl 1 gL_groups_X8_coverOf rfl ⟨rfl, rfl⟩ (by decide) ⟨Nat.le_of_ble_eq_true rfl, Nat.le_of_ble_eq_true rfl⟩ rfl rfl (Nat.le_of_ble_eq_true rfl) dL_groups_169 (fun r66 => ?_)
                          refine V_callV_RI (Cn := RX8) (T := TX8) (N := 8) hc (c_X8_stackOf l K t0 (r66)) sP0 rfl 1 gL_groups_X8_stackOf rfl ⟨rfl, rfl⟩ (by decide) ⟨Nat.le_of_ble_eq_true rfl, Nat.le_of_ble_eq_true rfl⟩ rfl rfl (Nat.le_of_ble_eq_true rfl) dL_groups_172 (fun r67 => ?_)
                          refine V_iload hc dL_groups_175 0 rfl ?_
                          refine V_icmp_ne (tgt := 207) hc dL_groups_177 (by decide) ?_ ?_
                          · refine V_iconst (v := 0) hc dL_groups_207 (by decide) ?_
                            refine V_istore (lv' := [(4, .int 0), (7, .int r65), (3, .int (x3 + 0)), (2, .int (x2 + r58)), (1, .int (x1 + 0)), (6, .int r1), (0, .ref (K.2.2 0)), (5, .int x5)]) hc dL_groups_208 (by decide) rfl ?_
                            refine V_iinc (v := (x5 + 1)) (lv' := [(5, .int (x5 + 1)), (4, .int 0), (7, .int r65), (3, .int (x3 + 0)), (2, .int (x2 + r58)), (1, .int (x1 + 0)), (6, .int r1), (0, .ref (K.2.2 0))]) hc dL_groups_210 7 rfl rfl (by decide) rfl ?_
                            refine V_goto (tgt := 12) hc dL_groups_213 (by decide) ?_
                            exact V_sub [7, 5, 4, 3, 1, 0] rfl (ih _ _ _ _ _)
                          · refine V_aload_n hc dL_groups_180 rfl 6 rfl ?_
                            refine V_iload hc dL_groups_181 0 rfl ?_
                            refine V_iconst (v := 1) hc dL_groups_183 (by decide) ?_
                            refine V_callV_RI (Cn := RX8) (T := TX8) (N := 8) hc (c_X8_stackAt l K t0 (r65) (1)) sP0 rfl 2 gL_groups_X8_stackAt rfl ⟨rfl, rfl⟩ (by decide) ⟨Nat.le_of_ble_eq_true rfl, Nat.le_of_ble_eq_true rfl⟩ rfl rfl (Nat.le_of_ble_eq_true rfl) dL_groups_184 (fun r68 => ?_)
                            refine V_if_lt (tgt := 207) hc dL_groups_187 (by decide) ?_ ?_
                            · refine V_iconst (v := 0) hc dL_groups_207 (by decide) ?_
                              refine V_istore (lv' := [(4, .int 0), (7, .int r65), (3, .int (x3 + 0)), (2, .int (x2 + r58)), (1, .int (x1 + 0)), (6, .int r1), (0, .ref (K.2.2 0)), (5, .int x5)]) hc dL_groups_208 (by decide) rfl ?_
                              refine V_iinc (v := (x5 + 1)) (lv' := [(5, .int (x5 + 1)), (4, .int 0), (7, .int r65), (3, .int (x3 + 0)), (2, .int (x2 + r58)), (1, .int (x1 + 0)), (6, .int r1), (0, .ref (K.2.2 0))]) hc dL_groups_210 7 rfl rfl (by decide) rfl ?_
                              refine V_goto (tgt := 12) hc dL_groups_213 (by decide) ?_
                              exact V_sub [7, 5, 4, 3, 1, 0] rfl (ih _ _ _ _ _)
                            · refine V_aload_n hc dL_groups_190 rfl 6 rfl ?_
                              refine V_iload hc dL_groups_191 0 rfl ?_
                              refine V_bipush (v := 8) hc dL_groups_193 (by decide) ?_
                              refine V_callV_RI (Cn := RX8) (T := TX8) (N := 8) hc (c_X8_stackAt l K t0 (r65) (8)) sP0 rfl 2 gL_groups_X8_stackAt rfl ⟨rfl, rfl⟩ (by decide) ⟨Nat.le_of_ble_eq_true rfl, Nat.le_of_ble_eq_true rfl⟩ rfl rfl (Nat.le_of_ble_eq_true rfl) dL_groups_195 (fun r69 => ?_)
                              refine V_bipush (v := (-4)) hc dL_groups_198 (by decide) ?_
                              refine V_icmp_ne (tgt := 207) hc dL_groups_200 (by decide) ?_ ?_
                              · refine V_iconst (v := 0) hc dL_groups_207 (by decide) ?_
                                refine V_istore (lv' := [(4, .int 0), (7, .int r65), (3, .int (x3 + 0)), (2, .int (x2 + r58)), (1, .int (x1 + 0)), (6, .int r1), (0, .ref (K.2.2 0)), (5, .int x5)]) hc dL_groups_208 (by decide) rfl ?_
                                refine V_iinc (v := (x5 + 1)) (lv' := [(5, .int (x5 + 1)), (4, .int 0), (7, .int r65), (3, .int (x3 + 0)), (2, .int (x2 + r58)), (1, .int (x1 + 0)), (6, .int r1), (0, .ref (K.2.2 0))]) hc dL_groups_210 7 rfl rfl (by decide) rfl ?_
                                refine V_goto (tgt := 12) hc dL_groups_213 (by decide) ?_
                                exact V_sub [7, 5, 4, 3, 1, 0] rfl (ih _ _ _ _ _)
                              · refine V_iconst (v := 1) hc dL_groups_203 (by decide) ?_
                                refine V_goto (tgt := 208) hc dL_groups_204 (by decide) ?_
                                refine V_istore (lv' := [(4, .int 1), (7, .int r65), (3, .int (x3 + 0)), (2, .int (x2 + r58)), (1, .int (x1 + 0)), (6, .int r1), (0, .ref (K.2.2 0)), (5, .int x5)]) hc dL_groups_208 (by decide) rfl ?_
                                refine V_iinc (v := (x5 + 1)) (lv' := [(5, .int (x5 + 1)), (4, .int 1), (7, .int r65), (3, .int (x3 + 0)), (2, .int (x2 + r58)), (1, .int (x1 + 0)), (6, .int r1), (0, .ref (K.2.2 0))]) hc dL_groups_210 7 rfl rfl (by decide) rfl ?_
                                refine V_goto (tgt := 12) hc dL_groups_213 (by decide) ?_
                                exact V_sub [7, 5, 4, 3, 1, 0] rfl (ih _ _ _ _ _)
                    · refine V_iconst (v := 1) hc dL_groups_140 (by decide) ?_
                      refine V_goto (tgt := 145) hc dL_groups_141 (by decide) ?_
                      refine V_iadd hc dL_groups_145 ?_
                      refine V_istore_n (lv' := [(3, .int (x3 + 1)), (2, .int (x2 + r58)), (1, .int (x1 + 0)), (4, .int 1), (6, .int r1), (0, .ref (K.2.2 0)), (5, .int x5)]) hc dL_groups_146 rfl (by decide) rfl ?_
                      refine V_aload_n hc dL_groups_147 rfl 5 rfl ?_
                      refine V_iload hc dL_groups_148 6 rfl ?_
                      refine V_callV_RI (Cn := RX8) (T := TX8) (N := 8) hc (c_X8_stackOf l K t0 (x5)) sP0 rfl 1 gL_groups_X8_stackOf rfl ⟨rfl, rfl⟩ (by decide) ⟨Nat.le_of_ble_eq_true rfl, Nat.le_of_ble_eq_true rfl⟩ rfl rfl (Nat.le_of_ble_eq_true rfl) dL_groups_150 (fun r70 => ?_)
                      refine V_istore (lv' := [(7, .int r70), (3, .int (x3 + 1)), (2, .int (x2 + r58)), (1, .int (x1 + 0)), (4, .int 1), (6, .int r1), (0, .ref (K.2.2 0)), (5, .int x5)]) hc dL_groups_153 (by decide) rfl ?_
                      refine V_iload hc dL_groups_155 4 rfl ?_
                      refine V_if_eq (tgt := 207) hc dL_groups_157 (by decide) ?_ ?_
                      · exact V_none
                      · refine V_iload hc dL_groups_160 0 rfl ?_
                        refine V_if_lt (tgt := 203) hc dL_groups_162 (by decide) ?_ ?_
                        · refine V_iconst (v := 1) hc dL_groups_203 (by decide) ?_
                          refine V_goto (tgt := 208) hc dL_groups_204 (by decide) ?_
                          refine V_istore (lv' := [(4, .int 1), (7, .int r70), (3, .int (x3 + 1)), (2, .int (x2 + r58)), (1, .int (x1 + 0)), (6, .int r1), (0, .ref (K.2.2 0)), (5, .int x5)]) hc dL_groups_208 (by decide) rfl ?_
                          refine V_iinc (v := (x5 + 1)) (lv' := [(5, .int (x5 + 1)), (4, .int 1), (7, .int r70), (3, .int (x3 + 1)), (2, .int (x2 + r58)), (1, .int (x1 + 0)), (6, .int r1), (0, .ref (K.2.2 0))]) hc dL_groups_210 7 rfl rfl (by decide) rfl ?_
                          refine V_goto (tgt := 12) hc dL_groups_213 (by decide) ?_
                          exact V_sub [7, 5, 4, 3, 1, 0] rfl (ih _ _ _ _ _)
                        · refine V_aload_n hc dL_groups_165 rfl 6 rfl ?_
                          refine V_aload_n hc dL_groups_166 rfl 6 rfl ?_
                          refine V_iload hc dL_groups_167 0 rfl ?_
                          refine V_callV_RI (Cn := RX8) (T := TX8) (N := 8) hc (c_X8_coverOf l K t0 (r70)) sP0 rfl 1 gL_groups_X8_coverOf rfl ⟨rfl, rfl⟩ (by decide) ⟨Nat.le_of_ble_eq_true rfl, Nat.le_of_ble_eq_true rfl⟩ rfl rfl (Nat.le_of_ble_eq_true rfl) dL_groups_169 (fun r71 => ?_)
                          refine V_callV_RI (Cn := RX8) (T := TX8) (N := 8) hc (c_X8_stackOf l K t0 (r71)) sP0 rfl 1 gL_groups_X8_stackOf rfl ⟨rfl, rfl⟩ (by decide) ⟨Nat.le_of_ble_eq_true rfl, Nat.le_of_ble_eq_true rfl⟩ rfl rfl (Nat.le_of_ble_eq_true rfl) dL_groups_172 (fun r72 => ?_)
                          refine V_iload hc dL_groups_175 0 rfl ?_
                          refine V_icmp_ne (tgt := 207) hc dL_groups_177 (by decide) ?_ ?_
                          · refine V_iconst (v := 0) hc dL_groups_207 (by decide) ?_
                            refine V_istore (lv' := [(4, .int 0), (7, .int r70), (3, .int (x3 + 1)), (2, .int (x2 + r58)), (1, .int (x1 + 0)), (6, .int r1), (0, .ref (K.2.2 0)), (5, .int x5)]) hc dL_groups_208 (by decide) rfl ?_
                            refine V_iinc (v := (x5 + 1)) (lv' := [(5, .int (x5 + 1)), (4, .int 0), (7, .int r70), (3, .int (x3 + 1)), (2, .int (x2 + r58)), (1, .int (x1 + 0)), (6, .int r1), (0, .ref (K.2.2 0))]) hc dL_groups_210 7 rfl rfl (by decide) rfl ?_
                            refine V_goto (tgt := 12) hc dL_groups_213 (by decide) ?_
                            exact V_sub [7, 5, 4, 3, 1, 0] rfl (ih _ _ _ _ _)
                          · refine V_aload_n hc dL_groups_180 rfl 6 rfl ?_
                            refine V_iload hc dL_groups_181 0 rfl ?_
                            refine V_iconst (v := 1) hc dL_groups_183 (by decide) ?_
                            refine V_callV_RI (Cn := RX8) (T := TX8) (N := 8) hc (c_X8_stackAt l K t0 (r70) (1)) sP0 rfl 2 gL_groups_X8_stackAt rfl ⟨rfl, rfl⟩ (by decide) ⟨Nat.le_of_ble_eq_true rfl, Nat.le_of_ble_eq_true rfl⟩ rfl rfl (Nat.le_of_ble_eq_true rfl) dL_groups_184 (fun r73 => ?_)
                            refine V_if_lt (tgt := 207) hc dL_groups_187 (by decide) ?_ ?_
                            · refine V_iconst (v := 0) hc dL_groups_207 (by decide) ?_
                              refine V_istore (lv' := [(4, .int 0), (7, .int r70), (3, .int (x3 + 1)), (2, .int (x2 + r58)), (1, .int (x1 + 0)), (6, .int r1), (0, .ref (K.2.2 0)), (5, .int x5)]) hc dL_groups_208 (by decide) rfl ?_
                              refine V_iinc (v := (x5 + 1)) (lv' := [(5, .int (x5 + 1)), (4, .int 0), (7, .int r70), (3, .int (x3 + 1)), (2, .int (x2 + r58)), (1, .int (x1 + 0)), (6, .int r1), (0, .ref (K.2.2 0))]) hc dL_groups_210 7 rfl rfl (by decide) rfl ?_
                              refine V_goto (tgt := 12) hc dL_groups_213 (by decide) ?_
                              exact V_sub [7, 5, 4, 3, 1, 0] rfl (ih _ _ _ _ _)
                            · refine V_aload_n hc dL_groups_190 rfl 6 rfl ?_
                              refine V_iload hc dL_groups_191 0 rfl ?_
                              refine V_bipush (v := 8) hc dL_groups_193 (by decide) ?_
                              refine V_callV_RI (Cn := RX8) (T := TX8) (N := 8) hc (c_X8_stackAt l K t0 (r70) (8)) sP0 rfl 2 gL_groups_X8_stackAt rfl ⟨rfl, rfl⟩ (by decide) ⟨Nat.le_of_ble_eq_true rfl, Nat.le_of_ble_eq_true rfl⟩ rfl rfl (Nat.le_of_ble_eq_true rfl) dL_groups_195 (fun r74 => ?_)
                              refine V_bipush (v := (-4)) hc dL_groups_198 (by decide) ?_
                              refine V_icmp_ne (tgt := 207) hc dL_groups_200 (by decide) ?_ ?_
                              · refine V_iconst (v := 0) hc dL_groups_207 (by decide) ?_
                                refine V_istore (lv' := [(4, .int 0), (7, .int r70), (3, .int (x3 + 1)), (2, .int (x2 + r58)), (1, .int (x1 + 0)), (6, .int r1), (0, .ref (K.2.2 0)), (5, .int x5)]) hc dL_groups_208 (by decide) rfl ?_
                                refine V_iinc (v := (x5 + 1)) (lv' := [(5, .int (x5 + 1)), (4, .int 0), (7, .int r70), (3, .int (x3 + 1)), (2, .int (x2 + r58)), (1, .int (x1 + 0)), (6, .int r1), (0, .ref (K.2.2 0))]) hc dL_groups_210 7 rfl rfl (by decide) rfl ?_
                                refine V_goto (tgt := 12) hc dL_groups_213 (by decide) ?_
                                exact V_sub [7, 5, 4, 3, 1, 0] rfl (ih _ _ _ _ _)
                              · refine V_iconst (v := 1) hc dL_groups_203 (by decide) ?_
                                refine V_goto (tgt := 208) hc dL_groups_204 (by decide) ?_
                                refine V_istore (lv' := [(4, .int 1), (7, .int r70), (3, .int (x3 + 1)), (2, .int (x2 + r58)), (1, .int (x1 + 0)), (6, .int r1), (0, .ref (K.2.2 0)), (5, .int x5)]) hc dL_groups_208 (by decide) rfl ?_
                                refine V_iinc (v := (x5 + 1)) (lv' := [(5, .int (x5 + 1)), (4, .int 1), (7, .int r70), (3, .int (x3 + 1)), (2, .int (x2 + r58)), (1, .int (x1 + 0)), (6, .int r1), (0, .ref (K.2.2 0))]) hc dL_groups_210 7 rfl rfl (by decide) rfl ?_
                                refine V_goto (tgt := 12) hc dL_groups_213 (by decide) ?_
                                exact V_sub [7, 5, 4, 3, 1, 0] rfl (ih _ _ _ _ _)
noncomputable def f_L_groups (t : Sx)  : Option Int32 := L_L_groups_12 t (fun z75 z76 z77 z78 z79 => if z78 = 0 then some 0 else (f_X8_wasted t ).bind fun r80 => if r80 = z75 then (f_X8_count t (4)).bind fun r81 => if r81 = z76 then (f_X8_count t (2)).bind fun r82 => if r82 = z77 then (f_X8_journalSize t ).bind fun r83 => if 24 < r83 then some 0 else some 1 else some 0 else some 0 else some 0) FU (0) (0) (0) (1) (0)
set_option maxRecDepth 20000 in
set_option maxHeartbeats 4000000 in
theorem c_L_groups (l : Launch) (K : Kx) (t : Sx)  : CT l K yL_groups wsL_groups ({ frames := 6, cells := 0, slots := 0, locals := 134 } : Room) [.ref (K.2.2 0)] t (f_L_groups t ) (kRI t) := by
  refine CT_of (cc := cL_groups) (maxL := 8) (ret := (some .boolean)) (own := RL) (by decide +kernel) rfl rfl (Nat.le_of_ble_eq_true rfl) ?_
  intro p e s m args below meth c hc
  refine V_sub (lv' := [(0, .ref (K.2.2 0))]) [0] rfl ?_
  unfold f_L_groups
  refine V_iconst (v := 0) hc dL_groups_0 (by decide) ?_
  refine V_istore_n (lv' := [(1, .int 0), (0, .ref (K.2.2 0))]) hc dL_groups_1 rfl (by decide) rfl ?_
  refine V_iconst (v := 0) hc dL_groups_2 (by decide) ?_
  refine V_istore_n (lv' := [(2, .int 0), (1, .int 0), (0, .ref (K.2.2 0))]) hc dL_groups_3 rfl (by decide) rfl ?_
  refine V_iconst (v := 0) hc dL_groups_4 (by decide) ?_
  refine V_istore_n (lv' := [(3, .int 0), (2, .int 0), (1, .int 0), (0, .ref (K.2.2 0))]) hc dL_groups_5 rfl (by decide) rfl ?_
  refine V_iconst (v := 1) hc dL_groups_6 (by decide) ?_
  refine V_istore (lv' := [(4, .int 1), (3, .int 0), (2, .int 0), (1, .int 0), (0, .ref (K.2.2 0))]) hc dL_groups_7 (by decide) rfl ?_
  refine V_iconst (v := 0) hc dL_groups_9 (by decide) ?_
  refine V_istore (lv' := [(5, .int 0), (4, .int 1), (3, .int 0), (2, .int 0), (1, .int 0), (0, .ref (K.2.2 0))]) hc dL_groups_10 (by decide) rfl ?_
  refine V_sub (lv' := [(0, .ref (K.2.2 0)), (1, .int 0), (2, .int 0), (3, .int 0), (4, .int 1), (5, .int 0)]) [5, 4, 3, 2, 1, 0] rfl ?_
  refine L_L_groups_12_ok hc t _ (fun z75 z76 z77 z78 z79 => ?_) FU _ _ _ _ _
  refine V_iload hc dL_groups_216 4 rfl ?_
  refine V_if_eq (tgt := 260) hc dL_groups_218 (by decide) ?_ ?_
  · refine V_iconst (v := 0) hc dL_groups_260 (by decide) ?_
    exact V_nret hc rfl rfl rfl dL_groups_261
  · refine V_aload_n hc dL_groups_221 rfl 0 rfl ?_
    refine V_callV_RI (Cn := RX8) (T := TX8) (N := 8) hc (c_X8_wasted l K t ) sP0 rfl 0 gL_groups_X8_wasted rfl ⟨rfl, rfl⟩ (by decide) ⟨Nat.le_of_ble_eq_true rfl, Nat.le_of_ble_eq_true rfl⟩ rfl rfl (Nat.le_of_ble_eq_true rfl) dL_groups_222 (fun r80 => ?_)
    refine V_iload_n hc dL_groups_225 rfl 1 rfl ?_
    refine V_icmp_ne (tgt := 260) hc dL_groups_226 (by decide) ?_ ?_
    · refine V_iconst (v := 0) hc dL_groups_260 (by decide) ?_
      exact V_nret hc rfl rfl rfl dL_groups_261
    · refine V_aload_n hc dL_groups_229 rfl 0 rfl ?_
      refine V_iconst (v := 4) hc dL_groups_230 (by decide) ?_
      refine V_callV_RI (Cn := RX8) (T := TX8) (N := 8) hc (c_X8_count l K t (4)) sP0 rfl 1 gL_groups_X8_count rfl ⟨rfl, rfl⟩ (by decide) ⟨Nat.le_of_ble_eq_true rfl, Nat.le_of_ble_eq_true rfl⟩ rfl rfl (Nat.le_of_ble_eq_true rfl) dL_groups_231 (fun r81 => ?_)
      refine V_iload_n hc dL_groups_234 rfl 2 rfl ?_
      refine V_icmp_ne (tgt := 260) hc dL_groups_235 (by decide) ?_ ?_
      · refine V_iconst (v := 0) hc dL_groups_260 (by decide) ?_
        exact V_nret hc rfl rfl rfl dL_groups_261
      · refine V_aload_n hc dL_groups_238 rfl 0 rfl ?_
        refine V_iconst (v := 2) hc dL_groups_239 (by decide) ?_
        refine V_callV_RI (Cn := RX8) (T := TX8) (N := 8) hc (c_X8_count l K t (2)) sP0 rfl 1 gL_groups_X8_count rfl ⟨rfl, rfl⟩ (by decide) ⟨Nat.le_of_ble_eq_true rfl, Nat.le_of_ble_eq_true rfl⟩ rfl rfl (Nat.le_of_ble_eq_true rfl) dL_groups_240 (fun r82 => ?_)
        refine V_iload_n hc dL_groups_243 rfl 3 rfl ?_
        refine V_icmp_ne (tgt := 260) hc dL_groups_244 (by decide) ?_ ?_
        · refine V_iconst (v := 0) hc dL_groups_260 (by decide) ?_
          exact V_nret hc rfl rfl rfl dL_groups_261
        · refine V_aload_n hc dL_groups_247 rfl 0 rfl ?_
          refine V_callV_RI (Cn := RX8) (T := TX8) (N := 8) hc (c_X8_journalSize l K t ) sP0 rfl 0 gL_groups_X8_journalSize rfl ⟨rfl, rfl⟩ (by decide) ⟨Nat.le_of_ble_eq_true rfl, Nat.le_of_ble_eq_true rfl⟩ rfl rfl (Nat.le_of_ble_eq_true rfl) dL_groups_248 (fun r83 => ?_)
          refine V_bipush (v := 24) hc dL_groups_251 (by decide) ?_
          refine V_icmp_gt (tgt := 260) hc dL_groups_253 (by decide) ?_ ?_
          · refine V_iconst (v := 0) hc dL_groups_260 (by decide) ?_
            exact V_nret hc rfl rfl rfl dL_groups_261
          · refine V_iconst (v := 1) hc dL_groups_256 (by decide) ?_
            refine V_goto (tgt := 261) hc dL_groups_257 (by decide) ?_
            exact V_nret hc rfl rfl rfl dL_groups_261
