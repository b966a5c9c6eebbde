theorem kX9_settles_48 : Cond.fieldLink RX9 48 RX9 (TX9 13).2.1 (TX9 13).2.2.1 ∈ wsX9_settles := by decide +kernel
theorem qX9_settles_RX9 : ∀ w ∈ u_ws RX9 TX9 28, w ∈ wsX9_settles := by
  first
  | exact fun _ h => List.mem_cons_of_mem _ (List.mem_append_right _ h)
  | exact fun _ h => List.mem_cons_of_mem _ (List.mem_append_left _ (List.mem_append_right _ h))
  | exact fun _ h => List.mem_cons_of_mem _ (List.mem_append_left _ (List.mem_append_left _ (List.mem_append_right _ h)))
  | exact fun _ h => List.mem_cons_of_mem _ (List.mem_append_left _ (List.mem_append_left _ (List.mem_append_left _ (List.mem_append_right _ h))))
  | exact fun _ h => List.mem_cons_of_mem _ (List.mem_append_left _ (List.mem_append_left _ (List.mem_append_left _ (List.mem_append_left _ (List.mem_append_right _ h)))))
  | decide +kernel
theorem kX9_settles_7 : Cond.fieldLink RX9 7 RX9 (TX9 0).2.1 (TX9 0).2.2.1 ∈ wsX9_settles := by decide +kernel
theorem kX9_settles_57 : Cond.fieldLink RX9 57 RX9 (TX9 16).2.1 (TX9 16).2.2.1 ∈ wsX9_settles := by decide +kernel
noncomputable def L_X9_settles_27 (b1 : Int32) (kont : Int64 → Int32 → Sx → Option Sx) : Nat → Int64 → Int32 → Sx → Option Sx
  | 0, _, _, _ => none
  | n + 1, x2 , x4, y => if 40 ≤ x4 then kont (x2) (x4) (y) else gd (vp_in b1 8) (if (gA y 35 (ix b1)) = 0 then L_X9_settles_27 b1 kont n (x2) ((x4 + 1)) (y) else gd (vp_in x4 40) (if (gA y 23 (ix x4)) = 0 then L_X9_settles_27 b1 kont n (x2) ((x4 + 1)) (y) else (f_X9_isRight y (x4)).bind fun r1 => if r1.1 = 0 then L_X9_settles_27 b1 kont n (x2) ((x4 + 1)) (r1.2) else L_X9_settles_27 b1 kont n ((x2 ||| (shlL 1 x4))) ((x4 + 1)) (r1.2)))
set_option maxRecDepth 20000 in
set_option maxHeartbeats 4000000 in
theorem L_X9_settles_27_ok {p : Program} {l : Launch} {K : Kx} {e : Env} {s : State} {m : MethodId} {args : Array Value} {below : List Frame} {meth : Method} {c : Code} (hc : Cx p ({ frames := 7, cells := 0, slots := 0, locals := 161 } : Room) s m args meth c cX9_settles 6 wsX9_settles RX9 K (aA K s.heap.size) none 0 0) (b1 : Int32) (kont : Int64 → Int32 → Sx → Option Sx) (hk : ∀ x2 x4 y, V p l e ({ frames := 7, cells := 0, slots := 0, locals := 161 } : Room) s m args below meth c K (aA K s.heap.size) 0 0 6 (QM below K args s kWV) 75 [(0, .ref (K.2.2 24)), (1, .int b1), (2, .long x2), (4, .int x4)] [] y (kont x2 x4 y)) : ∀ (n : Nat) (x2 : Int64) (x4 : Int32) (y : Sx), V p l e ({ frames := 7, cells := 0, slots := 0, locals := 161 } : Room) s m args below meth c K (aA K s.heap.size) 0 0 6 (QM below K args s kWV) 27 [(0, .ref (K.2.2 24)), (1, .int b1), (2, .long x2), (4, .int x4)] [] y (L_X9_settles_27 b1 kont n x2 x4 y) := by
  intro n
  induction n with
  | zero => intro x2 x4 y; exact V_none
  | succ n ih =>
    intro x2 x4 y
    rw [L_X9_settles_27]
    refine V_iload hc dX9_settles_27 3 rfl ?_
    refine V_bipush (v := 40) hc dX9_settles_29 (by decide) ?_
    refine V_icmp_ge (tgt := 75) hc dX9_settles_31 (by decide) ?_ ?_
    · exact V_sub [0, 1, 2, 3] rfl (hk _ _ _)
    · refine V_aload_n hc dX9_settles_34 rfl 0 rfl ?_
      refine V_getr (C := RX9) (T := TX9) (N := 28) hc sP24 rfl qX9_settles_RX9 13 rfl (by decide) kX9_settles_48 rfl dX9_settles_35 ?_
      refine V_iload_n hc dX9_settles_38 rfl 1 rfl ?_
      refine V_zald hc sP37 dX9_settles_39 ?_
      refine V_if_eq (tgt := 69) hc dX9_settles_40 (by decide) ?_ ?_
      · refine V_iinc (v := (x4 + 1)) (lv' := [(4, .int (x4 + 1)), (0, .ref (K.2.2 24)), (1, .int b1), (2, .long x2)]) hc dX9_settles_69 3 rfl rfl (by decide) rfl ?_
        refine V_goto (tgt := 27) hc dX9_settles_72 (by decide) ?_
        exact V_sub [1, 2, 3, 0] rfl (ih _ _ _)
      · refine V_aload_n hc dX9_settles_43 rfl 0 rfl ?_
        refine V_getr (C := RX9) (T := TX9) (N := 28) hc sP24 rfl qX9_settles_RX9 0 rfl (by decide) kX9_settles_7 rfl dX9_settles_44 ?_
        refine V_iload hc dX9_settles_47 3 rfl ?_
        refine V_zald hc sP25 dX9_settles_49 ?_
        refine V_if_eq (tgt := 69) hc dX9_settles_50 (by decide) ?_ ?_
        · refine V_iinc (v := (x4 + 1)) (lv' := [(4, .int (x4 + 1)), (0, .ref (K.2.2 24)), (1, .int b1), (2, .long x2)]) hc dX9_settles_69 3 rfl rfl (by decide) rfl ?_
          refine V_goto (tgt := 27) hc dX9_settles_72 (by decide) ?_
          exact V_sub [1, 2, 3, 0] rfl (ih _ _ _)
        · refine V_aload_n hc dX9_settles_53 rfl 0 rfl ?_
          refine V_iload hc dX9_settles_54 3 rfl ?_
          refine V_callV_WI (Cn := RX9) (T := TX9) (N := 28) hc (c_X9_isRight l K y (x4)) sP24 rfl 1 gX9_settles_X9_isRight rfl ⟨rfl, rfl⟩ (by decide) ⟨Nat.le_of_ble_eq_true rfl, Nat.le_of_ble_eq_true rfl⟩ rfl rfl (Nat.le_of_ble_eq_true rfl) dX9_settles_56 (fun r1 => ?_)
          refine V_if_eq (tgt := 69) hc dX9_settles_59 (by decide) ?_ ?_
          · refine V_iinc (v := (x4 + 1)) (lv' := [(4, .int (x4 + 1)), (0, .ref (K.2.2 24)), (1, .int b1), (2, .long x2)]) hc dX9_settles_69 3 rfl rfl (by decide) rfl ?_
            refine V_goto (tgt := 27) hc dX9_settles_72 (by decide) ?_
            exact V_sub [1, 2, 3, 0] rfl (ih _ _ _)
          · refine V_lload_n hc dX9_settles_62 rfl 2 rfl ?_
            refine V_lconst (v := 1) hc dX9_settles_63 (by decide) ?_
            refine V_iload hc dX9_settles_64 3 rfl ?_
            refine V_lshl hc dX9_settles_66 ?_
            refine V_lor hc dX9_settles_67 ?_
            refine V_lstore_n (lv' := [(2, .long (x2 ||| (shlL 1 x4))), (0, .ref (K.2.2 24)), (1, .int b1), (4, .int x4)]) hc dX9_settles_68 rfl (by decide) rfl ?_
            refine V_iinc (v := (x4 + 1)) (lv' := [(4, .int (x4 + 1)), (2, .long (x2 ||| (shlL 1 x4))), (0, .ref (K.2.2 24)), (1, .int b1)]) hc dX9_settles_69 3 rfl rfl (by decide) rfl ?_
            refine V_goto (tgt := 27) hc dX9_settles_72 (by decide) ?_
            exact V_sub [2, 3, 1, 0] rfl (ih _ _ _)
noncomputable def L_X9_settles_78 (b1 : Int32) (b2 : Int64) (kont : Int32 → Sx → Option Sx) : Nat → Int32 → Sx → Option Sx
  | 0, _, _ => none
  | n + 1, x4, y => if 40 ≤ x4 then kont (x4) (y) else gd (vp_in b1 8) (if (gA y 35 (ix b1)) = 0 then kont (x4) (y) else gd (vp_in b1 8) (bd ((Int64.toInt32 ((shrL (gM y 2 (ix b1)) x4) &&& 1))) fun v5 => if (Int64.toInt32 ((shrL b2 x4) &&& 1)) = v5 then L_X9_settles_78 b1 b2 kont n ((x4 + 1)) (y) else (f_X9_notes y (b1) (x4) (Int64.toInt32 ((shrL b2 x4) &&& 1))).bind fun r6 => L_X9_settles_78 b1 b2 kont n ((x4 + 1)) (r6)))
set_option maxRecDepth 20000 in
set_option maxHeartbeats 4000000 in
theorem L_X9_settles_78_ok {p : Program} {l : Launch} {K : Kx} {e : Env} {s : State} {m : MethodId} {args : Array Value} {below : List Frame} {meth : Method} {c : Code} (hc : Cx p ({ frames := 7, cells := 0, slots := 0, locals := 161 } : Room) s m args meth c cX9_settles 6 wsX9_settles RX9 K (aA K s.heap.size) none 0 0) (b1 : Int32) (b2 : Int64) (kont : Int32 → Sx → Option Sx) (hk : ∀ x4 y, V p l e ({ frames := 7, cells := 0, slots := 0, locals := 161 } : Room) s m args below meth c K (aA K s.heap.size) 0 0 6 (QM below K args s kWV) 135 [(0, .ref (K.2.2 24)), (1, .int b1), (2, .long b2), (4, .int x4)] [] y (kont x4 y)) : ∀ (n : Nat) (x4 : Int32) (y : Sx), V p l e ({ frames := 7, cells := 0, slots := 0, locals := 161 } : Room) s m args below meth c K (aA K s.heap.size) 0 0 6 (QM below K args s kWV) 78 [(0, .ref (K.2.2 24)), (1, .int b1), (2, .long b2), (4, .int x4)] [] y (L_X9_settles_78 b1 b2 kont n x4 y) := by
  intro n
  induction n with
  | zero => intro x4 y; exact V_none
  | succ n ih =>
    intro x4 y
    rw [L_X9_settles_78]
    refine V_iload hc dX9_settles_78 3 rfl ?_
    refine V_bipush (v := 40) hc dX9_settles_80 (by decide) ?_
    refine V_icmp_ge (tgt := 135) hc dX9_settles_82 (by decide) ?_ ?_
    · exact V_sub [0, 1, 2, 3] rfl (hk _ _)
    · refine V_aload_n hc dX9_settles_85 rfl 0 rfl ?_
      refine V_getr (C := RX9) (T := TX9) (N := 28) hc sP24 rfl qX9_settles_RX9 13 rfl (by decide) kX9_settles_48 rfl dX9_settles_86 ?_
      refine V_iload_n hc dX9_settles_89 rfl 1 rfl ?_
      refine V_zald hc sP37 dX9_settles_90 ?_
      refine V_if_eq (tgt := 135) hc dX9_settles_91 (by decide) ?_ ?_
      · exact V_sub [0, 1, 2, 3] rfl (hk _ _)
      · refine V_lload_n hc dX9_settles_94 rfl 2 rfl ?_
        refine V_iload hc dX9_settles_95 3 rfl ?_
        refine V_lshr hc dX9_settles_97 ?_
        refine V_lconst (v := 1) hc dX9_settles_98 (by decide) ?_
        refine V_land hc dX9_settles_99 ?_
        refine V_l2i hc dX9_settles_100 ?_
        refine V_istore (lv' := [(5, .int (Int64.toInt32 ((shrL b2 x4) &&& 1))), (0, .ref (K.2.2 24)), (1, .int b1), (2, .long b2), (4, .int x4)]) hc dX9_settles_101 (by decide) rfl ?_
        refine V_iload hc dX9_settles_103 0 rfl ?_
        refine V_aload_n hc dX9_settles_105 rfl 1 rfl ?_
        refine V_getr (C := RX9) (T := TX9) (N := 28) hc sP24 rfl qX9_settles_RX9 16 rfl (by decide) kX9_settles_57 rfl dX9_settles_106 ?_
        refine V_iload_n hc dX9_settles_109 rfl 2 rfl ?_
        refine V_lald hc sP40 dX9_settles_110 ?_
        refine V_iload hc dX9_settles_111 4 rfl ?_
        refine V_lshr hc dX9_settles_113 ?_
        refine V_lconst (v := 1) hc dX9_settles_114 (by decide) ?_
        refine V_land hc dX9_settles_115 ?_
        refine V_l2i hc dX9_settles_116 ?_
        refine V_bdi (fun v5 => ?_)
        refine V_icmp_eq (tgt := 129) hc dX9_settles_117 (by decide) ?_ ?_
        · refine V_iinc (v := (x4 + 1)) (lv' := [(4, .int (x4 + 1)), (5, .int (Int64.toInt32 ((shrL b2 x4) &&& 1))), (0, .ref (K.2.2 24)), (1, .int b1), (2, .long b2)]) hc dX9_settles_129 4 rfl rfl (by decide) rfl ?_
          refine V_goto (tgt := 78) hc dX9_settles_132 (by decide) ?_
          exact V_sub [2, 3, 4, 0] rfl (ih _ _)
        · refine V_aload_n hc dX9_settles_120 rfl 1 rfl ?_
          refine V_iload_n hc dX9_settles_121 rfl 2 rfl ?_
          refine V_iload hc dX9_settles_122 4 rfl ?_
          refine V_iload hc dX9_settles_124 0 rfl ?_
          refine V_callV_WV (Cn := RX9) (T := TX9) (N := 28) hc (c_X9_notes l K y (b1) (x4) (Int64.toInt32 ((shrL b2 x4) &&& 1))) sP24 rfl 3 gX9_settles_X9_notes rfl ⟨rfl, rfl⟩ (by decide) ⟨Nat.le_of_ble_eq_true rfl, Nat.le_of_ble_eq_true rfl⟩ rfl rfl (Nat.le_of_ble_eq_true rfl) dX9_settles_126 (fun r6 => ?_)
          refine V_iinc (v := (x4 + 1)) (lv' := [(4, .int (x4 + 1)), (5, .int (Int64.toInt32 ((shrL b2 x4) &&& 1))), (0, .ref (K.2.2 24)), (1, .int b1), (2, .long b2)]) hc dX9_settles_129 4 rfl rfl (by decide) rfl ?_
          refine V_goto (tgt := 78) hc dX9_settles_132 (by decide) ?_
          exact V_sub [2, 3, 4, 0] rfl (ih _ _)
noncomputable def L_X9_settles_2  (kont : Int32 → Sx → Option Sx) : Nat → Int32 → Sx → Option Sx
  | 0, _, _ => none
  | n + 1, x1, y => if 8 ≤ x1 then kont (x1) (y) else gd (vp_in x1 8) (if (gA y 35 (ix x1)) = 0 then L_X9_settles_27 (x1) (fun z2 z3 t4 => L_X9_settles_78 (x1) (z2) (fun z7 t8 => gd (vp_in x1 8) (bd (pM t8 2 (ix x1) z2) fun t9 => L_X9_settles_2  kont n ((x1 + 1)) (t9))) FU (0) (t4)) FU (0) (0) (y) else (f_X9_takesAlbum y (x1)).bind fun r10 => L_X9_settles_27 (x1) (fun z11 z12 t13 => L_X9_settles_78 (x1) (z11) (fun z14 t15 => gd (vp_in x1 8) (bd (pM t15 2 (ix x1) z11) fun t16 => L_X9_settles_2  kont n ((x1 + 1)) (t16))) FU (0) (t13)) FU (0) (0) (r10))
set_option maxRecDepth 20000 in
set_option maxHeartbeats 4000000 in
theorem L_X9_settles_2_ok {p : Program} {l : Launch} {K : Kx} {e : Env} {s : State} {m : MethodId} {args : Array Value} {below : List Frame} {meth : Method} {c : Code} (hc : Cx p ({ frames := 7, cells := 0, slots := 0, locals := 161 } : Room) s m args meth c cX9_settles 6 wsX9_settles RX9 K (aA K s.heap.size) none 0 0)  (kont : Int32 → Sx → Option Sx) (hk : ∀ x1 y, V p l e ({ frames := 7, cells := 0, slots := 0, locals := 161 } : Room) s m args below meth c K (aA K s.heap.size) 0 0 6 (QM below K args s kWV) 148 [(0, .ref (K.2.2 24)), (1, .int x1)] [] y (kont x1 y)) : ∀ (n : Nat) (x1 : Int32) (y : Sx), V p l e ({ frames := 7, cells := 0, slots := 0, locals := 161 } : Room) s m args below meth c K (aA K s.heap.size) 0 0 6 (QM below K args s kWV) 2 [(0, .ref (K.2.2 24)), (1, .int x1)] [] y (L_X9_settles_2  kont n x1 y) := by
  intro n
  induction n with
  | zero => intro x1 y; exact V_none
  | succ n ih =>
    intro x1 y
    rw [L_X9_settles_2]
    refine V_iload_n hc dX9_settles_2 rfl 1 rfl ?_
    refine V_bipush (v := 8) hc dX9_settles_3 (by decide) ?_
    refine V_icmp_ge (tgt := 148) hc dX9_settles_5 (by decide) ?_ ?_
    · exact V_sub [0, 1] rfl (hk _ _)
    · refine V_lconst (v := 0) hc dX9_settles_8 (by decide) ?_
      refine V_lstore_n (lv' := [(2, .long 0), (0, .ref (K.2.2 24)), (1, .int x1)]) hc dX9_settles_9 rfl (by decide) rfl ?_
      refine V_aload_n hc dX9_settles_10 rfl 1 rfl ?_
      refine V_getr (C := RX9) (T := TX9) (N := 28) hc sP24 rfl qX9_settles_RX9 13 rfl (by decide) kX9_settles_48 rfl dX9_settles_11 ?_
      refine V_iload_n hc dX9_settles_14 rfl 2 rfl ?_
      refine V_zald hc sP37 dX9_settles_15 ?_
      refine V_if_eq (tgt := 24) hc dX9_settles_16 (by decide) ?_ ?_
      · refine V_iconst (v := 0) hc dX9_settles_24 (by decide) ?_
        refine V_istore (lv' := [(4, .int 0), (2, .long 0), (0, .ref (K.2.2 24)), (1, .int x1)]) hc dX9_settles_25 (by decide) rfl ?_
        refine V_sub (lv' := [(0, .ref (K.2.2 24)), (1, .int x1), (2, .long 0), (4, .int 0)]) [2, 3, 1, 0] rfl ?_
        refine L_X9_settles_27_ok hc (x1) _ (fun z2 z3 t4 => ?_) FU _ _ _
        refine V_iconst (v := 0) hc dX9_settles_75 (by decide) ?_
        refine V_istore (lv' := [(4, .int 0), (0, .ref (K.2.2 24)), (1, .int x1), (2, .long z2)]) hc dX9_settles_76 (by decide) rfl ?_
        refine V_sub (lv' := [(0, .ref (K.2.2 24)), (1, .int x1), (2, .long z2), (4, .int 0)]) [1, 2, 3, 0] rfl ?_
        refine L_X9_settles_78_ok hc (x1) (z2) _ (fun z7 t8 => ?_) FU _ _
        refine V_aload_n hc dX9_settles_135 rfl 0 rfl ?_
        refine V_getr (C := RX9) (T := TX9) (N := 28) hc sP24 rfl qX9_settles_RX9 16 rfl (by decide) kX9_settles_57 rfl dX9_settles_136 ?_
        refine V_iload_n hc dX9_settles_139 rfl 1 rfl ?_
        refine V_lload_n hc dX9_settles_140 rfl 2 rfl ?_
        refine V_last hc sP40 dX9_settles_141 ?_
        refine V_bds (fun t9 => ?_)
        refine V_iinc (v := (x1 + 1)) (lv' := [(1, .int (x1 + 1)), (0, .ref (K.2.2 24)), (2, .long z2), (4, .int z7)]) hc dX9_settles_142 1 rfl rfl (by decide) rfl ?_
        refine V_goto (tgt := 2) hc dX9_settles_145 (by decide) ?_
        exact V_sub [1, 0] rfl (ih _ _)
      · refine V_aload_n hc dX9_settles_19 rfl 1 rfl ?_
        refine V_iload_n hc dX9_settles_20 rfl 2 rfl ?_
        refine V_callV_WV (Cn := RX9) (T := TX9) (N := 28) hc (c_X9_takesAlbum l K y (x1)) sP24 rfl 1 gX9_settles_X9_takesAlbum rfl ⟨rfl, rfl⟩ (by decide) ⟨Nat.le_of_ble_eq_true rfl, Nat.le_of_ble_eq_true rfl⟩ rfl rfl (Nat.le_of_ble_eq_true rfl) dX9_settles_21 (fun r10 => ?_)
        refine V_iconst (v := 0) hc dX9_settles_24 (by decide) ?_
        refine V_istore (lv' := [(4, .int 0), (2, .long 0), (0, .ref (K.2.2 24)), (1, .int x1)]) hc dX9_settles_25 (by decide) rfl ?_
        refine V_sub (lv' := [(0, .ref (K.2.2 24)), (1, .int x1), (2, .long 0), (4, .int 0)]) [2, 3, 1, 0] rfl ?_
        refine L_X9_settles_27_ok hc (x1) _ (fun z11 z12 t13 => ?_) FU _ _ _
        refine V_iconst (v := 0) hc dX9_settles_75 (by decide) ?_
        refine V_istore (lv' := [(4, .int 0), (0, .ref (K.2.2 24)), (1, .int x1), (2, .long z11)]) hc dX9_settles_76 (by decide) rfl ?_
        refine V_sub (lv' := [(0, .ref (K.2.2 24)), (1, .int x1), (2, .long z11), (4, .int 0)]) [1, 2, 3, 0] rfl ?_
        refine L_X9_settles_78_ok hc (x1) (z11) _ (fun z14 t15 => ?_) FU _ _
        refine V_aload_n hc dX9_settles_135 rfl 0 rfl ?_
        refine V_getr (C := RX9) (T := TX9) (N := 28) hc sP24 rfl qX9_settles_RX9 16 rfl (by decide) kX9_settles_57 rfl dX9_settles_136 ?_
        refine V_iload_n hc dX9_settles_139 rfl 1 rfl ?_
        refine V_lload_n hc dX9_settles_140 rfl 2 rfl ?_
        refine V_last hc sP40 dX9_settles_141 ?_
        refine V_bds (fun t16 => ?_)
        refine V_iinc (v := (x1 + 1)) (lv' := [(1, .int (x1 + 1)), (0, .ref (K.2.2 24)), (2, .long z11), (4, .int z14)]) hc dX9_settles_142 1 rfl rfl (by decide) rfl ?_
        refine V_goto (tgt := 2) hc dX9_settles_145 (by decide) ?_
        exact V_sub [1, 0] rfl (ih _ _)
noncomputable def f_X9_settles (t : Sx)  : Option Sx := L_X9_settles_2  (fun z17 t18 => some t18) FU (0) (t)
set_option maxRecDepth 20000 in
set_option maxHeartbeats 4000000 in
theorem c_X9_settles (l : Launch) (K : Kx) (t : Sx)  : CT l K yX9_settles wsX9_settles ({ frames := 7, cells := 0, slots := 0, locals := 161 } : Room) [.ref (K.2.2 24)] t (f_X9_settles t ) kWV := by
  refine CT_of (cc := cX9_settles) (maxL := 6) (ret := none) (own := RX9) (by decide +kernel) rfl rfl (Nat.le_of_ble_eq_true rfl) ?_
  intro p e s m args below meth c hc
  refine V_sub (lv' := [(0, .ref (K.2.2 24))]) [0] rfl ?_
  unfold f_X9_settles
  refine V_iconst (v := 0) hc dX9_settles_0 (by decide) ?_
  refine V_istore_n (lv' := [(1, .int 0), (0, .ref (K.2.2 24))]) hc dX9_settles_1 rfl (by decide) rfl ?_
  refine V_sub (lv' := [(0, .ref (K.2.2 24)), (1, .int 0)]) [1, 0] rfl ?_
  refine L_X9_settles_2_ok hc  _ (fun z17 t18 => ?_) FU _ _
  exact V_vret hc rfl rfl dX9_settles_148


noncomputable def f_X9_settled (t : Sx) (a1 : Int32) : Option (Int32 × Sx) := (f_X9_settles t ).bind fun r1 => some (a1, r1)
set_option maxRecDepth 20000 in
set_option maxHeartbeats 4000000 in
theorem c_X9_settled (l : Launch) (K : Kx) (t : Sx) (a1 : Int32) : CT l K yX9_settled wsX9_settled ({ frames := 8, cells := 0, slots := 0, locals := 186 } : Room) [.ref (K.2.2 24), .int a1] t (f_X9_settled t a1) kWI := by
  refine CT_of (cc := cX9_settled) (maxL := 2) (ret := (some .int)) (own := RX9) (by decide +kernel) rfl rfl (Nat.le_of_ble_eq_true rfl) ?_
  intro p e s m args below meth c hc
  refine V_sub (lv' := [(0, .ref (K.2.2 24)), (1, .int a1)]) [0, 1] rfl ?_
  unfold f_X9_settled
  refine V_aload_n hc dX9_settled_0 rfl 0 rfl ?_
  refine V_callV_WV (Cn := RX9) (T := TX9) (N := 28) hc (c_X9_settles l K t ) sP24 rfl 0 gX9_settled_X9_settles rfl ⟨rfl, rfl⟩ (by decide) ⟨Nat.le_of_ble_eq_true rfl, Nat.le_of_ble_eq_true rfl⟩ rfl rfl (Nat.le_of_ble_eq_true rfl) dX9_settled_1 (fun r1 => ?_)
  refine V_iload_n hc dX9_settled_4 rfl 1 rfl ?_
  exact V_iret hc rfl rfl dX9_settled_5

theorem wX9_add_c183 : Cond.constant RX9 183 (100000) ∈ wsX9_add := by decide +kernel
theorem kX9_add_7 : Cond.fieldLink RX9 7 RX9 (TX9 0).2.1 (TX9 0).2.2.1 ∈ wsX9_add := by decide +kernel
theorem qX9_add_RX9 : ∀ w ∈ u_ws RX9 TX9 28, w ∈ wsX9_add := by
  first
  | exact fun _ h => List.mem_cons_of_mem _ (List.mem_append_right _ h)
  | exact fun _ h => List.mem_cons_of_mem _ (List.mem_append_left _ (List.mem_append_right _ h))
  | exact fun _ h => List.mem_cons_of_mem _ (List.mem_append_left _ (List.mem_append_left _ (List.mem_append_right _ h)))
  | exact fun _ h => List.mem_cons_of_mem _ (List.mem_append_left _ (List.mem_append_left _ (List.mem_append_left _ (List.mem_append_right _ h))))
  | exact fun _ h => List.mem_cons_of_mem _ (List.mem_append_left _ (List.mem_append_left _ (List.mem_append_left _ (List.mem_append_left _ (List.mem_append_right _ h)))))
  | decide +kernel
theorem kX9_add_13 : Cond.fieldLink RX9 13 RX9 (TX9 1).2.1 (TX9 1).2.2.1 ∈ wsX9_add := by decide +kernel
theorem kX9_add_17 : Cond.fieldLink RX9 17 RX9 (TX9 2).2.1 (TX9 2).2.2.1 ∈ wsX9_add := by decide +kernel
theorem kX9_add_29 : Cond.fieldLink RX9 29 RX9 (TX9 6).2.1 (TX9 6).2.2.1 ∈ wsX9_add := by decide +kernel
theorem kX9_add_20 : Cond.fieldLink RX9 20 RX9 (TX9 3).2.1 (TX9 3).2.2.1 ∈ wsX9_add := by decide +kernel
noncomputable def L_X9_add_25 (t0 : Sx) (b1 : Int32) (b2 : Int32) (kont : Int32 → Option (Int32 × Sx)) : Nat → Int32 → Option (Int32 × Sx)
  | 0, _ => none
  | n + 1, x3 => if 40 ≤ x3 then kont (x3) else gd (vp_in x3 40) (if (gA t0 23 (ix x3)) = 0 then kont (x3) else L_X9_add_25 t0 b1 b2 kont n ((x3 + 1)))
set_option maxRecDepth 20000 in
set_option maxHeartbeats 4000000 in
theorem L_X9_add_25_ok {p : Program} {l : Launch} {K : Kx} {e : Env} {s : State} {m : MethodId} {args : Array Value} {below : List Frame} {meth : Method} {c : Code} (hc : Cx p ({ frames := 9, cells := 0, slots := 0, locals := 207 } : Room) s m args meth c cX9_add 5 wsX9_add RX9 K (aA K s.heap.size) (some .int) 0 0) (t0 : Sx) (b1 : Int32) (b2 : Int32) (kont : Int32 → Option (Int32 × Sx)) (hk : ∀ x3, V p l e ({ frames := 9, cells := 0, slots := 0, locals := 207 } : Room) s m args below meth c K (aA K s.heap.size) 0 0 5 (QM below K args s kWI) 46 [(0, .ref (K.2.2 24)), (1, .int b1), (2, .int b2), (3, .int x3)] [] t0 (kont x3)) : ∀ (n : Nat) (x3 : Int32), V p l e ({ frames := 9, cells := 0, slots := 0, locals := 207 } : Room) s m args below meth c K (aA K s.heap.size) 0 0 5 (QM below K args s kWI) 25 [(0, .ref (K.2.2 24)), (1, .int b1), (2, .int b2), (3, .int x3)] [] t0 (L_X9_add_25 t0 b1 b2 kont n x3) := by
  intro n
  induction n with
  | zero => intro x3; exact V_none
  | succ n ih =>
    intro x3
    rw [L_X9_add_25]
    refine V_iload_n hc dX9_add_25 rfl 3 rfl ?_
    refine V_bipush (v := 40) hc dX9_add_26 (by decide) ?_
    refine V_icmp_ge (tgt := 46) hc dX9_add_28 (by decide) ?_ ?_
    · exact V_sub [0, 1, 2, 3] rfl (hk _)
    · refine V_aload_n hc dX9_add_31 rfl 0 rfl ?_
      refine V_getr (C := RX9) (T := TX9) (N := 28) hc sP24 rfl qX9_add_RX9 0 rfl (by decide) kX9_add_7 rfl dX9_add_32 ?_
      refine V_iload_n hc dX9_add_35 rfl 3 rfl ?_
      refine V_zald hc sP25 dX9_add_36 ?_
      refine V_if_eq (tgt := 46) hc dX9_add_37 (by decide) ?_ ?_
      · exact V_sub [0, 1, 2, 3] rfl (hk _)
      · refine V_iinc (v := (x3 + 1)) (lv' := [(3, .int (x3 + 1)), (0, .ref (K.2.2 24)), (1, .int b1), (2, .int b2)]) hc dX9_add_40 3 rfl rfl (by decide) rfl ?_
        refine V_goto (tgt := 25) hc dX9_add_43 (by decide) ?_
        exact V_sub [1, 2, 3, 0] rfl (ih _)
noncomputable def L_X9_add_86 (b1 : Int32) (b2 : Int32) (b3 : Int32) (kont : Int32 → Sx → Option (Int32 × Sx)) : Nat → Int32 → Sx → Option (Int32 × Sx)
  | 0, _, _ => none
  | n + 1, x4, y => if 18 ≤ x4 then kont (x4) (y) else gd (vp_in ((18 * b3) + x4) 720) (bd (pA y 26 (ix ((18 * b3) + x4)) 0) fun t8 => L_X9_add_86 b1 b2 b3 kont n ((x4 + 1)) (t8))
set_option maxRecDepth 20000 in
set_option maxHeartbeats 4000000 in
theorem L_X9_add_86_ok {p : Program} {l : Launch} {K : Kx} {e : Env} {s : State} {m : MethodId} {args : Array Value} {below : List Frame} {meth : Method} {c : Code} (hc : Cx p ({ frames := 9, cells := 0, slots := 0, locals := 207 } : Room) s m args meth c cX9_add 5 wsX9_add RX9 K (aA K s.heap.size) (some .int) 0 0) (b1 : Int32) (b2 : Int32) (b3 : Int32) (kont : Int32 → Sx → Option (Int32 × Sx)) (hk : ∀ x4 y, V p l e ({ frames := 9, cells := 0, slots := 0, locals := 207 } : Room) s m args below meth c K (aA K s.heap.size) 0 0 5 (QM below K args s kWI) 112 [(0, .ref (K.2.2 24)), (1, .int b1), (2, .int b2), (3, .int b3), (4, .int x4)] [] y (kont x4 y)) : ∀ (n : Nat) (x4 : Int32) (y : Sx), V p l e ({ frames := 9, cells := 0, slots := 0, locals := 207 } : Room) s m args below meth c K (aA K s.heap.size) 0 0 5 (QM below K args s kWI) 86 [(0, .ref (K.2.2 24)), (1, .int b1), (2, .int b2), (3, .int b3), (4, .int x4)] [] y (L_X9_add_86 b1 b2 b3 kont n x4 y) := by
  intro n
  induction n with
  | zero => intro x4 y; exact V_none
  | succ n ih =>
    intro x4 y
    rw [L_X9_add_86]
    refine V_iload hc dX9_add_86 4 rfl ?_
    refine V_bipush (v := 18) hc dX9_add_88 (by decide) ?_
    refine V_icmp_ge (tgt := 112) hc dX9_add_90 (by decide) ?_ ?_
    · exact V_sub [0, 1, 2, 3, 4] rfl (hk _ _)
    · refine V_aload_n hc dX9_add_93 rfl 0 rfl ?_
      refine V_getr (C := RX9) (T := TX9) (N := 28) hc sP24 rfl qX9_add_RX9 3 rfl (by decide) kX9_add_20 rfl dX9_add_94 ?_
      refine V_bipush (v := 18) hc dX9_add_97 (by decide) ?_
      refine V_iload_n hc dX9_add_99 rfl 3 rfl ?_
      refine V_imul hc dX9_add_100 ?_
      refine V_iload hc dX9_add_101 4 rfl ?_
      refine V_iadd hc dX9_add_103 ?_
      refine V_iconst (v := 0) hc dX9_add_104 (by decide) ?_
      refine V_zastc hc sP28 (Or.inl rfl) dX9_add_105 ?_
      refine V_bds (fun t8 => ?_)
      refine V_iinc (v := (x4 + 1)) (lv' := [(4, .int (x4 + 1)), (0, .ref (K.2.2 24)), (1, .int b1), (2, .int b2), (3, .int b3)]) hc dX9_add_106 4 rfl rfl (by decide) rfl ?_
      refine V_goto (tgt := 86) hc dX9_add_109 (by decide) ?_
      exact V_sub [1, 2, 3, 4, 0] rfl (ih _ _)
noncomputable def f_X9_add (t : Sx) (a1 : Int32) (a2 : Int32) : Option (Int32 × Sx) := (f_X9_in t (a1) (0) (9999)).bind fun r1 => if r1 = 0 then some ((-1), t) else (f_X9_in t (a2) (1) (100000)).bind fun r2 => if r2 = 0 then some ((-1), t) else L_X9_add_25 t (a1) (a2) (fun z3 => if z3 = 40 then some ((-3), t) else gd (vp_in z3 40) (bd (pA t 23 (ix z3) 1) fun t4 => gd (vp_in z3 40) (bd (pA t4 24 (ix z3) a1) fun t5 => gd (vp_in z3 40) (bd (pA t5 25 (ix z3) a2) fun t6 => gd (vp_in z3 40) (bd (pA t6 29 (ix z3) (-1)) fun t7 => L_X9_add_86 (a1) (a2) (z3) (fun z9 t10 => (f_X9_settled t10 (z3)).bind fun r11 => some (r11.1, r11.2)) FU (0) (t7)))))) FU (0)
set_option maxRecDepth 20000 in
set_option maxHeartbeats 4000000 in
theorem c_X9_add (l : Launch) (K : Kx) (t : Sx) (a1 : Int32) (a2 : Int32) : CT l K yX9_add wsX9_add ({ frames := 9, cells := 0, slots := 0, locals := 207 } : Room) [.ref (K.2.2 24), .int a1, .int a2] t (f_X9_add t a1 a2) kWI := by
  refine CT_of (cc := cX9_add) (maxL := 5) (ret := (some .int)) (own := RX9) (by decide +kernel) rfl rfl (Nat.le_of_ble_eq_true rfl) ?_
  intro p e s m args below meth c hc
  refine V_sub (lv' := [(0, .ref (K.2.2 24)), (1, .int a1), (2, .int a2)]) [0, 1, 2] rfl ?_
  unfold f_X9_add
  refine V_iload_n hc dX9_add_0 rfl 1 rfl ?_
  refine V_iconst (v := 0) hc dX9_add_1 (by decide) ?_
  refine V_sipush (v := 9999) hc dX9_add_2 (by decide) ?_
  refine V_callS_RI hc (c_X9_in l K t (a1) (0) (9999)) 3 gX9_add_X9_in rfl ⟨rfl, rfl⟩ (by decide) ⟨Nat.le_of_ble_eq_true rfl, Nat.le_of_ble_eq_true rfl⟩ rfl rfl (Nat.le_of_ble_eq_true rfl) dX9_add_5 (fun r1 => ?_)
  refine V_if_eq (tgt := 21) hc dX9_add_8 (by decide) ?_ ?_
  · refine V_iconst (v := (-1)) hc dX9_add_21 (by decide) ?_
    exact V_iret hc rfl rfl dX9_add_22
  · refine V_iload_n hc dX9_add_11 rfl 2 rfl ?_
    refine V_iconst (v := 1) hc dX9_add_12 (by decide) ?_
    refine V_ldc (v := 100000) hc wX9_add_c183 dX9_add_13 ?_
    refine V_callS_RI hc (c_X9_in l K t (a2) (1) (100000)) 3 gX9_add_X9_in rfl ⟨rfl, rfl⟩ (by decide) ⟨Nat.le_of_ble_eq_true rfl, Nat.le_of_ble_eq_true rfl⟩ rfl rfl (Nat.le_of_ble_eq_true rfl) dX9_add_15 (fun r2 => ?_)
    refine V_if_ne (tgt := 23) hc dX9_add_18 (by decide) ?_ ?_
    · refine V_iconst (v := 0) hc dX9_add_23 (by decide) ?_
      refine V_istore_n (lv' := [(3, .int 0), (0, .ref (K.2.2 24)), (1, .int a1), (2, .int a2)]) hc dX9_add_24 rfl (by decide) rfl ?_
      refine V_sub (lv' := [(0, .ref (K.2.2 24)), (1, .int a1), (2, .int a2), (3, .int 0)]) [1, 2, 3, 0] rfl ?_
      refine L_X9_add_25_ok hc t (a1) (a2) _ (fun z3 => ?_) FU _
      refine V_iload_n hc dX9_add_46 rfl 3 rfl ?_
      refine V_bipush (v := 40) hc dX9_add_47 (by decide) ?_
      refine V_icmp_ne (tgt := 55) hc dX9_add_49 (by decide) ?_ ?_
      · refine V_aload_n hc dX9_add_55 rfl 0 rfl ?_
        refine V_getr (C := RX9) (T := TX9) (N := 28) hc sP24 rfl qX9_add_RX9 0 rfl (by decide) kX9_add_7 rfl dX9_add_56 ?_
        refine V_iload_n hc dX9_add_59 rfl 3 rfl ?_
        refine V_iconst (v := 1) hc dX9_add_60 (by decide) ?_
        refine V_zastc hc sP25 (Or.inr rfl) dX9_add_61 ?_
        refine V_bds (fun t4 => ?_)
        refine V_aload_n hc dX9_add_62 rfl 0 rfl ?_
        refine V_getr (C := RX9) (T := TX9) (N := 28) hc sP24 rfl qX9_add_RX9 1 rfl (by decide) kX9_add_13 rfl dX9_add_63 ?_
        refine V_iload_n hc dX9_add_66 rfl 3 rfl ?_
        refine V_iload_n hc dX9_add_67 rfl 1 rfl ?_
        refine V_iast hc sP26 dX9_add_68 ?_
        refine V_bds (fun t5 => ?_)
        refine V_aload_n hc dX9_add_69 rfl 0 rfl ?_
        refine V_getr (C := RX9) (T := TX9) (N := 28) hc sP24 rfl qX9_add_RX9 2 rfl (by decide) kX9_add_17 rfl dX9_add_70 ?_
        refine V_iload_n hc dX9_add_73 rfl 3 rfl ?_
        refine V_iload_n hc dX9_add_74 rfl 2 rfl ?_
        refine V_iast hc sP27 dX9_add_75 ?_
        refine V_bds (fun t6 => ?_)
        refine V_aload_n hc dX9_add_76 rfl 0 rfl ?_
        refine V_getr (C := RX9) (T := TX9) (N := 28) hc sP24 rfl qX9_add_RX9 6 rfl (by decide) kX9_add_29 rfl dX9_add_77 ?_
        refine V_iload_n hc dX9_add_80 rfl 3 rfl ?_
        refine V_iconst (v := (-1)) hc dX9_add_81 (by decide) ?_
        refine V_iast hc sP31 dX9_add_82 ?_
        refine V_bds (fun t7 => ?_)
        refine V_iconst (v := 0) hc dX9_add_83 (by decide) ?_
        refine V_istore (lv' := [(4, .int 0), (0, .ref (K.2.2 24)), (1, .int a1), (2, .int a2), (3, .int z3)]) hc dX9_add_84 (by decide) rfl ?_
        refine V_sub (lv' := [(0, .ref (K.2.2 24)), (1, .int a1), (2, .int a2), (3, .int z3), (4, .int 0)]) [1, 2, 3, 4, 0] rfl ?_
        refine L_X9_add_86_ok hc (a1) (a2) (z3) _ (fun z9 t10 => ?_) FU _ _
        refine V_aload_n hc dX9_add_112 rfl 0 rfl ?_
        refine V_iload_n hc dX9_add_113 rfl 3 rfl ?_
        refine V_callV_WI (Cn := RX9) (T := TX9) (N := 28) hc (c_X9_settled l K t10 (z3)) sP24 rfl 1 gX9_add_X9_settled rfl ⟨rfl, rfl⟩ (by decide) ⟨Nat.le_of_ble_eq_true rfl, Nat.le_of_ble_eq_true rfl⟩ rfl rfl (Nat.le_of_ble_eq_true rfl) dX9_add_114 (fun r11 => ?_)
        exact V_iret hc rfl rfl dX9_add_117
      · refine V_bipush (v := (-3)) hc dX9_add_52 (by decide) ?_
        exact V_iret hc rfl rfl dX9_add_54
    · refine V_iconst (v := (-1)) hc dX9_add_21 (by decide) ?_
      exact V_iret hc rfl rfl dX9_add_22

theorem kX9_fileCount_7 : Cond.fieldLink RX9 7 RX9 (TX9 0).2.1 (TX9 0).2.2.1 ∈ wsX9_fileCount := by decide +kernel
theorem qX9_fileCount_RX9 : ∀ w ∈ u_ws RX9 TX9 28, w ∈ wsX9_fileCount := by
  first
  | exact fun _ h => List.mem_cons_of_mem _ (List.mem_append_right _ h)
  | exact fun _ h => List.mem_cons_of_mem _ (List.mem_append_left _ (List.mem_append_right _ h))
  | exact fun _ h => List.mem_cons_of_mem _ (List.mem_append_left _ (List.mem_append_left _ (List.mem_append_right _ h)))
  | exact fun _ h => List.mem_cons_of_mem _ (List.mem_append_left _ (List.mem_append_left _ (List.mem_append_left _ (List.mem_append_right _ h))))
  | exact fun _ h => List.mem_cons_of_mem _ (List.mem_append_left _ (List.mem_append_left _ (List.mem_append_left _ (List.mem_append_left _ (List.mem_append_right _ h)))))
  | decide +kernel
noncomputable def L_X9_fileCount_4 (t0 : Sx) (kont : Int32 → Int32 → Option Int32) : Nat → Int32 → Int32 → Option Int32
  | 0, _, _ => none
  | n + 1, x1 , x2 => if 40 ≤ x2 then kont (x1) (x2) else gd (vp_in x2 40) (if (gA t0 23 (ix x2)) = 0 then L_X9_fileCount_4 t0 kont n ((x1 + 0)) ((x2 + 1)) else L_X9_fileCount_4 t0 kont n ((x1 + 1)) ((x2 + 1)))
set_option maxRecDepth 20000 in
set_option maxHeartbeats 4000000 in
theorem L_X9_fileCount_4_ok {p : Program} {l : Launch} {K : Kx} {e : Env} {s : State} {m : MethodId} {args : Array Value} {below : List Frame} {meth : Method} {c : Code} (hc : Cx p ({ frames := 0, cells := 0, slots := 0, locals := 0 } : Room) s m args meth c cX9_fileCount 3 wsX9_fileCount RX9 K (aA K s.heap.size) (some .int) 0 0) (t0 : Sx) (kont : Int32 → Int32 → Option Int32) (hk : ∀ x1 x2, V p l e ({ frames := 0, cells := 0, slots := 0, locals := 0 } : Room) s m args below meth c K (aA K s.heap.size) 0 0 3 (QM below K args s (kRI t0)) 33 [(0, .ref (K.2.2 24)), (1, .int x1), (2, .int x2)] [] t0 (kont x1 x2)) : ∀ (n : Nat) (x1 : Int32) (x2 : Int32), V p l e ({ frames := 0, cells := 0, slots := 0, locals := 0 } : Room) s m args below meth c K (aA K s.heap.size) 0 0 3 (QM below K args s (kRI t0)) 4 [(0, .ref (K.2.2 24)), (1, .int x1), (2, .int x2)] [] t0 (L_X9_fileCount_4 t0 kont n x1 x2) := by
  intro n
  induction n with
  | zero => intro x1 x2; exact V_none
  | succ n ih =>
    intro x1 x2
    rw [L_X9_fileCount_4]
    refine V_iload_n hc dX9_fileCount_4 rfl 2 rfl ?_
    refine V_bipush (v := 40) hc dX9_fileCount_5 (by decide) ?_
    refine V_icmp_ge (tgt := 33) hc dX9_fileCount_7 (by decide) ?_ ?_
    · exact V_sub [0, 1, 2] rfl (hk _ _)
    · refine V_iload_n hc dX9_fileCount_10 rfl 1 rfl ?_
      refine V_aload_n hc dX9_fileCount_11 rfl 0 rfl ?_
      refine V_getr (C := RX9) (T := TX9) (N := 28) hc sP24 rfl qX9_fileCount_RX9 0 rfl (by decide) kX9_fileCount_7 rfl dX9_fileCount_12 ?_
      refine V_iload_n hc dX9_fileCount_15 rfl 2 rfl ?_
      refine V_zald hc sP25 dX9_fileCount_16 ?_
      refine V_if_eq (tgt := 24) hc dX9_fileCount_17 (by decide) ?_ ?_
      · refine V_iconst (v := 0) hc dX9_fileCount_24 (by decide) ?_
        refine V_iadd hc dX9_fileCount_25 ?_
        refine V_istore_n (lv' := [(1, .int (x1 + 0)), (0, .ref (K.2.2 24)), (2, .int x2)]) hc dX9_fileCount_26 rfl (by decide) rfl ?_
        refine V_iinc (v := (x2 + 1)) (lv' := [(2, .int (x2 + 1)), (1, .int (x1 + 0)), (0, .ref (K.2.2 24))]) hc dX9_fileCount_27 2 rfl rfl (by decide) rfl ?_
        refine V_goto (tgt := 4) hc dX9_fileCount_30 (by decide) ?_
        exact V_sub [2, 1, 0] rfl (ih _ _)
      · refine V_iconst (v := 1) hc dX9_fileCount_20 (by decide) ?_
        refine V_goto (tgt := 25) hc dX9_fileCount_21 (by decide) ?_
        refine V_iadd hc dX9_fileCount_25 ?_
        refine V_istore_n (lv' := [(1, .int (x1 + 1)), (0, .ref (K.2.2 24)), (2, .int x2)]) hc dX9_fileCount_26 rfl (by decide) rfl ?_
        refine V_iinc (v := (x2 + 1)) (lv' := [(2, .int (x2 + 1)), (1, .int (x1 + 1)), (0, .ref (K.2.2 24))]) hc dX9_fileCount_27 2 rfl rfl (by decide) rfl ?_
        refine V_goto (tgt := 4) hc dX9_fileCount_30 (by decide) ?_
        exact V_sub [2, 1, 0] rfl (ih _ _)
noncomputable def f_X9_fileCount (t : Sx)  : Option Int32 := L_X9_fileCount_4 t (fun z1 z2 => some z1) FU (0) (0)
set_option maxRecDepth 20000 in
set_option maxHeartbeats 4000000 in
theorem c_X9_fileCount (l : Launch) (K : Kx) (t : Sx)  : CT l K yX9_fileCount wsX9_fileCount ({ frames := 0, cells := 0, slots := 0, locals := 0 } : Room) [.ref (K.2.2 24)] t (f_X9_fileCount t ) (kRI t) := by
  refine CT_of (cc := cX9_fileCount) (maxL := 3) (ret := (some .int)) (own := RX9) (by decide +kernel) rfl rfl (Nat.le_of_ble_eq_true rfl) ?_
  intro p e s m args below meth c hc
  refine V_sub (lv' := [(0, .ref (K.2.2 24))]) [0] rfl ?_
  unfold f_X9_fileCount
  refine V_iconst (v := 0) hc dX9_fileCount_0 (by decide) ?_
  refine V_istore_n (lv' := [(1, .int 0), (0, .ref (K.2.2 24))]) hc dX9_fileCount_1 rfl (by decide) rfl ?_
  refine V_iconst (v := 0) hc dX9_fileCount_2 (by decide) ?_
  refine V_istore_n (lv' := [(2, .int 0), (1, .int 0), (0, .ref (K.2.2 24))]) hc dX9_fileCount_3 rfl (by decide) rfl ?_
  refine V_sub (lv' := [(0, .ref (K.2.2 24)), (1, .int 0), (2, .int 0)]) [2, 1, 0] rfl ?_
  refine L_X9_fileCount_4_ok hc t _ (fun z1 z2 => ?_) FU _ _
  refine V_iload_n hc dX9_fileCount_33 rfl 1 rfl ?_
  exact V_iret hc rfl rfl dX9_fileCount_34


noncomputable def f_X9_remove (t : Sx) (a1 : Int32) : Option (Int32 × Sx) := (f_X9_there t (a1)).bind fun r1 => if r1 = 0 then some ((-1), t) else (f_X9_goes t (a1)).bind fun r2 => (f_X9_fileCount r2 ).bind fun r3 => (f_X9_settled r2 (r3)).bind fun r4 => some (r4.1, r4.2)
set_option maxRecDepth 20000 in
set_option maxHeartbeats 4000000 in
theorem c_X9_remove (l : Launch) (K : Kx) (t : Sx) (a1 : Int32) : CT l K yX9_remove wsX9_remove ({ frames := 9, cells := 0, slots := 0, locals := 207 } : Room) [.ref (K.2.2 24), .int a1] t (f_X9_remove t a1) kWI := by
  refine CT_of (cc := cX9_remove) (maxL := 2) (ret := (some .int)) (own := RX9) (by decide +kernel) rfl rfl (Nat.le_of_ble_eq_true rfl) ?_
  intro p e s m args below meth c hc
  refine V_sub (lv' := [(0, .ref (K.2.2 24)), (1, .int a1)]) [0, 1] rfl ?_
  unfold f_X9_remove
  refine V_aload_n hc dX9_remove_0 rfl 0 rfl ?_
  refine V_iload_n hc dX9_remove_1 rfl 1 rfl ?_
  refine V_callV_RI (Cn := RX9) (T := TX9) (N := 28) hc (c_X9_there l K t (a1)) sP24 rfl 1 gX9_remove_X9_there rfl ⟨rfl, rfl⟩ (by decide) ⟨Nat.le_of_ble_eq_true rfl, Nat.le_of_ble_eq_true rfl⟩ rfl rfl (Nat.le_of_ble_eq_true rfl) dX9_remove_2 (fun r1 => ?_)
  refine V_if_ne (tgt := 10) hc dX9_remove_5 (by decide) ?_ ?_
  · refine V_aload_n hc dX9_remove_10 rfl 0 rfl ?_
    refine V_iload_n hc dX9_remove_11 rfl 1 rfl ?_
    refine V_callV_WV (Cn := RX9) (T := TX9) (N := 28) hc (c_X9_goes l K t (a1)) sP24 rfl 1 gX9_remove_X9_goes rfl ⟨rfl, rfl⟩ (by decide) ⟨Nat.le_of_ble_eq_true rfl, Nat.le_of_ble_eq_true rfl⟩ rfl rfl (Nat.le_of_ble_eq_true rfl) dX9_remove_12 (fun r2 => ?_)
    refine V_aload_n hc dX9_remove_15 rfl 0 rfl ?_
    refine V_aload_n hc dX9_remove_16 rfl 0 rfl ?_
    refine V_callV_RI (Cn := RX9) (T := TX9) (N := 28) hc (c_X9_fileCount l K r2 ) sP24 rfl 0 gX9_remove_X9_fileCount rfl ⟨rfl, rfl⟩ (by decide) ⟨Nat.le_of_ble_eq_true rfl, Nat.le_of_ble_eq_true rfl⟩ rfl rfl (Nat.le_of_ble_eq_true rfl) dX9_remove_17 (fun r3 => ?_)
    refine V_callV_WI (Cn := RX9) (T := TX9) (N := 28) hc (c_X9_settled l K r2 (r3)) sP24 rfl 1 gX9_remove_X9_settled rfl ⟨rfl, rfl⟩ (by decide) ⟨Nat.le_of_ble_eq_true rfl, Nat.le_of_ble_eq_true rfl⟩ rfl rfl (Nat.le_of_ble_eq_true rfl) dX9_remove_20 (fun r4 => ?_)
    exact V_iret hc rfl rfl dX9_remove_23
  · refine V_iconst (v := (-1)) hc dX9_remove_8 (by decide) ?_
    exact V_iret hc rfl rfl dX9_remove_9

theorem kX9_setDigest_13 : Cond.fieldLink RX9 13 RX9 (TX9 1).2.1 (TX9 1).2.2.1 ∈ wsX9_setDigest := by decide +kernel
theorem qX9_setDigest_RX9 : ∀ w ∈ u_ws RX9 TX9 28, w ∈ wsX9_setDigest := by
  first
  | exact fun _ h => List.mem_cons_of_mem _ (List.mem_append_right _ h)
  | exact fun _ h => List.mem_cons_of_mem _ (List.mem_append_left _ (List.mem_append_right _ h))
  | exact fun _ h => List.mem_cons_of_mem _ (List.mem_append_left _ (List.mem_append_left _ (List.mem_append_right _ h)))
  | exact fun _ h => List.mem_cons_of_mem _ (List.mem_append_left _ (List.mem_append_left _ (List.mem_append_left _ (List.mem_append_right _ h))))
  | exact fun _ h => List.mem_cons_of_mem _ (List.mem_append_left _ (List.mem_append_left _ (List.mem_append_left _ (List.mem_append_left _ (List.mem_append_right _ h)))))
  | decide +kernel
noncomputable def f_X9_setDigest (t : Sx) (a1 : Int32) (a2 : Int32) : Option (Int32 × Sx) := (f_X9_there t (a1)).bind fun r1 => if r1 = 0 then some ((-1), t) else (f_X9_in t (a2) (0) (9999)).bind fun r2 => if r2 = 0 then some ((-1), t) else gd (vp_in a1 40) (gd (vp_in a1 40) (bd (pA t 24 (ix a1) a2) fun t3 => (f_X9_settled t3 (gA t 24 (ix a1))).bind fun r4 => some (r4.1, r4.2)))
set_option maxRecDepth 20000 in
set_option maxHeartbeats 4000000 in
theorem c_X9_setDigest (l : Launch) (K : Kx) (t : Sx) (a1 : Int32) (a2 : Int32) : CT l K yX9_setDigest wsX9_setDigest ({ frames := 9, cells := 0, slots := 0, locals := 207 } : Room) [.ref (K.2.2 24), .int a1, .int a2] t (f_X9_setDigest t a1 a2) kWI := by
  refine CT_of (cc := cX9_setDigest) (maxL := 4) (ret := (some .int)) (own := RX9) (by decide +kernel) rfl rfl (Nat.le_of_ble_eq_true rfl) ?_
  intro p e s m args below meth c hc
  refine V_sub (lv' := [(0, .ref (K.2.2 24)), (1, .int a1), (2, .int a2)]) [0, 1, 2] rfl ?_
  unfold f_X9_setDigest
  refine V_aload_n hc dX9_setDigest_0 rfl 0 rfl ?_
  refine V_iload_n hc dX9_setDigest_1 rfl 1 rfl ?_
  refine V_callV_RI (Cn := RX9) (T := TX9) (N := 28) hc (c_X9_there l K t (a1)) sP24 rfl 1 gX9_setDigest_X9_there rfl ⟨rfl, rfl⟩ (by decide) ⟨Nat.le_of_ble_eq_true rfl, Nat.le_of_ble_eq_true rfl⟩ rfl rfl (Nat.le_of_ble_eq_true rfl) dX9_setDigest_2 (fun r1 => ?_)
  refine V_if_eq (tgt := 19) hc dX9_setDigest_5 (by decide) ?_ ?_
  · refine V_iconst (v := (-1)) hc dX9_setDigest_19 (by decide) ?_
    exact V_iret hc rfl rfl dX9_setDigest_20
  · refine V_iload_n hc dX9_setDigest_8 rfl 2 rfl ?_
    refine V_iconst (v := 0) hc dX9_setDigest_9 (by decide) ?_
    refine V_sipush (v := 9999) hc dX9_setDigest_10 (by decide) ?_
    refine V_callS_RI hc (c_X9_in l K t (a2) (0) (9999)) 3 gX9_setDigest_X9_in rfl ⟨rfl, rfl⟩ (by decide) ⟨Nat.le_of_ble_eq_true rfl, Nat.le_of_ble_eq_true rfl⟩ rfl rfl (Nat.le_of_ble_eq_true rfl) dX9_setDigest_13 (fun r2 => ?_)
    refine V_if_ne (tgt := 21) hc dX9_setDigest_16 (by decide) ?_ ?_
    · refine V_aload_n hc dX9_setDigest_21 rfl 0 rfl ?_
      refine V_getr (C := RX9) (T := TX9) (N := 28) hc sP24 rfl qX9_setDigest_RX9 1 rfl (by decide) kX9_setDigest_13 rfl dX9_setDigest_22 ?_
      refine V_iload_n hc dX9_setDigest_25 rfl 1 rfl ?_
      refine V_iald hc sP26 dX9_setDigest_26 ?_
      refine V_istore_n (lv' := [(3, .int (gA t 24 (ix a1))), (0, .ref (K.2.2 24)), (1, .int a1), (2, .int a2)]) hc dX9_setDigest_27 rfl (by decide) rfl ?_
      refine V_aload_n hc dX9_setDigest_28 rfl 1 rfl ?_
      refine V_getr (C := RX9) (T := TX9) (N := 28) hc sP24 rfl qX9_setDigest_RX9 1 rfl (by decide) kX9_setDigest_13 rfl dX9_setDigest_29 ?_
      refine V_iload_n hc dX9_setDigest_32 rfl 2 rfl ?_
      refine V_iload_n hc dX9_setDigest_33 rfl 3 rfl ?_
      refine V_iast hc sP26 dX9_setDigest_34 ?_
      refine V_bds (fun t3 => ?_)
      refine V_aload_n hc dX9_setDigest_35 rfl 1 rfl ?_
      refine V_iload_n hc dX9_setDigest_36 rfl 0 rfl ?_
      refine V_callV_WI (Cn := RX9) (T := TX9) (N := 28) hc (c_X9_settled l K t3 (gA t 24 (ix a1))) sP24 rfl 1 gX9_setDigest_X9_settled rfl ⟨rfl, rfl⟩ (by decide) ⟨Nat.le_of_ble_eq_true rfl, Nat.le_of_ble_eq_true rfl⟩ rfl rfl (Nat.le_of_ble_eq_true rfl) dX9_setDigest_37 (fun r4 => ?_)
      exact V_iret hc rfl rfl dX9_setDigest_40
    · refine V_iconst (v := (-1)) hc dX9_setDigest_19 (by decide) ?_
      exact V_iret hc rfl rfl dX9_setDigest_20


noncomputable def f_X9_isCell (t : Sx) (a1 : Int32) (a2 : Int32) (a3 : Int32) : Option Int32 := (f_X9_there t (a1)).bind fun r1 => if r1 = 0 then some 0 else (f_X9_in t (a2) (0) (2)).bind fun r2 => if r2 = 0 then some 0 else (f_X9_in t (a3) (0) (5)).bind fun r3 => if r3 = 0 then some 0 else some 1
set_option maxRecDepth 20000 in
set_option maxHeartbeats 4000000 in
theorem c_X9_isCell (l : Launch) (K : Kx) (t : Sx) (a1 : Int32) (a2 : Int32) (a3 : Int32) : CT l K yX9_isCell wsX9_isCell ({ frames := 2, cells := 0, slots := 0, locals := 43 } : Room) [.ref (K.2.2 24), .int a1, .int a2, .int a3] t (f_X9_isCell t a1 a2 a3) (kRI t) := by
  refine CT_of (cc := cX9_isCell) (maxL := 4) (ret := (some .boolean)) (own := RX9) (by decide +kernel) rfl rfl (Nat.le_of_ble_eq_true rfl) ?_
  intro p e s m args below meth c hc
  refine V_sub (lv' := [(0, .ref (K.2.2 24)), (1, .int a1), (2, .int a2), (3, .int a3)]) [0, 1, 2, 3] rfl ?_
  unfold f_X9_isCell
  refine V_aload_n hc dX9_isCell_0 rfl 0 rfl ?_
  refine V_iload_n hc dX9_isCell_1 rfl 1 rfl ?_
  refine V_callV_RI (Cn := RX9) (T := TX9) (N := 28) hc (c_X9_there l K t (a1)) sP24 rfl 1 gX9_isCell_X9_there rfl ⟨rfl, rfl⟩ (by decide) ⟨Nat.le_of_ble_eq_true rfl, Nat.le_of_ble_eq_true rfl⟩ rfl rfl (Nat.le_of_ble_eq_true rfl) dX9_isCell_2 (fun r1 => ?_)
  refine V_if_eq (tgt := 30) hc dX9_isCell_5 (by decide) ?_ ?_
  · refine V_iconst (v := 0) hc dX9_isCell_30 (by decide) ?_
    exact V_nret hc rfl rfl rfl dX9_isCell_31
  · refine V_iload_n hc dX9_isCell_8 rfl 2 rfl ?_
    refine V_iconst (v := 0) hc dX9_isCell_9 (by decide) ?_
    refine V_iconst (v := 2) hc dX9_isCell_10 (by decide) ?_
    refine V_callS_RI hc (c_X9_in l K t (a2) (0) (2)) 3 gX9_isCell_X9_in rfl ⟨rfl, rfl⟩ (by decide) ⟨Nat.le_of_ble_eq_true rfl, Nat.le_of_ble_eq_true rfl⟩ rfl rfl (Nat.le_of_ble_eq_true rfl) dX9_isCell_11 (fun r2 => ?_)
    refine V_if_eq (tgt := 30) hc dX9_isCell_14 (by decide) ?_ ?_
    · refine V_iconst (v := 0) hc dX9_isCell_30 (by decide) ?_
      exact V_nret hc rfl rfl rfl dX9_isCell_31
    · refine V_iload_n hc dX9_isCell_17 rfl 3 rfl ?_
      refine V_iconst (v := 0) hc dX9_isCell_18 (by decide) ?_
      refine V_iconst (v := 5) hc dX9_isCell_19 (by decide) ?_
      refine V_callS_RI hc (c_X9_in l K t (a3) (0) (5)) 3 gX9_isCell_X9_in rfl ⟨rfl, rfl⟩ (by decide) ⟨Nat.le_of_ble_eq_true rfl, Nat.le_of_ble_eq_true rfl⟩ rfl rfl (Nat.le_of_ble_eq_true rfl) dX9_isCell_20 (fun r3 => ?_)
      refine V_if_eq (tgt := 30) hc dX9_isCell_23 (by decide) ?_ ?_
      · refine V_iconst (v := 0) hc dX9_isCell_30 (by decide) ?_
        exact V_nret hc rfl rfl rfl dX9_isCell_31
      · refine V_iconst (v := 1) hc dX9_isCell_26 (by decide) ?_
        refine V_goto (tgt := 31) hc dX9_isCell_27 (by decide) ?_
        exact V_nret hc rfl rfl rfl dX9_isCell_31

theorem kX9_setValue_20 : Cond.fieldLink RX9 20 RX9 (TX9 3).2.1 (TX9 3).2.2.1 ∈ wsX9_setValue := by decide +kernel
theorem qX9_setValue_RX9 : ∀ w ∈ u_ws RX9 TX9 28, w ∈ wsX9_setValue := by
  first
  | exact fun _ h => List.mem_cons_of_mem _ (List.mem_append_right _ h)
  | exact fun _ h => List.mem_cons_of_mem _ (List.mem_append_left _ (List.mem_append_right _ h))
  | exact fun _ h => List.mem_cons_of_mem _ (List.mem_append_left _ (List.mem_append_left _ (List.mem_append_right _ h)))
  | exact fun _ h => List.mem_cons_of_mem _ (List.mem_append_left _ (List.mem_append_left _ (List.mem_append_left _ (List.mem_append_right _ h))))
  | exact fun _ h => List.mem_cons_of_mem _ (List.mem_append_left _ (List.mem_append_left _ (List.mem_append_left _ (List.mem_append_left _ (List.mem_append_right _ h)))))
  | decide +kernel
theorem kX9_setValue_23 : Cond.fieldLink RX9 23 RX9 (TX9 4).2.1 (TX9 4).2.2.1 ∈ wsX9_setValue := by decide +kernel
noncomputable def f_X9_setValue (t : Sx) (a1 : Int32) (a2 : Int32) (a3 : Int32) (a4 : Int32) : Option (Int32 × Sx) := (f_X9_isCell t (a1) (a2) (a3)).bind fun r1 => if r1 = 0 then some ((-1), t) else (f_X9_fits t (a3) (a4)).bind fun r2 => if r2 = 0 then some ((-1), t) else gd (vp_in (((18 * a1) + (6 * a2)) + a3) 720) (if (gA t 26 (ix (((18 * a1) + (6 * a2)) + a3))) = 0 then gd (vp_in (((18 * a1) + (6 * a2)) + a3) 720) (bd (pA t 26 (ix (((18 * a1) + (6 * a2)) + a3)) 1) fun t3 => gd (vp_in (((18 * a1) + (6 * a2)) + a3) 720) (bd (pA t3 27 (ix (((18 * a1) + (6 * a2)) + a3)) a4) fun t4 => (f_X9_settled t4 (-4)).bind fun r5 => some (r5.1, r5.2))) else gd (vp_in (((18 * a1) + (6 * a2)) + a3) 720) (gd (vp_in (((18 * a1) + (6 * a2)) + a3) 720) (bd (pA t 26 (ix (((18 * a1) + (6 * a2)) + a3)) 1) fun t6 => gd (vp_in (((18 * a1) + (6 * a2)) + a3) 720) (bd (pA t6 27 (ix (((18 * a1) + (6 * a2)) + a3)) a4) fun t7 => (f_X9_settled t7 (gA t 27 (ix (((18 * a1) + (6 * a2)) + a3)))).bind fun r8 => some (r8.1, r8.2)))))
set_option maxRecDepth 20000 in
set_option maxHeartbeats 4000000 in
theorem c_X9_setValue (l : Launch) (K : Kx) (t : Sx) (a1 : Int32) (a2 : Int32) (a3 : Int32) (a4 : Int32) : CT l K yX9_setValue wsX9_setValue ({ frames := 9, cells := 0, slots := 0, locals := 207 } : Room) [.ref (K.2.2 24), .int a1, .int a2, .int a3, .int a4] t (f_X9_setValue t a1 a2 a3 a4) kWI := by
  refine CT_of (cc := cX9_setValue) (maxL := 7) (ret := (some .int)) (own := RX9) (by decide +kernel) rfl rfl (Nat.le_of_ble_eq_true rfl) ?_
  intro p e s m args below meth c hc
  refine V_sub (lv' := [(0, .ref (K.2.2 24)), (1, .int a1), (2, .int a2), (3, .int a3), (4, .int a4)]) [0, 1, 2, 3, 4] rfl ?_
  unfold f_X9_setValue
  refine V_aload_n hc dX9_setValue_0 rfl 0 rfl ?_
  refine V_iload_n hc dX9_setValue_1 rfl 1 rfl ?_
  refine V_iload_n hc dX9_setValue_2 rfl 2 rfl ?_
  refine V_iload_n hc dX9_setValue_3 rfl 3 rfl ?_
  refine V_callV_RI (Cn := RX9) (T := TX9) (N := 28) hc (c_X9_isCell l K t (a1) (a2) (a3)) sP24 rfl 3 gX9_setValue_X9_isCell rfl ⟨rfl, rfl⟩ (by decide) ⟨Nat.le_of_ble_eq_true rfl, Nat.le_of_ble_eq_true rfl⟩ rfl rfl (Nat.le_of_ble_eq_true rfl) dX9_setValue_4 (fun r1 => ?_)
  refine V_if_eq (tgt := 19) hc dX9_setValue_7 (by decide) ?_ ?_
  · refine V_iconst (v := (-1)) hc dX9_setValue_19 (by decide) ?_
    exact V_iret hc rfl rfl dX9_setValue_20
  · refine V_iload_n hc dX9_setValue_10 rfl 3 rfl ?_
    refine V_iload hc dX9_setValue_11 4 rfl ?_
    refine V_callS_RI hc (c_X9_fits l K t (a3) (a4)) 2 gX9_setValue_X9_fits rfl ⟨rfl, rfl⟩ (by decide) ⟨Nat.le_of_ble_eq_true rfl, Nat.le_of_ble_eq_true rfl⟩ rfl rfl (Nat.le_of_ble_eq_true rfl) dX9_setValue_13 (fun r2 => ?_)
    refine V_if_ne (tgt := 21) hc dX9_setValue_16 (by decide) ?_ ?_
    · refine V_bipush (v := 18) hc dX9_setValue_21 (by decide) ?_
      refine V_iload_n hc dX9_setValue_23 rfl 1 rfl ?_
      refine V_imul hc dX9_setValue_24 ?_
      refine V_bipush (v := 6) hc dX9_setValue_25 (by decide) ?_
      refine V_iload_n hc dX9_setValue_27 rfl 2 rfl ?_
      refine V_imul hc dX9_setValue_28 ?_
      refine V_iadd hc dX9_setValue_29 ?_
      refine V_iload_n hc dX9_setValue_30 rfl 3 rfl ?_
      refine V_iadd hc dX9_setValue_31 ?_
      refine V_istore (lv' := [(5, .int (((18 * a1) + (6 * a2)) + a3)), (0, .ref (K.2.2 24)), (1, .int a1), (2, .int a2), (3, .int a3), (4, .int a4)]) hc dX9_setValue_32 (by decide) rfl ?_
      refine V_aload_n hc dX9_setValue_34 rfl 1 rfl ?_
      refine V_getr (C := RX9) (T := TX9) (N := 28) hc sP24 rfl qX9_setValue_RX9 3 rfl (by decide) kX9_setValue_20 rfl dX9_setValue_35 ?_
      refine V_iload hc dX9_setValue_38 0 rfl ?_
      refine V_zald hc sP28 dX9_setValue_40 ?_
      refine V_if_eq (tgt := 54) hc dX9_setValue_41 (by decide) ?_ ?_
      · refine V_bipush (v := (-4)) hc dX9_setValue_54 (by decide) ?_
        refine V_istore (lv' := [(6, .int (-4)), (5, .int (((18 * a1) + (6 * a2)) + a3)), (0, .ref (K.2.2 24)), (1, .int a1), (2, .int a2), (3, .int a3), (4, .int a4)]) hc dX9_setValue_56 (by decide) rfl ?_
        refine V_aload_n hc dX9_setValue_58 rfl 2 rfl ?_
        refine V_getr (C := RX9) (T := TX9) (N := 28) hc sP24 rfl qX9_setValue_RX9 3 rfl (by decide) kX9_setValue_20 rfl dX9_setValue_59 ?_
        refine V_iload hc dX9_setValue_62 1 rfl ?_
        refine V_iconst (v := 1) hc dX9_setValue_64 (by decide) ?_
        refine V_zastc hc sP28 (Or.inr rfl) dX9_setValue_65 ?_
        refine V_bds (fun t3 => ?_)
        refine V_aload_n hc dX9_setValue_66 rfl 2 rfl ?_
        refine V_getr (C := RX9) (T := TX9) (N := 28) hc sP24 rfl qX9_setValue_RX9 4 rfl (by decide) kX9_setValue_23 rfl dX9_setValue_67 ?_
        refine V_iload hc dX9_setValue_70 1 rfl ?_
        refine V_iload hc dX9_setValue_72 6 rfl ?_
        refine V_iast hc sP29 dX9_setValue_74 ?_
        refine V_bds (fun t4 => ?_)
        refine V_aload_n hc dX9_setValue_75 rfl 2 rfl ?_
        refine V_iload hc dX9_setValue_76 0 rfl ?_
        refine V_callV_WI (Cn := RX9) (T := TX9) (N := 28) hc (c_X9_settled l K t4 (-4)) sP24 rfl 1 gX9_setValue_X9_settled rfl ⟨rfl, rfl⟩ (by decide) ⟨Nat.le_of_ble_eq_true rfl, Nat.le_of_ble_eq_true rfl⟩ rfl rfl (Nat.le_of_ble_eq_true rfl) dX9_setValue_78 (fun r5 => ?_)
        exact V_iret hc rfl rfl dX9_setValue_81
      · refine V_aload_n hc dX9_setValue_44 rfl 1 rfl ?_
        refine V_getr (C := RX9) (T := TX9) (N := 28) hc sP24 rfl qX9_setValue_RX9 4 rfl (by decide) kX9_setValue_23 rfl dX9_setValue_45 ?_
        refine V_iload hc dX9_setValue_48 0 rfl ?_
        refine V_iald hc sP29 dX9_setValue_50 ?_
        refine V_goto (tgt := 56) hc dX9_setValue_51 (by decide) ?_
        refine V_istore (lv' := [(6, .int (gA t 27 (ix (((18 * a1) + (6 * a2)) + a3)))), (5, .int (((18 * a1) + (6 * a2)) + a3)), (0, .ref (K.2.2 24)), (1, .int a1), (2, .int a2), (3, .int a3), (4, .int a4)]) hc dX9_setValue_56 (by decide) rfl ?_
        refine V_aload_n hc dX9_setValue_58 rfl 2 rfl ?_
        refine V_getr (C := RX9) (T := TX9) (N := 28) hc sP24 rfl qX9_setValue_RX9 3 rfl (by decide) kX9_setValue_20 rfl dX9_setValue_59 ?_
        refine V_iload hc dX9_setValue_62 1 rfl ?_
        refine V_iconst (v := 1) hc dX9_setValue_64 (by decide) ?_
        refine V_zastc hc sP28 (Or.inr rfl) dX9_setValue_65 ?_
        refine V_bds (fun t6 => ?_)
        refine V_aload_n hc dX9_setValue_66 rfl 2 rfl ?_
        refine V_getr (C := RX9) (T := TX9) (N := 28) hc sP24 rfl qX9_setValue_RX9 4 rfl (by decide) kX9_setValue_23 rfl dX9_setValue_67 ?_
        refine V_iload hc dX9_setValue_70 1 rfl ?_
        refine V_iload hc dX9_setValue_72 6 rfl ?_
        refine V_iast hc sP29 dX9_setValue_74 ?_
        refine V_bds (fun t7 => ?_)
        refine V_aload_n hc dX9_setValue_75 rfl 2 rfl ?_
        refine V_iload hc dX9_setValue_76 0 rfl ?_
        refine V_callV_WI (Cn := RX9) (T := TX9) (N := 28) hc (c_X9_settled l K t7 (gA t 27 (ix (((18 * a1) + (6 * a2)) + a3)))) sP24 rfl 1 gX9_setValue_X9_settled rfl ⟨rfl, rfl⟩ (by decide) ⟨Nat.le_of_ble_eq_true rfl, Nat.le_of_ble_eq_true rfl⟩ rfl rfl (Nat.le_of_ble_eq_true rfl) dX9_setValue_78 (fun r8 => ?_)
        exact V_iret hc rfl rfl dX9_setValue_81
    · refine V_iconst (v := (-1)) hc dX9_setValue_19 (by decide) ?_
      exact V_iret hc rfl rfl dX9_setValue_20

theorem kX9_clearValue_20 : Cond.fieldLink RX9 20 RX9 (TX9 3).2.1 (TX9 3).2.2.1 ∈ wsX9_clearValue := by decide +kernel
theorem qX9_clearValue_RX9 : ∀ w ∈ u_ws RX9 TX9 28, w ∈ wsX9_clearValue := by
  first
  | exact fun _ h => List.mem_cons_of_mem _ (List.mem_append_right _ h)
  | exact fun _ h => List.mem_cons_of_mem _ (List.mem_append_left _ (List.mem_append_right _ h))
  | exact fun _ h => List.mem_cons_of_mem _ (List.mem_append_left _ (List.mem_append_left _ (List.mem_append_right _ h)))
  | exact fun _ h => List.mem_cons_of_mem _ (List.mem_append_left _ (List.mem_append_left _ (List.mem_append_left _ (List.mem_append_right _ h))))
  | exact fun _ h => List.mem_cons_of_mem _ (List.mem_append_left _ (List.mem_append_left _ (List.mem_append_left _ (List.mem_append_left _ (List.mem_append_right _ h)))))
  | decide +kernel
theorem kX9_clearValue_23 : Cond.fieldLink RX9 23 RX9 (TX9 4).2.1 (TX9 4).2.2.1 ∈ wsX9_clearValue := by decide +kernel
noncomputable def f_X9_clearValue (t : Sx) (a1 : Int32) (a2 : Int32) (a3 : Int32) : Option (Int32 × Sx) := (f_X9_isCell t (a1) (a2) (a3)).bind fun r1 => if r1 = 0 then some ((-1), t) else gd (vp_in (((18 * a1) + (6 * a2)) + a3) 720) (if (gA t 26 (ix (((18 * a1) + (6 * a2)) + a3))) = 0 then some ((-4), t) else gd (vp_in (((18 * a1) + (6 * a2)) + a3) 720) (bd (pA t 26 (ix (((18 * a1) + (6 * a2)) + a3)) 0) fun t2 => gd (vp_in (((18 * a1) + (6 * a2)) + a3) 720) ((f_X9_settled t2 (gA t2 27 (ix (((18 * a1) + (6 * a2)) + a3)))).bind fun r3 => some (r3.1, r3.2))))
set_option maxRecDepth 20000 in
set_option maxHeartbeats 4000000 in
theorem c_X9_clearValue (l : Launch) (K : Kx) (t : Sx) (a1 : Int32) (a2 : Int32) (a3 : Int32) : CT l K yX9_clearValue wsX9_clearValue ({ frames := 9, cells := 0, slots := 0, locals := 207 } : Room) [.ref (K.2.2 24), .int a1, .int a2, .int a3] t (f_X9_clearValue t a1 a2 a3) kWI := by
  refine CT_of (cc := cX9_clearValue) (maxL := 5) (ret := (some .int)) (own := RX9) (by decide +kernel) rfl rfl (Nat.le_of_ble_eq_true rfl) ?_
  intro p e s m args below meth c hc
  refine V_sub (lv' := [(0, .ref (K.2.2 24)), (1, .int a1), (2, .int a2), (3, .int a3)]) [0, 1, 2, 3] rfl ?_
  unfold f_X9_clearValue
  refine V_aload_n hc dX9_clearValue_0 rfl 0 rfl ?_
  refine V_iload_n hc dX9_clearValue_1 rfl 1 rfl ?_
  refine V_iload_n hc dX9_clearValue_2 rfl 2 rfl ?_
  refine V_iload_n hc dX9_clearValue_3 rfl 3 rfl ?_
  refine V_callV_RI (Cn := RX9) (T := TX9) (N := 28) hc (c_X9_isCell l K t (a1) (a2) (a3)) sP24 rfl 3 gX9_clearValue_X9_isCell rfl ⟨rfl, rfl⟩ (by decide) ⟨Nat.le_of_ble_eq_true rfl, Nat.le_of_ble_eq_true rfl⟩ rfl rfl (Nat.le_of_ble_eq_true rfl) dX9_clearValue_4 (fun r1 => ?_)
  refine V_if_ne (tgt := 12) hc dX9_clearValue_7 (by decide) ?_ ?_
  · refine V_bipush (v := 18) hc dX9_clearValue_12 (by decide) ?_
    refine V_iload_n hc dX9_clearValue_14 rfl 1 rfl ?_
    refine V_imul hc dX9_clearValue_15 ?_
    refine V_bipush (v := 6) hc dX9_clearValue_16 (by decide) ?_
    refine V_iload_n hc dX9_clearValue_18 rfl 2 rfl ?_
    refine V_imul hc dX9_clearValue_19 ?_
    refine V_iadd hc dX9_clearValue_20 ?_
    refine V_iload_n hc dX9_clearValue_21 rfl 3 rfl ?_
    refine V_iadd hc dX9_clearValue_22 ?_
    refine V_istore (lv' := [(4, .int (((18 * a1) + (6 * a2)) + a3)), (0, .ref (K.2.2 24)), (1, .int a1), (2, .int a2), (3, .int a3)]) hc dX9_clearValue_23 (by decide) rfl ?_
    refine V_aload_n hc dX9_clearValue_25 rfl 1 rfl ?_
    refine V_getr (C := RX9) (T := TX9) (N := 28) hc sP24 rfl qX9_clearValue_RX9 3 rfl (by decide) kX9_clearValue_20 rfl dX9_clearValue_26 ?_
    refine V_iload hc dX9_clearValue_29 0 rfl ?_
    refine V_zald hc sP28 dX9_clearValue_31 ?_
    refine V_if_ne (tgt := 38) hc dX9_clearValue_32 (by decide) ?_ ?_
    · refine V_aload_n hc dX9_clearValue_38 rfl 1 rfl ?_
      refine V_getr (C := RX9) (T := TX9) (N := 28) hc sP24 rfl qX9_clearValue_RX9 3 rfl (by decide) kX9_clearValue_20 rfl dX9_clearValue_39 ?_
      refine V_iload hc dX9_clearValue_42 0 rfl ?_
      refine V_iconst (v := 0) hc dX9_clearValue_44 (by decide) ?_
      refine V_zastc hc sP28 (Or.inl rfl) dX9_clearValue_45 ?_
      refine V_bds (fun t2 => ?_)
      refine V_aload_n hc dX9_clearValue_46 rfl 1 rfl ?_
      refine V_aload_n hc dX9_clearValue_47 rfl 1 rfl ?_
      refine V_getr (C := RX9) (T := TX9) (N := 28) hc sP24 rfl qX9_clearValue_RX9 4 rfl (by decide) kX9_clearValue_23 rfl dX9_clearValue_48 ?_
      refine V_iload hc dX9_clearValue_51 0 rfl ?_
      refine V_iald hc sP29 dX9_clearValue_53 ?_
      refine V_callV_WI (Cn := RX9) (T := TX9) (N := 28) hc (c_X9_settled l K t2 (gA t2 27 (ix (((18 * a1) + (6 * a2)) + a3)))) sP24 rfl 1 gX9_clearValue_X9_settled rfl ⟨rfl, rfl⟩ (by decide) ⟨Nat.le_of_ble_eq_true rfl, Nat.le_of_ble_eq_true rfl⟩ rfl rfl (Nat.le_of_ble_eq_true rfl) dX9_clearValue_54 (fun r3 => ?_)
      exact V_iret hc rfl rfl dX9_clearValue_57
    · refine V_bipush (v := (-4)) hc dX9_clearValue_35 (by decide) ?_
      exact V_iret hc rfl rfl dX9_clearValue_37
  · refine V_iconst (v := (-1)) hc dX9_clearValue_10 (by decide) ?_
    exact V_iret hc rfl rfl dX9_clearValue_11

theorem kX9_value_17 : Cond.fieldLink RX9 17 RX9 (TX9 2).2.1 (TX9 2).2.2.1 ∈ wsX9_value := by decide +kernel
theorem qX9_value_RX9 : ∀ w ∈ u_ws RX9 TX9 28, w ∈ wsX9_value := by
  first
  | exact fun _ h => List.mem_cons_of_mem _ (List.mem_append_right _ h)
  | exact fun _ h => List.mem_cons_of_mem _ (List.mem_append_left _ (List.mem_append_right _ h))
  | exact fun _ h => List.mem_cons_of_mem _ (List.mem_append_left _ (List.mem_append_left _ (List.mem_append_right _ h)))
  | exact fun _ h => List.mem_cons_of_mem _ (List.mem_append_left _ (List.mem_append_left _ (List.mem_append_left _ (List.mem_append_right _ h))))
  | exact fun _ h => List.mem_cons_of_mem _ (List.mem_append_left _ (List.mem_append_left _ (List.mem_append_left _ (List.mem_append_left _ (List.mem_append_right _ h)))))
  | decide +kernel
theorem kX9_value_13 : Cond.fieldLink RX9 13 RX9 (TX9 1).2.1 (TX9 1).2.2.1 ∈ wsX9_value := by decide +kernel
noncomputable def f_X9_value (t : Sx) (a1 : Int32) (a2 : Int32) : Option Int32 := (f_X9_there t (a1)).bind fun r1 => if r1 = 0 then some (-1) else (f_X9_in t (a2) (0) (7)).bind fun r2 => if r2 = 0 then some (-1) else if 5 ≤ a2 then if a2 = 5 then (f_X9_tags t (a1)).bind fun r3 => some r3 else if a2 = 6 then gd (vp_in a1 40) (some (gA t 24 (ix a1))) else gd (vp_in a1 40) (some (gA t 25 (ix a1))) else (f_X9_valueOr t (a1) (a2) (-4)).bind fun r4 => some r4
set_option maxRecDepth 20000 in
set_option maxHeartbeats 4000000 in
theorem c_X9_value (l : Launch) (K : Kx) (t : Sx) (a1 : Int32) (a2 : Int32) : CT l K yX9_value wsX9_value ({ frames := 2, cells := 0, slots := 0, locals := 47 } : Room) [.ref (K.2.2 24), .int a1, .int a2] t (f_X9_value t a1 a2) (kRI t) := by
  refine CT_of (cc := cX9_value) (maxL := 3) (ret := (some .int)) (own := RX9) (by decide +kernel) rfl rfl (Nat.le_of_ble_eq_true rfl) ?_
  intro p e s m args below meth c hc
  refine V_sub (lv' := [(0, .ref (K.2.2 24)), (1, .int a1), (2, .int a2)]) [0, 1, 2] rfl ?_
  unfold f_X9_value
  refine V_aload_n hc dX9_value_0 rfl 0 rfl ?_
  refine V_iload_n hc dX9_value_1 rfl 1 rfl ?_
  refine V_callV_RI (Cn := RX9) (T := TX9) (N := 28) hc (c_X9_there l K t (a1)) sP24 rfl 1 gX9_value_X9_there rfl ⟨rfl, rfl⟩ (by decide) ⟨Nat.le_of_ble_eq_true rfl, Nat.le_of_ble_eq_true rfl⟩ rfl rfl (Nat.le_of_ble_eq_true rfl) dX9_value_2 (fun r1 => ?_)
  refine V_if_eq (tgt := 18) hc dX9_value_5 (by decide) ?_ ?_
  · refine V_iconst (v := (-1)) hc dX9_value_18 (by decide) ?_
    exact V_iret hc rfl rfl dX9_value_19
  · refine V_iload_n hc dX9_value_8 rfl 2 rfl ?_
    refine V_iconst (v := 0) hc dX9_value_9 (by decide) ?_
    refine V_bipush (v := 7) hc dX9_value_10 (by decide) ?_
    refine V_callS_RI hc (c_X9_in l K t (a2) (0) (7)) 3 gX9_value_X9_in rfl ⟨rfl, rfl⟩ (by decide) ⟨Nat.le_of_ble_eq_true rfl, Nat.le_of_ble_eq_true rfl⟩ rfl rfl (Nat.le_of_ble_eq_true rfl) dX9_value_12 (fun r2 => ?_)
    refine V_if_ne (tgt := 20) hc dX9_value_15 (by decide) ?_ ?_
    · refine V_iload_n hc dX9_value_20 rfl 2 rfl ?_
      refine V_iconst (v := 5) hc dX9_value_21 (by decide) ?_
      refine V_icmp_ge (tgt := 36) hc dX9_value_22 (by decide) ?_ ?_
      · refine V_iload_n hc dX9_value_36 rfl 2 rfl ?_
        refine V_iconst (v := 5) hc dX9_value_37 (by decide) ?_
        refine V_icmp_ne (tgt := 49) hc dX9_value_38 (by decide) ?_ ?_
        · refine V_iload_n hc dX9_value_49 rfl 2 rfl ?_
          refine V_bipush (v := 6) hc dX9_value_50 (by decide) ?_
          refine V_icmp_ne (tgt := 64) hc dX9_value_52 (by decide) ?_ ?_
          · refine V_aload_n hc dX9_value_64 rfl 0 rfl ?_
            refine V_getr (C := RX9) (T := TX9) (N := 28) hc sP24 rfl qX9_value_RX9 2 rfl (by decide) kX9_value_17 rfl dX9_value_65 ?_
            refine V_iload_n hc dX9_value_68 rfl 1 rfl ?_
            refine V_iald hc sP27 dX9_value_69 ?_
            exact V_iret hc rfl rfl dX9_value_70
          · refine V_aload_n hc dX9_value_55 rfl 0 rfl ?_
            refine V_getr (C := RX9) (T := TX9) (N := 28) hc sP24 rfl qX9_value_RX9 1 rfl (by decide) kX9_value_13 rfl dX9_value_56 ?_
            refine V_iload_n hc dX9_value_59 rfl 1 rfl ?_
            refine V_iald hc sP26 dX9_value_60 ?_
            refine V_goto (tgt := 70) hc dX9_value_61 (by decide) ?_
            exact V_iret hc rfl rfl dX9_value_70
        · refine V_aload_n hc dX9_value_41 rfl 0 rfl ?_
          refine V_iload_n hc dX9_value_42 rfl 1 rfl ?_
          refine V_callV_RI (Cn := RX9) (T := TX9) (N := 28) hc (c_X9_tags l K t (a1)) sP24 rfl 1 gX9_value_X9_tags rfl ⟨rfl, rfl⟩ (by decide) ⟨Nat.le_of_ble_eq_true rfl, Nat.le_of_ble_eq_true rfl⟩ rfl rfl (Nat.le_of_ble_eq_true rfl) dX9_value_43 (fun r3 => ?_)
          refine V_goto (tgt := 70) hc dX9_value_46 (by decide) ?_
          exact V_iret hc rfl rfl dX9_value_70
      · refine V_aload_n hc dX9_value_25 rfl 0 rfl ?_
        refine V_iload_n hc dX9_value_26 rfl 1 rfl ?_
        refine V_iload_n hc dX9_value_27 rfl 2 rfl ?_
        refine V_bipush (v := (-4)) hc dX9_value_28 (by decide) ?_
        refine V_callV_RI (Cn := RX9) (T := TX9) (N := 28) hc (c_X9_valueOr l K t (a1) (a2) (-4)) sP24 rfl 3 gX9_value_X9_valueOr rfl ⟨rfl, rfl⟩ (by decide) ⟨Nat.le_of_ble_eq_true rfl, Nat.le_of_ble_eq_true rfl⟩ rfl rfl (Nat.le_of_ble_eq_true rfl) dX9_value_30 (fun r4 => ?_)
        refine V_goto (tgt := 70) hc dX9_value_33 (by decide) ?_
        exact V_iret hc rfl rfl dX9_value_70
    · refine V_iconst (v := (-1)) hc dX9_value_18 (by decide) ?_
      exact V_iret hc rfl rfl dX9_value_19


noncomputable def f_X9_sourceOf (t : Sx) (a1 : Int32) (a2 : Int32) : Option Int32 := (f_X9_there t (a1)).bind fun r1 => if r1 = 0 then some (-1) else (f_X9_in t (a2) (0) (4)).bind fun r2 => if r2 = 0 then some (-1) else (f_X9_source t (a1) (a2)).bind fun r3 => some r3
set_option maxRecDepth 20000 in
set_option maxHeartbeats 4000000 in
theorem c_X9_sourceOf (l : Launch) (K : Kx) (t : Sx) (a1 : Int32) (a2 : Int32) : CT l K yX9_sourceOf wsX9_sourceOf ({ frames := 2, cells := 0, slots := 0, locals := 43 } : Room) [.ref (K.2.2 24), .int a1, .int a2] t (f_X9_sourceOf t a1 a2) (kRI t) := by
  refine CT_of (cc := cX9_sourceOf) (maxL := 3) (ret := (some .int)) (own := RX9) (by decide +kernel) rfl rfl (Nat.le_of_ble_eq_true rfl) ?_
  intro p e s m args below meth c hc
  refine V_sub (lv' := [(0, .ref (K.2.2 24)), (1, .int a1), (2, .int a2)]) [0, 1, 2] rfl ?_
  unfold f_X9_sourceOf
  refine V_aload_n hc dX9_sourceOf_0 rfl 0 rfl ?_
  refine V_iload_n hc dX9_sourceOf_1 rfl 1 rfl ?_
  refine V_callV_RI (Cn := RX9) (T := TX9) (N := 28) hc (c_X9_there l K t (a1)) sP24 rfl 1 gX9_sourceOf_X9_there rfl ⟨rfl, rfl⟩ (by decide) ⟨Nat.le_of_ble_eq_true rfl, Nat.le_of_ble_eq_true rfl⟩ rfl rfl (Nat.le_of_ble_eq_true rfl) dX9_sourceOf_2 (fun r1 => ?_)
  refine V_if_eq (tgt := 26) hc dX9_sourceOf_5 (by decide) ?_ ?_
  · refine V_iconst (v := (-1)) hc dX9_sourceOf_26 (by decide) ?_
    exact V_iret hc rfl rfl dX9_sourceOf_27
  · refine V_iload_n hc dX9_sourceOf_8 rfl 2 rfl ?_
    refine V_iconst (v := 0) hc dX9_sourceOf_9 (by decide) ?_
    refine V_iconst (v := 4) hc dX9_sourceOf_10 (by decide) ?_
    refine V_callS_RI hc (c_X9_in l K t (a2) (0) (4)) 3 gX9_sourceOf_X9_in rfl ⟨rfl, rfl⟩ (by decide) ⟨Nat.le_of_ble_eq_true rfl, Nat.le_of_ble_eq_true rfl⟩ rfl rfl (Nat.le_of_ble_eq_true rfl) dX9_sourceOf_11 (fun r2 => ?_)
    refine V_if_eq (tgt := 26) hc dX9_sourceOf_14 (by decide) ?_ ?_
    · refine V_iconst (v := (-1)) hc dX9_sourceOf_26 (by decide) ?_
      exact V_iret hc rfl rfl dX9_sourceOf_27
    · refine V_aload_n hc dX9_sourceOf_17 rfl 0 rfl ?_
      refine V_iload_n hc dX9_sourceOf_18 rfl 1 rfl ?_
      refine V_iload_n hc dX9_sourceOf_19 rfl 2 rfl ?_
      refine V_callV_RI (Cn := RX9) (T := TX9) (N := 28) hc (c_X9_source l K t (a1) (a2)) sP24 rfl 2 gX9_sourceOf_X9_source rfl ⟨rfl, rfl⟩ (by decide) ⟨Nat.le_of_ble_eq_true rfl, Nat.le_of_ble_eq_true rfl⟩ rfl rfl (Nat.le_of_ble_eq_true rfl) dX9_sourceOf_20 (fun r3 => ?_)
      refine V_goto (tgt := 27) hc dX9_sourceOf_23 (by decide) ?_
      exact V_iret hc rfl rfl dX9_sourceOf_27

theorem kX9_setOrder_26 : Cond.fieldLink RX9 26 RX9 (TX9 5).2.1 (TX9 5).2.2.1 ∈ wsX9_setOrder := by decide +kernel
theorem qX9_setOrder_RX9 : ∀ w ∈ u_ws RX9 TX9 28, w ∈ wsX9_setOrder := by
  first
  | exact fun _ h => List.mem_cons_of_mem _ (List.mem_append_right _ h)
  | exact fun _ h => List.mem_cons_of_mem _ (List.mem_append_left _ (List.mem_append_right _ h))
  | exact fun _ h => List.mem_cons_of_mem _ (List.mem_append_left _ (List.mem_append_left _ (List.mem_append_right _ h)))
  | exact fun _ h => List.mem_cons_of_mem _ (List.mem_append_left _ (List.mem_append_left _ (List.mem_append_left _ (List.mem_append_right _ h))))
  | exact fun _ h => List.mem_cons_of_mem _ (List.mem_append_left _ (List.mem_append_left _ (List.mem_append_left _ (List.mem_append_left _ (List.mem_append_right _ h)))))
  | decide +kernel
noncomputable def f_X9_setOrder (t : Sx) (a1 : Int32) (a2 : Int32) (a3 : Int32) : Option (Int32 × Sx) := (f_X9_in t (a1) (0) (2)).bind fun r1 => if r1 = 0 then if (0 : Int32) = 0 then some ((-1), t) else if a1 = a2 then some ((-1), t) else if a1 = a3 then some ((-1), t) else if a2 = a3 then some ((-1), t) else gd (vp_in 0 3) (gd (vp_in 1 3) (bd (((100 * (gA t 28 (ix 0))) + (10 * (gA t 28 (ix 1))))) fun v2 => gd (vp_in 2 3) (gd (vp_in 0 3) (bd (pA t 28 (ix 0) a1) fun t3 => gd (vp_in 1 3) (bd (pA t3 28 (ix 1) a2) fun t4 => gd (vp_in 2 3) (bd (pA t4 28 (ix 2) a3) fun t5 => (f_X9_settled t5 (v2 + (gA t 28 (ix 2)))).bind fun r6 => some (r6.1, r6.2))))))) else (f_X9_in t (a2) (0) (2)).bind fun r7 => if r7 = 0 then if (0 : Int32) = 0 then some ((-1), t) else if a1 = a2 then some ((-1), t) else if a1 = a3 then some ((-1), t) else if a2 = a3 then some ((-1), t) else gd (vp_in 0 3) (gd (vp_in 1 3) (bd (((100 * (gA t 28 (ix 0))) + (10 * (gA t 28 (ix 1))))) fun v8 => gd (vp_in 2 3) (gd (vp_in 0 3) (bd (pA t 28 (ix 0) a1) fun t9 => gd (vp_in 1 3) (bd (pA t9 28 (ix 1) a2) fun t10 => gd (vp_in 2 3) (bd (pA t10 28 (ix 2) a3) fun t11 => (f_X9_settled t11 (v8 + (gA t 28 (ix 2)))).bind fun r12 => some (r12.1, r12.2))))))) else (f_X9_in t (a3) (0) (2)).bind fun r13 => if r13 = 0 then if (0 : Int32) = 0 then some ((-1), t) else if a1 = a2 then some ((-1), t) else if a1 = a3 then some ((-1), t) else if a2 = a3 then some ((-1), t) else gd (vp_in 0 3) (gd (vp_in 1 3) (bd (((100 * (gA t 28 (ix 0))) + (10 * (gA t 28 (ix 1))))) fun v14 => gd (vp_in 2 3) (gd (vp_in 0 3) (bd (pA t 28 (ix 0) a1) fun t15 => gd (vp_in 1 3) (bd (pA t15 28 (ix 1) a2) fun t16 => gd (vp_in 2 3) (bd (pA t16 28 (ix 2) a3) fun t17 => (f_X9_settled t17 (v14 + (gA t 28 (ix 2)))).bind fun r18 => some (r18.1, r18.2))))))) else if (1 : Int32) = 0 then some ((-1), t) else if a1 = a2 then some ((-1), t) else if a1 = a3 then some ((-1), t) else if a2 = a3 then some ((-1), t) else gd (vp_in 0 3) (gd (vp_in 1 3) (bd (((100 * (gA t 28 (ix 0))) + (10 * (gA t 28 (ix 1))))) fun v19 => gd (vp_in 2 3) (gd (vp_in 0 3) (bd (pA t 28 (ix 0) a1) fun t20 => gd (vp_in 1 3) (bd (pA t20 28 (ix 1) a2) fun t21 => gd (vp_in 2 3) (bd (pA t21 28 (ix 2) a3) fun t22 => (f_X9_settled t22 (v19 + (gA t 28 (ix 2)))).bind fun r23 => some (r23.1, r23.2)))))))
set_option maxRecDepth 20000 in
set_option maxHeartbeats 4000000 in
theorem c_X9_setOrder (l : Launch) (K : Kx) (t : Sx) (a1 : Int32) (a2 : Int32) (a3 : Int32) : CT l K yX9_setOrder wsX9_setOrder ({ frames := 9, cells := 0, slots := 0, locals := 207 } : Room) [.ref (K.2.2 24), .int a1, .int a2, .int a3] t (f_X9_setOrder t a1 a2 a3) kWI := by
  refine CT_of (cc := cX9_setOrder) (maxL := 6) (ret := (some .int)) (own := RX9) (by decide +kernel) rfl rfl (Nat.le_of_ble_eq_true rfl) ?_
  intro p e s m args below meth c hc
  refine V_sub (lv' := [(0, .ref (K.2.2 24)), (1, .int a1), (2, .int a2), (3, .int a3)]) [0, 1, 2, 3] rfl ?_
  unfold f_X9_setOrder
  refine V_iload_n hc dX9_setOrder_0 rfl 1 rfl ?_
  refine V_iconst (v := 0) hc dX9_setOrder_1 (by decide) ?_
  refine V_iconst (v := 2) hc dX9_setOrder_2 (by decide) ?_
  refine V_callS_RI hc (c_X9_in l K t (a1) (0) (2)) 3 gX9_setOrder_X9_in rfl ⟨rfl, rfl⟩ (by decide) ⟨Nat.le_of_ble_eq_true rfl, Nat.le_of_ble_eq_true rfl⟩ rfl rfl (Nat.le_of_ble_eq_true rfl) dX9_setOrder_3 (fun r1 => ?_)
  refine V_if_eq (tgt := 31) hc dX9_setOrder_6 (by decide) ?_ ?_
  · refine V_iconst (v := 0) hc dX9_setOrder_31 (by decide) ?_
    refine V_istore (lv' := [(4, .int 0), (0, .ref (K.2.2 24)), (1, .int a1), (2, .int a2), (3, .int a3)]) hc dX9_setOrder_32 (by decide) rfl ?_
    refine V_iload hc dX9_setOrder_34 0 rfl ?_
    refine V_if_eq (tgt := 54) hc dX9_setOrder_36 (by decide) ?_ ?_
    · refine V_iconst (v := (-1)) hc dX9_setOrder_54 (by decide) ?_
      exact V_iret hc rfl rfl dX9_setOrder_55
    · refine V_iload_n hc dX9_setOrder_39 rfl 2 rfl ?_
      refine V_iload_n hc dX9_setOrder_40 rfl 3 rfl ?_
      refine V_icmp_eq (tgt := 54) hc dX9_setOrder_41 (by decide) ?_ ?_
      · refine V_iconst (v := (-1)) hc dX9_setOrder_54 (by decide) ?_
        exact V_iret hc rfl rfl dX9_setOrder_55
      · refine V_iload_n hc dX9_setOrder_44 rfl 2 rfl ?_
        refine V_iload_n hc dX9_setOrder_45 rfl 4 rfl ?_
        refine V_icmp_eq (tgt := 54) hc dX9_setOrder_46 (by decide) ?_ ?_
        · refine V_iconst (v := (-1)) hc dX9_setOrder_54 (by decide) ?_
          exact V_iret hc rfl rfl dX9_setOrder_55
        · refine V_iload_n hc dX9_setOrder_49 rfl 3 rfl ?_
          refine V_iload_n hc dX9_setOrder_50 rfl 4 rfl ?_
          refine V_icmp_ne (tgt := 56) hc dX9_setOrder_51 (by decide) ?_ ?_
          · refine V_bipush (v := 100) hc dX9_setOrder_56 (by decide) ?_
            refine V_aload_n hc dX9_setOrder_58 rfl 1 rfl ?_
            refine V_getr (C := RX9) (T := TX9) (N := 28) hc sP24 rfl qX9_setOrder_RX9 5 rfl (by decide) kX9_setOrder_26 rfl dX9_setOrder_59 ?_
            refine V_iconst (v := 0) hc dX9_setOrder_62 (by decide) ?_
            refine V_iald hc sP30 dX9_setOrder_63 ?_
            refine V_imul hc dX9_setOrder_64 ?_
            refine V_bipush (v := 10) hc dX9_setOrder_65 (by decide) ?_
            refine V_aload_n hc dX9_setOrder_67 rfl 1 rfl ?_
            refine V_getr (C := RX9) (T := TX9) (N := 28) hc sP24 rfl qX9_setOrder_RX9 5 rfl (by decide) kX9_setOrder_26 rfl dX9_setOrder_68 ?_
            refine V_iconst (v := 1) hc dX9_setOrder_71 (by decide) ?_
            refine V_iald hc sP30 dX9_setOrder_72 ?_
            refine V_imul hc dX9_setOrder_73 ?_
            refine V_iadd hc dX9_setOrder_74 ?_
            refine V_bdi (fun v2 => ?_)
            refine V_aload_n hc dX9_setOrder_75 rfl 1 rfl ?_
            refine V_getr (C := RX9) (T := TX9) (N := 28) hc sP24 rfl qX9_setOrder_RX9 5 rfl (by decide) kX9_setOrder_26 rfl dX9_setOrder_76 ?_
            refine V_iconst (v := 2) hc dX9_setOrder_79 (by decide) ?_
            refine V_iald hc sP30 dX9_setOrder_80 ?_
            refine V_iadd hc dX9_setOrder_81 ?_
            refine V_istore (lv' := [(5, .int (v2 + (gA t 28 (ix 2)))), (4, .int 0), (0, .ref (K.2.2 24)), (1, .int a1), (2, .int a2), (3, .int a3)]) hc dX9_setOrder_82 (by decide) rfl ?_
            refine V_aload_n hc dX9_setOrder_84 rfl 2 rfl ?_
            refine V_getr (C := RX9) (T := TX9) (N := 28) hc sP24 rfl qX9_setOrder_RX9 5 rfl (by decide) kX9_setOrder_26 rfl dX9_setOrder_85 ?_
            refine V_iconst (v := 0) hc dX9_setOrder_88 (by decide) ?_
            refine V_iload_n hc dX9_setOrder_89 rfl 3 rfl ?_
            refine V_iast hc sP30 dX9_setOrder_90 ?_
            refine V_bds (fun t3 => ?_)
            refine V_aload_n hc dX9_setOrder_91 rfl 2 rfl ?_
            refine V_getr (C := RX9) (T := TX9) (N := 28) hc sP24 rfl qX9_setOrder_RX9 5 rfl (by decide) kX9_setOrder_26 rfl dX9_setOrder_92 ?_
            refine V_iconst (v := 1) hc dX9_setOrder_95 (by decide) ?_
            refine V_iload_n hc dX9_setOrder_96 rfl 4 rfl ?_
            refine V_iast hc sP30 dX9_setOrder_97 ?_
            refine V_bds (fun t4 => ?_)
            refine V_aload_n hc dX9_setOrder_98 rfl 2 rfl ?_
            refine V_getr (C := RX9) (T := TX9) (N := 28) hc sP24 rfl qX9_setOrder_RX9 5 rfl (by decide) kX9_setOrder_26 rfl dX9_setOrder_99 ?_
            refine V_iconst (v := 2) hc dX9_setOrder_102 (by decide) ?_
            refine V_iload_n hc dX9_setOrder_103 rfl 5 rfl ?_
            refine V_iast hc sP30 dX9_setOrder_104 ?_
            refine V_bds (fun t5 => ?_)
            refine V_aload_n hc dX9_setOrder_105 rfl 2 rfl ?_
            refine V_iload hc dX9_setOrder_106 0 rfl ?_
            refine V_callV_WI (Cn := RX9) (T := TX9) (N := 28) hc (c_X9_settled l K t5 (v2 + (gA t 28 (ix 2)))) sP24 rfl 1 gX9_setOrder_X9_settled rfl ⟨rfl, rfl⟩ (by decide) ⟨Nat.le_of_ble_eq_true rfl, Nat.le_of_ble_eq_true rfl⟩ rfl rfl (Nat.le_of_ble_eq_true rfl) dX9_setOrder_108 (fun r6 => ?_)
            exact V_iret hc rfl rfl dX9_setOrder_111
          · refine V_iconst (v := (-1)) hc dX9_setOrder_54 (by decide) ?_
            exact V_iret hc rfl rfl dX9_setOrder_55
  · refine V_iload_n hc dX9_setOrder_9 rfl 2 rfl ?_
    refine V_iconst (v := 0) hc dX9_setOrder_10 (by decide) ?_
    refine V_iconst (v := 2) hc dX9_setOrder_11 (by decide) ?_
    refine V_callS_RI hc (c_X9_in l K t (a2) (0) (2)) 3 gX9_setOrder_X9_in rfl ⟨rfl, rfl⟩ (by decide) ⟨Nat.le_of_ble_eq_true rfl, Nat.le_of_ble_eq_true rfl⟩ rfl rfl (Nat.le_of_ble_eq_true rfl) dX9_setOrder_12 (fun r7 => ?_)
    refine V_if_eq (tgt := 31) hc dX9_setOrder_15 (by decide) ?_ ?_
    · refine V_iconst (v := 0) hc dX9_setOrder_31 (by decide) ?_
      refine V_istore (lv' := [(4, .int 0), (0, .ref (K.2.2 24)), (1, .int a1), (2, .int a2), (3, .int a3)]) hc dX9_setOrder_32 (by decide) rfl ?_
      refine V_iload hc dX9_setOrder_34 0 rfl ?_
      refine V_if_eq (tgt := 54) hc dX9_setOrder_36 (by decide) ?_ ?_
      · refine V_iconst (v := (-1)) hc dX9_setOrder_54 (by decide) ?_
        exact V_iret hc rfl rfl dX9_setOrder_55
      · refine V_iload_n hc dX9_setOrder_39 rfl 2 rfl ?_
        refine V_iload_n hc dX9_setOrder_40 rfl 3 rfl ?_
        refine V_icmp_eq (tgt := 54) hc dX9_setOrder_41 (by decide) ?_ ?_
        · refine V_iconst (v := (-1)) hc dX9_setOrder_54 (by decide) ?_
          exact V_iret hc rfl rfl dX9_setOrder_55
        · refine V_iload_n hc dX9_setOrder_44 rfl 2 rfl ?_
          refine V_iload_n hc dX9_setOrder_45 rfl 4 rfl ?_
          refine V_icmp_eq (tgt := 54) hc dX9_setOrder_46 (by decide) ?_ ?_
          · refine V_iconst (v := (-1)) hc dX9_setOrder_54 (by decide) ?_
            exact V_iret hc rfl rfl dX9_setOrder_55
          · refine V_iload_n hc dX9_setOrder_49 rfl 3 rfl ?_
            refine V_iload_n hc dX9_setOrder_50 rfl 4 rfl ?_
            refine V_icmp_ne (tgt := 56) hc dX9_setOrder_51 (by decide) ?_ ?_
            · refine V_bipush (v := 100) hc dX9_setOrder_56 (by decide) ?_
              refine V_aload_n hc dX9_setOrder_58 rfl 1 rfl ?_
              refine V_getr (C := RX9) (T := TX9) (N := 28) hc sP24 rfl qX9_setOrder_RX9 5 rfl (by decide) kX9_setOrder_26 rfl dX9_setOrder_59 ?_
              refine V_iconst (v := 0) hc dX9_setOrder_62 (by decide) ?_
              refine V_iald hc sP30 dX9_setOrder_63 ?_
              refine V_imul hc dX9_setOrder_64 ?_
              refine V_bipush (v := 10) hc dX9_setOrder_65 (by decide) ?_
              refine V_aload_n hc dX9_setOrder_67 rfl 1 rfl ?_
              refine V_getr (C := RX9) (T := TX9) (N := 28) hc sP24 rfl qX9_setOrder_RX9 5 rfl (by decide) kX9_setOrder_26 rfl dX9_setOrder_68 ?_
              refine V_iconst (v := 1) hc dX9_setOrder_71 (by decide) ?_
              refine V_iald hc sP30 dX9_setOrder_72 ?_
              refine V_imul hc dX9_setOrder_73 ?_
              refine V_iadd hc dX9_setOrder_74 ?_
              refine V_bdi (fun v8 => ?_)
              refine V_aload_n hc dX9_setOrder_75 rfl 1 rfl ?_
              refine V_getr (C := RX9) (T := TX9) (N := 28) hc sP24 rfl qX9_setOrder_RX9 5 rfl (by decide) kX9_setOrder_26 rfl dX9_setOrder_76 ?_
              refine V_iconst (v := 2) hc dX9_setOrder_79 (by decide) ?_
              refine V_iald hc sP30 dX9_setOrder_80 ?_
              refine V_iadd hc dX9_setOrder_81 ?_
              refine V_istore (lv' := [(5, .int (v8 + (gA t 28 (ix 2)))), (4, .int 0), (0, .ref (K.2.2 24)), (1, .int a1), (2, .int a2), (3, .int a3)]) hc dX9_setOrder_82 (by decide) rfl ?_
              refine V_aload_n hc dX9_setOrder_84 rfl 2 rfl ?_
              refine V_getr (C := RX9) (T := TX9) (N := 28) hc sP24 rfl qX9_setOrder_RX9 5 rfl (by decide) kX9_setOrder_26 rfl dX9_setOrder_85 ?_
              refine V_iconst (v := 0) hc dX9_setOrder_88 (by decide) ?_
              refine V_iload_n hc dX9_setOrder_89 rfl 3 rfl ?_
              refine V_iast hc sP30 dX9_setOrder_90 ?_
              refine V_bds (fun t9 => ?_)
              refine V_aload_n hc dX9_setOrder_91 rfl 2 rfl ?_
              refine V_getr (C := RX9) (T := TX9) (N := 28) hc sP24 rfl qX9_setOrder_RX9 5 rfl (by decide) kX9_setOrder_26 rfl dX9_setOrder_92 ?_
              refine V_iconst (v := 1) hc dX9_setOrder_95 (by decide) ?_
              refine V_iload_n hc dX9_setOrder_96 rfl 4 rfl ?_
              refine V_iast hc sP30 dX9_setOrder_97 ?_
              refine V_bds (fun t10 => ?_)
              refine V_aload_n hc dX9_setOrder_98 rfl 2 rfl ?_
              refine V_getr (C := RX9) (T := TX9) (N := 28) hc sP24 rfl qX9_setOrder_RX9 5 rfl (by decide) kX9_setOrder_26 rfl dX9_setOrder_99 ?_
              refine V_iconst (v := 2) hc dX9_setOrder_102 (by decide) ?_
              refine V_iload_n hc dX9_setOrder_103 rfl 5 rfl ?_
              refine V_iast hc sP30 dX9_setOrder_104 ?_
              refine V_bds (fun t11 => ?_)
              refine V_aload_n hc dX9_setOrder_105 rfl 2 rfl ?_
              refine V_iload hc dX9_setOrder_106 0 rfl ?_
              refine V_callV_WI (Cn := RX9) (T := TX9) (N := 28) hc (c_X9_settled l K t11 (v8 + (gA t 28 (ix 2)))) sP24 rfl 1 gX9_setOrder_X9_settled rfl ⟨rfl, rfl⟩ (by decide) ⟨Nat.le_of_ble_eq_true rfl, Nat.le_of_ble_eq_true rfl⟩ rfl rfl (Nat.le_of_ble_eq_true rfl) dX9_setOrder_108 (fun r12 => ?_)
              exact V_iret hc rfl rfl dX9_setOrder_111
            · refine V_iconst (v := (-1)) hc dX9_setOrder_54 (by decide) ?_
              exact V_iret hc rfl rfl dX9_setOrder_55
    · refine V_iload_n hc dX9_setOrder_18 rfl 3 rfl ?_
      refine V_iconst (v := 0) hc dX9_setOrder_19 (by decide) ?_
      refine V_iconst (v := 2) hc dX9_setOrder_20 (by decide) ?_
      refine V_callS_RI hc (c_X9_in l K t (a3) (0) (2)) 3 gX9_setOrder_X9_in rfl ⟨rfl, rfl⟩ (by decide) ⟨Nat.le_of_ble_eq_true rfl, Nat.le_of_ble_eq_true rfl⟩ rfl rfl (Nat.le_of_ble_eq_true rfl) dX9_setOrder_21 (fun r13 => ?_)
      refine V_if_eq (tgt := 31) hc dX9_setOrder_24 (by decide) ?_ ?_
      · refine V_iconst (v := 0) hc dX9_setOrder_31 (by decide) ?_
        refine V_istore (lv' := [(4, .int 0), (0, .ref (K.2.2 24)), (1, .int a1), (2, .int a2), (3, .int a3)]) hc dX9_setOrder_32 (by decide) rfl ?_
        refine V_iload hc dX9_setOrder_34 0 rfl ?_
        refine V_if_eq (tgt := 54) hc dX9_setOrder_36 (by decide) ?_ ?_
        · refine V_iconst (v := (-1)) hc dX9_setOrder_54 (by decide) ?_
          exact V_iret hc rfl rfl dX9_setOrder_55
        · refine V_iload_n hc dX9_setOrder_39 rfl 2 rfl ?_
          refine V_iload_n hc dX9_setOrder_40 rfl 3 rfl ?_
          refine V_icmp_eq (tgt := 54) hc dX9_setOrder_41 (by decide) ?_ ?_
          · refine V_iconst (v := (-1)) hc dX9_setOrder_54 (by decide) ?_
            exact V_iret hc rfl rfl dX9_setOrder_55
          · refine V_iload_n hc dX9_setOrder_44 rfl 2 rfl ?_
            refine V_iload_n hc dX9_setOrder_45 rfl 4 rfl ?_
            refine V_icmp_eq (tgt := 54) hc dX9_setOrder_46 (by decide) ?_ ?_
            · refine V_iconst (v := (-1)) hc dX9_setOrder_54 (by decide) ?_
              exact V_iret hc rfl rfl dX9_setOrder_55
            · refine V_iload_n hc dX9_setOrder_49 rfl 3 rfl ?_
              refine V_iload_n hc dX9_setOrder_50 rfl 4 rfl ?_
              refine V_icmp_ne (tgt := 56) hc dX9_setOrder_51 (by decide) ?_ ?_
              · refine V_bipush (v := 100) hc dX9_setOrder_56 (by decide) ?_
                refine V_aload_n hc dX9_setOrder_58 rfl 1 rfl ?_
                refine V_getr (C := RX9) (T := TX9) (N := 28) hc sP24 rfl qX9_setOrder_RX9 5 rfl (by decide) kX9_setOrder_26 rfl dX9_setOrder_59 ?_
                refine V_iconst (v := 0) hc dX9_setOrder_62 (by decide) ?_
                refine V_iald hc sP30 dX9_setOrder_63 ?_
                refine V_imul hc dX9_setOrder_64 ?_
                refine V_bipush (v := 10) hc dX9_setOrder_65 (by decide) ?_
                refine V_aload_n hc dX9_setOrder_67 rfl 1 rfl ?_
                refine V_getr (C := RX9) (T := TX9) (N := 28) hc sP24 rfl qX9_setOrder_RX9 5 rfl (by decide) kX9_setOrder_26 rfl dX9_setOrder_68 ?_
                refine V_iconst (v := 1) hc dX9_setOrder_71 (by decide) ?_
                refine V_iald hc sP30 dX9_setOrder_72 ?_
                refine V_imul hc dX9_setOrder_73 ?_
                refine V_iadd hc dX9_setOrder_74 ?_
                refine V_bdi (fun v14 => ?_)
                refine V_aload_n hc dX9_setOrder_75 rfl 1 rfl ?_
                refine V_getr (C := RX9) (T := TX9) (N := 28) hc sP24 rfl qX9_setOrder_RX9 5 rfl (by decide) kX9_setOrder_26 rfl dX9_setOrder_76 ?_
                refine V_iconst (v := 2) hc dX9_setOrder_79 (by decide) ?_
                refine V_iald hc sP30 dX9_setOrder_80 ?_
                refine V_iadd hc dX9_setOrder_81 ?_
                refine V_istore (lv' := [(5, .int (v14 + (gA t 28 (ix 2)))), (4, .int 0), (0, .ref (K.2.2 24)), (1, .int a1), (2, .int a2), (3, .int a3)]) hc dX9_setOrder_82 (by decide) rfl ?_
                refine V_aload_n hc dX9_setOrder_84 rfl 2 rfl ?_
                refine V_getr (C := RX9) (T := TX9) (N := 28) hc sP24 rfl qX9_setOrder_RX9 5 rfl (by decide) kX9_setOrder_26 rfl dX9_setOrder_85 ?_
                refine V_iconst (v := 0) hc dX9_setOrder_88 (by decide) ?_
                refine V_iload_n hc dX9_setOrder_89 rfl 3 rfl ?_
                refine V_iast hc sP30 dX9_setOrder_90 ?_
                refine V_bds (fun t15 => ?_)
                refine V_aload_n hc dX9_setOrder_91 rfl 2 rfl ?_
                refine V_getr (C := RX9) (T := TX9) (N := 28) hc sP24 rfl qX9_setOrder_RX9 5 rfl (by decide) kX9_setOrder_26 rfl dX9_setOrder_92 ?_
                refine V_iconst (v := 1) hc dX9_setOrder_95 (by decide) ?_
                refine V_iload_n hc dX9_setOrder_96 rfl 4 rfl ?_
                refine V_iast hc sP30 dX9_setOrder_97 ?_
                refine V_bds (fun t16 => ?_)
                refine V_aload_n hc dX9_setOrder_98 rfl 2 rfl ?_
                refine V_getr (C := RX9) (T := TX9) (N := 28) hc sP24 rfl qX9_setOrder_RX9 5 rfl (by decide) kX9_setOrder_26 rfl dX9_setOrder_99 ?_
                refine V_iconst (v := 2) hc dX9_setOrder_102 (by decide) ?_
                refine V_iload_n hc dX9_setOrder_103 rfl 5 rfl ?_
                refine V_iast hc sP30 dX9_setOrder_104 ?_
                refine V_bds (fun t17 => ?_)
                refine V_aload_n hc dX9_setOrder_105 rfl 2 rfl ?_
                refine V_iload hc dX9_setOrder_106 0 rfl ?_
                refine V_callV_WI (Cn := RX9) (T := TX9) (N := 28) hc (c_X9_settled l K t17 (v14 + (gA t 28 (ix 2)))) sP24 rfl 1 gX9_setOrder_X9_settled rfl ⟨rfl, rfl⟩ (by decide) ⟨Nat.le_of_ble_eq_true rfl, Nat.le_of_ble_eq_true rfl⟩ rfl rfl (Nat.le_of_ble_eq_true rfl) dX9_setOrder_108 (fun r18 => ?_)
                exact V_iret hc rfl rfl dX9_setOrder_111
              · refine V_iconst (v := (-1)) hc dX9_setOrder_54 (by decide) ?_
                exact V_iret hc rfl rfl dX9_setOrder_55
      · refine V_iconst (v := 1) hc dX9_setOrder_27 (by decide) ?_
        refine V_goto (tgt := 32) hc dX9_setOrder_28 (by decide) ?_
        refine V_istore (lv' := [(4, .int 1), (0, .ref (K.2.2 24)), (1, .int a1), (2, .int a2), (3, .int a3)]) hc dX9_setOrder_32 (by decide) rfl ?_
        refine V_iload hc dX9_setOrder_34 0 rfl ?_
        refine V_if_eq (tgt := 54) hc dX9_setOrder_36 (by decide) ?_ ?_
        · refine V_iconst (v := (-1)) hc dX9_setOrder_54 (by decide) ?_
          exact V_iret hc rfl rfl dX9_setOrder_55
        · refine V_iload_n hc dX9_setOrder_39 rfl 2 rfl ?_
          refine V_iload_n hc dX9_setOrder_40 rfl 3 rfl ?_
          refine V_icmp_eq (tgt := 54) hc dX9_setOrder_41 (by decide) ?_ ?_
          · refine V_iconst (v := (-1)) hc dX9_setOrder_54 (by decide) ?_
            exact V_iret hc rfl rfl dX9_setOrder_55
          · refine V_iload_n hc dX9_setOrder_44 rfl 2 rfl ?_
            refine V_iload_n hc dX9_setOrder_45 rfl 4 rfl ?_
            refine V_icmp_eq (tgt := 54) hc dX9_setOrder_46 (by decide) ?_ ?_
            · refine V_iconst (v := (-1)) hc dX9_setOrder_54 (by decide) ?_
              exact V_iret hc rfl rfl dX9_setOrder_55
            · refine V_iload_n hc dX9_setOrder_49 rfl 3 rfl ?_
              refine V_iload_n hc dX9_setOrder_50 rfl 4 rfl ?_
              refine V_icmp_ne (tgt := 56) hc dX9_setOrder_51 (by decide) ?_ ?_
              · refine V_bipush (v := 100) hc dX9_setOrder_56 (by decide) ?_
                refine V_aload_n hc dX9_setOrder_58 rfl 1 rfl ?_
                refine V_getr (C := RX9) (T := TX9) (N := 28) hc sP24 rfl qX9_setOrder_RX9 5 rfl (by decide) kX9_setOrder_26 rfl dX9_setOrder_59 ?_
                refine V_iconst (v := 0) hc dX9_setOrder_62 (by decide) ?_
                refine V_iald hc sP30 dX9_setOrder_63 ?_
                refine V_imul hc dX9_setOrder_64 ?_
                refine V_bipush (v := 10) hc dX9_setOrder_65 (by decide) ?_
                refine V_aload_n hc dX9_setOrder_67 rfl 1 rfl ?_
                refine V_getr (C := RX9) (T := TX9) (N := 28) hc sP24 rfl qX9_setOrder_RX9 5 rfl (by decide) kX9_setOrder_26 rfl dX9_setOrder_68 ?_
                refine V_iconst (v := 1) hc dX9_setOrder_71 (by decide) ?_
                refine V_iald hc sP30 dX9_setOrder_72 ?_
                refine V_imul hc dX9_setOrder_73 ?_
                refine V_iadd hc dX9_setOrder_74 ?_
                refine V_bdi (fun v19 => ?_)
                refine V_aload_n hc dX9_setOrder_75 rfl 1 rfl ?_
                refine V_getr (C := RX9) (T := TX9) (N := 28) hc sP24 rfl qX9_setOrder_RX9 5 rfl (by decide) kX9_setOrder_26 rfl dX9_setOrder_76 ?_
                refine V_iconst (v := 2) hc dX9_setOrder_79 (by decide) ?_
                refine V_iald hc sP30 dX9_setOrder_80 ?_
                refine V_iadd hc dX9_setOrder_81 ?_
                refine V_istore (lv' := [(5, .int (v19 + (gA t 28 (ix 2)))), (4, .int 1), (0, .ref (K.2.2 24)), (1, .int a1), (2, .int a2), (3, .int a3)]) hc dX9_setOrder_82 (by decide) rfl ?_
                refine V_aload_n hc dX9_setOrder_84 rfl 2 rfl ?_
                refine V_getr (C := RX9) (T := TX9) (N := 28) hc sP24 rfl qX9_setOrder_RX9 5 rfl (by decide) kX9_setOrder_26 rfl dX9_setOrder_85 ?_
                refine V_iconst (v := 0) hc dX9_setOrder_88 (by decide) ?_
                refine V_iload_n hc dX9_setOrder_89 rfl 3 rfl ?_
                refine V_iast hc sP30 dX9_setOrder_90 ?_
                refine V_bds (fun t20 => ?_)
                refine V_aload_n hc dX9_setOrder_91 rfl 2 rfl ?_
                refine V_getr (C := RX9) (T := TX9) (N := 28) hc sP24 rfl qX9_setOrder_RX9 5 rfl (by decide) kX9_setOrder_26 rfl dX9_setOrder_92 ?_
                refine V_iconst (v := 1) hc dX9_setOrder_95 (by decide) ?_
                refine V_iload_n hc dX9_setOrder_96 rfl 4 rfl ?_
                refine V_iast hc sP30 dX9_setOrder_97 ?_
                refine V_bds (fun t21 => ?_)
                refine V_aload_n hc dX9_setOrder_98 rfl 2 rfl ?_
                refine V_getr (C := RX9) (T := TX9) (N := 28) hc sP24 rfl qX9_setOrder_RX9 5 rfl (by decide) kX9_setOrder_26 rfl dX9_setOrder_99 ?_
                refine V_iconst (v := 2) hc dX9_setOrder_102 (by decide) ?_
                refine V_iload_n hc dX9_setOrder_103 rfl 5 rfl ?_
                refine V_iast hc sP30 dX9_setOrder_104 ?_
                refine V_bds (fun t22 => ?_)
                refine V_aload_n hc dX9_setOrder_105 rfl 2 rfl ?_
                refine V_iload hc dX9_setOrder_106 0 rfl ?_
                refine V_callV_WI (Cn := RX9) (T := TX9) (N := 28) hc (c_X9_settled l K t22 (v19 + (gA t 28 (ix 2)))) sP24 rfl 1 gX9_setOrder_X9_settled rfl ⟨rfl, rfl⟩ (by decide) ⟨Nat.le_of_ble_eq_true rfl, Nat.le_of_ble_eq_true rfl⟩ rfl rfl (Nat.le_of_ble_eq_true rfl) dX9_setOrder_108 (fun r23 => ?_)
                exact V_iret hc rfl rfl dX9_setOrder_111
              · refine V_iconst (v := (-1)) hc dX9_setOrder_54 (by decide) ?_
                exact V_iret hc rfl rfl dX9_setOrder_55


noncomputable def f_X9_keeperOf (t : Sx) (a1 : Int32) : Option Int32 := (f_X9_there t (a1)).bind fun r1 => if r1 = 0 then some (-1) else (f_X9_keeper t (a1)).bind fun r2 => some r2
set_option maxRecDepth 20000 in
set_option maxHeartbeats 4000000 in
theorem c_X9_keeperOf (l : Launch) (K : Kx) (t : Sx) (a1 : Int32) : CT l K yX9_keeperOf wsX9_keeperOf ({ frames := 4, cells := 0, slots := 0, locals := 94 } : Room) [.ref (K.2.2 24), .int a1] t (f_X9_keeperOf t a1) (kRI t) := by
  refine CT_of (cc := cX9_keeperOf) (maxL := 2) (ret := (some .int)) (own := RX9) (by decide +kernel) rfl rfl (Nat.le_of_ble_eq_true rfl) ?_
  intro p e s m args below meth c hc
  refine V_sub (lv' := [(0, .ref (K.2.2 24)), (1, .int a1)]) [0, 1] rfl ?_
  unfold f_X9_keeperOf
  refine V_aload_n hc dX9_keeperOf_0 rfl 0 rfl ?_
  refine V_iload_n hc dX9_keeperOf_1 rfl 1 rfl ?_
  refine V_callV_RI (Cn := RX9) (T := TX9) (N := 28) hc (c_X9_there l K t (a1)) sP24 rfl 1 gX9_keeperOf_X9_there rfl ⟨rfl, rfl⟩ (by decide) ⟨Nat.le_of_ble_eq_true rfl, Nat.le_of_ble_eq_true rfl⟩ rfl rfl (Nat.le_of_ble_eq_true rfl) dX9_keeperOf_2 (fun r1 => ?_)
  refine V_if_eq (tgt := 16) hc dX9_keeperOf_5 (by decide) ?_ ?_
  · refine V_iconst (v := (-1)) hc dX9_keeperOf_16 (by decide) ?_
    exact V_iret hc rfl rfl dX9_keeperOf_17
  · refine V_aload_n hc dX9_keeperOf_8 rfl 0 rfl ?_
    refine V_iload_n hc dX9_keeperOf_9 rfl 1 rfl ?_
    refine V_callV_RI (Cn := RX9) (T := TX9) (N := 28) hc (c_X9_keeper l K t (a1)) sP24 rfl 1 gX9_keeperOf_X9_keeper rfl ⟨rfl, rfl⟩ (by decide) ⟨Nat.le_of_ble_eq_true rfl, Nat.le_of_ble_eq_true rfl⟩ rfl rfl (Nat.le_of_ble_eq_true rfl) dX9_keeperOf_10 (fun r2 => ?_)
    refine V_goto (tgt := 17) hc dX9_keeperOf_13 (by decide) ?_
    exact V_iret hc rfl rfl dX9_keeperOf_17


noncomputable def f_X9_groupSize (t : Sx) (a1 : Int32) : Option Int32 := (f_X9_there t (a1)).bind fun r1 => if r1 = 0 then some (-1) else (f_X9_group t (a1)).bind fun r2 => some r2
set_option maxRecDepth 20000 in
set_option maxHeartbeats 4000000 in
theorem c_X9_groupSize (l : Launch) (K : Kx) (t : Sx) (a1 : Int32) : CT l K yX9_groupSize wsX9_groupSize ({ frames := 2, cells := 0, slots := 0, locals := 43 } : Room) [.ref (K.2.2 24), .int a1] t (f_X9_groupSize t a1) (kRI t) := by
  refine CT_of (cc := cX9_groupSize) (maxL := 2) (ret := (some .int)) (own := RX9) (by decide +kernel) rfl rfl (Nat.le_of_ble_eq_true rfl) ?_
  intro p e s m args below meth c hc
  refine V_sub (lv' := [(0, .ref (K.2.2 24)), (1, .int a1)]) [0, 1] rfl ?_
  unfold f_X9_groupSize
  refine V_aload_n hc dX9_groupSize_0 rfl 0 rfl ?_
  refine V_iload_n hc dX9_groupSize_1 rfl 1 rfl ?_
  refine V_callV_RI (Cn := RX9) (T := TX9) (N := 28) hc (c_X9_there l K t (a1)) sP24 rfl 1 gX9_groupSize_X9_there rfl ⟨rfl, rfl⟩ (by decide) ⟨Nat.le_of_ble_eq_true rfl, Nat.le_of_ble_eq_true rfl⟩ rfl rfl (Nat.le_of_ble_eq_true rfl) dX9_groupSize_2 (fun r1 => ?_)
  refine V_if_eq (tgt := 16) hc dX9_groupSize_5 (by decide) ?_ ?_
  · refine V_iconst (v := (-1)) hc dX9_groupSize_16 (by decide) ?_
    exact V_iret hc rfl rfl dX9_groupSize_17
  · refine V_aload_n hc dX9_groupSize_8 rfl 0 rfl ?_
    refine V_iload_n hc dX9_groupSize_9 rfl 1 rfl ?_
    refine V_callV_RI (Cn := RX9) (T := TX9) (N := 28) hc (c_X9_group l K t (a1)) sP24 rfl 1 gX9_groupSize_X9_group rfl ⟨rfl, rfl⟩ (by decide) ⟨Nat.le_of_ble_eq_true rfl, Nat.le_of_ble_eq_true rfl⟩ rfl rfl (Nat.le_of_ble_eq_true rfl) dX9_groupSize_10 (fun r2 => ?_)
    refine V_goto (tgt := 17) hc dX9_groupSize_13 (by decide) ?_
    exact V_iret hc rfl rfl dX9_groupSize_17

theorem kX9_wasted_7 : Cond.fieldLink RX9 7 RX9 (TX9 0).2.1 (TX9 0).2.2.1 ∈ wsX9_wasted := by decide +kernel
theorem qX9_wasted_RX9 : ∀ w ∈ u_ws RX9 TX9 28, w ∈ wsX9_wasted := by
  first
  | exact fun _ h => List.mem_cons_of_mem _ (List.mem_append_right _ h)
  | exact fun _ h => List.mem_cons_of_mem _ (List.mem_append_left _ (List.mem_append_right _ h))
  | exact fun _ h => List.mem_cons_of_mem _ (List.mem_append_left _ (List.mem_append_left _ (List.mem_append_right _ h)))
  | exact fun _ h => List.mem_cons_of_mem _ (List.mem_append_left _ (List.mem_append_left _ (List.mem_append_left _ (List.mem_append_right _ h))))
  | exact fun _ h => List.mem_cons_of_mem _ (List.mem_append_left _ (List.mem_append_left _ (List.mem_append_left _ (List.mem_append_left _ (List.mem_append_right _ h)))))
  | decide +kernel
theorem kX9_wasted_17 : Cond.fieldLink RX9 17 RX9 (TX9 2).2.1 (TX9 2).2.2.1 ∈ wsX9_wasted := by decide +kernel
noncomputable def L_X9_wasted_4 (t0 : Sx) (kont : Int32 → Int32 → Option Int32) : Nat → Int32 → Int32 → Option Int32
  | 0, _, _ => none
  | n + 1, x1 , x2 => if 40 ≤ x2 then kont (x1) (x2) else gd (vp_in x2 40) (if (gA t0 23 (ix x2)) = 0 then L_X9_wasted_4 t0 kont n ((x1 + 0)) ((x2 + 1)) else (f_X9_keeper t0 (x2)).bind fun r1 => if r1 = x2 then L_X9_wasted_4 t0 kont n ((x1 + 0)) ((x2 + 1)) else gd (vp_in x2 40) (L_X9_wasted_4 t0 kont n ((x1 + (gA t0 25 (ix x2)))) ((x2 + 1))))
set_option maxRecDepth 20000 in
set_option maxHeartbeats 4000000 in
theorem L_X9_wasted_4_ok {p : Program} {l : Launch} {K : Kx} {e : Env} {s : State} {m : MethodId} {args : Array Value} {below : List Frame} {meth : Method} {c : Code} (hc : Cx p ({ frames := 4, cells := 0, slots := 0, locals := 94 } : Room) s m args meth c cX9_wasted 3 wsX9_wasted RX9 K (aA K s.heap.size) (some .int) 0 0) (t0 : Sx) (kont : Int32 → Int32 → Option Int32) (hk : ∀ x1 x2, V p l e ({ frames := 4, cells := 0, slots := 0, locals := 94 } : Room) s m args below meth c K (aA K s.heap.size) 0 0 3 (QM below K args s (kRI t0)) 47 [(0, .ref (K.2.2 24)), (1, .int x1), (2, .int x2)] [] t0 (kont x1 x2)) : ∀ (n : Nat) (x1 : Int32) (x2 : Int32), V p l e ({ frames := 4, cells := 0, slots := 0, locals := 94 } : Room) s m args below meth c K (aA K s.heap.size) 0 0 3 (QM below K args s (kRI t0)) 4 [(0, .ref (K.2.2 24)), (1, .int x1), (2, .int x2)] [] t0 (L_X9_wasted_4 t0 kont n x1 x2) := by
  intro n
  induction n with
  | zero => intro x1 x2; exact V_none
  | succ n ih =>
    intro x1 x2
    rw [L_X9_wasted_4]
    refine V_iload_n hc dX9_wasted_4 rfl 2 rfl ?_
    refine V_bipush (v := 40) hc dX9_wasted_5 (by decide) ?_
    refine V_icmp_ge (tgt := 47) hc dX9_wasted_7 (by decide) ?_ ?_
    · exact V_sub [0, 1, 2] rfl (hk _ _)
    · refine V_iload_n hc dX9_wasted_10 rfl 1 rfl ?_
      refine V_aload_n hc dX9_wasted_11 rfl 0 rfl ?_
      refine V_getr (C := RX9) (T := TX9) (N := 28) hc sP24 rfl qX9_wasted_RX9 0 rfl (by decide) kX9_wasted_7 rfl dX9_wasted_12 ?_
      refine V_iload_n hc dX9_wasted_15 rfl 2 rfl ?_
      refine V_zald hc sP25 dX9_wasted_16 ?_
      refine V_if_eq (tgt := 38) hc dX9_wasted_17 (by decide) ?_ ?_
      · refine V_iconst (v := 0) hc dX9_wasted_38 (by decide) ?_
        refine V_iadd hc dX9_wasted_39 ?_
        refine V_istore_n (lv' := [(1, .int (x1 + 0)), (0, .ref (K.2.2 24)), (2, .int x2)]) hc dX9_wasted_40 rfl (by decide) rfl ?_
        refine V_iinc (v := (x2 + 1)) (lv' := [(2, .int (x2 + 1)), (1, .int (x1 + 0)), (0, .ref (K.2.2 24))]) hc dX9_wasted_41 2 rfl rfl (by decide) rfl ?_
        refine V_goto (tgt := 4) hc dX9_wasted_44 (by decide) ?_
        exact V_sub [2, 1, 0] rfl (ih _ _)
      · refine V_aload_n hc dX9_wasted_20 rfl 0 rfl ?_
        refine V_iload_n hc dX9_wasted_21 rfl 2 rfl ?_
        refine V_callV_RI (Cn := RX9) (T := TX9) (N := 28) hc (c_X9_keeper l K t0 (x2)) sP24 rfl 1 gX9_wasted_X9_keeper rfl ⟨rfl, rfl⟩ (by decide) ⟨Nat.le_of_ble_eq_true rfl, Nat.le_of_ble_eq_true rfl⟩ rfl rfl (Nat.le_of_ble_eq_true rfl) dX9_wasted_22 (fun r1 => ?_)
        refine V_iload_n hc dX9_wasted_25 rfl 2 rfl ?_
        refine V_icmp_eq (tgt := 38) hc dX9_wasted_26 (by decide) ?_ ?_
        · refine V_iconst (v := 0) hc dX9_wasted_38 (by decide) ?_
          refine V_iadd hc dX9_wasted_39 ?_
          refine V_istore_n (lv' := [(1, .int (x1 + 0)), (0, .ref (K.2.2 24)), (2, .int x2)]) hc dX9_wasted_40 rfl (by decide) rfl ?_
          refine V_iinc (v := (x2 + 1)) (lv' := [(2, .int (x2 + 1)), (1, .int (x1 + 0)), (0, .ref (K.2.2 24))]) hc dX9_wasted_41 2 rfl rfl (by decide) rfl ?_
          refine V_goto (tgt := 4) hc dX9_wasted_44 (by decide) ?_
          exact V_sub [2, 1, 0] rfl (ih _ _)
        · refine V_aload_n hc dX9_wasted_29 rfl 0 rfl ?_
          refine V_getr (C := RX9) (T := TX9) (N := 28) hc sP24 rfl qX9_wasted_RX9 2 rfl (by decide) kX9_wasted_17 rfl dX9_wasted_30 ?_
          refine V_iload_n hc dX9_wasted_33 rfl 2 rfl ?_
          refine V_iald hc sP27 dX9_wasted_34 ?_
          refine V_goto (tgt := 39) hc dX9_wasted_35 (by decide) ?_
          refine V_iadd hc dX9_wasted_39 ?_
          refine V_istore_n (lv' := [(1, .int (x1 + (gA t0 25 (ix x2)))), (0, .ref (K.2.2 24)), (2, .int x2)]) hc dX9_wasted_40 rfl (by decide) rfl ?_
          refine V_iinc (v := (x2 + 1)) (lv' := [(2, .int (x2 + 1)), (1, .int (x1 + (gA t0 25 (ix x2)))), (0, .ref (K.2.2 24))]) hc dX9_wasted_41 2 rfl rfl (by decide) rfl ?_
          refine V_goto (tgt := 4) hc dX9_wasted_44 (by decide) ?_
          exact V_sub [2, 1, 0] rfl (ih _ _)
noncomputable def f_X9_wasted (t : Sx)  : Option Int32 := L_X9_wasted_4 t (fun z2 z3 => some z2) FU (0) (0)
set_option maxRecDepth 20000 in
set_option maxHeartbeats 4000000 in
theorem c_X9_wasted (l : Launch) (K : Kx) (t : Sx)  : CT l K yX9_wasted wsX9_wasted ({ frames := 4, cells := 0, slots := 0, locals := 94 } : Room) [.ref (K.2.2 24)] t (f_X9_wasted t ) (kRI t) := by
  refine CT_of (cc := cX9_wasted) (maxL := 3) (ret := (some .int)) (own := RX9) (by decide +kernel) rfl rfl (Nat.le_of_ble_eq_true rfl) ?_
  intro p e s m args below meth c hc
  refine V_sub (lv' := [(0, .ref (K.2.2 24))]) [0] rfl ?_
  unfold f_X9_wasted
  refine V_iconst (v := 0) hc dX9_wasted_0 (by decide) ?_
  refine V_istore_n (lv' := [(1, .int 0), (0, .ref (K.2.2 24))]) hc dX9_wasted_1 rfl (by decide) rfl ?_
  refine V_iconst (v := 0) hc dX9_wasted_2 (by decide) ?_
  refine V_istore_n (lv' := [(2, .int 0), (1, .int 0), (0, .ref (K.2.2 24))]) hc dX9_wasted_3 rfl (by decide) rfl ?_
  refine V_sub (lv' := [(0, .ref (K.2.2 24)), (1, .int 0), (2, .int 0)]) [2, 1, 0] rfl ?_
  refine L_X9_wasted_4_ok hc t _ (fun z2 z3 => ?_) FU _ _
  refine V_iload_n hc dX9_wasted_47 rfl 1 rfl ?_
  exact V_iret hc rfl rfl dX9_wasted_48

theorem kX9_gives_20 : Cond.fieldLink RX9 20 RX9 (TX9 3).2.1 (TX9 3).2.2.1 ∈ wsX9_gives := by decide +kernel
theorem qX9_gives_RX9 : ∀ w ∈ u_ws RX9 TX9 28, w ∈ wsX9_gives := by
  first
  | exact fun _ h => List.mem_cons_of_mem _ (List.mem_append_right _ h)
  | exact fun _ h => List.mem_cons_of_mem _ (List.mem_append_left _ (List.mem_append_right _ h))
  | exact fun _ h => List.mem_cons_of_mem _ (List.mem_append_left _ (List.mem_append_left _ (List.mem_append_right _ h)))
  | exact fun _ h => List.mem_cons_of_mem _ (List.mem_append_left _ (List.mem_append_left _ (List.mem_append_left _ (List.mem_append_right _ h))))
  | exact fun _ h => List.mem_cons_of_mem _ (List.mem_append_left _ (List.mem_append_left _ (List.mem_append_left _ (List.mem_append_left _ (List.mem_append_right _ h)))))
  | decide +kernel
theorem kX9_gives_23 : Cond.fieldLink RX9 23 RX9 (TX9 4).2.1 (TX9 4).2.2.1 ∈ wsX9_gives := by decide +kernel
noncomputable def L_X9_gives_2 (b1 : Int32) (b2 : Int32) (kont : Int32 → Sx → Option Sx) : Nat → Int32 → Sx → Option Sx
  | 0, _, _ => none
  | n + 1, x3, y => if 18 ≤ x3 then kont (x3) (y) else gd (vp_in ((18 * b1) + x3) 720) (if (gA y 26 (ix ((18 * b1) + x3))) = 0 then L_X9_gives_2 b1 b2 kont n ((x3 + 1)) (y) else gd (vp_in ((18 * b2) + x3) 720) (if (gA y 26 (ix ((18 * b2) + x3))) = 0 then gd (vp_in ((18 * b1) + x3) 720) (gd (vp_in ((18 * b2) + x3) 720) (bd (pA y 27 (ix ((18 * b2) + x3)) (gA y 27 (ix ((18 * b1) + x3)))) fun t6 => gd (vp_in ((18 * b2) + x3) 720) (bd (pA t6 26 (ix ((18 * b2) + x3)) 1) fun t7 => L_X9_gives_2 b1 b2 kont n ((x3 + 1)) (t7)))) else gd (¬ (6 : Int32) = 0) (if (x3 - x3 / 6 * 6) = 5 then gd (vp_in ((18 * b2) + x3) 720) (gd (vp_in ((18 * b1) + x3) 720) (bd (((gA y 27 (ix ((18 * b2) + x3))) ||| (gA y 27 (ix ((18 * b1) + x3))))) fun v3 => gd (vp_in ((18 * b2) + x3) 720) (bd (pA y 27 (ix ((18 * b2) + x3)) v3) fun t4 => gd (vp_in ((18 * b2) + x3) 720) (bd (pA t4 26 (ix ((18 * b2) + x3)) 1) fun t5 => L_X9_gives_2 b1 b2 kont n ((x3 + 1)) (t5))))) else gd (vp_in ((18 * b2) + x3) 720) (gd (vp_in ((18 * b2) + x3) 720) (bd (pA y 27 (ix ((18 * b2) + x3)) (gA y 27 (ix ((18 * b2) + x3)))) fun t1 => gd (vp_in ((18 * b2) + x3) 720) (bd (pA t1 26 (ix ((18 * b2) + x3)) 1) fun t2 => L_X9_gives_2 b1 b2 kont n ((x3 + 1)) (t2)))))))
set_option maxRecDepth 20000 in
set_option maxHeartbeats 4000000 in
theorem L_X9_gives_2_ok {p : Program} {l : Launch} {K : Kx} {e : Env} {s : State} {m : MethodId} {args : Array Value} {below : List Frame} {meth : Method} {c : Code} (hc : Cx p ({ frames := 0, cells := 0, slots := 0, locals := 0 } : Room) s m args meth c cX9_gives 6 wsX9_gives RX9 K (aA K s.heap.size) none 0 0) (b1 : Int32) (b2 : Int32) (kont : Int32 → Sx → Option Sx) (hk : ∀ x3 y, V p l e ({ frames := 0, cells := 0, slots := 0, locals := 0 } : Room) s m args below meth c K (aA K s.heap.size) 0 0 6 (QM below K args s kWV) 108 [(0, .ref (K.2.2 24)), (1, .int b1), (2, .int b2), (3, .int x3)] [] y (kont x3 y)) : ∀ (n : Nat) (x3 : Int32) (y : Sx), V p l e ({ frames := 0, cells := 0, slots := 0, locals := 0 } : Room) s m args below meth c K (aA K s.heap.size) 0 0 6 (QM below K args s kWV) 2 [(0, .ref (K.2.2 24)), (1, .int b1), (2, .int b2), (3, .int x3)] [] y (L_X9_gives_2 b1 b2 kont n x3 y) := by
  intro n
  induction n with
  | zero => intro x3 y; exact V_none
  | succ n ih =>
    intro x3 y
    rw [L_X9_gives_2]
    refine V_iload_n hc dX9_gives_2 rfl 3 rfl ?_
    refine V_bipush (v := 18) hc dX9_gives_3 (by decide) ?_
    refine V_icmp_ge (tgt := 108) hc dX9_gives_5 (by decide) ?_ ?_
    · exact V_sub [0, 1, 2, 3] rfl (hk _ _)
    · refine V_bipush (v := 18) hc dX9_gives_8 (by decide) ?_
      refine V_iload_n hc dX9_gives_10 rfl 1 rfl ?_
      refine V_imul hc dX9_gives_11 ?_
      refine V_iload_n hc dX9_gives_12 rfl 3 rfl ?_
      refine V_iadd hc dX9_gives_13 ?_
      refine V_istore (lv' := [(4, .int ((18 * b1) + x3)), (0, .ref (K.2.2 24)), (1, .int b1), (2, .int b2), (3, .int x3)]) hc dX9_gives_14 (by decide) rfl ?_
      refine V_bipush (v := 18) hc dX9_gives_16 (by decide) ?_
      refine V_iload_n hc dX9_gives_18 rfl 3 rfl ?_
      refine V_imul hc dX9_gives_19 ?_
      refine V_iload_n hc dX9_gives_20 rfl 4 rfl ?_
      refine V_iadd hc dX9_gives_21 ?_
      refine V_istore (lv' := [(5, .int ((18 * b2) + x3)), (4, .int ((18 * b1) + x3)), (0, .ref (K.2.2 24)), (1, .int b1), (2, .int b2), (3, .int x3)]) hc dX9_gives_22 (by decide) rfl ?_
      refine V_aload_n hc dX9_gives_24 rfl 2 rfl ?_
      refine V_getr (C := RX9) (T := TX9) (N := 28) hc sP24 rfl qX9_gives_RX9 3 rfl (by decide) kX9_gives_20 rfl dX9_gives_25 ?_
      refine V_iload hc dX9_gives_28 1 rfl ?_
      refine V_zald hc sP28 dX9_gives_30 ?_
      refine V_if_eq (tgt := 102) hc dX9_gives_31 (by decide) ?_ ?_
      · refine V_iinc (v := (x3 + 1)) (lv' := [(3, .int (x3 + 1)), (5, .int ((18 * b2) + x3)), (4, .int ((18 * b1) + x3)), (0, .ref (K.2.2 24)), (1, .int b1), (2, .int b2)]) hc dX9_gives_102 5 rfl rfl (by decide) rfl ?_
        refine V_goto (tgt := 2) hc dX9_gives_105 (by decide) ?_
        exact V_sub [3, 4, 5, 0] rfl (ih _ _)
      · refine V_aload_n hc dX9_gives_34 rfl 2 rfl ?_
        refine V_getr (C := RX9) (T := TX9) (N := 28) hc sP24 rfl qX9_gives_RX9 4 rfl (by decide) kX9_gives_23 rfl dX9_gives_35 ?_
        refine V_iload hc dX9_gives_38 0 rfl ?_
        refine V_aload_n hc dX9_gives_40 rfl 2 rfl ?_
        refine V_getr (C := RX9) (T := TX9) (N := 28) hc sP24 rfl qX9_gives_RX9 3 rfl (by decide) kX9_gives_20 rfl dX9_gives_41 ?_
        refine V_iload hc dX9_gives_44 0 rfl ?_
        refine V_zald hc sP28 dX9_gives_46 ?_
        refine V_if_ne (tgt := 60) hc dX9_gives_47 (by decide) ?_ ?_
        · refine V_iload_n hc dX9_gives_60 rfl 5 rfl ?_
          refine V_bipush (v := 6) hc dX9_gives_61 (by decide) ?_
          refine V_irem hc dX9_gives_63 ?_
          refine V_iconst (v := 5) hc dX9_gives_64 (by decide) ?_
          refine V_icmp_ne (tgt := 86) hc dX9_gives_65 (by decide) ?_ ?_
          · refine V_aload_n hc dX9_gives_86 rfl 2 rfl ?_
            refine V_getr (C := RX9) (T := TX9) (N := 28) hc sP24 rfl qX9_gives_RX9 4 rfl (by decide) kX9_gives_23 rfl dX9_gives_87 ?_
            refine V_iload hc dX9_gives_90 0 rfl ?_
            refine V_iald hc sP29 dX9_gives_92 ?_
            refine V_iast hc sP29 dX9_gives_93 ?_
            refine V_bds (fun t1 => ?_)
            refine V_aload_n hc dX9_gives_94 rfl 2 rfl ?_
            refine V_getr (C := RX9) (T := TX9) (N := 28) hc sP24 rfl qX9_gives_RX9 3 rfl (by decide) kX9_gives_20 rfl dX9_gives_95 ?_
            refine V_iload hc dX9_gives_98 0 rfl ?_
            refine V_iconst (v := 1) hc dX9_gives_100 (by decide) ?_
            refine V_zastc hc sP28 (Or.inr rfl) dX9_gives_101 ?_
            refine V_bds (fun t2 => ?_)
            refine V_iinc (v := (x3 + 1)) (lv' := [(3, .int (x3 + 1)), (5, .int ((18 * b2) + x3)), (4, .int ((18 * b1) + x3)), (0, .ref (K.2.2 24)), (1, .int b1), (2, .int b2)]) hc dX9_gives_102 5 rfl rfl (by decide) rfl ?_
            refine V_goto (tgt := 2) hc dX9_gives_105 (by decide) ?_
            exact V_sub [3, 4, 5, 0] rfl (ih _ _)
          · refine V_aload_n hc dX9_gives_68 rfl 2 rfl ?_
            refine V_getr (C := RX9) (T := TX9) (N := 28) hc sP24 rfl qX9_gives_RX9 4 rfl (by decide) kX9_gives_23 rfl dX9_gives_69 ?_
            refine V_iload hc dX9_gives_72 0 rfl ?_
            refine V_iald hc sP29 dX9_gives_74 ?_
            refine V_aload_n hc dX9_gives_75 rfl 2 rfl ?_
            refine V_getr (C := RX9) (T := TX9) (N := 28) hc sP24 rfl qX9_gives_RX9 4 rfl (by decide) kX9_gives_23 rfl dX9_gives_76 ?_
            refine V_iload hc dX9_gives_79 1 rfl ?_
            refine V_iald hc sP29 dX9_gives_81 ?_
            refine V_ior hc dX9_gives_82 ?_
            refine V_bdi (fun v3 => ?_)
            refine V_goto (tgt := 93) hc dX9_gives_83 (by decide) ?_
            refine V_iast hc sP29 dX9_gives_93 ?_
            refine V_bds (fun t4 => ?_)
            refine V_aload_n hc dX9_gives_94 rfl 2 rfl ?_
            refine V_getr (C := RX9) (T := TX9) (N := 28) hc sP24 rfl qX9_gives_RX9 3 rfl (by decide) kX9_gives_20 rfl dX9_gives_95 ?_
            refine V_iload hc dX9_gives_98 0 rfl ?_
            refine V_iconst (v := 1) hc dX9_gives_100 (by decide) ?_
            refine V_zastc hc sP28 (Or.inr rfl) dX9_gives_101 ?_
            refine V_bds (fun t5 => ?_)
            refine V_iinc (v := (x3 + 1)) (lv' := [(3, .int (x3 + 1)), (5, .int ((18 * b2) + x3)), (4, .int ((18 * b1) + x3)), (0, .ref (K.2.2 24)), (1, .int b1), (2, .int b2)]) hc dX9_gives_102 5 rfl rfl (by decide) rfl ?_
            refine V_goto (tgt := 2) hc dX9_gives_105 (by decide) ?_
            exact V_sub [3, 4, 5, 0] rfl (ih _ _)
        · refine V_aload_n hc dX9_gives_50 rfl 2 rfl ?_
          refine V_getr (C := RX9) (T := TX9) (N := 28) hc sP24 rfl qX9_gives_RX9 4 rfl (by decide) kX9_gives_23 rfl dX9_gives_51 ?_
          refine V_iload hc dX9_gives_54 1 rfl ?_
          refine V_iald hc sP29 dX9_gives_56 ?_
          refine V_goto (tgt := 93) hc dX9_gives_57 (by decide) ?_
          refine V_iast hc sP29 dX9_gives_93 ?_
          refine V_bds (fun t6 => ?_)
          refine V_aload_n hc dX9_gives_94 rfl 2 rfl ?_
          refine V_getr (C := RX9) (T := TX9) (N := 28) hc sP24 rfl qX9_gives_RX9 3 rfl (by decide) kX9_gives_20 rfl dX9_gives_95 ?_
          refine V_iload hc dX9_gives_98 0 rfl ?_
          refine V_iconst (v := 1) hc dX9_gives_100 (by decide) ?_
          refine V_zastc hc sP28 (Or.inr rfl) dX9_gives_101 ?_
          refine V_bds (fun t7 => ?_)
          refine V_iinc (v := (x3 + 1)) (lv' := [(3, .int (x3 + 1)), (5, .int ((18 * b2) + x3)), (4, .int ((18 * b1) + x3)), (0, .ref (K.2.2 24)), (1, .int b1), (2, .int b2)]) hc dX9_gives_102 5 rfl rfl (by decide) rfl ?_
          refine V_goto (tgt := 2) hc dX9_gives_105 (by decide) ?_
          exact V_sub [3, 4, 5, 0] rfl (ih _ _)
noncomputable def f_X9_gives (t : Sx) (a1 : Int32) (a2 : Int32) : Option Sx := L_X9_gives_2 (a1) (a2) (fun z8 t9 => some t9) FU (0) (t)
set_option maxRecDepth 20000 in
set_option maxHeartbeats 4000000 in
theorem c_X9_gives (l : Launch) (K : Kx) (t : Sx) (a1 : Int32) (a2 : Int32) : CT l K yX9_gives wsX9_gives ({ frames := 0, cells := 0, slots := 0, locals := 0 } : Room) [.ref (K.2.2 24), .int a1, .int a2] t (f_X9_gives t a1 a2) kWV := by
  refine CT_of (cc := cX9_gives) (maxL := 6) (ret := none) (own := RX9) (by decide +kernel) rfl rfl (Nat.le_of_ble_eq_true rfl) ?_
  intro p e s m args below meth c hc
  refine V_sub (lv' := [(0, .ref (K.2.2 24)), (1, .int a1), (2, .int a2)]) [0, 1, 2] rfl ?_
  unfold f_X9_gives
  refine V_iconst (v := 0) hc dX9_gives_0 (by decide) ?_
  refine V_istore_n (lv' := [(3, .int 0), (0, .ref (K.2.2 24)), (1, .int a1), (2, .int a2)]) hc dX9_gives_1 rfl (by decide) rfl ?_
  refine V_sub (lv' := [(0, .ref (K.2.2 24)), (1, .int a1), (2, .int a2), (3, .int 0)]) [1, 2, 3, 0] rfl ?_
  refine L_X9_gives_2_ok hc (a1) (a2) _ (fun z8 t9 => ?_) FU _ _
  exact V_vret hc rfl rfl dX9_gives_108

theorem kX9_merge_7 : Cond.fieldLink RX9 7 RX9 (TX9 0).2.1 (TX9 0).2.2.1 ∈ wsX9_merge := by decide +kernel
theorem qX9_merge_RX9 : ∀ w ∈ u_ws RX9 TX9 28, w ∈ wsX9_merge := by
  first
  | exact fun _ h => List.mem_cons_of_mem _ (List.mem_append_right _ h)
  | exact fun _ h => List.mem_cons_of_mem _ (List.mem_append_left _ (List.mem_append_right _ h))
  | exact fun _ h => List.mem_cons_of_mem _ (List.mem_append_left _ (List.mem_append_left _ (List.mem_append_right _ h)))
  | exact fun _ h => List.mem_cons_of_mem _ (List.mem_append_left _ (List.mem_append_left _ (List.mem_append_left _ (List.mem_append_right _ h))))
  | exact fun _ h => List.mem_cons_of_mem _ (List.mem_append_left _ (List.mem_append_left _ (List.mem_append_left _ (List.mem_append_left _ (List.mem_append_right _ h)))))
  | decide +kernel
theorem kX9_merge_13 : Cond.fieldLink RX9 13 RX9 (TX9 1).2.1 (TX9 1).2.2.1 ∈ wsX9_merge := by decide +kernel
noncomputable def L_X9_merge_33 (b1 : Int32) (b2 : Int32) (b3 : Int32) (kont : Int32 → Sx → Option (Int32 × Sx)) : Nat → Int32 → Sx → Option (Int32 × Sx)
  | 0, _, _ => none
  | n + 1, x4, y => if 40 ≤ x4 then kont (x4) (y) else gd (vp_in x4 40) (if (gA y 23 (ix x4)) = 0 then L_X9_merge_33 b1 b2 b3 kont n ((x4 + 1)) (y) else if x4 = b3 then L_X9_merge_33 b1 b2 b3 kont n ((x4 + 1)) (y) else gd (vp_in x4 40) (gd (vp_in b3 40) (if (gA y 24 (ix x4)) = (gA y 24 (ix b3)) then (f_X9_gives y (x4) (b3)).bind fun r4 => L_X9_merge_33 b1 b2 b3 kont n ((x4 + 1)) (r4) else L_X9_merge_33 b1 b2 b3 kont n ((x4 + 1)) (y))))
set_option maxRecDepth 20000 in
set_option maxHeartbeats 4000000 in
theorem L_X9_merge_33_ok {p : Program} {l : Launch} {K : Kx} {e : Env} {s : State} {m : MethodId} {args : Array Value} {below : List Frame} {meth : Method} {c : Code} (hc : Cx p ({ frames := 9, cells := 0, slots := 0, locals := 207 } : Room) s m args meth c cX9_merge 5 wsX9_merge RX9 K (aA K s.heap.size) (some .int) 0 0) (b1 : Int32) (b2 : Int32) (b3 : Int32) (kont : Int32 → Sx → Option (Int32 × Sx)) (hk : ∀ x4 y, V p l e ({ frames := 9, cells := 0, slots := 0, locals := 207 } : Room) s m args below meth c K (aA K s.heap.size) 0 0 5 (QM below K args s kWI) 85 [(0, .ref (K.2.2 24)), (1, .int b1), (2, .int b2), (3, .int b3), (4, .int x4)] [] y (kont x4 y)) : ∀ (n : Nat) (x4 : Int32) (y : Sx), V p l e ({ frames := 9, cells := 0, slots := 0, locals := 207 } : Room) s m args below meth c K (aA K s.heap.size) 0 0 5 (QM below K args s kWI) 33 [(0, .ref (K.2.2 24)), (1, .int b1), (2, .int b2), (3, .int b3), (4, .int x4)] [] y (L_X9_merge_33 b1 b2 b3 kont n x4 y) := by
  intro n
  induction n with
  | zero => intro x4 y; exact V_none
  | succ n ih =>
    intro x4 y
    rw [L_X9_merge_33]
    refine V_iload hc dX9_merge_33 4 rfl ?_
    refine V_bipush (v := 40) hc dX9_merge_35 (by decide) ?_
    refine V_icmp_ge (tgt := 85) hc dX9_merge_37 (by decide) ?_ ?_
    · exact V_sub [0, 1, 2, 3, 4] rfl (hk _ _)
    · refine V_aload_n hc dX9_merge_40 rfl 0 rfl ?_
      refine V_getr (C := RX9) (T := TX9) (N := 28) hc sP24 rfl qX9_merge_RX9 0 rfl (by decide) kX9_merge_7 rfl dX9_merge_41 ?_
      refine V_iload hc dX9_merge_44 4 rfl ?_
      refine V_zald hc sP25 dX9_merge_46 ?_
      refine V_if_eq (tgt := 79) hc dX9_merge_47 (by decide) ?_ ?_
      · refine V_iinc (v := (x4 + 1)) (lv' := [(4, .int (x4 + 1)), (0, .ref (K.2.2 24)), (1, .int b1), (2, .int b2), (3, .int b3)]) hc dX9_merge_79 4 rfl rfl (by decide) rfl ?_
        refine V_goto (tgt := 33) hc dX9_merge_82 (by decide) ?_
        exact V_sub [1, 2, 3, 4, 0] rfl (ih _ _)
      · refine V_iload hc dX9_merge_50 4 rfl ?_
        refine V_iload_n hc dX9_merge_52 rfl 3 rfl ?_
        refine V_icmp_eq (tgt := 79) hc dX9_merge_53 (by decide) ?_ ?_
        · refine V_iinc (v := (x4 + 1)) (lv' := [(4, .int (x4 + 1)), (0, .ref (K.2.2 24)), (1, .int b1), (2, .int b2), (3, .int b3)]) hc dX9_merge_79 4 rfl rfl (by decide) rfl ?_
          refine V_goto (tgt := 33) hc dX9_merge_82 (by decide) ?_
          exact V_sub [1, 2, 3, 4, 0] rfl (ih _ _)
        · refine V_aload_n hc dX9_merge_56 rfl 0 rfl ?_
          refine V_getr (C := RX9) (T := TX9) (N := 28) hc sP24 rfl qX9_merge_RX9 1 rfl (by decide) kX9_merge_13 rfl dX9_merge_57 ?_
          refine V_iload hc dX9_merge_60 4 rfl ?_
          refine V_iald hc sP26 dX9_merge_62 ?_
          refine V_aload_n hc dX9_merge_63 rfl 0 rfl ?_
          refine V_getr (C := RX9) (T := TX9) (N := 28) hc sP24 rfl qX9_merge_RX9 1 rfl (by decide) kX9_merge_13 rfl dX9_merge_64 ?_
          refine V_iload_n hc dX9_merge_67 rfl 3 rfl ?_
          refine V_iald hc sP26 dX9_merge_68 ?_
          refine V_icmp_ne (tgt := 79) hc dX9_merge_69 (by decide) ?_ ?_
          · refine V_iinc (v := (x4 + 1)) (lv' := [(4, .int (x4 + 1)), (0, .ref (K.2.2 24)), (1, .int b1), (2, .int b2), (3, .int b3)]) hc dX9_merge_79 4 rfl rfl (by decide) rfl ?_
            refine V_goto (tgt := 33) hc dX9_merge_82 (by decide) ?_
            exact V_sub [1, 2, 3, 4, 0] rfl (ih _ _)
          · refine V_aload_n hc dX9_merge_72 rfl 0 rfl ?_
            refine V_iload hc dX9_merge_73 4 rfl ?_
            refine V_iload_n hc dX9_merge_75 rfl 3 rfl ?_
            refine V_callV_WV (Cn := RX9) (T := TX9) (N := 28) hc (c_X9_gives l K y (x4) (b3)) sP24 rfl 2 gX9_merge_X9_gives rfl ⟨rfl, rfl⟩ (by decide) ⟨Nat.le_of_ble_eq_true rfl, Nat.le_of_ble_eq_true rfl⟩ rfl rfl (Nat.le_of_ble_eq_true rfl) dX9_merge_76 (fun r4 => ?_)
            refine V_iinc (v := (x4 + 1)) (lv' := [(4, .int (x4 + 1)), (0, .ref (K.2.2 24)), (1, .int b1), (2, .int b2), (3, .int b3)]) hc dX9_merge_79 4 rfl rfl (by decide) rfl ?_
            refine V_goto (tgt := 33) hc dX9_merge_82 (by decide) ?_
            exact V_sub [1, 2, 3, 4, 0] rfl (ih _ _)
noncomputable def L_X9_merge_88 (b1 : Int32) (b2 : Int32) (b3 : Int32) (kont : Int32 → Sx → Option (Int32 × Sx)) : Nat → Int32 → Sx → Option (Int32 × Sx)
  | 0, _, _ => none
  | n + 1, x4, y => if 40 ≤ x4 then kont (x4) (y) else gd (vp_in x4 40) (if (gA y 23 (ix x4)) = 0 then L_X9_merge_88 b1 b2 b3 kont n ((x4 + 1)) (y) else if x4 = b3 then L_X9_merge_88 b1 b2 b3 kont n ((x4 + 1)) (y) else gd (vp_in x4 40) (gd (vp_in b3 40) (if (gA y 24 (ix x4)) = (gA y 24 (ix b3)) then (f_X9_goes y (x4)).bind fun r7 => L_X9_merge_88 b1 b2 b3 kont n ((x4 + 1)) (r7) else L_X9_merge_88 b1 b2 b3 kont n ((x4 + 1)) (y))))
set_option maxRecDepth 20000 in
set_option maxHeartbeats 4000000 in
theorem L_X9_merge_88_ok {p : Program} {l : Launch} {K : Kx} {e : Env} {s : State} {m : MethodId} {args : Array Value} {below : List Frame} {meth : Method} {c : Code} (hc : Cx p ({ frames := 9, cells := 0, slots := 0, locals := 207 } : Room) s m args meth c cX9_merge 5 wsX9_merge RX9 K (aA K s.heap.size) (some .int) 0 0) (b1 : Int32) (b2 : Int32) (b3 : Int32) (kont : Int32 → Sx → Option (Int32 × Sx)) (hk : ∀ x4 y, V p l e ({ frames := 9, cells := 0, slots := 0, locals := 207 } : Room) s m args below meth c K (aA K s.heap.size) 0 0 5 (QM below K args s kWI) 139 [(0, .ref (K.2.2 24)), (1, .int b1), (2, .int b2), (3, .int b3), (4, .int x4)] [] y (kont x4 y)) : ∀ (n : Nat) (x4 : Int32) (y : Sx), V p l e ({ frames := 9, cells := 0, slots := 0, locals := 207 } : Room) s m args below meth c K (aA K s.heap.size) 0 0 5 (QM below K args s kWI) 88 [(0, .ref (K.2.2 24)), (1, .int b1), (2, .int b2), (3, .int b3), (4, .int x4)] [] y (L_X9_merge_88 b1 b2 b3 kont n x4 y) := by
  intro n
  induction n with
  | zero => intro x4 y; exact V_none
  | succ n ih =>
    intro x4 y
    rw [L_X9_merge_88]
    refine V_iload hc dX9_merge_88 4 rfl ?_
    refine V_bipush (v := 40) hc dX9_merge_90 (by decide) ?_
    refine V_icmp_ge (tgt := 139) hc dX9_merge_92 (by decide) ?_ ?_
    · exact V_sub [0, 1, 2, 3, 4] rfl (hk _ _)
    · refine V_aload_n hc dX9_merge_95 rfl 0 rfl ?_
      refine V_getr (C := RX9) (T := TX9) (N := 28) hc sP24 rfl qX9_merge_RX9 0 rfl (by decide) kX9_merge_7 rfl dX9_merge_96 ?_
      refine V_iload hc dX9_merge_99 4 rfl ?_
      refine V_zald hc sP25 dX9_merge_101 ?_
      refine V_if_eq (tgt := 133) hc dX9_merge_102 (by decide) ?_ ?_
      · refine V_iinc (v := (x4 + 1)) (lv' := [(4, .int (x4 + 1)), (0, .ref (K.2.2 24)), (1, .int b1), (2, .int b2), (3, .int b3)]) hc dX9_merge_133 4 rfl rfl (by decide) rfl ?_
        refine V_goto (tgt := 88) hc dX9_merge_136 (by decide) ?_
        exact V_sub [1, 2, 3, 4, 0] rfl (ih _ _)
      · refine V_iload hc dX9_merge_105 4 rfl ?_
        refine V_iload_n hc dX9_merge_107 rfl 3 rfl ?_
        refine V_icmp_eq (tgt := 133) hc dX9_merge_108 (by decide) ?_ ?_
        · refine V_iinc (v := (x4 + 1)) (lv' := [(4, .int (x4 + 1)), (0, .ref (K.2.2 24)), (1, .int b1), (2, .int b2), (3, .int b3)]) hc dX9_merge_133 4 rfl rfl (by decide) rfl ?_
          refine V_goto (tgt := 88) hc dX9_merge_136 (by decide) ?_
          exact V_sub [1, 2, 3, 4, 0] rfl (ih _ _)
        · refine V_aload_n hc dX9_merge_111 rfl 0 rfl ?_
          refine V_getr (C := RX9) (T := TX9) (N := 28) hc sP24 rfl qX9_merge_RX9 1 rfl (by decide) kX9_merge_13 rfl dX9_merge_112 ?_
          refine V_iload hc dX9_merge_115 4 rfl ?_
          refine V_iald hc sP26 dX9_merge_117 ?_
          refine V_aload_n hc dX9_merge_118 rfl 0 rfl ?_
          refine V_getr (C := RX9) (T := TX9) (N := 28) hc sP24 rfl qX9_merge_RX9 1 rfl (by decide) kX9_merge_13 rfl dX9_merge_119 ?_
          refine V_iload_n hc dX9_merge_122 rfl 3 rfl ?_
          refine V_iald hc sP26 dX9_merge_123 ?_
          refine V_icmp_ne (tgt := 133) hc dX9_merge_124 (by decide) ?_ ?_
          · refine V_iinc (v := (x4 + 1)) (lv' := [(4, .int (x4 + 1)), (0, .ref (K.2.2 24)), (1, .int b1), (2, .int b2), (3, .int b3)]) hc dX9_merge_133 4 rfl rfl (by decide) rfl ?_
            refine V_goto (tgt := 88) hc dX9_merge_136 (by decide) ?_
            exact V_sub [1, 2, 3, 4, 0] rfl (ih _ _)
          · refine V_aload_n hc dX9_merge_127 rfl 0 rfl ?_
            refine V_iload hc dX9_merge_128 4 rfl ?_
            refine V_callV_WV (Cn := RX9) (T := TX9) (N := 28) hc (c_X9_goes l K y (x4)) sP24 rfl 1 gX9_merge_X9_goes rfl ⟨rfl, rfl⟩ (by decide) ⟨Nat.le_of_ble_eq_true rfl, Nat.le_of_ble_eq_true rfl⟩ rfl rfl (Nat.le_of_ble_eq_true rfl) dX9_merge_130 (fun r7 => ?_)
            refine V_iinc (v := (x4 + 1)) (lv' := [(4, .int (x4 + 1)), (0, .ref (K.2.2 24)), (1, .int b1), (2, .int b2), (3, .int b3)]) hc dX9_merge_133 4 rfl rfl (by decide) rfl ?_
            refine V_goto (tgt := 88) hc dX9_merge_136 (by decide) ?_
            exact V_sub [1, 2, 3, 4, 0] rfl (ih _ _)
noncomputable def f_X9_merge (t : Sx) (a1 : Int32) : Option (Int32 × Sx) := (f_X9_there t (a1)).bind fun r1 => if r1 = 0 then some ((-1), t) else (f_X9_group t (a1)).bind fun r2 => if r2 = 1 then some ((-2), t) else (f_X9_keeper t (a1)).bind fun r3 => L_X9_merge_33 (a1) (r2) (r3) (fun z5 t6 => L_X9_merge_88 (a1) (r2) (r3) (fun z8 t9 => (f_X9_settled t9 (r2 - 1)).bind fun r10 => some (r10.1, r10.2)) FU (0) (t6)) FU (0) (t)
set_option maxRecDepth 20000 in
set_option maxHeartbeats 4000000 in
theorem c_X9_merge (l : Launch) (K : Kx) (t : Sx) (a1 : Int32) : CT l K yX9_merge wsX9_merge ({ frames := 9, cells := 0, slots := 0, locals := 207 } : Room) [.ref (K.2.2 24), .int a1] t (f_X9_merge t a1) kWI := by
  refine CT_of (cc := cX9_merge) (maxL := 5) (ret := (some .int)) (own := RX9) (by decide +kernel) rfl rfl (Nat.le_of_ble_eq_true rfl) ?_
  intro p e s m args below meth c hc
  refine V_sub (lv' := [(0, .ref (K.2.2 24)), (1, .int a1)]) [0, 1] rfl ?_
  unfold f_X9_merge
  refine V_aload_n hc dX9_merge_0 rfl 0 rfl ?_
  refine V_iload_n hc dX9_merge_1 rfl 1 rfl ?_
  refine V_callV_RI (Cn := RX9) (T := TX9) (N := 28) hc (c_X9_there l K t (a1)) sP24 rfl 1 gX9_merge_X9_there rfl ⟨rfl, rfl⟩ (by decide) ⟨Nat.le_of_ble_eq_true rfl, Nat.le_of_ble_eq_true rfl⟩ rfl rfl (Nat.le_of_ble_eq_true rfl) dX9_merge_2 (fun r1 => ?_)
  refine V_if_ne (tgt := 10) hc dX9_merge_5 (by decide) ?_ ?_
  · refine V_aload_n hc dX9_merge_10 rfl 0 rfl ?_
    refine V_iload_n hc dX9_merge_11 rfl 1 rfl ?_
    refine V_callV_RI (Cn := RX9) (T := TX9) (N := 28) hc (c_X9_group l K t (a1)) sP24 rfl 1 gX9_merge_X9_group rfl ⟨rfl, rfl⟩ (by decide) ⟨Nat.le_of_ble_eq_true rfl, Nat.le_of_ble_eq_true rfl⟩ rfl rfl (Nat.le_of_ble_eq_true rfl) dX9_merge_12 (fun r2 => ?_)
    refine V_istore_n (lv' := [(2, .int r2), (0, .ref (K.2.2 24)), (1, .int a1)]) hc dX9_merge_15 rfl (by decide) rfl ?_
    refine V_iload_n hc dX9_merge_16 rfl 0 rfl ?_
    refine V_iconst (v := 1) hc dX9_merge_17 (by decide) ?_
    refine V_icmp_ne (tgt := 24) hc dX9_merge_18 (by decide) ?_ ?_
    · refine V_aload_n hc dX9_merge_24 rfl 1 rfl ?_
      refine V_iload_n hc dX9_merge_25 rfl 2 rfl ?_
      refine V_callV_RI (Cn := RX9) (T := TX9) (N := 28) hc (c_X9_keeper l K t (a1)) sP24 rfl 1 gX9_merge_X9_keeper rfl ⟨rfl, rfl⟩ (by decide) ⟨Nat.le_of_ble_eq_true rfl, Nat.le_of_ble_eq_true rfl⟩ rfl rfl (Nat.le_of_ble_eq_true rfl) dX9_merge_26 (fun r3 => ?_)
      refine V_istore_n (lv' := [(3, .int r3), (2, .int r2), (0, .ref (K.2.2 24)), (1, .int a1)]) hc dX9_merge_29 rfl (by decide) rfl ?_
      refine V_iconst (v := 0) hc dX9_merge_30 (by decide) ?_
      refine V_istore (lv' := [(4, .int 0), (3, .int r3), (2, .int r2), (0, .ref (K.2.2 24)), (1, .int a1)]) hc dX9_merge_31 (by decide) rfl ?_
      refine V_sub (lv' := [(0, .ref (K.2.2 24)), (1, .int a1), (2, .int r2), (3, .int r3), (4, .int 0)]) [3, 4, 2, 1, 0] rfl ?_
      refine L_X9_merge_33_ok hc (a1) (r2) (r3) _ (fun z5 t6 => ?_) FU _ _
      refine V_iconst (v := 0) hc dX9_merge_85 (by decide) ?_
      refine V_istore (lv' := [(4, .int 0), (0, .ref (K.2.2 24)), (1, .int a1), (2, .int r2), (3, .int r3)]) hc dX9_merge_86 (by decide) rfl ?_
      refine V_sub (lv' := [(0, .ref (K.2.2 24)), (1, .int a1), (2, .int r2), (3, .int r3), (4, .int 0)]) [1, 2, 3, 4, 0] rfl ?_
      refine L_X9_merge_88_ok hc (a1) (r2) (r3) _ (fun z8 t9 => ?_) FU _ _
      refine V_aload_n hc dX9_merge_139 rfl 0 rfl ?_
      refine V_iload_n hc dX9_merge_140 rfl 2 rfl ?_
      refine V_iconst (v := 1) hc dX9_merge_141 (by decide) ?_
      refine V_isub hc dX9_merge_142 ?_
      refine V_callV_WI (Cn := RX9) (T := TX9) (N := 28) hc (c_X9_settled l K t9 (r2 - 1)) sP24 rfl 1 gX9_merge_X9_settled rfl ⟨rfl, rfl⟩ (by decide) ⟨Nat.le_of_ble_eq_true rfl, Nat.le_of_ble_eq_true rfl⟩ rfl rfl (Nat.le_of_ble_eq_true rfl) dX9_merge_143 (fun r10 => ?_)
      exact V_iret hc rfl rfl dX9_merge_146
    · refine V_bipush (v := (-2)) hc dX9_merge_21 (by decide) ?_
      exact V_iret hc rfl rfl dX9_merge_23
  · refine V_iconst (v := (-1)) hc dX9_merge_8 (by decide) ?_
    exact V_iret hc rfl rfl dX9_merge_9

theorem kX9_stack_29 : Cond.fieldLink RX9 29 RX9 (TX9 6).2.1 (TX9 6).2.2.1 ∈ wsX9_stack := by decide +kernel
theorem qX9_stack_RX9 : ∀ w ∈ u_ws RX9 TX9 28, w ∈ wsX9_stack := by
  first
  | exact fun _ h => List.mem_cons_of_mem _ (List.mem_append_right _ h)
  | exact fun _ h => List.mem_cons_of_mem _ (List.mem_append_left _ (List.mem_append_right _ h))
  | exact fun _ h => List.mem_cons_of_mem _ (List.mem_append_left _ (List.mem_append_left _ (List.mem_append_right _ h)))
  | exact fun _ h => List.mem_cons_of_mem _ (List.mem_append_left _ (List.mem_append_left _ (List.mem_append_left _ (List.mem_append_right _ h))))
  | exact fun _ h => List.mem_cons_of_mem _ (List.mem_append_left _ (List.mem_append_left _ (List.mem_append_left _ (List.mem_append_left _ (List.mem_append_right _ h)))))
  | decide +kernel
theorem kX9_stack_32 : Cond.fieldLink RX9 32 RX9 (TX9 7).2.1 (TX9 7).2.2.1 ∈ wsX9_stack := by decide +kernel
theorem kX9_stack_35 : Cond.fieldLink RX9 35 RX9 (TX9 8).2.1 (TX9 8).2.2.1 ∈ wsX9_stack := by decide +kernel
theorem kX9_stack_38 : Cond.fieldLink RX9 38 RX9 (TX9 9).2.1 (TX9 9).2.2.1 ∈ wsX9_stack := by decide +kernel
theorem kX9_stack_41 : Cond.fieldLink RX9 41 RX9 (TX9 10).2.1 (TX9 10).2.2.1 ∈ wsX9_stack := by decide +kernel
noncomputable def L_X9_stack_46 (t0 : Sx) (b1 : Int32) (b2 : Int32) (kont : Int32 → Option (Int32 × Sx)) : Nat → Int32 → Option (Int32 × Sx)
  | 0, _ => none
  | n + 1, x3 => if 10 ≤ x3 then kont (x3) else gd (vp_in x3 10) (if (gA t0 30 (ix x3)) ≤ 0 then kont (x3) else L_X9_stack_46 t0 b1 b2 kont n ((x3 + 1)))
set_option maxRecDepth 20000 in
set_option maxHeartbeats 4000000 in
theorem L_X9_stack_46_ok {p : Program} {l : Launch} {K : Kx} {e : Env} {s : State} {m : MethodId} {args : Array Value} {below : List Frame} {meth : Method} {c : Code} (hc : Cx p ({ frames := 9, cells := 0, slots := 0, locals := 207 } : Room) s m args meth c cX9_stack 4 wsX9_stack RX9 K (aA K s.heap.size) (some .int) 0 0) (t0 : Sx) (b1 : Int32) (b2 : Int32) (kont : Int32 → Option (Int32 × Sx)) (hk : ∀ x3, V p l e ({ frames := 9, cells := 0, slots := 0, locals := 207 } : Room) s m args below meth c K (aA K s.heap.size) 0 0 4 (QM below K args s kWI) 67 [(0, .ref (K.2.2 24)), (1, .int b1), (2, .int b2), (3, .int x3)] [] t0 (kont x3)) : ∀ (n : Nat) (x3 : Int32), V p l e ({ frames := 9, cells := 0, slots := 0, locals := 207 } : Room) s m args below meth c K (aA K s.heap.size) 0 0 4 (QM below K args s kWI) 46 [(0, .ref (K.2.2 24)), (1, .int b1), (2, .int b2), (3, .int x3)] [] t0 (L_X9_stack_46 t0 b1 b2 kont n x3) := by
  intro n
  induction n with
  | zero => intro x3; exact V_none
  | succ n ih =>
    intro x3
    rw [L_X9_stack_46]
    refine V_iload_n hc dX9_stack_46 rfl 3 rfl ?_
    refine V_bipush (v := 10) hc dX9_stack_47 (by decide) ?_
    refine V_icmp_ge (tgt := 67) hc dX9_stack_49 (by decide) ?_ ?_
    · exact V_sub [0, 1, 2, 3] rfl (hk _)
    · refine V_aload_n hc dX9_stack_52 rfl 0 rfl ?_
      refine V_getr (C := RX9) (T := TX9) (N := 28) hc sP24 rfl qX9_stack_RX9 7 rfl (by decide) kX9_stack_32 rfl dX9_stack_53 ?_
      refine V_iload_n hc dX9_stack_56 rfl 3 rfl ?_
      refine V_iald hc sP32 dX9_stack_57 ?_
      refine V_if_le (tgt := 67) hc dX9_stack_58 (by decide) ?_ ?_
      · exact V_sub [0, 1, 2, 3] rfl (hk _)
      · refine V_iinc (v := (x3 + 1)) (lv' := [(3, .int (x3 + 1)), (0, .ref (K.2.2 24)), (1, .int b1), (2, .int b2)]) hc dX9_stack_61 3 rfl rfl (by decide) rfl ?_
        refine V_goto (tgt := 46) hc dX9_stack_64 (by decide) ?_
        exact V_sub [1, 2, 3, 0] rfl (ih _)
noncomputable def f_X9_stack (t : Sx) (a1 : Int32) (a2 : Int32) : Option (Int32 × Sx) := (f_X9_there t (a1)).bind fun r1 => if r1 = 0 then some ((-1), t) else (f_X9_there t (a2)).bind fun r2 => if r2 = 0 then some ((-1), t) else if a1 = a2 then some ((-1), t) else gd (vp_in a1 40) (if 0 ≤ (gA t 29 (ix a1)) then some ((-2), t) else gd (vp_in a2 40) (if (gA t 29 (ix a2)) < 0 then L_X9_stack_46 t (a1) (a2) (fun z3 => if z3 = 10 then some ((-3), t) else gd (vp_in z3 10) (bd (pA t 30 (ix z3) 2) fun t4 => gd (vp_in (8 * z3) 80) (bd (pA t4 31 (ix (8 * z3)) a1) fun t5 => gd (vp_in ((8 * z3) + 1) 80) (bd (pA t5 31 (ix ((8 * z3) + 1)) a2) fun t6 => gd (vp_in z3 10) (bd (pA t6 32 (ix z3) (-1)) fun t7 => gd (vp_in z3 10) (bd (pA t7 33 (ix z3) 0) fun t8 => gd (vp_in a1 40) (bd (pA t8 29 (ix a1) z3) fun t9 => gd (vp_in a2 40) (bd (pA t9 29 (ix a2) z3) fun t10 => (f_X9_settled t10 (z3)).bind fun r11 => some (r11.1, r11.2))))))))) FU (0) else some ((-2), t)))
set_option maxRecDepth 20000 in
set_option maxHeartbeats 4000000 in
theorem c_X9_stack (l : Launch) (K : Kx) (t : Sx) (a1 : Int32) (a2 : Int32) : CT l K yX9_stack wsX9_stack ({ frames := 9, cells := 0, slots := 0, locals := 207 } : Room) [.ref (K.2.2 24), .int a1, .int a2] t (f_X9_stack t a1 a2) kWI := by
  refine CT_of (cc := cX9_stack) (maxL := 4) (ret := (some .int)) (own := RX9) (by decide +kernel) rfl rfl (Nat.le_of_ble_eq_true rfl) ?_
  intro p e s m args below meth c hc
  refine V_sub (lv' := [(0, .ref (K.2.2 24)), (1, .int a1), (2, .int a2)]) [0, 1, 2] rfl ?_
  unfold f_X9_stack
  refine V_aload_n hc dX9_stack_0 rfl 0 rfl ?_
  refine V_iload_n hc dX9_stack_1 rfl 1 rfl ?_
  refine V_callV_RI (Cn := RX9) (T := TX9) (N := 28) hc (c_X9_there l K t (a1)) sP24 rfl 1 gX9_stack_X9_there rfl ⟨rfl, rfl⟩ (by decide) ⟨Nat.le_of_ble_eq_true rfl, Nat.le_of_ble_eq_true rfl⟩ rfl rfl (Nat.le_of_ble_eq_true rfl) dX9_stack_2 (fun r1 => ?_)
  refine V_if_eq (tgt := 21) hc dX9_stack_5 (by decide) ?_ ?_
  · refine V_iconst (v := (-1)) hc dX9_stack_21 (by decide) ?_
    exact V_iret hc rfl rfl dX9_stack_22
  · refine V_aload_n hc dX9_stack_8 rfl 0 rfl ?_
    refine V_iload_n hc dX9_stack_9 rfl 2 rfl ?_
    refine V_callV_RI (Cn := RX9) (T := TX9) (N := 28) hc (c_X9_there l K t (a2)) sP24 rfl 1 gX9_stack_X9_there rfl ⟨rfl, rfl⟩ (by decide) ⟨Nat.le_of_ble_eq_true rfl, Nat.le_of_ble_eq_true rfl⟩ rfl rfl (Nat.le_of_ble_eq_true rfl) dX9_stack_10 (fun r2 => ?_)
    refine V_if_eq (tgt := 21) hc dX9_stack_13 (by decide) ?_ ?_
    · refine V_iconst (v := (-1)) hc dX9_stack_21 (by decide) ?_
      exact V_iret hc rfl rfl dX9_stack_22
    · refine V_iload_n hc dX9_stack_16 rfl 1 rfl ?_
      refine V_iload_n hc dX9_stack_17 rfl 2 rfl ?_
      refine V_icmp_ne (tgt := 23) hc dX9_stack_18 (by decide) ?_ ?_
      · refine V_aload_n hc dX9_stack_23 rfl 0 rfl ?_
        refine V_getr (C := RX9) (T := TX9) (N := 28) hc sP24 rfl qX9_stack_RX9 6 rfl (by decide) kX9_stack_29 rfl dX9_stack_24 ?_
        refine V_iload_n hc dX9_stack_27 rfl 1 rfl ?_
        refine V_iald hc sP31 dX9_stack_28 ?_
        refine V_if_ge (tgt := 41) hc dX9_stack_29 (by decide) ?_ ?_
        · refine V_bipush (v := (-2)) hc dX9_stack_41 (by decide) ?_
          exact V_iret hc rfl rfl dX9_stack_43
        · refine V_aload_n hc dX9_stack_32 rfl 0 rfl ?_
          refine V_getr (C := RX9) (T := TX9) (N := 28) hc sP24 rfl qX9_stack_RX9 6 rfl (by decide) kX9_stack_29 rfl dX9_stack_33 ?_
          refine V_iload_n hc dX9_stack_36 rfl 2 rfl ?_
          refine V_iald hc sP31 dX9_stack_37 ?_
          refine V_if_lt (tgt := 44) hc dX9_stack_38 (by decide) ?_ ?_
          · refine V_iconst (v := 0) hc dX9_stack_44 (by decide) ?_
            refine V_istore_n (lv' := [(3, .int 0), (0, .ref (K.2.2 24)), (1, .int a1), (2, .int a2)]) hc dX9_stack_45 rfl (by decide) rfl ?_
            refine V_sub (lv' := [(0, .ref (K.2.2 24)), (1, .int a1), (2, .int a2), (3, .int 0)]) [1, 2, 3, 0] rfl ?_
            refine L_X9_stack_46_ok hc t (a1) (a2) _ (fun z3 => ?_) FU _
            refine V_iload_n hc dX9_stack_67 rfl 3 rfl ?_
            refine V_bipush (v := 10) hc dX9_stack_68 (by decide) ?_
            refine V_icmp_ne (tgt := 76) hc dX9_stack_70 (by decide) ?_ ?_
            · refine V_aload_n hc dX9_stack_76 rfl 0 rfl ?_
              refine V_getr (C := RX9) (T := TX9) (N := 28) hc sP24 rfl qX9_stack_RX9 7 rfl (by decide) kX9_stack_32 rfl dX9_stack_77 ?_
              refine V_iload_n hc dX9_stack_80 rfl 3 rfl ?_
              refine V_iconst (v := 2) hc dX9_stack_81 (by decide) ?_
              refine V_iast hc sP32 dX9_stack_82 ?_
              refine V_bds (fun t4 => ?_)
              refine V_aload_n hc dX9_stack_83 rfl 0 rfl ?_
              refine V_getr (C := RX9) (T := TX9) (N := 28) hc sP24 rfl qX9_stack_RX9 8 rfl (by decide) kX9_stack_35 rfl dX9_stack_84 ?_
              refine V_bipush (v := 8) hc dX9_stack_87 (by decide) ?_
              refine V_iload_n hc dX9_stack_89 rfl 3 rfl ?_
              refine V_imul hc dX9_stack_90 ?_
              refine V_iload_n hc dX9_stack_91 rfl 1 rfl ?_
              refine V_iast hc sP33 dX9_stack_92 ?_
              refine V_bds (fun t5 => ?_)
              refine V_aload_n hc dX9_stack_93 rfl 0 rfl ?_
              refine V_getr (C := RX9) (T := TX9) (N := 28) hc sP24 rfl qX9_stack_RX9 8 rfl (by decide) kX9_stack_35 rfl dX9_stack_94 ?_
              refine V_bipush (v := 8) hc dX9_stack_97 (by decide) ?_
              refine V_iload_n hc dX9_stack_99 rfl 3 rfl ?_
              refine V_imul hc dX9_stack_100 ?_
              refine V_iconst (v := 1) hc dX9_stack_101 (by decide) ?_
              refine V_iadd hc dX9_stack_102 ?_
              refine V_iload_n hc dX9_stack_103 rfl 2 rfl ?_
              refine V_iast hc sP33 dX9_stack_104 ?_
              refine V_bds (fun t6 => ?_)
              refine V_aload_n hc dX9_stack_105 rfl 0 rfl ?_
              refine V_getr (C := RX9) (T := TX9) (N := 28) hc sP24 rfl qX9_stack_RX9 9 rfl (by decide) kX9_stack_38 rfl dX9_stack_106 ?_
              refine V_iload_n hc dX9_stack_109 rfl 3 rfl ?_
              refine V_iconst (v := (-1)) hc dX9_stack_110 (by decide) ?_
              refine V_iast hc sP34 dX9_stack_111 ?_
              refine V_bds (fun t7 => ?_)
              refine V_aload_n hc dX9_stack_112 rfl 0 rfl ?_
              refine V_getr (C := RX9) (T := TX9) (N := 28) hc sP24 rfl qX9_stack_RX9 10 rfl (by decide) kX9_stack_41 rfl dX9_stack_113 ?_
              refine V_iload_n hc dX9_stack_116 rfl 3 rfl ?_
              refine V_iconst (v := 0) hc dX9_stack_117 (by decide) ?_
              refine V_zastc hc sP35 (Or.inl rfl) dX9_stack_118 ?_
              refine V_bds (fun t8 => ?_)
              refine V_aload_n hc dX9_stack_119 rfl 0 rfl ?_
              refine V_getr (C := RX9) (T := TX9) (N := 28) hc sP24 rfl qX9_stack_RX9 6 rfl (by decide) kX9_stack_29 rfl dX9_stack_120 ?_
              refine V_iload_n hc dX9_stack_123 rfl 1 rfl ?_
              refine V_iload_n hc dX9_stack_124 rfl 3 rfl ?_
              refine V_iast hc sP31 dX9_stack_125 ?_
              refine V_bds (fun t9 => ?_)
              refine V_aload_n hc dX9_stack_126 rfl 0 rfl ?_
              refine V_getr (C := RX9) (T := TX9) (N := 28) hc sP24 rfl qX9_stack_RX9 6 rfl (by decide) kX9_stack_29 rfl dX9_stack_127 ?_
              refine V_iload_n hc dX9_stack_130 rfl 2 rfl ?_
              refine V_iload_n hc dX9_stack_131 rfl 3 rfl ?_
              refine V_iast hc sP31 dX9_stack_132 ?_
              refine V_bds (fun t10 => ?_)
              refine V_aload_n hc dX9_stack_133 rfl 0 rfl ?_
              refine V_iload_n hc dX9_stack_134 rfl 3 rfl ?_
              refine V_callV_WI (Cn := RX9) (T := TX9) (N := 28) hc (c_X9_settled l K t10 (z3)) sP24 rfl 1 gX9_stack_X9_settled rfl ⟨rfl, rfl⟩ (by decide) ⟨Nat.le_of_ble_eq_true rfl, Nat.le_of_ble_eq_true rfl⟩ rfl rfl (Nat.le_of_ble_eq_true rfl) dX9_stack_135 (fun r11 => ?_)
              exact V_iret hc rfl rfl dX9_stack_138
            · refine V_bipush (v := (-3)) hc dX9_stack_73 (by decide) ?_
              exact V_iret hc rfl rfl dX9_stack_75
          · refine V_bipush (v := (-2)) hc dX9_stack_41 (by decide) ?_
            exact V_iret hc rfl rfl dX9_stack_43
      · refine V_iconst (v := (-1)) hc dX9_stack_21 (by decide) ?_
        exact V_iret hc rfl rfl dX9_stack_22

theorem kX9_putInto_32 : Cond.fieldLink RX9 32 RX9 (TX9 7).2.1 (TX9 7).2.2.1 ∈ wsX9_putInto := by decide +kernel
theorem qX9_putInto_RX9 : ∀ w ∈ u_ws RX9 TX9 28, w ∈ wsX9_putInto := by
  first
  | exact fun _ h => List.mem_cons_of_mem _ (List.mem_append_right _ h)
  | exact fun _ h => List.mem_cons_of_mem _ (List.mem_append_left _ (List.mem_append_right _ h))
  | exact fun _ h => List.mem_cons_of_mem _ (List.mem_append_left _ (List.mem_append_left _ (List.mem_append_right _ h)))
  | exact fun _ h => List.mem_cons_of_mem _ (List.mem_append_left _ (List.mem_append_left _ (List.mem_append_left _ (List.mem_append_right _ h))))
  | exact fun _ h => List.mem_cons_of_mem _ (List.mem_append_left _ (List.mem_append_left _ (List.mem_append_left _ (List.mem_append_left _ (List.mem_append_right _ h)))))
  | decide +kernel
theorem kX9_putInto_29 : Cond.fieldLink RX9 29 RX9 (TX9 6).2.1 (TX9 6).2.2.1 ∈ wsX9_putInto := by decide +kernel
theorem kX9_putInto_35 : Cond.fieldLink RX9 35 RX9 (TX9 8).2.1 (TX9 8).2.2.1 ∈ wsX9_putInto := by decide +kernel
noncomputable def L_X9_putInto_66 (b1 : Int32) (b2 : Int32) (b3 : Int32) (kont : Int32 → Sx → Option (Int32 × Sx)) : Nat → Int32 → Sx → Option (Int32 × Sx)
  | 0, _, _ => none
  | n + 1, x4, y => if x4 ≤ b3 then kont (x4) (y) else gd (vp_in (((8 * b1) + x4) - 1) 80) (gd (vp_in ((8 * b1) + x4) 80) (bd (pA y 31 (ix ((8 * b1) + x4)) (gA y 31 (ix (((8 * b1) + x4) - 1)))) fun t4 => L_X9_putInto_66 b1 b2 b3 kont n ((x4 + (-1))) (t4)))
set_option maxRecDepth 20000 in
set_option maxHeartbeats 4000000 in
theorem L_X9_putInto_66_ok {p : Program} {l : Launch} {K : Kx} {e : Env} {s : State} {m : MethodId} {args : Array Value} {below : List Frame} {meth : Method} {c : Code} (hc : Cx p ({ frames := 9, cells := 0, slots := 0, locals := 207 } : Room) s m args meth c cX9_putInto 5 wsX9_putInto RX9 K (aA K s.heap.size) (some .int) 0 0) (b1 : Int32) (b2 : Int32) (b3 : Int32) (kont : Int32 → Sx → Option (Int32 × Sx)) (hk : ∀ x4 y, V p l e ({ frames := 9, cells := 0, slots := 0, locals := 207 } : Room) s m args below meth c K (aA K s.heap.size) 0 0 5 (QM below K args s kWI) 104 [(0, .ref (K.2.2 24)), (1, .int b1), (2, .int b2), (3, .int b3), (4, .int x4)] [] y (kont x4 y)) : ∀ (n : Nat) (x4 : Int32) (y : Sx), V p l e ({ frames := 9, cells := 0, slots := 0, locals := 207 } : Room) s m args below meth c K (aA K s.heap.size) 0 0 5 (QM below K args s kWI) 66 [(0, .ref (K.2.2 24)), (1, .int b1), (2, .int b2), (3, .int b3), (4, .int x4)] [] y (L_X9_putInto_66 b1 b2 b3 kont n x4 y) := by
  intro n
  induction n with
  | zero => intro x4 y; exact V_none
  | succ n ih =>
    intro x4 y
    rw [L_X9_putInto_66]
    refine V_iload hc dX9_putInto_66 4 rfl ?_
    refine V_iload_n hc dX9_putInto_68 rfl 3 rfl ?_
    refine V_icmp_le (tgt := 104) hc dX9_putInto_69 (by decide) ?_ ?_
    · exact V_sub [0, 1, 2, 3, 4] rfl (hk _ _)
    · refine V_aload_n hc dX9_putInto_72 rfl 0 rfl ?_
      refine V_getr (C := RX9) (T := TX9) (N := 28) hc sP24 rfl qX9_putInto_RX9 8 rfl (by decide) kX9_putInto_35 rfl dX9_putInto_73 ?_
      refine V_bipush (v := 8) hc dX9_putInto_76 (by decide) ?_
      refine V_iload_n hc dX9_putInto_78 rfl 1 rfl ?_
      refine V_imul hc dX9_putInto_79 ?_
      refine V_iload hc dX9_putInto_80 4 rfl ?_
      refine V_iadd hc dX9_putInto_82 ?_
      refine V_aload_n hc dX9_putInto_83 rfl 0 rfl ?_
      refine V_getr (C := RX9) (T := TX9) (N := 28) hc sP24 rfl qX9_putInto_RX9 8 rfl (by decide) kX9_putInto_35 rfl dX9_putInto_84 ?_
      refine V_bipush (v := 8) hc dX9_putInto_87 (by decide) ?_
      refine V_iload_n hc dX9_putInto_89 rfl 1 rfl ?_
      refine V_imul hc dX9_putInto_90 ?_
      refine V_iload hc dX9_putInto_91 4 rfl ?_
      refine V_iadd hc dX9_putInto_93 ?_
      refine V_iconst (v := 1) hc dX9_putInto_94 (by decide) ?_
      refine V_isub hc dX9_putInto_95 ?_
      refine V_iald hc sP33 dX9_putInto_96 ?_
      refine V_iast hc sP33 dX9_putInto_97 ?_
      refine V_bds (fun t4 => ?_)
      refine V_iinc (v := (x4 + (-1))) (lv' := [(4, .int (x4 + (-1))), (0, .ref (K.2.2 24)), (1, .int b1), (2, .int b2), (3, .int b3)]) hc dX9_putInto_98 4 rfl rfl (by decide) rfl ?_
      refine V_goto (tgt := 66) hc dX9_putInto_101 (by decide) ?_
      exact V_sub [1, 2, 3, 4, 0] rfl (ih _ _)
noncomputable def f_X9_putInto (t : Sx) (a1 : Int32) (a2 : Int32) (a3 : Int32) : Option (Int32 × Sx) := (f_X9_isStack t (a1)).bind fun r1 => if r1 = 0 then some ((-1), t) else (f_X9_there t (a2)).bind fun r2 => if r2 = 0 then some ((-1), t) else gd (vp_in a1 10) ((f_X9_in t (a3) (0) (gA t 30 (ix a1))).bind fun r3 => if r3 = 0 then some ((-1), t) else gd (vp_in a2 40) (if (gA t 29 (ix a2)) < 0 then gd (vp_in a1 10) (if (gA t 30 (ix a1)) = 8 then some ((-3), t) else gd (vp_in a1 10) (L_X9_putInto_66 (a1) (a2) (a3) (fun z5 t6 => gd (vp_in ((8 * a1) + a3) 80) (bd (pA t6 31 (ix ((8 * a1) + a3)) a2) fun t7 => gd (vp_in a2 40) (bd (pA t7 29 (ix a2) a1) fun t8 => gd (vp_in a1 10) (gd (vp_in a1 10) (bd (pA t8 30 (ix a1) ((gA t8 30 (ix a1)) + 1)) fun t9 => gd (vp_in a1 10) ((f_X9_settled t9 (gA t9 30 (ix a1))).bind fun r10 => some (r10.1, r10.2))))))) FU ((gA t 30 (ix a1))) (t))) else some ((-2), t)))
set_option maxRecDepth 20000 in
set_option maxHeartbeats 4000000 in
theorem c_X9_putInto (l : Launch) (K : Kx) (t : Sx) (a1 : Int32) (a2 : Int32) (a3 : Int32) : CT l K yX9_putInto wsX9_putInto ({ frames := 9, cells := 0, slots := 0, locals := 207 } : Room) [.ref (K.2.2 24), .int a1, .int a2, .int a3] t (f_X9_putInto t a1 a2 a3) kWI := by
  refine CT_of (cc := cX9_putInto) (maxL := 5) (ret := (some .int)) (own := RX9) (by decide +kernel) rfl rfl (Nat.le_of_ble_eq_true rfl) ?_
  intro p e s m args below meth c hc
  refine V_sub (lv' := [(0, .ref (K.2.2 24)), (1, .int a1), (2, .int a2), (3, .int a3)]) [0, 1, 2, 3] rfl ?_
  unfold f_X9_putInto
  refine V_aload_n hc dX9_putInto_0 rfl 0 rfl ?_
  refine V_iload_n hc dX9_putInto_1 rfl 1 rfl ?_
  refine V_callV_RI (Cn := RX9) (T := TX9) (N := 28) hc (c_X9_isStack l K t (a1)) sP24 rfl 1 gX9_putInto_X9_isStack rfl ⟨rfl, rfl⟩ (by decide) ⟨Nat.le_of_ble_eq_true rfl, Nat.le_of_ble_eq_true rfl⟩ rfl rfl (Nat.le_of_ble_eq_true rfl) dX9_putInto_2 (fun r1 => ?_)
  refine V_if_eq (tgt := 30) hc dX9_putInto_5 (by decide) ?_ ?_
  · refine V_iconst (v := (-1)) hc dX9_putInto_30 (by decide) ?_
    exact V_iret hc rfl rfl dX9_putInto_31
  · refine V_aload_n hc dX9_putInto_8 rfl 0 rfl ?_
    refine V_iload_n hc dX9_putInto_9 rfl 2 rfl ?_
    refine V_callV_RI (Cn := RX9) (T := TX9) (N := 28) hc (c_X9_there l K t (a2)) sP24 rfl 1 gX9_putInto_X9_there rfl ⟨rfl, rfl⟩ (by decide) ⟨Nat.le_of_ble_eq_true rfl, Nat.le_of_ble_eq_true rfl⟩ rfl rfl (Nat.le_of_ble_eq_true rfl) dX9_putInto_10 (fun r2 => ?_)
    refine V_if_eq (tgt := 30) hc dX9_putInto_13 (by decide) ?_ ?_
    · refine V_iconst (v := (-1)) hc dX9_putInto_30 (by decide) ?_
      exact V_iret hc rfl rfl dX9_putInto_31
    · refine V_iload_n hc dX9_putInto_16 rfl 3 rfl ?_
      refine V_iconst (v := 0) hc dX9_putInto_17 (by decide) ?_
      refine V_aload_n hc dX9_putInto_18 rfl 0 rfl ?_
      refine V_getr (C := RX9) (T := TX9) (N := 28) hc sP24 rfl qX9_putInto_RX9 7 rfl (by decide) kX9_putInto_32 rfl dX9_putInto_19 ?_
      refine V_iload_n hc dX9_putInto_22 rfl 1 rfl ?_
      refine V_iald hc sP32 dX9_putInto_23 ?_
      refine V_callS_RI hc (c_X9_in l K t (a3) (0) (gA t 30 (ix a1))) 3 gX9_putInto_X9_in rfl ⟨rfl, rfl⟩ (by decide) ⟨Nat.le_of_ble_eq_true rfl, Nat.le_of_ble_eq_true rfl⟩ rfl rfl (Nat.le_of_ble_eq_true rfl) dX9_putInto_24 (fun r3 => ?_)
      refine V_if_ne (tgt := 32) hc dX9_putInto_27 (by decide) ?_ ?_
      · refine V_aload_n hc dX9_putInto_32 rfl 0 rfl ?_
        refine V_getr (C := RX9) (T := TX9) (N := 28) hc sP24 rfl qX9_putInto_RX9 6 rfl (by decide) kX9_putInto_29 rfl dX9_putInto_33 ?_
        refine V_iload_n hc dX9_putInto_36 rfl 2 rfl ?_
        refine V_iald hc sP31 dX9_putInto_37 ?_
        refine V_if_lt (tgt := 44) hc dX9_putInto_38 (by decide) ?_ ?_
        · refine V_aload_n hc dX9_putInto_44 rfl 0 rfl ?_
          refine V_getr (C := RX9) (T := TX9) (N := 28) hc sP24 rfl qX9_putInto_RX9 7 rfl (by decide) kX9_putInto_32 rfl dX9_putInto_45 ?_
          refine V_iload_n hc dX9_putInto_48 rfl 1 rfl ?_
          refine V_iald hc sP32 dX9_putInto_49 ?_
          refine V_bipush (v := 8) hc dX9_putInto_50 (by decide) ?_
          refine V_icmp_ne (tgt := 58) hc dX9_putInto_52 (by decide) ?_ ?_
          · refine V_aload_n hc dX9_putInto_58 rfl 0 rfl ?_
            refine V_getr (C := RX9) (T := TX9) (N := 28) hc sP24 rfl qX9_putInto_RX9 7 rfl (by decide) kX9_putInto_32 rfl dX9_putInto_59 ?_
            refine V_iload_n hc dX9_putInto_62 rfl 1 rfl ?_
            refine V_iald hc sP32 dX9_putInto_63 ?_
            refine V_istore (lv' := [(4, .int (gA t 30 (ix a1))), (0, .ref (K.2.2 24)), (1, .int a1), (2, .int a2), (3, .int a3)]) hc dX9_putInto_64 (by decide) rfl ?_
            refine V_sub (lv' := [(0, .ref (K.2.2 24)), (1, .int a1), (2, .int a2), (3, .int a3), (4, .int (gA t 30 (ix a1)))]) [1, 2, 3, 4, 0] rfl ?_
            refine L_X9_putInto_66_ok hc (a1) (a2) (a3) _ (fun z5 t6 => ?_) FU _ _
            refine V_aload_n hc dX9_putInto_104 rfl 0 rfl ?_
            refine V_getr (C := RX9) (T := TX9) (N := 28) hc sP24 rfl qX9_putInto_RX9 8 rfl (by decide) kX9_putInto_35 rfl dX9_putInto_105 ?_
            refine V_bipush (v := 8) hc dX9_putInto_108 (by decide) ?_
            refine V_iload_n hc dX9_putInto_110 rfl 1 rfl ?_
            refine V_imul hc dX9_putInto_111 ?_
            refine V_iload_n hc dX9_putInto_112 rfl 3 rfl ?_
            refine V_iadd hc dX9_putInto_113 ?_
            refine V_iload_n hc dX9_putInto_114 rfl 2 rfl ?_
            refine V_iast hc sP33 dX9_putInto_115 ?_
            refine V_bds (fun t7 => ?_)
            refine V_aload_n hc dX9_putInto_116 rfl 0 rfl ?_
            refine V_getr (C := RX9) (T := TX9) (N := 28) hc sP24 rfl qX9_putInto_RX9 6 rfl (by decide) kX9_putInto_29 rfl dX9_putInto_117 ?_
            refine V_iload_n hc dX9_putInto_120 rfl 2 rfl ?_
            refine V_iload_n hc dX9_putInto_121 rfl 1 rfl ?_
            refine V_iast hc sP31 dX9_putInto_122 ?_
            refine V_bds (fun t8 => ?_)
            refine V_aload_n hc dX9_putInto_123 rfl 0 rfl ?_
            refine V_getr (C := RX9) (T := TX9) (N := 28) hc sP24 rfl qX9_putInto_RX9 7 rfl (by decide) kX9_putInto_32 rfl dX9_putInto_124 ?_
            refine V_iload_n hc dX9_putInto_127 rfl 1 rfl ?_
            refine V_dup2_11 hc dX9_putInto_128 rfl rfl ?_
            refine V_iald hc sP32 dX9_putInto_129 ?_
            refine V_iconst (v := 1) hc dX9_putInto_130 (by decide) ?_
            refine V_iadd hc dX9_putInto_131 ?_
            refine V_iast hc sP32 dX9_putInto_132 ?_
            refine V_bds (fun t9 => ?_)
            refine V_aload_n hc dX9_putInto_133 rfl 0 rfl ?_
            refine V_aload_n hc dX9_putInto_134 rfl 0 rfl ?_
            refine V_getr (C := RX9) (T := TX9) (N := 28) hc sP24 rfl qX9_putInto_RX9 7 rfl (by decide) kX9_putInto_32 rfl dX9_putInto_135 ?_
            refine V_iload_n hc dX9_putInto_138 rfl 1 rfl ?_
            refine V_iald hc sP32 dX9_putInto_139 ?_
            refine V_callV_WI (Cn := RX9) (T := TX9) (N := 28) hc (c_X9_settled l K t9 (gA t9 30 (ix a1))) sP24 rfl 1 gX9_putInto_X9_settled rfl ⟨rfl, rfl⟩ (by decide) ⟨Nat.le_of_ble_eq_true rfl, Nat.le_of_ble_eq_true rfl⟩ rfl rfl (Nat.le_of_ble_eq_true rfl) dX9_putInto_140 (fun r10 => ?_)
            exact V_iret hc rfl rfl dX9_putInto_143
          · refine V_bipush (v := (-3)) hc dX9_putInto_55 (by decide) ?_
            exact V_iret hc rfl rfl dX9_putInto_57
        · refine V_bipush (v := (-2)) hc dX9_putInto_41 (by decide) ?_
          exact V_iret hc rfl rfl dX9_putInto_43
      · refine V_iconst (v := (-1)) hc dX9_putInto_30 (by decide) ?_
        exact V_iret hc rfl rfl dX9_putInto_31

theorem kX9_takeOut_29 : Cond.fieldLink RX9 29 RX9 (TX9 6).2.1 (TX9 6).2.2.1 ∈ wsX9_takeOut := by decide +kernel
theorem qX9_takeOut_RX9 : ∀ w ∈ u_ws RX9 TX9 28, w ∈ wsX9_takeOut := by
  first
  | exact fun _ h => List.mem_cons_of_mem _ (List.mem_append_right _ h)
  | exact fun _ h => List.mem_cons_of_mem _ (List.mem_append_left _ (List.mem_append_right _ h))
  | exact fun _ h => List.mem_cons_of_mem _ (List.mem_append_left _ (List.mem_append_left _ (List.mem_append_right _ h)))
  | exact fun _ h => List.mem_cons_of_mem _ (List.mem_append_left _ (List.mem_append_left _ (List.mem_append_left _ (List.mem_append_right _ h))))
  | exact fun _ h => List.mem_cons_of_mem _ (List.mem_append_left _ (List.mem_append_left _ (List.mem_append_left _ (List.mem_append_left _ (List.mem_append_right _ h)))))
  | decide +kernel
theorem kX9_takeOut_32 : Cond.fieldLink RX9 32 RX9 (TX9 7).2.1 (TX9 7).2.2.1 ∈ wsX9_takeOut := by decide +kernel
noncomputable def f_X9_takeOut (t : Sx) (a1 : Int32) : Option (Int32 × Sx) := (f_X9_there t (a1)).bind fun r1 => if r1 = 0 then some ((-1), t) else gd (vp_in a1 40) (if 0 ≤ (gA t 29 (ix a1)) then (f_X9_leaves t (a1)).bind fun r2 => gd (vp_in (gA t 29 (ix a1)) 10) ((f_X9_settled r2 (gA r2 30 (ix (gA t 29 (ix a1))))).bind fun r3 => some (r3.1, r3.2)) else some ((-2), t))
set_option maxRecDepth 20000 in
set_option maxHeartbeats 4000000 in
theorem c_X9_takeOut (l : Launch) (K : Kx) (t : Sx) (a1 : Int32) : CT l K yX9_takeOut wsX9_takeOut ({ frames := 9, cells := 0, slots := 0, locals := 207 } : Room) [.ref (K.2.2 24), .int a1] t (f_X9_takeOut t a1) kWI := by
  refine CT_of (cc := cX9_takeOut) (maxL := 3) (ret := (some .int)) (own := RX9) (by decide +kernel) rfl rfl (Nat.le_of_ble_eq_true rfl) ?_
  intro p e s m args below meth c hc
  refine V_sub (lv' := [(0, .ref (K.2.2 24)), (1, .int a1)]) [0, 1] rfl ?_
  unfold f_X9_takeOut
  refine V_aload_n hc dX9_takeOut_0 rfl 0 rfl ?_
  refine V_iload_n hc dX9_takeOut_1 rfl 1 rfl ?_
  refine V_callV_RI (Cn := RX9) (T := TX9) (N := 28) hc (c_X9_there l K t (a1)) sP24 rfl 1 gX9_takeOut_X9_there rfl ⟨rfl, rfl⟩ (by decide) ⟨Nat.le_of_ble_eq_true rfl, Nat.le_of_ble_eq_true rfl⟩ rfl rfl (Nat.le_of_ble_eq_true rfl) dX9_takeOut_2 (fun r1 => ?_)
  refine V_if_ne (tgt := 10) hc dX9_takeOut_5 (by decide) ?_ ?_
  · refine V_aload_n hc dX9_takeOut_10 rfl 0 rfl ?_
    refine V_getr (C := RX9) (T := TX9) (N := 28) hc sP24 rfl qX9_takeOut_RX9 6 rfl (by decide) kX9_takeOut_29 rfl dX9_takeOut_11 ?_
    refine V_iload_n hc dX9_takeOut_14 rfl 1 rfl ?_
    refine V_iald hc sP31 dX9_takeOut_15 ?_
    refine V_istore_n (lv' := [(2, .int (gA t 29 (ix a1))), (0, .ref (K.2.2 24)), (1, .int a1)]) hc dX9_takeOut_16 rfl (by decide) rfl ?_
    refine V_iload_n hc dX9_takeOut_17 rfl 0 rfl ?_
    refine V_if_ge (tgt := 24) hc dX9_takeOut_18 (by decide) ?_ ?_
    · refine V_aload_n hc dX9_takeOut_24 rfl 1 rfl ?_
      refine V_iload_n hc dX9_takeOut_25 rfl 2 rfl ?_
      refine V_callV_WV (Cn := RX9) (T := TX9) (N := 28) hc (c_X9_leaves l K t (a1)) sP24 rfl 1 gX9_takeOut_X9_leaves rfl ⟨rfl, rfl⟩ (by decide) ⟨Nat.le_of_ble_eq_true rfl, Nat.le_of_ble_eq_true rfl⟩ rfl rfl (Nat.le_of_ble_eq_true rfl) dX9_takeOut_26 (fun r2 => ?_)
      refine V_aload_n hc dX9_takeOut_29 rfl 1 rfl ?_
      refine V_aload_n hc dX9_takeOut_30 rfl 1 rfl ?_
      refine V_getr (C := RX9) (T := TX9) (N := 28) hc sP24 rfl qX9_takeOut_RX9 7 rfl (by decide) kX9_takeOut_32 rfl dX9_takeOut_31 ?_
      refine V_iload_n hc dX9_takeOut_34 rfl 0 rfl ?_
      refine V_iald hc sP32 dX9_takeOut_35 ?_
      refine V_callV_WI (Cn := RX9) (T := TX9) (N := 28) hc (c_X9_settled l K r2 (gA r2 30 (ix (gA t 29 (ix a1))))) sP24 rfl 1 gX9_takeOut_X9_settled rfl ⟨rfl, rfl⟩ (by decide) ⟨Nat.le_of_ble_eq_true rfl, Nat.le_of_ble_eq_true rfl⟩ rfl rfl (Nat.le_of_ble_eq_true rfl) dX9_takeOut_36 (fun r3 => ?_)
      exact V_iret hc rfl rfl dX9_takeOut_39
    · refine V_bipush (v := (-2)) hc dX9_takeOut_21 (by decide) ?_
      exact V_iret hc rfl rfl dX9_takeOut_23
  · refine V_iconst (v := (-1)) hc dX9_takeOut_8 (by decide) ?_
    exact V_iret hc rfl rfl dX9_takeOut_9

theorem kX9_chooseCover_38 : Cond.fieldLink RX9 38 RX9 (TX9 9).2.1 (TX9 9).2.2.1 ∈ wsX9_chooseCover := by decide +kernel
theorem qX9_chooseCover_RX9 : ∀ w ∈ u_ws RX9 TX9 28, w ∈ wsX9_chooseCover := by
  first
  | exact fun _ h => List.mem_cons_of_mem _ (List.mem_append_right _ h)
  | exact fun _ h => List.mem_cons_of_mem _ (List.mem_append_left _ (List.mem_append_right _ h))
  | exact fun _ h => List.mem_cons_of_mem _ (List.mem_append_left _ (List.mem_append_left _ (List.mem_append_right _ h)))
  | exact fun _ h => List.mem_cons_of_mem _ (List.mem_append_left _ (List.mem_append_left _ (List.mem_append_left _ (List.mem_append_right _ h))))
  | exact fun _ h => List.mem_cons_of_mem _ (List.mem_append_left _ (List.mem_append_left _ (List.mem_append_left _ (List.mem_append_left _ (List.mem_append_right _ h)))))
  | decide +kernel
theorem kX9_chooseCover_29 : Cond.fieldLink RX9 29 RX9 (TX9 6).2.1 (TX9 6).2.2.1 ∈ wsX9_chooseCover := by decide +kernel
noncomputable def f_X9_chooseCover (t : Sx) (a1 : Int32) (a2 : Int32) : Option (Int32 × Sx) := (f_X9_isStack t (a1)).bind fun r1 => if r1 = 0 then some ((-1), t) else if a2 = (-1) then if a2 < 0 then gd (vp_in a1 10) (bd (pA t 32 (ix a1) a2) fun t2 => (f_X9_cover t2 (a1)).bind fun r3 => (f_X9_settled t2 (r3)).bind fun r4 => some (r4.1, r4.2)) else gd (vp_in a2 40) (if (gA t 29 (ix a2)) = a1 then gd (vp_in a1 10) (bd (pA t 32 (ix a1) a2) fun t5 => (f_X9_cover t5 (a1)).bind fun r6 => (f_X9_settled t5 (r6)).bind fun r7 => some (r7.1, r7.2)) else some ((-2), t)) else (f_X9_there t (a2)).bind fun r8 => if r8 = 0 then some ((-1), t) else if a2 < 0 then gd (vp_in a1 10) (bd (pA t 32 (ix a1) a2) fun t9 => (f_X9_cover t9 (a1)).bind fun r10 => (f_X9_settled t9 (r10)).bind fun r11 => some (r11.1, r11.2)) else gd (vp_in a2 40) (if (gA t 29 (ix a2)) = a1 then gd (vp_in a1 10) (bd (pA t 32 (ix a1) a2) fun t12 => (f_X9_cover t12 (a1)).bind fun r13 => (f_X9_settled t12 (r13)).bind fun r14 => some (r14.1, r14.2)) else some ((-2), t))
set_option maxRecDepth 20000 in
set_option maxHeartbeats 4000000 in
theorem c_X9_chooseCover (l : Launch) (K : Kx) (t : Sx) (a1 : Int32) (a2 : Int32) : CT l K yX9_chooseCover wsX9_chooseCover ({ frames := 9, cells := 0, slots := 0, locals := 207 } : Room) [.ref (K.2.2 24), .int a1, .int a2] t (f_X9_chooseCover t a1 a2) kWI := by
  refine CT_of (cc := cX9_chooseCover) (maxL := 3) (ret := (some .int)) (own := RX9) (by decide +kernel) rfl rfl (Nat.le_of_ble_eq_true rfl) ?_
  intro p e s m args below meth c hc
  refine V_sub (lv' := [(0, .ref (K.2.2 24)), (1, .int a1), (2, .int a2)]) [0, 1, 2] rfl ?_
  unfold f_X9_chooseCover
  refine V_aload_n hc dX9_chooseCover_0 rfl 0 rfl ?_
  refine V_iload_n hc dX9_chooseCover_1 rfl 1 rfl ?_
  refine V_callV_RI (Cn := RX9) (T := TX9) (N := 28) hc (c_X9_isStack l K t (a1)) sP24 rfl 1 gX9_chooseCover_X9_isStack rfl ⟨rfl, rfl⟩ (by decide) ⟨Nat.le_of_ble_eq_true rfl, Nat.le_of_ble_eq_true rfl⟩ rfl rfl (Nat.le_of_ble_eq_true rfl) dX9_chooseCover_2 (fun r1 => ?_)
  refine V_if_eq (tgt := 21) hc dX9_chooseCover_5 (by decide) ?_ ?_
  · refine V_iconst (v := (-1)) hc dX9_chooseCover_21 (by decide) ?_
    exact V_iret hc rfl rfl dX9_chooseCover_22
  · refine V_iload_n hc dX9_chooseCover_8 rfl 2 rfl ?_
    refine V_iconst (v := (-1)) hc dX9_chooseCover_9 (by decide) ?_
    refine V_icmp_eq (tgt := 23) hc dX9_chooseCover_10 (by decide) ?_ ?_
    · refine V_iload_n hc dX9_chooseCover_23 rfl 2 rfl ?_
      refine V_if_lt (tgt := 40) hc dX9_chooseCover_24 (by decide) ?_ ?_
      · refine V_aload_n hc dX9_chooseCover_40 rfl 0 rfl ?_
        refine V_getr (C := RX9) (T := TX9) (N := 28) hc sP24 rfl qX9_chooseCover_RX9 9 rfl (by decide) kX9_chooseCover_38 rfl dX9_chooseCover_41 ?_
        refine V_iload_n hc dX9_chooseCover_44 rfl 1 rfl ?_
        refine V_iload_n hc dX9_chooseCover_45 rfl 2 rfl ?_
        refine V_iast hc sP34 dX9_chooseCover_46 ?_
        refine V_bds (fun t2 => ?_)
        refine V_aload_n hc dX9_chooseCover_47 rfl 0 rfl ?_
        refine V_aload_n hc dX9_chooseCover_48 rfl 0 rfl ?_
        refine V_iload_n hc dX9_chooseCover_49 rfl 1 rfl ?_
        refine V_callV_RI (Cn := RX9) (T := TX9) (N := 28) hc (c_X9_cover l K t2 (a1)) sP24 rfl 1 gX9_chooseCover_X9_cover rfl ⟨rfl, rfl⟩ (by decide) ⟨Nat.le_of_ble_eq_true rfl, Nat.le_of_ble_eq_true rfl⟩ rfl rfl (Nat.le_of_ble_eq_true rfl) dX9_chooseCover_50 (fun r3 => ?_)
        refine V_callV_WI (Cn := RX9) (T := TX9) (N := 28) hc (c_X9_settled l K t2 (r3)) sP24 rfl 1 gX9_chooseCover_X9_settled rfl ⟨rfl, rfl⟩ (by decide) ⟨Nat.le_of_ble_eq_true rfl, Nat.le_of_ble_eq_true rfl⟩ rfl rfl (Nat.le_of_ble_eq_true rfl) dX9_chooseCover_53 (fun r4 => ?_)
        exact V_iret hc rfl rfl dX9_chooseCover_56
      · refine V_aload_n hc dX9_chooseCover_27 rfl 0 rfl ?_
        refine V_getr (C := RX9) (T := TX9) (N := 28) hc sP24 rfl qX9_chooseCover_RX9 6 rfl (by decide) kX9_chooseCover_29 rfl dX9_chooseCover_28 ?_
        refine V_iload_n hc dX9_chooseCover_31 rfl 2 rfl ?_
        refine V_iald hc sP31 dX9_chooseCover_32 ?_
        refine V_iload_n hc dX9_chooseCover_33 rfl 1 rfl ?_
        refine V_icmp_eq (tgt := 40) hc dX9_chooseCover_34 (by decide) ?_ ?_
        · refine V_aload_n hc dX9_chooseCover_40 rfl 0 rfl ?_
          refine V_getr (C := RX9) (T := TX9) (N := 28) hc sP24 rfl qX9_chooseCover_RX9 9 rfl (by decide) kX9_chooseCover_38 rfl dX9_chooseCover_41 ?_
          refine V_iload_n hc dX9_chooseCover_44 rfl 1 rfl ?_
          refine V_iload_n hc dX9_chooseCover_45 rfl 2 rfl ?_
          refine V_iast hc sP34 dX9_chooseCover_46 ?_
          refine V_bds (fun t5 => ?_)
          refine V_aload_n hc dX9_chooseCover_47 rfl 0 rfl ?_
          refine V_aload_n hc dX9_chooseCover_48 rfl 0 rfl ?_
          refine V_iload_n hc dX9_chooseCover_49 rfl 1 rfl ?_
          refine V_callV_RI (Cn := RX9) (T := TX9) (N := 28) hc (c_X9_cover l K t5 (a1)) sP24 rfl 1 gX9_chooseCover_X9_cover rfl ⟨rfl, rfl⟩ (by decide) ⟨Nat.le_of_ble_eq_true rfl, Nat.le_of_ble_eq_true rfl⟩ rfl rfl (Nat.le_of_ble_eq_true rfl) dX9_chooseCover_50 (fun r6 => ?_)
          refine V_callV_WI (Cn := RX9) (T := TX9) (N := 28) hc (c_X9_settled l K t5 (r6)) sP24 rfl 1 gX9_chooseCover_X9_settled rfl ⟨rfl, rfl⟩ (by decide) ⟨Nat.le_of_ble_eq_true rfl, Nat.le_of_ble_eq_true rfl⟩ rfl rfl (Nat.le_of_ble_eq_true rfl) dX9_chooseCover_53 (fun r7 => ?_)
          exact V_iret hc rfl rfl dX9_chooseCover_56
        · refine V_bipush (v := (-2)) hc dX9_chooseCover_37 (by decide) ?_
          exact V_iret hc rfl rfl dX9_chooseCover_39
    · refine V_aload_n hc dX9_chooseCover_13 rfl 0 rfl ?_
      refine V_iload_n hc dX9_chooseCover_14 rfl 2 rfl ?_
      refine V_callV_RI (Cn := RX9) (T := TX9) (N := 28) hc (c_X9_there l K t (a2)) sP24 rfl 1 gX9_chooseCover_X9_there rfl ⟨rfl, rfl⟩ (by decide) ⟨Nat.le_of_ble_eq_true rfl, Nat.le_of_ble_eq_true rfl⟩ rfl rfl (Nat.le_of_ble_eq_true rfl) dX9_chooseCover_15 (fun r8 => ?_)
      refine V_if_ne (tgt := 23) hc dX9_chooseCover_18 (by decide) ?_ ?_
      · refine V_iload_n hc dX9_chooseCover_23 rfl 2 rfl ?_
        refine V_if_lt (tgt := 40) hc dX9_chooseCover_24 (by decide) ?_ ?_
        · refine V_aload_n hc dX9_chooseCover_40 rfl 0 rfl ?_
          refine V_getr (C := RX9) (T := TX9) (N := 28) hc sP24 rfl qX9_chooseCover_RX9 9 rfl (by decide) kX9_chooseCover_38 rfl dX9_chooseCover_41 ?_
          refine V_iload_n hc dX9_chooseCover_44 rfl 1 rfl ?_
          refine V_iload_n hc dX9_chooseCover_45 rfl 2 rfl ?_
          refine V_iast hc sP34 dX9_chooseCover_46 ?_
          refine V_bds (fun t9 => ?_)
          refine V_aload_n hc dX9_chooseCover_47 rfl 0 rfl ?_
          refine V_aload_n hc dX9_chooseCover_48 rfl 0 rfl ?_
          refine V_iload_n hc dX9_chooseCover_49 rfl 1 rfl ?_
          refine V_callV_RI (Cn := RX9) (T := TX9) (N := 28) hc (c_X9_cover l K t9 (a1)) sP24 rfl 1 gX9_chooseCover_X9_cover rfl ⟨rfl, rfl⟩ (by decide) ⟨Nat.le_of_ble_eq_true rfl, Nat.le_of_ble_eq_true rfl⟩ rfl rfl (Nat.le_of_ble_eq_true rfl) dX9_chooseCover_50 (fun r10 => ?_)
          refine V_callV_WI (Cn := RX9) (T := TX9) (N := 28) hc (c_X9_settled l K t9 (r10)) sP24 rfl 1 gX9_chooseCover_X9_settled rfl ⟨rfl, rfl⟩ (by decide) ⟨Nat.le_of_ble_eq_true rfl, Nat.le_of_ble_eq_true rfl⟩ rfl rfl (Nat.le_of_ble_eq_true rfl) dX9_chooseCover_53 (fun r11 => ?_)
          exact V_iret hc rfl rfl dX9_chooseCover_56
        · refine V_aload_n hc dX9_chooseCover_27 rfl 0 rfl ?_
          refine V_getr (C := RX9) (T := TX9) (N := 28) hc sP24 rfl qX9_chooseCover_RX9 6 rfl (by decide) kX9_chooseCover_29 rfl dX9_chooseCover_28 ?_
          refine V_iload_n hc dX9_chooseCover_31 rfl 2 rfl ?_
          refine V_iald hc sP31 dX9_chooseCover_32 ?_
          refine V_iload_n hc dX9_chooseCover_33 rfl 1 rfl ?_
          refine V_icmp_eq (tgt := 40) hc dX9_chooseCover_34 (by decide) ?_ ?_
          · refine V_aload_n hc dX9_chooseCover_40 rfl 0 rfl ?_
            refine V_getr (C := RX9) (T := TX9) (N := 28) hc sP24 rfl qX9_chooseCover_RX9 9 rfl (by decide) kX9_chooseCover_38 rfl dX9_chooseCover_41 ?_
            refine V_iload_n hc dX9_chooseCover_44 rfl 1 rfl ?_
            refine V_iload_n hc dX9_chooseCover_45 rfl 2 rfl ?_
            refine V_iast hc sP34 dX9_chooseCover_46 ?_
            refine V_bds (fun t12 => ?_)
            refine V_aload_n hc dX9_chooseCover_47 rfl 0 rfl ?_
            refine V_aload_n hc dX9_chooseCover_48 rfl 0 rfl ?_
            refine V_iload_n hc dX9_chooseCover_49 rfl 1 rfl ?_
            refine V_callV_RI (Cn := RX9) (T := TX9) (N := 28) hc (c_X9_cover l K t12 (a1)) sP24 rfl 1 gX9_chooseCover_X9_cover rfl ⟨rfl, rfl⟩ (by decide) ⟨Nat.le_of_ble_eq_true rfl, Nat.le_of_ble_eq_true rfl⟩ rfl rfl (Nat.le_of_ble_eq_true rfl) dX9_chooseCover_50 (fun r13 => ?_)
            refine V_callV_WI (Cn := RX9) (T := TX9) (N := 28) hc (c_X9_settled l K t12 (r13)) sP24 rfl 1 gX9_chooseCover_X9_settled rfl ⟨rfl, rfl⟩ (by decide) ⟨Nat.le_of_ble_eq_true rfl, Nat.le_of_ble_eq_true rfl⟩ rfl rfl (Nat.le_of_ble_eq_true rfl) dX9_chooseCover_53 (fun r14 => ?_)
            exact V_iret hc rfl rfl dX9_chooseCover_56
          · refine V_bipush (v := (-2)) hc dX9_chooseCover_37 (by decide) ?_
            exact V_iret hc rfl rfl dX9_chooseCover_39
      · refine V_iconst (v := (-1)) hc dX9_chooseCover_21 (by decide) ?_
        exact V_iret hc rfl rfl dX9_chooseCover_22

theorem kX9_collapse_41 : Cond.fieldLink RX9 41 RX9 (TX9 10).2.1 (TX9 10).2.2.1 ∈ wsX9_collapse := by decide +kernel
theorem qX9_collapse_RX9 : ∀ w ∈ u_ws RX9 TX9 28, w ∈ wsX9_collapse := by
  first
  | exact fun _ h => List.mem_cons_of_mem _ (List.mem_append_right _ h)
  | exact fun _ h => List.mem_cons_of_mem _ (List.mem_append_left _ (List.mem_append_right _ h))
  | exact fun _ h => List.mem_cons_of_mem _ (List.mem_append_left _ (List.mem_append_left _ (List.mem_append_right _ h)))
  | exact fun _ h => List.mem_cons_of_mem _ (List.mem_append_left _ (List.mem_append_left _ (List.mem_append_left _ (List.mem_append_right _ h))))
  | exact fun _ h => List.mem_cons_of_mem _ (List.mem_append_left _ (List.mem_append_left _ (List.mem_append_left _ (List.mem_append_left _ (List.mem_append_right _ h)))))
  | decide +kernel
noncomputable def f_X9_collapse (t : Sx) (a1 : Int32) (a2 : Int32) : Option (Int32 × Sx) := (f_X9_isStack t (a1)).bind fun r1 => if r1 = 0 then some ((-1), t) else (f_X9_in t (a2) (0) (1)).bind fun r2 => if r2 = 0 then some ((-1), t) else gd (vp_in a1 10) (if (gA t 33 (ix a1)) = 0 then if a2 = 1 then gd (vp_in a1 10) (bd (pA t 33 (ix a1) 1) fun t4 => some (0, t4)) else gd (vp_in a1 10) (bd (pA t 33 (ix a1) 0) fun t3 => some (0, t3)) else if a2 = 1 then gd (vp_in a1 10) (bd (pA t 33 (ix a1) 1) fun t6 => some (1, t6)) else gd (vp_in a1 10) (bd (pA t 33 (ix a1) 0) fun t5 => some (1, t5)))
set_option maxRecDepth 20000 in
set_option maxHeartbeats 4000000 in
theorem c_X9_collapse (l : Launch) (K : Kx) (t : Sx) (a1 : Int32) (a2 : Int32) : CT l K yX9_collapse wsX9_collapse ({ frames := 2, cells := 0, slots := 0, locals := 43 } : Room) [.ref (K.2.2 24), .int a1, .int a2] t (f_X9_collapse t a1 a2) kWI := by
  refine CT_of (cc := cX9_collapse) (maxL := 4) (ret := (some .int)) (own := RX9) (by decide +kernel) rfl rfl (Nat.le_of_ble_eq_true rfl) ?_
  intro p e s m args below meth c hc
  refine V_sub (lv' := [(0, .ref (K.2.2 24)), (1, .int a1), (2, .int a2)]) [0, 1, 2] rfl ?_
  unfold f_X9_collapse
  refine V_aload_n hc dX9_collapse_0 rfl 0 rfl ?_
  refine V_iload_n hc dX9_collapse_1 rfl 1 rfl ?_
  refine V_callV_RI (Cn := RX9) (T := TX9) (N := 28) hc (c_X9_isStack l K t (a1)) sP24 rfl 1 gX9_collapse_X9_isStack rfl ⟨rfl, rfl⟩ (by decide) ⟨Nat.le_of_ble_eq_true rfl, Nat.le_of_ble_eq_true rfl⟩ rfl rfl (Nat.le_of_ble_eq_true rfl) dX9_collapse_2 (fun r1 => ?_)
  refine V_if_eq (tgt := 17) hc dX9_collapse_5 (by decide) ?_ ?_
  · refine V_iconst (v := (-1)) hc dX9_collapse_17 (by decide) ?_
    exact V_iret hc rfl rfl dX9_collapse_18
  · refine V_iload_n hc dX9_collapse_8 rfl 2 rfl ?_
    refine V_iconst (v := 0) hc dX9_collapse_9 (by decide) ?_
    refine V_iconst (v := 1) hc dX9_collapse_10 (by decide) ?_
    refine V_callS_RI hc (c_X9_in l K t (a2) (0) (1)) 3 gX9_collapse_X9_in rfl ⟨rfl, rfl⟩ (by decide) ⟨Nat.le_of_ble_eq_true rfl, Nat.le_of_ble_eq_true rfl⟩ rfl rfl (Nat.le_of_ble_eq_true rfl) dX9_collapse_11 (fun r2 => ?_)
    refine V_if_ne (tgt := 19) hc dX9_collapse_14 (by decide) ?_ ?_
    · refine V_aload_n hc dX9_collapse_19 rfl 0 rfl ?_
      refine V_getr (C := RX9) (T := TX9) (N := 28) hc sP24 rfl qX9_collapse_RX9 10 rfl (by decide) kX9_collapse_41 rfl dX9_collapse_20 ?_
      refine V_iload_n hc dX9_collapse_23 rfl 1 rfl ?_
      refine V_zald hc sP35 dX9_collapse_24 ?_
      refine V_if_eq (tgt := 32) hc dX9_collapse_25 (by decide) ?_ ?_
      · refine V_iconst (v := 0) hc dX9_collapse_32 (by decide) ?_
        refine V_istore_n (lv' := [(3, .int 0), (0, .ref (K.2.2 24)), (1, .int a1), (2, .int a2)]) hc dX9_collapse_33 rfl (by decide) rfl ?_
        refine V_aload_n hc dX9_collapse_34 rfl 1 rfl ?_
        refine V_getr (C := RX9) (T := TX9) (N := 28) hc sP24 rfl qX9_collapse_RX9 10 rfl (by decide) kX9_collapse_41 rfl dX9_collapse_35 ?_
        refine V_iload_n hc dX9_collapse_38 rfl 2 rfl ?_
        refine V_iload_n hc dX9_collapse_39 rfl 3 rfl ?_
        refine V_iconst (v := 1) hc dX9_collapse_40 (by decide) ?_
        refine V_icmp_ne (tgt := 48) hc dX9_collapse_41 (by decide) ?_ ?_
        · refine V_iconst (v := 0) hc dX9_collapse_48 (by decide) ?_
          refine V_zastc hc sP35 (Or.inl rfl) dX9_collapse_49 ?_
          refine V_bds (fun t3 => ?_)
          refine V_iload_n hc dX9_collapse_50 rfl 0 rfl ?_
          exact V_iret hc rfl rfl dX9_collapse_51
        · refine V_iconst (v := 1) hc dX9_collapse_44 (by decide) ?_
          refine V_goto (tgt := 49) hc dX9_collapse_45 (by decide) ?_
          refine V_zastc hc sP35 (Or.inr rfl) dX9_collapse_49 ?_
          refine V_bds (fun t4 => ?_)
          refine V_iload_n hc dX9_collapse_50 rfl 0 rfl ?_
          exact V_iret hc rfl rfl dX9_collapse_51
      · refine V_iconst (v := 1) hc dX9_collapse_28 (by decide) ?_
        refine V_goto (tgt := 33) hc dX9_collapse_29 (by decide) ?_
        refine V_istore_n (lv' := [(3, .int 1), (0, .ref (K.2.2 24)), (1, .int a1), (2, .int a2)]) hc dX9_collapse_33 rfl (by decide) rfl ?_
        refine V_aload_n hc dX9_collapse_34 rfl 1 rfl ?_
        refine V_getr (C := RX9) (T := TX9) (N := 28) hc sP24 rfl qX9_collapse_RX9 10 rfl (by decide) kX9_collapse_41 rfl dX9_collapse_35 ?_
        refine V_iload_n hc dX9_collapse_38 rfl 2 rfl ?_
        refine V_iload_n hc dX9_collapse_39 rfl 3 rfl ?_
        refine V_iconst (v := 1) hc dX9_collapse_40 (by decide) ?_
        refine V_icmp_ne (tgt := 48) hc dX9_collapse_41 (by decide) ?_ ?_
        · refine V_iconst (v := 0) hc dX9_collapse_48 (by decide) ?_
          refine V_zastc hc sP35 (Or.inl rfl) dX9_collapse_49 ?_
          refine V_bds (fun t5 => ?_)
          refine V_iload_n hc dX9_collapse_50 rfl 0 rfl ?_
          exact V_iret hc rfl rfl dX9_collapse_51
        · refine V_iconst (v := 1) hc dX9_collapse_44 (by decide) ?_
          refine V_goto (tgt := 49) hc dX9_collapse_45 (by decide) ?_
          refine V_zastc hc sP35 (Or.inr rfl) dX9_collapse_49 ?_
          refine V_bds (fun t6 => ?_)
          refine V_iload_n hc dX9_collapse_50 rfl 0 rfl ?_
          exact V_iret hc rfl rfl dX9_collapse_51
    · refine V_iconst (v := (-1)) hc dX9_collapse_17 (by decide) ?_
      exact V_iret hc rfl rfl dX9_collapse_18
