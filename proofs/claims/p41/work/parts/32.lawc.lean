/-! THE CLAIM OUT OF ONE WALK OF THE LAW'S BODY. Your part is whole_start (and what it stands on); all else here is the same for every law, but numbers. -/
def R_law : String := "MediaCatalogLaw"
def lw_P (b : Addr) (xs : List Int32) (args : Array Value) (s : State) : Prop := args = #[.ref b] ∧ s.IntsAt b xs ∧ xs.length ≤ 260 ∧ (Jvm.Cond.and given_1 narrow_1).before args s = true
def lw_Q (_ : Array Value) (s : State) (o : Outcome) (t : State) : Prop := o = .returned (some (.int 1)) ∧ Framed s o t [] 600000 7302250
def lw_Z (below : List Frame) (a : Array Value) (s : State) : State → Prop := fun t => ∃ o, t.status = .running ∧ Ended t below o ∧ lw_Q a s o t
/-- the law's own end, with 1 on the stack, nothing written that was there before, its room as the claim has it -/
theorem lw_ret {p : Program} {l : Launch} {e : Env} {s : State} {m : MethodId} {below : List Frame} {meth : Method} {c : Code} {b : Nat} (hx : p.tables.exec = Jvm.exec) (hb : c.code = code) (hr : meth.sig.returnType = ret) (hlocks : meth.locks = false) {pc : Nat} {H : Heap} {ls : Array Slot} (hdg : decode code pc = .ok (.ireturn, 1)) : W p l e room_1 s m #[Value.ref b] below meth c H [] 600000 7302250 (lw_Z below #[Value.ref b] s) (F0 m pc ls [.int 1]) := by
  intro T hT X
  obtain ⟨fs, hret, hrun, hended, hW, hframe⟩ := X.leave (v := some (.int 1)) (hlocks := hlocks) (fun h => by rw [hr] at h; cases h)
  have hmeth' : T.vm.method? m = some meth := X.method'
  refine ⟨T.setFrames fs, ?_, .returned (some (.int 1)), hrun, hended, rfl, ⟨_, rfl⟩, hW, hframe⟩
  jvm_step X.here [X.here.top, hx, hb, hdg, hmeth', hr, ret, narrow_b1]
  (try refine ⟨rfl, ?_⟩); (try refine ⟨rfl, ?_⟩)
  first | (intro acts; rw [hret _ acts rfl rfl rfl]) | rw [hret _ _ rfl rfl rfl]
  exact Steps.refl _
/-- what holds at the law's entry: the machine, the code, the tables' words (any of lw_tbl by 'hts w (by decide +kernel)'), the script of L ints xs at the cell b, what the Statement gives of the start (any of its parts by flat_of_before) -/
def lw_At (p : Program) (s : State) (m : MethodId) (meth : Method) (c : Code) (b L : Nat) (xs : Nat → Int32) : Prop :=
  p.tables.exec = Jvm.exec ∧ c.code = code ∧ meth.sig.returnType = ret ∧ c.maxLocals = 5 ∧ s.vm.findClass R_law = some m.cls ∧ (∀ w ∈ lw_tbl, w.before #[Value.ref b] s = true) ∧ va_X b L xs s s.heap ∧ b < s.heap.size ∧ meth.locks = false ∧ (Jvm.Cond.and given_1 narrow_1).before #[Value.ref b] s = true
/-! ===== the law's own rows ===== -/
def QL (below : List Frame) (b : Addr) (s : State) (r : Int32) : State → Prop := fun tt => r = 1 → lw_Z below #[Value.ref b] s tt
noncomputable def cellF (xs : Nat → Int32) (L : Nat) (k : Int32) : Option Int32 := if Int32.ofNat L ≤ k then some (((15485959 * k) + 109) &&& 2147483647) else gd (vp_in k L) (some (xs (ix k) &&& 2147483647))
def PCell (b L : Nat) (xs : Nat → Int32) (k : Int32) : Array Value → State → Prop := va_Pc [.ref b, .int k] (fun U => va_X b L xs U U.heap)
theorem PCell_blind (b L : Nat) (xs : Nat → Int32) (k : Int32) : FrameBlind (PCell b L xs k) := fun a U g mk q => by
  obtain ⟨q0, qX⟩ := q
  exact ⟨q0, va_X.moved (u := U) (U := U.calling g mk a) (Vm.Alike.refl U.vm) qX⟩
theorem kL_cell_7 : Cond.constant RL 7 (15485959) ∈ wsL_cell := by decide +kernel
theorem kL_cell_8 : Cond.constant RL 8 (2147483647) ∈ wsL_cell := by decide +kernel
theorem c_L_cell (l : Launch) {b L : Nat} {xs : Nat → Int32} {k r : Int32} (hr0 : cellF xs L k = some r) : Met l yL_cell wsL_cell ({ frames := 0, cells := 0, slots := 0, locals := 0 } : Room) (PCell b L xs k) (va_Qi (fun v (_ : Unit) => v = r) (fun _ _ => True) (fun _ => False)) 0 0 (fun _ => False) := by
  refine va_MetF (cc := cL_cell) (maxL := 2) (ret := some .int) (by decide +kernel) rfl ?_
  intro p e s m args below meth c s₁ B hml hv
  obtain ⟨rfl, hX⟩ := hv
  have hts := atoms_spec (ws := wsL_cell) B.pre
  have hown : s.vm.findClass RL = some m.cls := findClass_of_methodNamed B.named
  have hx := B.exec
  have hb := B.bytes
  have hr := B.returns
  have hbl : b < s.heap.size := by
    obtain ⟨scr, h1, -⟩ := hX
    exact (Array.getElem?_eq_some_iff.mp h1).1
  have hbA : ¬ (fun _ : Nat => False) b := fun z => z
  have hS : va_S (fun _ : Nat => False) s.heap s.heap [] := va_S.rf
  have hl := lv_entry ([.ref b, .int k]) (n := 2) (Nat.le_of_ble_eq_true rfl)
  rw [lg_entry_eq]
  generalize (lg_sl ([.ref b, .int k]) ++ List.replicate (2 - (lg_sl ([.ref b, .int k])).length) Slot.unset).toArray = ls at hl ⊢
  have hl : lv_has ls 2 [(0, .ref b), (1, .int k)] := hl
  have fin : ∀ v : Int32, v &&& 2147483647 = r → W p l e (headSpec wsL_cell ({ frames := 0, cells := 0, slots := 0, locals := 0 } : Room)).room s m ([.ref b, .int k] : List Value).toArray below meth c s.heap [] 0 0 (MQ below (va_Qi (fun v (_ : Unit) => v = r) (fun _ _ => True) (fun _ => False)) ([.ref b, .int k] : List Value).toArray s 0 0 (fun _ => False)) (F0 m 19 ls [.int v]) := fun v hv => by
    refine lv_ldc hx hb hown (hts _ kL_cell_8) dL_cell_19 ?_
    refine lv_iand hx hb dL_cell_21 ?_
    rw [hv]
    exact W.iret (v := r) hx hb hr (fun tt ht hW => ⟨⟨r, (), rfl, rfl, trivial⟩, hS.F ht⟩) hS.2.2 dL_cell_22 B.notSynchronized
  refine lv_iload_n hx hb dL_cell_0 rfl (lv_at hl 1 rfl) ?_
  refine lv_aload_n hx hb dL_cell_1 rfl (lv_at hl 0 rfl) ?_
  refine va_slen hx hb hX hbl hbA hS dL_cell_2 ?_
  unfold cellF at hr0
  refine lv_icmp_ge (tgt := 12) hx hb dL_cell_3 (by decide) (fun q => ?_) (fun q => ?_)
  · rw [if_pos q] at hr0
    refine lv_ldc hx hb hown (hts _ kL_cell_7) dL_cell_12 ?_
    refine lv_iload_n hx hb dL_cell_14 rfl (lv_at hl 1 rfl) ?_
    refine lv_imul hx hb dL_cell_15 ?_
    refine lv_bipush (v := 109) hx hb dL_cell_16 (by decide) ?_
    refine lv_iadd hx hb dL_cell_18 ?_
    exact fin _ (Option.some.inj hr0)
  · rw [if_neg q] at hr0
    refine lv_aload_n hx hb dL_cell_6 rfl (lv_at hl 0 rfl) ?_
    refine lv_iload_n hx hb dL_cell_7 rfl (lv_at hl 1 rfl) ?_
    refine va_sld hx hb hX hbl hbA hS (gd_some hr0).1 dL_cell_8 ?_
    refine lv_goto (tgt := 19) hx hb dL_cell_9 (by decide) ?_
    exact fin _ (Option.some.inj (gd_some hr0).2)
section LW
variable {p : Program} {l : Launch} {K : Kx} {e : Env} {s : State} {m : MethodId} {below : List Frame} {meth : Method} {c : Code} {cells slots : Nat} {b L : Nat} {xs : Nat → Int32} {pc : Nat} {lv : List (Nat × Value)} {st rest : List Value} {t : Sx} {k : Option Int32}
theorem V_cell {i : Int32} {kk : Int32 → Option Int32} (hc : Cx p room_1 s m #[Value.ref b] meth c cL_law 5 lw_tbl RL K (fun q : Nat => s.heap.size ≤ q) ret cells slots) (hX : va_X b L xs s s.heap) (hbl : b < s.heap.size) (hbA : ¬ s.heap.size ≤ b) (hst : st = .int i :: .ref b :: rest) (hcat : (rest.map fun v => v.category).sum ≤ 8) (hdg : decode cL_law pc = .ok (.invokestatic 135, 3))
    (h : ∀ r, V p l e room_1 s m #[Value.ref b] below meth c K (fun q : Nat => s.heap.size ≤ q) cells slots 5 (QL below b s) (pc + 3) lv (.int r :: rest) t (kk r)) : V p l e room_1 s m #[Value.ref b] below meth c K (fun q : Nat => s.heap.size ≤ q) cells slots 5 (QL below b s) pc lv st t ((cellF xs L i).bind kk) := by
  intro r hr ls H locs hl hP hD hS
  obtain ⟨r1, h1, h2⟩ := Option.bind_eq_some_iff.mp hr
  subst hst
  refine va_calli (va_runS (As := [.ref b, .int i]) (rest := rest) ⟨hc.1, hc.2.1, hc.2.2.1, hc.ow, hc.hts⟩ (c_L_cell l h1) (va_cwS 2 hc.hts gL_law_L_cell rfl rfl rfl (by decide +kernel) ⟨Nat.le_of_ble_eq_true rfl, Nat.le_of_ble_eq_true rfl⟩) ⟨PCell_blind b L xs i, fun U hU hW => ⟨rfl, by show va_X b L xs U U.heap; rw [hU]; exact (hX.moved hW.alike).kept (hS.2.1 b hbl hbA)⟩⟩ rfl rfl hl.1 rfl (lv_room hcat) hdg hc.room) hS (fun q _ z => z.elim) (fun q z => z.elim) (fun v u tt H1 locs1 ht hvm hp hB hz hk1 hS1 => ?_)
  subst hp
  exact h _ r h2 ls H1 locs1 hl (hP.kept (fun j q hq => hk1 q.1 (hP j q hq).lt (fun z => z))) hD hS1
theorem V_law0 (hc : Cx p room_1 s m #[Value.ref b] meth c cL_law 5 lw_tbl RL K (fun q : Nat => s.heap.size ≤ q) ret cells slots) (hdg : decode cL_law pc = .ok (.ireturn, 1)) : V p l e room_1 s m #[Value.ref b] below meth c K (fun q : Nat => s.heap.size ≤ q) cells slots 5 (QL below b s) pc lv [.int 0] t (some 0) := by
  intro r hr ls H locs hl hP hD hS
  cases hr
  intro T hT X
  exact ⟨_, Steps.refl _, fun q => absurd q (by decide)⟩
theorem V_law1 (hc : Cx p room_1 s m #[Value.ref b] meth c cL_law 5 lw_tbl RL K (fun q : Nat => s.heap.size ≤ q) ret cells slots) (hcs : cells ≤ 600000 ∧ slots ≤ 7302250) (hdg : decode cL_law pc = .ok (.ireturn, 1)) : V p l e room_1 s m #[Value.ref b] below meth c K (fun q : Nat => s.heap.size ≤ q) cells slots 5 (QL below b s) pc lv [.int 1] t (some 1) := by
  intro r hr ls H locs hl hP hD hS
  cases hr
  refine va_forget (fun q hq => hS.2.2 q hq) ?_
  refine W.widen hcs.1 hcs.2 ?_
  intro T hT X
  obtain ⟨tt, h1, h2⟩ := lw_ret (l := l) (e := e) (below := below) (s := s) (b := b) hc.1 hc.2.1 hc.retT hc.locks hdg T hT X
  exact ⟨tt, h1, fun _ => h2⟩
end LW

noncomputable def L_L_law_12 (xs : Nat → Int32) (L : Nat)  (kont : Int32 → Int32 → Sx → Option Int32) : Nat → Int32 → Int32 → Sx → Option Int32
  | 0, _, _, _ => none
  | n + 1, x2 , x3, y => if 5 ≤ x3 then kont (x2) (x3) (y) else if x2 = 0 then kont (x2) (x3) (y) else (f_L_text y (x3)).bind fun r1 => (f_L_types y (r1)).bind fun r2 => if r2.1 = 0 then L_L_law_12 xs L  kont n (0) ((x3 + 1)) (r2.2) else (f_X8_makeAlbum r2.2 ).bind fun r3 => if r3.1 = x3 then L_L_law_12 xs L  kont n (1) ((x3 + 1)) (r3.2) else L_L_law_12 xs L  kont n (0) ((x3 + 1)) (r3.2)
set_option maxRecDepth 20000 in
set_option maxHeartbeats 4000000 in
theorem L_L_law_12_ok {p : Program} {l : Launch} {K : Kx} {e : Env} {s : State} {m : MethodId} {below : List Frame} {meth : Method} {c : Code} {cells slots : Nat} {b L : Nat} {xs : Nat → Int32} (hc : Cx p room_1 s m #[Value.ref b] meth c cL_law 5 lw_tbl RL K (fun q : Nat => s.heap.size ≤ q) ret cells slots) (hcs : cells ≤ 600000 ∧ slots ≤ 7302250) (hX : va_X b L xs s s.heap) (hbl : b < s.heap.size) (hbA : ¬ s.heap.size ≤ b)  (kont : Int32 → Int32 → Sx → Option Int32) (hk : ∀ x2 x3 y, V p l e room_1 s m #[Value.ref b] below meth c K (fun q : Nat => s.heap.size ≤ q) cells slots 5 (QL below b s) 52 [(0, .ref b), (1, .ref (K.2.2 0)), (2, .int x2), (3, .int x3)] [] y (kont x2 x3 y)) : ∀ (n : Nat) (x2 : Int32) (x3 : Int32) (y : Sx), V p l e room_1 s m #[Value.ref b] below meth c K (fun q : Nat => s.heap.size ≤ q) cells slots 5 (QL below b s) 12 [(0, .ref b), (1, .ref (K.2.2 0)), (2, .int x2), (3, .int x3)] [] y (L_L_law_12 xs L  kont n x2 x3 y) := by
  intro n
  induction n with
  | zero => intro x2 x3 y; exact V_none
  | succ n ih =>
    intro x2 x3 y
    rw [L_L_law_12]
    refine V_iload_n hc dL_law_12 rfl 3 rfl ?_
    refine V_iconst (v := 5) hc dL_law_13 (by decide) ?_
    refine V_icmp_ge (tgt := 52) hc dL_law_14 (by decide) ?_ ?_
    · exact V_sub [0, 1, 2, 3] rfl (hk _ _ _)
    · refine V_iload_n hc dL_law_17 rfl 2 rfl ?_
      refine V_if_eq (tgt := 52) hc dL_law_18 (by decide) ?_ ?_
      · exact V_sub [0, 1, 2, 3] rfl (hk _ _ _)
      · refine V_aload_n hc dL_law_21 rfl 1 rfl ?_
        refine V_iload_n hc dL_law_22 rfl 3 rfl ?_
        refine V_callS_RL hc (c_L_text l K y (x3)) 1 gL_law_L_text rfl ⟨rfl, rfl⟩ (by decide) ⟨Nat.le_of_ble_eq_true rfl, Nat.le_of_ble_eq_true rfl⟩ rfl rfl (Nat.le_of_ble_eq_true rfl) dL_law_23 (fun r1 => ?_)
        refine V_callS_WI hc (c_L_types l K y (r1)) 2 gL_law_L_types rfl ⟨rfl, rfl⟩ (by decide) ⟨Nat.le_of_ble_eq_true rfl, Nat.le_of_ble_eq_true rfl⟩ rfl rfl (Nat.le_of_ble_eq_true rfl) dL_law_26 (fun r2 => ?_)
        refine V_if_eq (tgt := 44) hc dL_law_29 (by decide) ?_ ?_
        · refine V_iconst (v := 0) hc dL_law_44 (by decide) ?_
          refine V_istore_n (lv' := [(2, .int 0), (0, .ref b), (1, .ref (K.2.2 0)), (3, .int x3)]) hc dL_law_45 rfl (by decide) rfl ?_
          refine V_iinc (v := (x3 + 1)) (lv' := [(3, .int (x3 + 1)), (2, .int 0), (0, .ref b), (1, .ref (K.2.2 0))]) hc dL_law_46 3 rfl rfl (by decide) rfl ?_
          refine V_goto (tgt := 12) hc dL_law_49 (by decide) ?_
          exact V_sub [2, 3, 1, 0] rfl (ih _ _ _)
        · refine V_aload_n hc dL_law_32 rfl 1 rfl ?_
          refine V_callV_WI (Cn := RX8) (T := TX8) (N := 8) hc (c_X8_makeAlbum l K r2.2 ) sP0 rfl 0 gL_law_X8_makeAlbum rfl ⟨rfl, rfl⟩ (by decide) ⟨Nat.le_of_ble_eq_true rfl, Nat.le_of_ble_eq_true rfl⟩ rfl rfl (Nat.le_of_ble_eq_true rfl) dL_law_33 (fun r3 => ?_)
          refine V_iload_n hc dL_law_36 rfl 3 rfl ?_
          refine V_icmp_ne (tgt := 44) hc dL_law_37 (by decide) ?_ ?_
          · refine V_iconst (v := 0) hc dL_law_44 (by decide) ?_
            refine V_istore_n (lv' := [(2, .int 0), (0, .ref b), (1, .ref (K.2.2 0)), (3, .int x3)]) hc dL_law_45 rfl (by decide) rfl ?_
            refine V_iinc (v := (x3 + 1)) (lv' := [(3, .int (x3 + 1)), (2, .int 0), (0, .ref b), (1, .ref (K.2.2 0))]) hc dL_law_46 3 rfl rfl (by decide) rfl ?_
            refine V_goto (tgt := 12) hc dL_law_49 (by decide) ?_
            exact V_sub [2, 3, 1, 0] rfl (ih _ _ _)
          · refine V_iconst (v := 1) hc dL_law_40 (by decide) ?_
            refine V_goto (tgt := 45) hc dL_law_41 (by decide) ?_
            refine V_istore_n (lv' := [(2, .int 1), (0, .ref b), (1, .ref (K.2.2 0)), (3, .int x3)]) hc dL_law_45 rfl (by decide) rfl ?_
            refine V_iinc (v := (x3 + 1)) (lv' := [(3, .int (x3 + 1)), (2, .int 1), (0, .ref b), (1, .ref (K.2.2 0))]) hc dL_law_46 3 rfl rfl (by decide) rfl ?_
            refine V_goto (tgt := 12) hc dL_law_49 (by decide) ?_
            exact V_sub [2, 3, 1, 0] rfl (ih _ _ _)
noncomputable def L_L_law_54 (xs : Nat → Int32) (L : Nat)  (kont : Int32 → Int32 → Sx → Option Int32) : Nat → Int32 → Int32 → Sx → Option Int32
  | 0, _, _, _ => none
  | n + 1, x2 , x3, y => if 5 ≤ x3 then kont (x2) (x3) (y) else if x2 = 0 then kont (x2) (x3) (y) else (cellF xs L (x3)).bind fun r7 => gd (¬ (4 : Int32) = 0) ((cellF xs L (x3)).bind fun r8 => gd (¬ (50 : Int32) = 0) ((f_X8_add y (r7 - r7 / 4 * 4) (1 + (r8 - r8 / 50 * 50))).bind fun r9 => if r9.1 = x3 then L_L_law_54 xs L  kont n (1) ((x3 + 1)) (r9.2) else L_L_law_54 xs L  kont n (0) ((x3 + 1)) (r9.2)))
set_option maxRecDepth 20000 in
set_option maxHeartbeats 4000000 in
theorem L_L_law_54_ok {p : Program} {l : Launch} {K : Kx} {e : Env} {s : State} {m : MethodId} {below : List Frame} {meth : Method} {c : Code} {cells slots : Nat} {b L : Nat} {xs : Nat → Int32} (hc : Cx p room_1 s m #[Value.ref b] meth c cL_law 5 lw_tbl RL K (fun q : Nat => s.heap.size ≤ q) ret cells slots) (hcs : cells ≤ 600000 ∧ slots ≤ 7302250) (hX : va_X b L xs s s.heap) (hbl : b < s.heap.size) (hbA : ¬ s.heap.size ≤ b)  (kont : Int32 → Int32 → Sx → Option Int32) (hk : ∀ x2 x3 y, V p l e room_1 s m #[Value.ref b] below meth c K (fun q : Nat => s.heap.size ≤ q) cells slots 5 (QL below b s) 100 [(0, .ref b), (1, .ref (K.2.2 0)), (2, .int x2), (3, .int x3)] [] y (kont x2 x3 y)) : ∀ (n : Nat) (x2 : Int32) (x3 : Int32) (y : Sx), V p l e room_1 s m #[Value.ref b] below meth c K (fun q : Nat => s.heap.size ≤ q) cells slots 5 (QL below b s) 54 [(0, .ref b), (1, .ref (K.2.2 0)), (2, .int x2), (3, .int x3)] [] y (L_L_law_54 xs L  kont n x2 x3 y) := by
  intro n
  induction n with
  | zero => intro x2 x3 y; exact V_none
  | succ n ih =>
    intro x2 x3 y
    rw [L_L_law_54]
    refine V_iload_n hc dL_law_54 rfl 3 rfl ?_
    refine V_iconst (v := 5) hc dL_law_55 (by decide) ?_
    refine V_icmp_ge (tgt := 100) hc dL_law_56 (by decide) ?_ ?_
    · exact V_sub [0, 1, 2, 3] rfl (hk _ _ _)
    · refine V_iload_n hc dL_law_59 rfl 2 rfl ?_
      refine V_if_eq (tgt := 100) hc dL_law_60 (by decide) ?_ ?_
      · exact V_sub [0, 1, 2, 3] rfl (hk _ _ _)
      · refine V_aload_n hc dL_law_63 rfl 1 rfl ?_
        refine V_aload_n hc dL_law_64 rfl 0 rfl ?_
        refine V_iload_n hc dL_law_65 rfl 3 rfl ?_
        refine V_cell hc hX hbl hbA rfl (Nat.le_of_ble_eq_true rfl) dL_law_66 (fun r7 => ?_)
        refine V_iconst (v := 4) hc dL_law_69 (by decide) ?_
        refine V_irem hc dL_law_70 ?_
        refine V_iconst (v := 1) hc dL_law_71 (by decide) ?_
        refine V_aload_n hc dL_law_72 rfl 0 rfl ?_
        refine V_iload_n hc dL_law_73 rfl 3 rfl ?_
        refine V_cell hc hX hbl hbA rfl (Nat.le_of_ble_eq_true rfl) dL_law_74 (fun r8 => ?_)
        refine V_bipush (v := 50) hc dL_law_77 (by decide) ?_
        refine V_irem hc dL_law_79 ?_
        refine V_iadd hc dL_law_80 ?_
        refine V_callV_WI (Cn := RX8) (T := TX8) (N := 8) hc (c_X8_add l K y (r7 - r7 / 4 * 4) (1 + (r8 - r8 / 50 * 50))) sP0 rfl 2 gL_law_X8_add rfl ⟨rfl, rfl⟩ (by decide) ⟨Nat.le_of_ble_eq_true rfl, Nat.le_of_ble_eq_true rfl⟩ rfl rfl (Nat.le_of_ble_eq_true rfl) dL_law_81 (fun r9 => ?_)
        refine V_iload_n hc dL_law_84 rfl 3 rfl ?_
        refine V_icmp_ne (tgt := 92) hc dL_law_85 (by decide) ?_ ?_
        · refine V_iconst (v := 0) hc dL_law_92 (by decide) ?_
          refine V_istore_n (lv' := [(2, .int 0), (0, .ref b), (1, .ref (K.2.2 0)), (3, .int x3)]) hc dL_law_93 rfl (by decide) rfl ?_
          refine V_iinc (v := (x3 + 1)) (lv' := [(3, .int (x3 + 1)), (2, .int 0), (0, .ref b), (1, .ref (K.2.2 0))]) hc dL_law_94 3 rfl rfl (by decide) rfl ?_
          refine V_goto (tgt := 54) hc dL_law_97 (by decide) ?_
          exact V_sub [2, 3, 1, 0] rfl (ih _ _ _)
        · refine V_iconst (v := 1) hc dL_law_88 (by decide) ?_
          refine V_goto (tgt := 93) hc dL_law_89 (by decide) ?_
          refine V_istore_n (lv' := [(2, .int 1), (0, .ref b), (1, .ref (K.2.2 0)), (3, .int x3)]) hc dL_law_93 rfl (by decide) rfl ?_
          refine V_iinc (v := (x3 + 1)) (lv' := [(3, .int (x3 + 1)), (2, .int 1), (0, .ref b), (1, .ref (K.2.2 0))]) hc dL_law_94 3 rfl rfl (by decide) rfl ?_
          refine V_goto (tgt := 54) hc dL_law_97 (by decide) ?_
          exact V_sub [2, 3, 1, 0] rfl (ih _ _ _)
noncomputable def L_L_law_102 (xs : Nat → Int32) (L : Nat)  (kont : Int32 → Int32 → Sx → Option Int32) : Nat → Int32 → Int32 → Sx → Option Int32
  | 0, _, _, _ => none
  | n + 1, x2 , x3, y => if 56 ≤ x3 then kont (x2) (x3) (y) else if x2 = 0 then kont (x2) (x3) (y) else (cellF xs L ((5 + x3))).bind fun r13 => (f_L_acts y (r13)).bind fun r14 => if r14.1 = 0 then L_L_law_102 xs L  kont n (0) ((x3 + 1)) (r14.2) else gd (¬ (4 : Int32) = 0) (if 0 < (x3 - x3 / 4 * 4) then L_L_law_102 xs L  kont n (1) ((x3 + 1)) (r14.2) else (f_L_groups r14.2 ).bind fun r15 => if r15 = 0 then L_L_law_102 xs L  kont n (0) ((x3 + 1)) (r14.2) else (f_L_albums r14.2 ).bind fun r16 => if r16.1 = 0 then L_L_law_102 xs L  kont n (0) ((x3 + 1)) (r16.2) else L_L_law_102 xs L  kont n (1) ((x3 + 1)) (r16.2))
set_option maxRecDepth 20000 in
set_option maxHeartbeats 4000000 in
theorem L_L_law_102_ok {p : Program} {l : Launch} {K : Kx} {e : Env} {s : State} {m : MethodId} {below : List Frame} {meth : Method} {c : Code} {cells slots : Nat} {b L : Nat} {xs : Nat → Int32} (hc : Cx p room_1 s m #[Value.ref b] meth c cL_law 5 lw_tbl RL K (fun q : Nat => s.heap.size ≤ q) ret cells slots) (hcs : cells ≤ 600000 ∧ slots ≤ 7302250) (hX : va_X b L xs s s.heap) (hbl : b < s.heap.size) (hbA : ¬ s.heap.size ≤ b)  (kont : Int32 → Int32 → Sx → Option Int32) (hk : ∀ x2 x3 y, V p l e room_1 s m #[Value.ref b] below meth c K (fun q : Nat => s.heap.size ≤ q) cells slots 5 (QL below b s) 158 [(0, .ref b), (1, .ref (K.2.2 0)), (2, .int x2), (3, .int x3)] [] y (kont x2 x3 y)) : ∀ (n : Nat) (x2 : Int32) (x3 : Int32) (y : Sx), V p l e room_1 s m #[Value.ref b] below meth c K (fun q : Nat => s.heap.size ≤ q) cells slots 5 (QL below b s) 102 [(0, .ref b), (1, .ref (K.2.2 0)), (2, .int x2), (3, .int x3)] [] y (L_L_law_102 xs L  kont n x2 x3 y) := by
  intro n
  induction n with
  | zero => intro x2 x3 y; exact V_none
  | succ n ih =>
    intro x2 x3 y
    rw [L_L_law_102]
    refine V_iload_n hc dL_law_102 rfl 3 rfl ?_
    refine V_bipush (v := 56) hc dL_law_103 (by decide) ?_
    refine V_icmp_ge (tgt := 158) hc dL_law_105 (by decide) ?_ ?_
    · exact V_sub [0, 1, 2, 3] rfl (hk _ _ _)
    · refine V_iload_n hc dL_law_108 rfl 2 rfl ?_
      refine V_if_eq (tgt := 158) hc dL_law_109 (by decide) ?_ ?_
      · exact V_sub [0, 1, 2, 3] rfl (hk _ _ _)
      · refine V_aload_n hc dL_law_112 rfl 1 rfl ?_
        refine V_aload_n hc dL_law_113 rfl 0 rfl ?_
        refine V_iconst (v := 5) hc dL_law_114 (by decide) ?_
        refine V_iload_n hc dL_law_115 rfl 3 rfl ?_
        refine V_iadd hc dL_law_116 ?_
        refine V_cell hc hX hbl hbA rfl (Nat.le_of_ble_eq_true rfl) dL_law_117 (fun r13 => ?_)
        refine V_callS_WI hc (c_L_acts l K y (r13)) 2 gL_law_L_acts rfl ⟨rfl, rfl⟩ (by decide) ⟨Nat.le_of_ble_eq_true rfl, Nat.le_of_ble_eq_true rfl⟩ rfl rfl (Nat.le_of_ble_eq_true rfl) dL_law_120 (fun r14 => ?_)
        refine V_if_eq (tgt := 150) hc dL_law_123 (by decide) ?_ ?_
        · refine V_iconst (v := 0) hc dL_law_150 (by decide) ?_
          refine V_istore_n (lv' := [(2, .int 0), (0, .ref b), (1, .ref (K.2.2 0)), (3, .int x3)]) hc dL_law_151 rfl (by decide) rfl ?_
          refine V_iinc (v := (x3 + 1)) (lv' := [(3, .int (x3 + 1)), (2, .int 0), (0, .ref b), (1, .ref (K.2.2 0))]) hc dL_law_152 3 rfl rfl (by decide) rfl ?_
          refine V_goto (tgt := 102) hc dL_law_155 (by decide) ?_
          exact V_sub [2, 3, 1, 0] rfl (ih _ _ _)
        · refine V_iload_n hc dL_law_126 rfl 3 rfl ?_
          refine V_iconst (v := 4) hc dL_law_127 (by decide) ?_
          refine V_irem hc dL_law_128 ?_
          refine V_if_gt (tgt := 146) hc dL_law_129 (by decide) ?_ ?_
          · refine V_iconst (v := 1) hc dL_law_146 (by decide) ?_
            refine V_goto (tgt := 151) hc dL_law_147 (by decide) ?_
            refine V_istore_n (lv' := [(2, .int 1), (0, .ref b), (1, .ref (K.2.2 0)), (3, .int x3)]) hc dL_law_151 rfl (by decide) rfl ?_
            refine V_iinc (v := (x3 + 1)) (lv' := [(3, .int (x3 + 1)), (2, .int 1), (0, .ref b), (1, .ref (K.2.2 0))]) hc dL_law_152 3 rfl rfl (by decide) rfl ?_
            refine V_goto (tgt := 102) hc dL_law_155 (by decide) ?_
            exact V_sub [2, 3, 1, 0] rfl (ih _ _ _)
          · refine V_aload_n hc dL_law_132 rfl 1 rfl ?_
            refine V_callS_RI hc (c_L_groups l K r14.2 ) 1 gL_law_L_groups rfl ⟨rfl, rfl⟩ (by decide) ⟨Nat.le_of_ble_eq_true rfl, Nat.le_of_ble_eq_true rfl⟩ rfl rfl (Nat.le_of_ble_eq_true rfl) dL_law_133 (fun r15 => ?_)
            refine V_if_eq (tgt := 150) hc dL_law_136 (by decide) ?_ ?_
            · refine V_iconst (v := 0) hc dL_law_150 (by decide) ?_
              refine V_istore_n (lv' := [(2, .int 0), (0, .ref b), (1, .ref (K.2.2 0)), (3, .int x3)]) hc dL_law_151 rfl (by decide) rfl ?_
              refine V_iinc (v := (x3 + 1)) (lv' := [(3, .int (x3 + 1)), (2, .int 0), (0, .ref b), (1, .ref (K.2.2 0))]) hc dL_law_152 3 rfl rfl (by decide) rfl ?_
              refine V_goto (tgt := 102) hc dL_law_155 (by decide) ?_
              exact V_sub [2, 3, 1, 0] rfl (ih _ _ _)
            · refine V_aload_n hc dL_law_139 rfl 1 rfl ?_
              refine V_callS_WI hc (c_L_albums l K r14.2 ) 1 gL_law_L_albums rfl ⟨rfl, rfl⟩ (by decide) ⟨Nat.le_of_ble_eq_true rfl, Nat.le_of_ble_eq_true rfl⟩ rfl rfl (Nat.le_of_ble_eq_true rfl) dL_law_140 (fun r16 => ?_)
              refine V_if_eq (tgt := 150) hc dL_law_143 (by decide) ?_ ?_
              · refine V_iconst (v := 0) hc dL_law_150 (by decide) ?_
                refine V_istore_n (lv' := [(2, .int 0), (0, .ref b), (1, .ref (K.2.2 0)), (3, .int x3)]) hc dL_law_151 rfl (by decide) rfl ?_
                refine V_iinc (v := (x3 + 1)) (lv' := [(3, .int (x3 + 1)), (2, .int 0), (0, .ref b), (1, .ref (K.2.2 0))]) hc dL_law_152 3 rfl rfl (by decide) rfl ?_
                refine V_goto (tgt := 102) hc dL_law_155 (by decide) ?_
                exact V_sub [2, 3, 1, 0] rfl (ih _ _ _)
              · refine V_iconst (v := 1) hc dL_law_146 (by decide) ?_
                refine V_goto (tgt := 151) hc dL_law_147 (by decide) ?_
                refine V_istore_n (lv' := [(2, .int 1), (0, .ref b), (1, .ref (K.2.2 0)), (3, .int x3)]) hc dL_law_151 rfl (by decide) rfl ?_
                refine V_iinc (v := (x3 + 1)) (lv' := [(3, .int (x3 + 1)), (2, .int 1), (0, .ref b), (1, .ref (K.2.2 0))]) hc dL_law_152 3 rfl rfl (by decide) rfl ?_
                refine V_goto (tgt := 102) hc dL_law_155 (by decide) ?_
                exact V_sub [2, 3, 1, 0] rfl (ih _ _ _)
noncomputable def L_L_law_184 (xs : Nat → Int32) (L : Nat)  (kont : Int32 → Int32 → Sx → Option Int32) : Nat → Int32 → Int32 → Sx → Option Int32
  | 0, _, _, _ => none
  | n + 1, x2 , x3, y => if 40 ≤ x3 then kont (x2) (x3) (y) else if x2 = 0 then kont (x2) (x3) (y) else (f_X8_fileCount y ).bind fun r20 => (f_X8_keeperOf y (x3)).bind fun r21 => if r21 < 0 then L_L_law_184 xs L  kont n (1) ((x3 + 1)) (y) else (f_X8_remove y (x3)).bind fun r22 => if r22.1 = (r20 - 1) then L_L_law_184 xs L  kont n (1) ((x3 + 1)) (r22.2) else L_L_law_184 xs L  kont n (0) ((x3 + 1)) (r22.2)
set_option maxRecDepth 20000 in
set_option maxHeartbeats 4000000 in
theorem L_L_law_184_ok {p : Program} {l : Launch} {K : Kx} {e : Env} {s : State} {m : MethodId} {below : List Frame} {meth : Method} {c : Code} {cells slots : Nat} {b L : Nat} {xs : Nat → Int32} (hc : Cx p room_1 s m #[Value.ref b] meth c cL_law 5 lw_tbl RL K (fun q : Nat => s.heap.size ≤ q) ret cells slots) (hcs : cells ≤ 600000 ∧ slots ≤ 7302250) (hX : va_X b L xs s s.heap) (hbl : b < s.heap.size) (hbA : ¬ s.heap.size ≤ b)  (kont : Int32 → Int32 → Sx → Option Int32) (hk : ∀ x2 x3 y, V p l e room_1 s m #[Value.ref b] below meth c K (fun q : Nat => s.heap.size ≤ q) cells slots 5 (QL below b s) 232 [(0, .ref b), (1, .ref (K.2.2 0)), (2, .int x2), (3, .int x3)] [] y (kont x2 x3 y)) : ∀ (n : Nat) (x2 : Int32) (x3 : Int32) (y : Sx), V p l e room_1 s m #[Value.ref b] below meth c K (fun q : Nat => s.heap.size ≤ q) cells slots 5 (QL below b s) 184 [(0, .ref b), (1, .ref (K.2.2 0)), (2, .int x2), (3, .int x3)] [] y (L_L_law_184 xs L  kont n x2 x3 y) := by
  intro n
  induction n with
  | zero => intro x2 x3 y; exact V_none
  | succ n ih =>
    intro x2 x3 y
    rw [L_L_law_184]
    refine V_iload_n hc dL_law_184 rfl 3 rfl ?_
    refine V_bipush (v := 40) hc dL_law_185 (by decide) ?_
    refine V_icmp_ge (tgt := 232) hc dL_law_187 (by decide) ?_ ?_
    · exact V_sub [0, 1, 2, 3] rfl (hk _ _ _)
    · refine V_iload_n hc dL_law_190 rfl 2 rfl ?_
      refine V_if_eq (tgt := 232) hc dL_law_191 (by decide) ?_ ?_
      · exact V_sub [0, 1, 2, 3] rfl (hk _ _ _)
      · refine V_aload_n hc dL_law_194 rfl 1 rfl ?_
        refine V_callV_RI (Cn := RX8) (T := TX8) (N := 8) hc (c_X8_fileCount l K y ) sP0 rfl 0 gL_law_X8_fileCount rfl ⟨rfl, rfl⟩ (by decide) ⟨Nat.le_of_ble_eq_true rfl, Nat.le_of_ble_eq_true rfl⟩ rfl rfl (Nat.le_of_ble_eq_true rfl) dL_law_195 (fun r20 => ?_)
        refine V_istore (lv' := [(4, .int r20), (0, .ref b), (1, .ref (K.2.2 0)), (2, .int x2), (3, .int x3)]) hc dL_law_198 (by decide) rfl ?_
        refine V_aload_n hc dL_law_200 rfl 2 rfl ?_
        refine V_iload_n hc dL_law_201 rfl 4 rfl ?_
        refine V_callV_RI (Cn := RX8) (T := TX8) (N := 8) hc (c_X8_keeperOf l K y (x3)) sP0 rfl 1 gL_law_X8_keeperOf rfl ⟨rfl, rfl⟩ (by decide) ⟨Nat.le_of_ble_eq_true rfl, Nat.le_of_ble_eq_true rfl⟩ rfl rfl (Nat.le_of_ble_eq_true rfl) dL_law_202 (fun r21 => ?_)
        refine V_if_lt (tgt := 220) hc dL_law_205 (by decide) ?_ ?_
        · refine V_iconst (v := 1) hc dL_law_220 (by decide) ?_
          refine V_goto (tgt := 225) hc dL_law_221 (by decide) ?_
          refine V_istore_n (lv' := [(2, .int 1), (4, .int r20), (0, .ref b), (1, .ref (K.2.2 0)), (3, .int x3)]) hc dL_law_225 rfl (by decide) rfl ?_
          refine V_iinc (v := (x3 + 1)) (lv' := [(3, .int (x3 + 1)), (2, .int 1), (4, .int r20), (0, .ref b), (1, .ref (K.2.2 0))]) hc dL_law_226 4 rfl rfl (by decide) rfl ?_
          refine V_goto (tgt := 184) hc dL_law_229 (by decide) ?_
          exact V_sub [3, 4, 1, 0] rfl (ih _ _ _)
        · refine V_aload_n hc dL_law_208 rfl 2 rfl ?_
          refine V_iload_n hc dL_law_209 rfl 4 rfl ?_
          refine V_callV_WI (Cn := RX8) (T := TX8) (N := 8) hc (c_X8_remove l K y (x3)) sP0 rfl 1 gL_law_X8_remove rfl ⟨rfl, rfl⟩ (by decide) ⟨Nat.le_of_ble_eq_true rfl, Nat.le_of_ble_eq_true rfl⟩ rfl rfl (Nat.le_of_ble_eq_true rfl) dL_law_210 (fun r22 => ?_)
          refine V_iload hc dL_law_213 0 rfl ?_
          refine V_iconst (v := 1) hc dL_law_215 (by decide) ?_
          refine V_isub hc dL_law_216 ?_
          refine V_icmp_ne (tgt := 224) hc dL_law_217 (by decide) ?_ ?_
          · refine V_iconst (v := 0) hc dL_law_224 (by decide) ?_
            refine V_istore_n (lv' := [(2, .int 0), (4, .int r20), (0, .ref b), (1, .ref (K.2.2 0)), (3, .int x3)]) hc dL_law_225 rfl (by decide) rfl ?_
            refine V_iinc (v := (x3 + 1)) (lv' := [(3, .int (x3 + 1)), (2, .int 0), (4, .int r20), (0, .ref b), (1, .ref (K.2.2 0))]) hc dL_law_226 4 rfl rfl (by decide) rfl ?_
            refine V_goto (tgt := 184) hc dL_law_229 (by decide) ?_
            exact V_sub [3, 4, 1, 0] rfl (ih _ _ _)
          · refine V_iconst (v := 1) hc dL_law_220 (by decide) ?_
            refine V_goto (tgt := 225) hc dL_law_221 (by decide) ?_
            refine V_istore_n (lv' := [(2, .int 1), (4, .int r20), (0, .ref b), (1, .ref (K.2.2 0)), (3, .int x3)]) hc dL_law_225 rfl (by decide) rfl ?_
            refine V_iinc (v := (x3 + 1)) (lv' := [(3, .int (x3 + 1)), (2, .int 1), (4, .int r20), (0, .ref b), (1, .ref (K.2.2 0))]) hc dL_law_226 4 rfl rfl (by decide) rfl ?_
            refine V_goto (tgt := 184) hc dL_law_229 (by decide) ?_
            exact V_sub [3, 4, 1, 0] rfl (ih _ _ _)
noncomputable def L_L_law_234 (xs : Nat → Int32) (L : Nat) (t0 : Sx) (kont : Int32 → Int32 → Option Int32) : Nat → Int32 → Int32 → Option Int32
  | 0, _, _ => none
  | n + 1, x2 , x3 => if 5 ≤ x3 then kont (x2) (x3) else if x2 = 0 then kont (x2) (x3) else (f_X8_albumSize t0 (x3)).bind fun r26 => if r26 = 0 then (f_X8_turnover t0 (x3) (0)).bind fun r27 => (f_X8_turnover t0 (x3) (1)).bind fun r28 => if r27 = r28 then L_L_law_234 xs L t0 kont n (1) ((x3 + 1)) else L_L_law_234 xs L t0 kont n (0) ((x3 + 1)) else L_L_law_234 xs L t0 kont n (0) ((x3 + 1))
set_option maxRecDepth 20000 in
set_option maxHeartbeats 4000000 in
theorem L_L_law_234_ok {p : Program} {l : Launch} {K : Kx} {e : Env} {s : State} {m : MethodId} {below : List Frame} {meth : Method} {c : Code} {cells slots : Nat} {b L : Nat} {xs : Nat → Int32} (hc : Cx p room_1 s m #[Value.ref b] meth c cL_law 5 lw_tbl RL K (fun q : Nat => s.heap.size ≤ q) ret cells slots) (hcs : cells ≤ 600000 ∧ slots ≤ 7302250) (hX : va_X b L xs s s.heap) (hbl : b < s.heap.size) (hbA : ¬ s.heap.size ≤ b) (t0 : Sx) (kont : Int32 → Int32 → Option Int32) (hk : ∀ x2 x3, V p l e room_1 s m #[Value.ref b] below meth c K (fun q : Nat => s.heap.size ≤ q) cells slots 5 (QL below b s) 278 [(0, .ref b), (1, .ref (K.2.2 0)), (2, .int x2), (3, .int x3)] [] t0 (kont x2 x3)) : ∀ (n : Nat) (x2 : Int32) (x3 : Int32), V p l e room_1 s m #[Value.ref b] below meth c K (fun q : Nat => s.heap.size ≤ q) cells slots 5 (QL below b s) 234 [(0, .ref b), (1, .ref (K.2.2 0)), (2, .int x2), (3, .int x3)] [] t0 (L_L_law_234 xs L t0 kont n x2 x3) := by
  intro n
  induction n with
  | zero => intro x2 x3; exact V_none
  | succ n ih =>
    intro x2 x3
    rw [L_L_law_234]
    refine V_iload_n hc dL_law_234 rfl 3 rfl ?_
    refine V_iconst (v := 5) hc dL_law_235 (by decide) ?_
    refine V_icmp_ge (tgt := 278) hc dL_law_236 (by decide) ?_ ?_
    · exact V_sub [0, 1, 2, 3] rfl (hk _ _)
    · refine V_iload_n hc dL_law_239 rfl 2 rfl ?_
      refine V_if_eq (tgt := 278) hc dL_law_240 (by decide) ?_ ?_
      · exact V_sub [0, 1, 2, 3] rfl (hk _ _)
      · refine V_aload_n hc dL_law_243 rfl 1 rfl ?_
        refine V_iload_n hc dL_law_244 rfl 3 rfl ?_
        refine V_callV_RI (Cn := RX8) (T := TX8) (N := 8) hc (c_X8_albumSize l K t0 (x3)) sP0 rfl 1 gL_law_X8_albumSize rfl ⟨rfl, rfl⟩ (by decide) ⟨Nat.le_of_ble_eq_true rfl, Nat.le_of_ble_eq_true rfl⟩ rfl rfl (Nat.le_of_ble_eq_true rfl) dL_law_245 (fun r26 => ?_)
        refine V_if_ne (tgt := 270) hc dL_law_248 (by decide) ?_ ?_
        · refine V_iconst (v := 0) hc dL_law_270 (by decide) ?_
          refine V_istore_n (lv' := [(2, .int 0), (0, .ref b), (1, .ref (K.2.2 0)), (3, .int x3)]) hc dL_law_271 rfl (by decide) rfl ?_
          refine V_iinc (v := (x3 + 1)) (lv' := [(3, .int (x3 + 1)), (2, .int 0), (0, .ref b), (1, .ref (K.2.2 0))]) hc dL_law_272 3 rfl rfl (by decide) rfl ?_
          refine V_goto (tgt := 234) hc dL_law_275 (by decide) ?_
          exact V_sub [2, 3, 1, 0] rfl (ih _ _)
        · refine V_aload_n hc dL_law_251 rfl 1 rfl ?_
          refine V_iload_n hc dL_law_252 rfl 3 rfl ?_
          refine V_iconst (v := 0) hc dL_law_253 (by decide) ?_
          refine V_callV_RI (Cn := RX8) (T := TX8) (N := 8) hc (c_X8_turnover l K t0 (x3) (0)) sP0 rfl 2 gL_law_X8_turnover rfl ⟨rfl, rfl⟩ (by decide) ⟨Nat.le_of_ble_eq_true rfl, Nat.le_of_ble_eq_true rfl⟩ rfl rfl (Nat.le_of_ble_eq_true rfl) dL_law_254 (fun r27 => ?_)
          refine V_aload_n hc dL_law_257 rfl 1 rfl ?_
          refine V_iload_n hc dL_law_258 rfl 3 rfl ?_
          refine V_iconst (v := 1) hc dL_law_259 (by decide) ?_
          refine V_callV_RI (Cn := RX8) (T := TX8) (N := 8) hc (c_X8_turnover l K t0 (x3) (1)) sP0 rfl 2 gL_law_X8_turnover rfl ⟨rfl, rfl⟩ (by decide) ⟨Nat.le_of_ble_eq_true rfl, Nat.le_of_ble_eq_true rfl⟩ rfl rfl (Nat.le_of_ble_eq_true rfl) dL_law_260 (fun r28 => ?_)
          refine V_icmp_ne (tgt := 270) hc dL_law_263 (by decide) ?_ ?_
          · refine V_iconst (v := 0) hc dL_law_270 (by decide) ?_
            refine V_istore_n (lv' := [(2, .int 0), (0, .ref b), (1, .ref (K.2.2 0)), (3, .int x3)]) hc dL_law_271 rfl (by decide) rfl ?_
            refine V_iinc (v := (x3 + 1)) (lv' := [(3, .int (x3 + 1)), (2, .int 0), (0, .ref b), (1, .ref (K.2.2 0))]) hc dL_law_272 3 rfl rfl (by decide) rfl ?_
            refine V_goto (tgt := 234) hc dL_law_275 (by decide) ?_
            exact V_sub [2, 3, 1, 0] rfl (ih _ _)
          · refine V_iconst (v := 1) hc dL_law_266 (by decide) ?_
            refine V_goto (tgt := 271) hc dL_law_267 (by decide) ?_
            refine V_istore_n (lv' := [(2, .int 1), (0, .ref b), (1, .ref (K.2.2 0)), (3, .int x3)]) hc dL_law_271 rfl (by decide) rfl ?_
            refine V_iinc (v := (x3 + 1)) (lv' := [(3, .int (x3 + 1)), (2, .int 1), (0, .ref b), (1, .ref (K.2.2 0))]) hc dL_law_272 3 rfl rfl (by decide) rfl ?_
            refine V_goto (tgt := 234) hc dL_law_275 (by decide) ?_
            exact V_sub [2, 3, 1, 0] rfl (ih _ _)
noncomputable def f_L_law (xs : Nat → Int32) (L : Nat) (t : Sx) : Option Int32 := L_L_law_12 xs L  (fun z4 z5 t6 => L_L_law_54 xs L  (fun z10 z11 t12 => L_L_law_102 xs L  (fun z17 z18 t19 => if z17 = 0 then L_L_law_184 xs L  (fun z23 z24 t25 => L_L_law_234 xs L t25 (fun z29 z30 => if z29 = 0 then some 0 else (f_X8_count t25 (0)).bind fun r31 => if r31 = 0 then (f_X8_count t25 (3)).bind fun r32 => if r32 = 0 then (f_X8_fileCount t25 ).bind fun r33 => if r33 = 0 then some 1 else some 0 else some 0 else some 0) FU (z23) (0)) FU (0) (0) (t19) else (f_L_groups t19 ).bind fun r34 => if r34 = 0 then L_L_law_184 xs L  (fun z35 z36 t37 => L_L_law_234 xs L t37 (fun z38 z39 => if z38 = 0 then some 0 else (f_X8_count t37 (0)).bind fun r40 => if r40 = 0 then (f_X8_count t37 (3)).bind fun r41 => if r41 = 0 then (f_X8_fileCount t37 ).bind fun r42 => if r42 = 0 then some 1 else some 0 else some 0 else some 0) FU (z35) (0)) FU (0) (0) (t19) else (f_L_albums t19 ).bind fun r43 => if r43.1 = 0 then L_L_law_184 xs L  (fun z44 z45 t46 => L_L_law_234 xs L t46 (fun z47 z48 => if z47 = 0 then some 0 else (f_X8_count t46 (0)).bind fun r49 => if r49 = 0 then (f_X8_count t46 (3)).bind fun r50 => if r50 = 0 then (f_X8_fileCount t46 ).bind fun r51 => if r51 = 0 then some 1 else some 0 else some 0 else some 0) FU (z44) (0)) FU (0) (0) (r43.2) else L_L_law_184 xs L  (fun z52 z53 t54 => L_L_law_234 xs L t54 (fun z55 z56 => if z55 = 0 then some 0 else (f_X8_count t54 (0)).bind fun r57 => if r57 = 0 then (f_X8_count t54 (3)).bind fun r58 => if r58 = 0 then (f_X8_fileCount t54 ).bind fun r59 => if r59 = 0 then some 1 else some 0 else some 0 else some 0) FU (z52) (0)) FU (1) (0) (r43.2)) FU (z10) (0) (t12)) FU (z4) (0) (t6)) FU (1) (0) (t)
set_option maxRecDepth 20000 in
set_option maxHeartbeats 40000000 in
theorem L_law_ok {p : Program} {l : Launch} {K : Kx} {e : Env} {s : State} {m : MethodId} {below : List Frame} {meth : Method} {c : Code} {cells slots : Nat} {b L : Nat} {xs : Nat → Int32} (hc : Cx p room_1 s m #[Value.ref b] meth c cL_law 5 lw_tbl RL K (fun q : Nat => s.heap.size ≤ q) ret cells slots) (hcs : cells ≤ 600000 ∧ slots ≤ 7302250) (hX : va_X b L xs s s.heap) (hbl : b < s.heap.size) (hbA : ¬ s.heap.size ≤ b) (t : Sx) : V p l e room_1 s m #[Value.ref b] below meth c K (fun q : Nat => s.heap.size ≤ q) cells slots 5 (QL below b s) 8 [(1, .ref (K.2.2 0)), (0, .ref b)] [] t (f_L_law xs L t) := by
  unfold f_L_law
  refine V_iconst (v := 1) hc dL_law_8 (by decide) ?_
  refine V_istore_n (lv' := [(2, .int 1), (1, .ref (K.2.2 0)), (0, .ref b)]) hc dL_law_9 rfl (by decide) rfl ?_
  refine V_iconst (v := 0) hc dL_law_10 (by decide) ?_
  refine V_istore_n (lv' := [(3, .int 0), (2, .int 1), (1, .ref (K.2.2 0)), (0, .ref b)]) hc dL_law_11 rfl (by decide) rfl ?_
  refine V_sub (lv' := [(0, .ref b), (1, .ref (K.2.2 0)), (2, .int 1), (3, .int 0)]) [3, 2, 1, 0] rfl ?_
  refine L_L_law_12_ok hc hcs hX hbl hbA  _ (fun z4 z5 t6 => ?_) FU _ _ _
  refine V_iconst (v := 0) hc dL_law_52 (by decide) ?_
  refine V_istore_n (lv' := [(3, .int 0), (0, .ref b), (1, .ref (K.2.2 0)), (2, .int z4)]) hc dL_law_53 rfl (by decide) rfl ?_
  refine V_sub (lv' := [(0, .ref b), (1, .ref (K.2.2 0)), (2, .int z4), (3, .int 0)]) [1, 2, 3, 0] rfl ?_
  refine L_L_law_54_ok hc hcs hX hbl hbA  _ (fun z10 z11 t12 => ?_) FU _ _ _
  refine V_iconst (v := 0) hc dL_law_100 (by decide) ?_
  refine V_istore_n (lv' := [(3, .int 0), (0, .ref b), (1, .ref (K.2.2 0)), (2, .int z10)]) hc dL_law_101 rfl (by decide) rfl ?_
  refine V_sub (lv' := [(0, .ref b), (1, .ref (K.2.2 0)), (2, .int z10), (3, .int 0)]) [1, 2, 3, 0] rfl ?_
  refine L_L_law_102_ok hc hcs hX hbl hbA  _ (fun z17 z18 t19 => ?_) FU _ _ _
  refine V_iload_n hc dL_law_158 rfl 2 rfl ?_
  refine V_if_eq (tgt := 180) hc dL_law_159 (by decide) ?_ ?_
  · refine V_iconst (v := 0) hc dL_law_180 (by decide) ?_
    refine V_istore_n (lv' := [(2, .int 0), (0, .ref b), (1, .ref (K.2.2 0)), (3, .int z18)]) hc dL_law_181 rfl (by decide) rfl ?_
    refine V_iconst (v := 0) hc dL_law_182 (by decide) ?_
    refine V_istore_n (lv' := [(3, .int 0), (2, .int 0), (0, .ref b), (1, .ref (K.2.2 0))]) hc dL_law_183 rfl (by decide) rfl ?_
    refine V_sub (lv' := [(0, .ref b), (1, .ref (K.2.2 0)), (2, .int 0), (3, .int 0)]) [2, 3, 1, 0] rfl ?_
    refine L_L_law_184_ok hc hcs hX hbl hbA  _ (fun z23 z24 t25 => ?_) FU _ _ _
    refine V_iconst (v := 0) hc dL_law_232 (by decide) ?_
    refine V_istore_n (lv' := [(3, .int 0), (0, .ref b), (1, .ref (K.2.2 0)), (2, .int z23)]) hc dL_law_233 rfl (by decide) rfl ?_
    refine V_sub (lv' := [(0, .ref b), (1, .ref (K.2.2 0)), (2, .int z23), (3, .int 0)]) [1, 2, 3, 0] rfl ?_
    refine L_L_law_234_ok hc hcs hX hbl hbA t25 _ (fun z29 z30 => ?_) FU _ _
    refine V_iload_n hc dL_law_278 rfl 2 rfl ?_
    refine V_if_eq (tgt := 309) hc dL_law_279 (by decide) ?_ ?_
    · refine V_iconst (v := 0) hc dL_law_309 (by decide) ?_
      exact V_law0 hc dL_law_310
    · refine V_aload_n hc dL_law_282 rfl 1 rfl ?_
      refine V_iconst (v := 0) hc dL_law_283 (by decide) ?_
      refine V_callV_RI (Cn := RX8) (T := TX8) (N := 8) hc (c_X8_count l K t25 (0)) sP0 rfl 1 gL_law_X8_count rfl ⟨rfl, rfl⟩ (by decide) ⟨Nat.le_of_ble_eq_true rfl, Nat.le_of_ble_eq_true rfl⟩ rfl rfl (Nat.le_of_ble_eq_true rfl) dL_law_284 (fun r31 => ?_)
      refine V_if_ne (tgt := 309) hc dL_law_287 (by decide) ?_ ?_
      · refine V_iconst (v := 0) hc dL_law_309 (by decide) ?_
        exact V_law0 hc dL_law_310
      · refine V_aload_n hc dL_law_290 rfl 1 rfl ?_
        refine V_iconst (v := 3) hc dL_law_291 (by decide) ?_
        refine V_callV_RI (Cn := RX8) (T := TX8) (N := 8) hc (c_X8_count l K t25 (3)) sP0 rfl 1 gL_law_X8_count rfl ⟨rfl, rfl⟩ (by decide) ⟨Nat.le_of_ble_eq_true rfl, Nat.le_of_ble_eq_true rfl⟩ rfl rfl (Nat.le_of_ble_eq_true rfl) dL_law_292 (fun r32 => ?_)
        refine V_if_ne (tgt := 309) hc dL_law_295 (by decide) ?_ ?_
        · refine V_iconst (v := 0) hc dL_law_309 (by decide) ?_
          exact V_law0 hc dL_law_310
        · refine V_aload_n hc dL_law_298 rfl 1 rfl ?_
          refine V_callV_RI (Cn := RX8) (T := TX8) (N := 8) hc (c_X8_fileCount l K t25 ) sP0 rfl 0 gL_law_X8_fileCount rfl ⟨rfl, rfl⟩ (by decide) ⟨Nat.le_of_ble_eq_true rfl, Nat.le_of_ble_eq_true rfl⟩ rfl rfl (Nat.le_of_ble_eq_true rfl) dL_law_299 (fun r33 => ?_)
          refine V_if_ne (tgt := 309) hc dL_law_302 (by decide) ?_ ?_
          · refine V_iconst (v := 0) hc dL_law_309 (by decide) ?_
            exact V_law0 hc dL_law_310
          · refine V_iconst (v := 1) hc dL_law_305 (by decide) ?_
            refine V_goto (tgt := 310) hc dL_law_306 (by decide) ?_
            exact V_law1 hc hcs dL_law_310
  · refine V_aload_n hc dL_law_162 rfl 1 rfl ?_
    refine V_callS_RI hc (c_L_groups l K t19 ) 1 gL_law_L_groups rfl ⟨rfl, rfl⟩ (by decide) ⟨Nat.le_of_ble_eq_true rfl, Nat.le_of_ble_eq_true rfl⟩ rfl rfl (Nat.le_of_ble_eq_true rfl) dL_law_163 (fun r34 => ?_)
    refine V_if_eq (tgt := 180) hc dL_law_166 (by decide) ?_ ?_
    · refine V_iconst (v := 0) hc dL_law_180 (by decide) ?_
      refine V_istore_n (lv' := [(2, .int 0), (0, .ref b), (1, .ref (K.2.2 0)), (3, .int z18)]) hc dL_law_181 rfl (by decide) rfl ?_
      refine V_iconst (v := 0) hc dL_law_182 (by decide) ?_
      refine V_istore_n (lv' := [(3, .int 0), (2, .int 0), (0, .ref b), (1, .ref (K.2.2 0))]) hc dL_law_183 rfl (by decide) rfl ?_
      refine V_sub (lv' := [(0, .ref b), (1, .ref (K.2.2 0)), (2, .int 0), (3, .int 0)]) [2, 3, 1, 0] rfl ?_
      refine L_L_law_184_ok hc hcs hX hbl hbA  _ (fun z35 z36 t37 => ?_) FU _ _ _
      refine V_iconst (v := 0) hc dL_law_232 (by decide) ?_
      refine V_istore_n (lv' := [(3, .int 0), (0, .ref b), (1, .ref (K.2.2 0)), (2, .int z35)]) hc dL_law_233 rfl (by decide) rfl ?_
      refine V_sub (lv' := [(0, .ref b), (1, .ref (K.2.2 0)), (2, .int z35), (3, .int 0)]) [1, 2, 3, 0] rfl ?_
      refine L_L_law_234_ok hc hcs hX hbl hbA t37 _ (fun z38 z39 => ?_) FU _ _
      refine V_iload_n hc dL_law_278 rfl 2 rfl ?_
      refine V_if_eq (tgt := 309) hc dL_law_279 (by decide) ?_ ?_
      · refine V_iconst (v := 0) hc dL_law_309 (by decide) ?_
        exact V_law0 hc dL_law_310
      · refine V_aload_n hc dL_law_282 rfl 1 rfl ?_
        refine V_iconst (v := 0) hc dL_law_283 (by decide) ?_
        refine V_callV_RI (Cn := RX8) (T := TX8) (N := 8) hc (c_X8_count l K t37 (0)) sP0 rfl 1 gL_law_X8_count rfl ⟨rfl, rfl⟩ (by decide) ⟨Nat.le_of_ble_eq_true rfl, Nat.le_of_ble_eq_true rfl⟩ rfl rfl (Nat.le_of_ble_eq_true rfl) dL_law_284 (fun r40 => ?_)
        refine V_if_ne (tgt := 309) hc dL_law_287 (by decide) ?_ ?_
        · refine V_iconst (v := 0) hc dL_law_309 (by decide) ?_
          exact V_law0 hc dL_law_310
        · refine V_aload_n hc dL_law_290 rfl 1 rfl ?_
          refine V_iconst (v := 3) hc dL_law_291 (by decide) ?_
          refine V_callV_RI (Cn := RX8) (T := TX8) (N := 8) hc (c_X8_count l K t37 (3)) sP0 rfl 1 gL_law_X8_count rfl ⟨rfl, rfl⟩ (by decide) ⟨Nat.le_of_ble_eq_true rfl, Nat.le_of_ble_eq_true rfl⟩ rfl rfl (Nat.le_of_ble_eq_true rfl) dL_law_292 (fun r41 => ?_)
          refine V_if_ne (tgt := 309) hc dL_law_295 (by decide) ?_ ?_
          · refine V_iconst (v := 0) hc dL_law_309 (by decide) ?_
            exact V_law0 hc dL_law_310
          · refine V_aload_n hc dL_law_298 rfl 1 rfl ?_
            refine V_callV_RI (Cn := RX8) (T := TX8) (N := 8) hc (c_X8_fileCount l K t37 ) sP0 rfl 0 gL_law_X8_fileCount rfl ⟨rfl, rfl⟩ (by decide) ⟨Nat.le_of_ble_eq_true rfl, Nat.le_of_ble_eq_true rfl⟩ rfl rfl (Nat.le_of_ble_eq_true rfl) dL_law_299 (fun r42 => ?_)
            refine V_if_ne (tgt := 309) hc dL_law_302 (by decide) ?_ ?_
            · refine V_iconst (v := 0) hc dL_law_309 (by decide) ?_
              exact V_law0 hc dL_law_310
            · refine V_iconst (v := 1) hc dL_law_305 (by decide) ?_
              refine V_goto (tgt := 310) hc dL_law_306 (by decide) ?_
              exact V_law1 hc hcs dL_law_310
    · refine V_aload_n hc dL_law_169 rfl 1 rfl ?_
      refine V_callS_WI hc (c_L_albums l K t19 ) 1 gL_law_L_albums rfl ⟨rfl, rfl⟩ (by decide) ⟨Nat.le_of_ble_eq_true rfl, Nat.le_of_ble_eq_true rfl⟩ rfl rfl (Nat.le_of_ble_eq_true rfl) dL_law_170 (fun r43 => ?_)
      refine V_if_eq (tgt := 180) hc dL_law_173 (by decide) ?_ ?_
      · refine V_iconst (v := 0) hc dL_law_180 (by decide) ?_
        refine V_istore_n (lv' := [(2, .int 0), (0, .ref b), (1, .ref (K.2.2 0)), (3, .int z18)]) hc dL_law_181 rfl (by decide) rfl ?_
        refine V_iconst (v := 0) hc dL_law_182 (by decide) ?_
        refine V_istore_n (lv' := [(3, .int 0), (2, .int 0), (0, .ref b), (1, .ref (K.2.2 0))]) hc dL_law_183 rfl (by decide) rfl ?_
        refine V_sub (lv' := [(0, .ref b), (1, .ref (K.2.2 0)), (2, .int 0), (3, .int 0)]) [2, 3, 1, 0] rfl ?_
        refine L_L_law_184_ok hc hcs hX hbl hbA  _ (fun z44 z45 t46 => ?_) FU _ _ _
        refine V_iconst (v := 0) hc dL_law_232 (by decide) ?_
        refine V_istore_n (lv' := [(3, .int 0), (0, .ref b), (1, .ref (K.2.2 0)), (2, .int z44)]) hc dL_law_233 rfl (by decide) rfl ?_
        refine V_sub (lv' := [(0, .ref b), (1, .ref (K.2.2 0)), (2, .int z44), (3, .int 0)]) [1, 2, 3, 0] rfl ?_
        refine L_L_law_234_ok hc hcs hX hbl hbA t46 _ (fun z47 z48 => ?_) FU _ _
        refine V_iload_n hc dL_law_278 rfl 2 rfl ?_
        refine V_if_eq (tgt := 309) hc dL_law_279 (by decide) ?_ ?_
        · refine V_iconst (v := 0) hc dL_law_309 (by decide) ?_
          exact V_law0 hc dL_law_310
        · refine V_aload_n hc dL_law_282 rfl 1 rfl ?_
          refine V_iconst (v := 0) hc dL_law_283 (by decide) ?_
          refine V_callV_RI (Cn := RX8) (T := TX8) (N := 8) hc (c_X8_count l K t46 (0)) sP0 rfl 1 gL_law_X8_count rfl ⟨rfl, rfl⟩ (by decide) ⟨Nat.le_of_ble_eq_true rfl, Nat.le_of_ble_eq_true rfl⟩ rfl rfl (Nat.le_of_ble_eq_true rfl) dL_law_284 (fun r49 => ?_)
          refine V_if_ne (tgt := 309) hc dL_law_287 (by decide) ?_ ?_
          · refine V_iconst (v := 0) hc dL_law_309 (by decide) ?_
            exact V_law0 hc dL_law_310
          · refine V_aload_n hc dL_law_290 rfl 1 rfl ?_
            refine V_iconst (v := 3) hc dL_law_291 (by decide) ?_
            refine V_callV_RI (Cn := RX8) (T := TX8) (N := 8) hc (c_X8_count l K t46 (3)) sP0 rfl 1 gL_law_X8_count rfl ⟨rfl, rfl⟩ (by decide) ⟨Nat.le_of_ble_eq_true rfl, Nat.le_of_ble_eq_true rfl⟩ rfl rfl (Nat.le_of_ble_eq_true rfl) dL_law_292 (fun r50 => ?_)
            refine V_if_ne (tgt := 309) hc dL_law_295 (by decide) ?_ ?_
            · refine V_iconst (v := 0) hc dL_law_309 (by decide) ?_
              exact V_law0 hc dL_law_310
            · refine V_aload_n hc dL_law_298 rfl 1 rfl ?_
              refine V_callV_RI (Cn := RX8) (T := TX8) (N := 8) hc (c_X8_fileCount l K t46 ) sP0 rfl 0 gL_law_X8_fileCount rfl ⟨rfl, rfl⟩ (by decide) ⟨Nat.le_of_ble_eq_true rfl, Nat.le_of_ble_eq_true rfl⟩ rfl rfl (Nat.le_of_ble_eq_true rfl) dL_law_299 (fun r51 => ?_)
              refine V_if_ne (tgt := 309) hc dL_law_302 (by decide) ?_ ?_
              · refine V_iconst (v := 0) hc dL_law_309 (by decide) ?_
                exact V_law0 hc dL_law_310
              · refine V_iconst (v := 1) hc dL_law_305 (by decide) ?_
                refine V_goto (tgt := 310) hc dL_law_306 (by decide) ?_
                exact V_law1 hc hcs dL_law_310
      · refine V_iconst (v := 1) hc dL_law_176 (by decide) ?_
        refine V_goto (tgt := 181) hc dL_law_177 (by decide) ?_
        refine V_istore_n (lv' := [(2, .int 1), (0, .ref b), (1, .ref (K.2.2 0)), (3, .int z18)]) hc dL_law_181 rfl (by decide) rfl ?_
        refine V_iconst (v := 0) hc dL_law_182 (by decide) ?_
        refine V_istore_n (lv' := [(3, .int 0), (2, .int 1), (0, .ref b), (1, .ref (K.2.2 0))]) hc dL_law_183 rfl (by decide) rfl ?_
        refine V_sub (lv' := [(0, .ref b), (1, .ref (K.2.2 0)), (2, .int 1), (3, .int 0)]) [2, 3, 1, 0] rfl ?_
        refine L_L_law_184_ok hc hcs hX hbl hbA  _ (fun z52 z53 t54 => ?_) FU _ _ _
        refine V_iconst (v := 0) hc dL_law_232 (by decide) ?_
        refine V_istore_n (lv' := [(3, .int 0), (0, .ref b), (1, .ref (K.2.2 0)), (2, .int z52)]) hc dL_law_233 rfl (by decide) rfl ?_
        refine V_sub (lv' := [(0, .ref b), (1, .ref (K.2.2 0)), (2, .int z52), (3, .int 0)]) [1, 2, 3, 0] rfl ?_
        refine L_L_law_234_ok hc hcs hX hbl hbA t54 _ (fun z55 z56 => ?_) FU _ _
        refine V_iload_n hc dL_law_278 rfl 2 rfl ?_
        refine V_if_eq (tgt := 309) hc dL_law_279 (by decide) ?_ ?_
        · refine V_iconst (v := 0) hc dL_law_309 (by decide) ?_
          exact V_law0 hc dL_law_310
        · refine V_aload_n hc dL_law_282 rfl 1 rfl ?_
          refine V_iconst (v := 0) hc dL_law_283 (by decide) ?_
          refine V_callV_RI (Cn := RX8) (T := TX8) (N := 8) hc (c_X8_count l K t54 (0)) sP0 rfl 1 gL_law_X8_count rfl ⟨rfl, rfl⟩ (by decide) ⟨Nat.le_of_ble_eq_true rfl, Nat.le_of_ble_eq_true rfl⟩ rfl rfl (Nat.le_of_ble_eq_true rfl) dL_law_284 (fun r57 => ?_)
          refine V_if_ne (tgt := 309) hc dL_law_287 (by decide) ?_ ?_
          · refine V_iconst (v := 0) hc dL_law_309 (by decide) ?_
            exact V_law0 hc dL_law_310
          · refine V_aload_n hc dL_law_290 rfl 1 rfl ?_
            refine V_iconst (v := 3) hc dL_law_291 (by decide) ?_
            refine V_callV_RI (Cn := RX8) (T := TX8) (N := 8) hc (c_X8_count l K t54 (3)) sP0 rfl 1 gL_law_X8_count rfl ⟨rfl, rfl⟩ (by decide) ⟨Nat.le_of_ble_eq_true rfl, Nat.le_of_ble_eq_true rfl⟩ rfl rfl (Nat.le_of_ble_eq_true rfl) dL_law_292 (fun r58 => ?_)
            refine V_if_ne (tgt := 309) hc dL_law_295 (by decide) ?_ ?_
            · refine V_iconst (v := 0) hc dL_law_309 (by decide) ?_
              exact V_law0 hc dL_law_310
            · refine V_aload_n hc dL_law_298 rfl 1 rfl ?_
              refine V_callV_RI (Cn := RX8) (T := TX8) (N := 8) hc (c_X8_fileCount l K t54 ) sP0 rfl 0 gL_law_X8_fileCount rfl ⟨rfl, rfl⟩ (by decide) ⟨Nat.le_of_ble_eq_true rfl, Nat.le_of_ble_eq_true rfl⟩ rfl rfl (Nat.le_of_ble_eq_true rfl) dL_law_299 (fun r59 => ?_)
              refine V_if_ne (tgt := 309) hc dL_law_302 (by decide) ?_ ?_
              · refine V_iconst (v := 0) hc dL_law_309 (by decide) ?_
                exact V_law0 hc dL_law_310
              · refine V_iconst (v := 1) hc dL_law_305 (by decide) ?_
                refine V_goto (tgt := 310) hc dL_law_306 (by decide) ?_
                exact V_law1 hc hcs dL_law_310
