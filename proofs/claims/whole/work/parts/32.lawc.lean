/-! THE CLAIM OUT OF ONE WALK OF THE LAW'S BODY. Your part is whole_start (and what it stands on); all else here is the same for every law, but numbers. -/
def R_law : String := "MediaCatalogLaw"
def lw_P (b : Addr) (xs : List Int32) (args : Array Value) (s : State) : Prop := args = #[.ref b] ∧ s.IntsAt b xs ∧ xs.length ≤ 2560 ∧ (Jvm.Cond.and given_1 narrow_1).before args s = true
def lw_Q (_ : Array Value) (s : State) (o : Outcome) (t : State) : Prop := o = .returned (some (.int 1)) ∧ Framed s o t [] 600000 7302250
def lw_Z (below : List Frame) (a : Array Value) (s : State) : State → Prop := fun t => ∃ o, t.status = .running ∧ Ended t below o ∧ lw_Q a s o t
/-- the law's own end, with 1 on the stack, nothing written that was there before, its room as the claim has it -/
theorem lw_ret {p : Program} {l : Launch} {e : Env} {s : State} {m : MethodId} {below : List Frame} {meth : Method} {c : Code} {b : Nat} (hx : p.tables.exec = Jvm.exec) (hb : c.code = code) (hr : meth.sig.returnType = ret) (hlocks : meth.locks = false) {pc : Nat} {H : Heap} {ls : Array Slot} (hdg : decode code pc = .ok (.ireturn, 1)) : W p l e room_1 s m #[Value.ref b] below meth c H [] 600000 7302250 (lw_Z below #[Value.ref b] s) (F0 m pc ls [.int 1]) := by
  intro T hT X
  obtain ⟨fs, hret, hrun, hended, hW, hframe⟩ := X.leave (v := some (.int 1)) (hlocks := hlocks) (fun h => by rw [hr] at h; cases h)
  have hmeth' : T.vm.method? m = some meth := X.method'
  refine ⟨T.setFrames fs, ?_, .returned (some (.int 1)), hrun, hended, rfl, ⟨_, rfl⟩, hW, hframe⟩
  jvm_step X.here [X.here.top, hx, hb, hdg, hmeth', hr, ret, narrow_b1]
  (try refine ⟨rfl, ?_⟩); (try refine ⟨rfl, ?_⟩)
  first | (intro acts; rw [hret _ acts rfl rfl rfl]) | rw [hret _ _ rfl rfl rfl]
  exact Steps.refl _
/-- what holds at the law's entry: the machine, the code, the tables' words (any of lw_tbl by 'hts w (by decide +kernel)'), the script of L ints xs at the cell b, what the Statement gives of the start (any of its parts by flat_of_before) -/
def lw_At (p : Program) (s : State) (m : MethodId) (meth : Method) (c : Code) (b L : Nat) (xs : Nat → Int32) : Prop :=
  p.tables.exec = Jvm.exec ∧ c.code = code ∧ meth.sig.returnType = ret ∧ c.maxLocals = 4 ∧ s.vm.findClass R_law = some m.cls ∧ (∀ w ∈ lw_tbl, w.before #[Value.ref b] s = true) ∧ va_X b L xs s s.heap ∧ b < s.heap.size ∧ meth.locks = false ∧ (Jvm.Cond.and given_1 narrow_1).before #[Value.ref b] s = true
/-! ===== the law's own rows ===== -/
def QL (below : List Frame) (b : Addr) (s : State) (r : Int32) : State → Prop := fun tt => r = 1 → lw_Z below #[Value.ref b] s tt
section LW
variable {p : Program} {l : Launch} {K : Kx} {e : Env} {s : State} {m : MethodId} {below : List Frame} {meth : Method} {c : Code} {cells slots : Nat} {b L : Nat} {xs : Nat → Int32} {pc : Nat} {lv : List (Nat × Value)} {st : List Value} {t : Sx} {k : Option Int32}
theorem V_sld {i : Int32} (hc : Cx p room_1 s m #[Value.ref b] meth c cL_law 4 lw_tbl RL K (fun q : Nat => s.heap.size ≤ q) ret cells slots) (hX : va_X b L xs s s.heap) (hbl : b < s.heap.size) (hbA : ¬ s.heap.size ≤ b) (hdg : decode cL_law pc = .ok (.iaload, 1))
    (h : V p l e room_1 s m #[Value.ref b] below meth c K (fun q : Nat => s.heap.size ≤ q) cells slots 4 (QL below b s) (pc + 1) lv (.int (xs (ix i)) :: st) t k) : V p l e room_1 s m #[Value.ref b] below meth c K (fun q : Nat => s.heap.size ≤ q) cells slots 4 (QL below b s) pc lv (.int i :: .ref b :: st) t (gd (vp_in i L) k) := fun r hr ls H locs hl hP hD hS =>
  va_sld hc.1 hc.2.1 hX hbl hbA hS (gd_some hr).1 hdg (h r (gd_some hr).2 ls H locs hl hP hD hS)
theorem V_slen (hc : Cx p room_1 s m #[Value.ref b] meth c cL_law 4 lw_tbl RL K (fun q : Nat => s.heap.size ≤ q) ret cells slots) (hX : va_X b L xs s s.heap) (hbl : b < s.heap.size) (hbA : ¬ s.heap.size ≤ b) (hdg : decode cL_law pc = .ok (.arraylength, 1))
    (h : V p l e room_1 s m #[Value.ref b] below meth c K (fun q : Nat => s.heap.size ≤ q) cells slots 4 (QL below b s) (pc + 1) lv (.int (Int32.ofNat L) :: st) t k) : V p l e room_1 s m #[Value.ref b] below meth c K (fun q : Nat => s.heap.size ≤ q) cells slots 4 (QL below b s) pc lv (.ref b :: st) t k := fun r hr ls H locs hl hP hD hS =>
  va_slen hc.1 hc.2.1 hX hbl hbA hS hdg (h r hr ls H locs hl hP hD hS)
theorem V_law0 (hc : Cx p room_1 s m #[Value.ref b] meth c cL_law 4 lw_tbl RL K (fun q : Nat => s.heap.size ≤ q) ret cells slots) (hdg : decode cL_law pc = .ok (.ireturn, 1)) : V p l e room_1 s m #[Value.ref b] below meth c K (fun q : Nat => s.heap.size ≤ q) cells slots 4 (QL below b s) pc lv [.int 0] t (some 0) := by
  intro r hr ls H locs hl hP hD hS
  cases hr
  intro T hT X
  exact ⟨_, Steps.refl _, fun q => absurd q (by decide)⟩
theorem V_law1 (hc : Cx p room_1 s m #[Value.ref b] meth c cL_law 4 lw_tbl RL K (fun q : Nat => s.heap.size ≤ q) ret cells slots) (hcs : cells ≤ 600000 ∧ slots ≤ 7302250) (hdg : decode cL_law pc = .ok (.ireturn, 1)) : V p l e room_1 s m #[Value.ref b] below meth c K (fun q : Nat => s.heap.size ≤ q) cells slots 4 (QL below b s) pc lv [.int 1] t (some 1) := by
  intro r hr ls H locs hl hP hD hS
  cases hr
  refine va_forget (fun q hq => hS.2.2 q hq) ?_
  refine W.widen hcs.1 hcs.2 ?_
  intro T hT X
  obtain ⟨tt, h1, h2⟩ := lw_ret (l := l) (e := e) (below := below) (s := s) (b := b) hc.1 hc.2.1 hc.retT hc.locks hdg T hT X
  exact ⟨tt, h1, fun _ => h2⟩
end LW

noncomputable def L_law (xs : Nat → Int32) (L : Nat) : Nat → Int32 → Sx → Option Int32
  | 0, _, _ => none
  | n + 1, x3, y => if ((Int32.ofNat L) - 5) < x3 then some 1 else gd (vp_in x3 L) (bd ((xs (ix x3)) &&& 63) fun v1 => if v1 = 0 then gd (vp_in (x3 + 1) L) (gd (vp_in (x3 + 2) L) ((f_X8_add y (xs (ix (x3 + 1))) (xs (ix (x3 + 2)))).bind fun r3 => gd (vp_in (x3 + 1) L) (gd (vp_in (x3 + 2) L) ((f_X9_add r3.2 (xs (ix (x3 + 1))) (xs (ix (x3 + 2)))).bind fun r4 => if r3.1 = r4.1 then L_law xs L n ((x3 + 5)) (r4.2) else some 0)))) else if v1 = 1 then gd (vp_in (x3 + 1) L) ((f_X8_remove y (xs (ix (x3 + 1)))).bind fun r6 => gd (vp_in (x3 + 1) L) ((f_X9_remove r6.2 (xs (ix (x3 + 1)))).bind fun r7 => if r6.1 = r7.1 then L_law xs L n ((x3 + 5)) (r7.2) else some 0)) else if v1 = 2 then (f_X8_fileCount y ).bind fun r9 => (f_X9_fileCount y ).bind fun r10 => if r9 = r10 then L_law xs L n ((x3 + 5)) (y) else some 0 else if v1 = 3 then gd (vp_in (x3 + 1) L) (gd (vp_in (x3 + 2) L) ((f_X8_setDigest y (xs (ix (x3 + 1))) (xs (ix (x3 + 2)))).bind fun r12 => gd (vp_in (x3 + 1) L) (gd (vp_in (x3 + 2) L) ((f_X9_setDigest r12.2 (xs (ix (x3 + 1))) (xs (ix (x3 + 2)))).bind fun r13 => if r12.1 = r13.1 then L_law xs L n ((x3 + 5)) (r13.2) else some 0)))) else if v1 = 4 then gd (vp_in (x3 + 1) L) (gd (vp_in (x3 + 2) L) (gd (vp_in (x3 + 3) L) (gd (vp_in (x3 + 4) L) ((f_X8_setValue y (xs (ix (x3 + 1))) (xs (ix (x3 + 2))) (xs (ix (x3 + 3))) (xs (ix (x3 + 4)))).bind fun r15 => gd (vp_in (x3 + 1) L) (gd (vp_in (x3 + 2) L) (gd (vp_in (x3 + 3) L) (gd (vp_in (x3 + 4) L) ((f_X9_setValue r15.2 (xs (ix (x3 + 1))) (xs (ix (x3 + 2))) (xs (ix (x3 + 3))) (xs (ix (x3 + 4)))).bind fun r16 => if r15.1 = r16.1 then L_law xs L n ((x3 + 5)) (r16.2) else some 0)))))))) else if v1 = 5 then gd (vp_in (x3 + 1) L) (gd (vp_in (x3 + 2) L) (gd (vp_in (x3 + 3) L) ((f_X8_clearValue y (xs (ix (x3 + 1))) (xs (ix (x3 + 2))) (xs (ix (x3 + 3)))).bind fun r18 => gd (vp_in (x3 + 1) L) (gd (vp_in (x3 + 2) L) (gd (vp_in (x3 + 3) L) ((f_X9_clearValue r18.2 (xs (ix (x3 + 1))) (xs (ix (x3 + 2))) (xs (ix (x3 + 3)))).bind fun r19 => if r18.1 = r19.1 then L_law xs L n ((x3 + 5)) (r19.2) else some 0)))))) else if v1 = 6 then gd (vp_in (x3 + 1) L) (gd (vp_in (x3 + 2) L) ((f_X8_value y (xs (ix (x3 + 1))) (xs (ix (x3 + 2)))).bind fun r21 => gd (vp_in (x3 + 1) L) (gd (vp_in (x3 + 2) L) ((f_X9_value y (xs (ix (x3 + 1))) (xs (ix (x3 + 2)))).bind fun r22 => if r21 = r22 then L_law xs L n ((x3 + 5)) (y) else some 0)))) else if v1 = 7 then gd (vp_in (x3 + 1) L) (gd (vp_in (x3 + 2) L) ((f_X8_sourceOf y (xs (ix (x3 + 1))) (xs (ix (x3 + 2)))).bind fun r24 => gd (vp_in (x3 + 1) L) (gd (vp_in (x3 + 2) L) ((f_X9_sourceOf y (xs (ix (x3 + 1))) (xs (ix (x3 + 2)))).bind fun r25 => if r24 = r25 then L_law xs L n ((x3 + 5)) (y) else some 0)))) else if v1 = 8 then gd (vp_in (x3 + 1) L) (gd (vp_in (x3 + 2) L) (gd (vp_in (x3 + 3) L) ((f_X8_setOrder y (xs (ix (x3 + 1))) (xs (ix (x3 + 2))) (xs (ix (x3 + 3)))).bind fun r27 => gd (vp_in (x3 + 1) L) (gd (vp_in (x3 + 2) L) (gd (vp_in (x3 + 3) L) ((f_X9_setOrder r27.2 (xs (ix (x3 + 1))) (xs (ix (x3 + 2))) (xs (ix (x3 + 3)))).bind fun r28 => if r27.1 = r28.1 then L_law xs L n ((x3 + 5)) (r28.2) else some 0)))))) else if v1 = 9 then gd (vp_in (x3 + 1) L) ((f_X8_keeperOf y (xs (ix (x3 + 1)))).bind fun r30 => gd (vp_in (x3 + 1) L) ((f_X9_keeperOf y (xs (ix (x3 + 1)))).bind fun r31 => if r30 = r31 then L_law xs L n ((x3 + 5)) (y) else some 0)) else if v1 = 10 then gd (vp_in (x3 + 1) L) ((f_X8_groupSize y (xs (ix (x3 + 1)))).bind fun r33 => gd (vp_in (x3 + 1) L) ((f_X9_groupSize y (xs (ix (x3 + 1)))).bind fun r34 => if r33 = r34 then L_law xs L n ((x3 + 5)) (y) else some 0)) else if v1 = 11 then (f_X8_wasted y ).bind fun r36 => (f_X9_wasted y ).bind fun r37 => if r36 = r37 then L_law xs L n ((x3 + 5)) (y) else some 0 else if v1 = 12 then gd (vp_in (x3 + 1) L) ((f_X8_merge y (xs (ix (x3 + 1)))).bind fun r39 => gd (vp_in (x3 + 1) L) ((f_X9_merge r39.2 (xs (ix (x3 + 1)))).bind fun r40 => if r39.1 = r40.1 then L_law xs L n ((x3 + 5)) (r40.2) else some 0)) else if v1 = 13 then gd (vp_in (x3 + 1) L) (gd (vp_in (x3 + 2) L) ((f_X8_stack y (xs (ix (x3 + 1))) (xs (ix (x3 + 2)))).bind fun r42 => gd (vp_in (x3 + 1) L) (gd (vp_in (x3 + 2) L) ((f_X9_stack r42.2 (xs (ix (x3 + 1))) (xs (ix (x3 + 2)))).bind fun r43 => if r42.1 = r43.1 then L_law xs L n ((x3 + 5)) (r43.2) else some 0)))) else if v1 = 14 then gd (vp_in (x3 + 1) L) (gd (vp_in (x3 + 2) L) (gd (vp_in (x3 + 3) L) ((f_X8_putInto y (xs (ix (x3 + 1))) (xs (ix (x3 + 2))) (xs (ix (x3 + 3)))).bind fun r45 => gd (vp_in (x3 + 1) L) (gd (vp_in (x3 + 2) L) (gd (vp_in (x3 + 3) L) ((f_X9_putInto r45.2 (xs (ix (x3 + 1))) (xs (ix (x3 + 2))) (xs (ix (x3 + 3)))).bind fun r46 => if r45.1 = r46.1 then L_law xs L n ((x3 + 5)) (r46.2) else some 0)))))) else if v1 = 15 then gd (vp_in (x3 + 1) L) ((f_X8_takeOut y (xs (ix (x3 + 1)))).bind fun r48 => gd (vp_in (x3 + 1) L) ((f_X9_takeOut r48.2 (xs (ix (x3 + 1)))).bind fun r49 => if r48.1 = r49.1 then L_law xs L n ((x3 + 5)) (r49.2) else some 0)) else if v1 = 16 then gd (vp_in (x3 + 1) L) (gd (vp_in (x3 + 2) L) ((f_X8_chooseCover y (xs (ix (x3 + 1))) (xs (ix (x3 + 2)))).bind fun r51 => gd (vp_in (x3 + 1) L) (gd (vp_in (x3 + 2) L) ((f_X9_chooseCover r51.2 (xs (ix (x3 + 1))) (xs (ix (x3 + 2)))).bind fun r52 => if r51.1 = r52.1 then L_law xs L n ((x3 + 5)) (r52.2) else some 0)))) else if v1 = 17 then gd (vp_in (x3 + 1) L) (gd (vp_in (x3 + 2) L) ((f_X8_collapse y (xs (ix (x3 + 1))) (xs (ix (x3 + 2)))).bind fun r54 => gd (vp_in (x3 + 1) L) (gd (vp_in (x3 + 2) L) ((f_X9_collapse r54.2 (xs (ix (x3 + 1))) (xs (ix (x3 + 2)))).bind fun r55 => if r54.1 = r55.1 then L_law xs L n ((x3 + 5)) (r55.2) else some 0)))) else if v1 = 18 then gd (vp_in (x3 + 1) L) ((f_X8_stackOf y (xs (ix (x3 + 1)))).bind fun r57 => gd (vp_in (x3 + 1) L) ((f_X9_stackOf y (xs (ix (x3 + 1)))).bind fun r58 => if r57 = r58 then L_law xs L n ((x3 + 5)) (y) else some 0)) else if v1 = 19 then gd (vp_in (x3 + 1) L) ((f_X8_coverOf y (xs (ix (x3 + 1)))).bind fun r60 => gd (vp_in (x3 + 1) L) ((f_X9_coverOf y (xs (ix (x3 + 1)))).bind fun r61 => if r60 = r61 then L_law xs L n ((x3 + 5)) (y) else some 0)) else if v1 = 20 then gd (vp_in (x3 + 1) L) (gd (vp_in (x3 + 2) L) ((f_X8_stackAt y (xs (ix (x3 + 1))) (xs (ix (x3 + 2)))).bind fun r63 => gd (vp_in (x3 + 1) L) (gd (vp_in (x3 + 2) L) ((f_X9_stackAt y (xs (ix (x3 + 1))) (xs (ix (x3 + 2)))).bind fun r64 => if r63 = r64 then L_law xs L n ((x3 + 5)) (y) else some 0)))) else if v1 = 21 then gd (vp_in (x3 + 1) L) ((f_X8_type y (xs (ix (x3 + 1)))).bind fun r66 => gd (vp_in (x3 + 1) L) ((f_X9_type r66.2 (xs (ix (x3 + 1)))).bind fun r67 => if r66.1 = r67.1 then L_law xs L n ((x3 + 5)) (r67.2) else some 0)) else if v1 = 22 then (f_X8_clearRule y ).bind fun r69 => (f_X9_clearRule r69.2 ).bind fun r70 => if r69.1 = r70.1 then L_law xs L n ((x3 + 5)) (r70.2) else some 0 else if v1 = 23 then (f_X8_fault y ).bind fun r72 => (f_X9_fault y ).bind fun r73 => if r72 = r73 then L_law xs L n ((x3 + 5)) (y) else some 0 else if v1 = 24 then gd (vp_in (x3 + 1) L) ((f_X8_satisfies y (xs (ix (x3 + 1)))).bind fun r75 => gd (vp_in (x3 + 1) L) ((f_X9_satisfies r75.2 (xs (ix (x3 + 1)))).bind fun r76 => if r75.1 = r76.1 then L_law xs L n ((x3 + 5)) (r76.2) else some 0)) else if v1 = 25 then (f_X8_select y ).bind fun r78 => (f_X9_select r78.2 ).bind fun r79 => if r78.1 = r79.1 then L_law xs L n ((x3 + 5)) (r79.2) else some 0 else if v1 = 26 then (f_X8_makeAlbum y ).bind fun r81 => (f_X9_makeAlbum r81.2 ).bind fun r82 => if r81.1 = r82.1 then L_law xs L n ((x3 + 5)) (r82.2) else some 0 else if v1 = 27 then gd (vp_in (x3 + 1) L) ((f_X8_removeAlbum y (xs (ix (x3 + 1)))).bind fun r84 => gd (vp_in (x3 + 1) L) ((f_X9_removeAlbum r84.2 (xs (ix (x3 + 1)))).bind fun r85 => if r84.1 = r85.1 then L_law xs L n ((x3 + 5)) (r85.2) else some 0)) else if v1 = 28 then gd (vp_in (x3 + 1) L) ((f_X8_changeRule y (xs (ix (x3 + 1)))).bind fun r87 => gd (vp_in (x3 + 1) L) ((f_X9_changeRule r87.2 (xs (ix (x3 + 1)))).bind fun r88 => if r87.1 = r88.1 then L_law xs L n ((x3 + 5)) (r88.2) else some 0)) else if v1 = 29 then gd (vp_in (x3 + 1) L) ((f_X8_albumSize y (xs (ix (x3 + 1)))).bind fun r90 => gd (vp_in (x3 + 1) L) ((f_X9_albumSize y (xs (ix (x3 + 1)))).bind fun r91 => if r90 = r91 then L_law xs L n ((x3 + 5)) (y) else some 0)) else if v1 = 30 then gd (vp_in (x3 + 1) L) (gd (vp_in (x3 + 2) L) ((f_X8_isIn y (xs (ix (x3 + 1))) (xs (ix (x3 + 2)))).bind fun r93 => gd (vp_in (x3 + 1) L) (gd (vp_in (x3 + 2) L) ((f_X9_isIn y (xs (ix (x3 + 1))) (xs (ix (x3 + 2)))).bind fun r94 => if r93 = r94 then L_law xs L n ((x3 + 5)) (y) else some 0)))) else if v1 = 31 then gd (vp_in (x3 + 1) L) (gd (vp_in (x3 + 2) L) (gd (vp_in (x3 + 3) L) ((f_X8_sortBy y (xs (ix (x3 + 1))) (xs (ix (x3 + 2))) (xs (ix (x3 + 3)))).bind fun r96 => gd (vp_in (x3 + 1) L) (gd (vp_in (x3 + 2) L) (gd (vp_in (x3 + 3) L) ((f_X9_sortBy r96.2 (xs (ix (x3 + 1))) (xs (ix (x3 + 2))) (xs (ix (x3 + 3)))).bind fun r97 => if r96.1 = r97.1 then L_law xs L n ((x3 + 5)) (r97.2) else some 0)))))) else if v1 = 32 then gd (vp_in (x3 + 1) L) ((f_X8_viewSize y (xs (ix (x3 + 1)))).bind fun r99 => gd (vp_in (x3 + 1) L) ((f_X9_viewSize y (xs (ix (x3 + 1)))).bind fun r100 => if r99 = r100 then L_law xs L n ((x3 + 5)) (y) else some 0)) else if v1 = 33 then gd (vp_in (x3 + 1) L) (gd (vp_in (x3 + 2) L) ((f_X8_viewAt y (xs (ix (x3 + 1))) (xs (ix (x3 + 2)))).bind fun r102 => gd (vp_in (x3 + 1) L) (gd (vp_in (x3 + 2) L) ((f_X9_viewAt y (xs (ix (x3 + 1))) (xs (ix (x3 + 2)))).bind fun r103 => if r102 = r103 then L_law xs L n ((x3 + 5)) (y) else some 0)))) else if v1 = 34 then (f_X8_journalSize y ).bind fun r105 => (f_X9_journalSize y ).bind fun r106 => if r105 = r106 then L_law xs L n ((x3 + 5)) (y) else some 0 else if v1 = 35 then gd (vp_in (x3 + 1) L) (gd (vp_in (x3 + 2) L) ((f_X8_journalAt y (xs (ix (x3 + 1))) (xs (ix (x3 + 2)))).bind fun r108 => gd (vp_in (x3 + 1) L) (gd (vp_in (x3 + 2) L) ((f_X9_journalAt y (xs (ix (x3 + 1))) (xs (ix (x3 + 2)))).bind fun r109 => if r108 = r109 then L_law xs L n ((x3 + 5)) (y) else some 0)))) else if v1 = 36 then gd (vp_in (x3 + 1) L) (gd (vp_in (x3 + 2) L) ((f_X8_turnover y (xs (ix (x3 + 1))) (xs (ix (x3 + 2)))).bind fun r111 => gd (vp_in (x3 + 1) L) (gd (vp_in (x3 + 2) L) ((f_X9_turnover y (xs (ix (x3 + 1))) (xs (ix (x3 + 2)))).bind fun r112 => if r111 = r112 then L_law xs L n ((x3 + 5)) (y) else some 0)))) else if v1 = 37 then gd (vp_in (x3 + 1) L) ((f_X8_count y (xs (ix (x3 + 1)))).bind fun r114 => gd (vp_in (x3 + 1) L) ((f_X9_count y (xs (ix (x3 + 1)))).bind fun r115 => if r114 = r115 then L_law xs L n ((x3 + 5)) (y) else some 0)) else L_law xs L n ((x3 + 5)) (y))
set_option maxRecDepth 20000 in
set_option maxHeartbeats 40000000 in
theorem L_law_ok {p : Program} {l : Launch} {K : Kx} {e : Env} {s : State} {m : MethodId} {below : List Frame} {meth : Method} {c : Code} {cells slots : Nat} {b L : Nat} {xs : Nat → Int32} (hc : Cx p room_1 s m #[Value.ref b] meth c cL_law 4 lw_tbl RL K (fun q : Nat => s.heap.size ≤ q) ret cells slots) (hcs : cells ≤ 600000 ∧ slots ≤ 7302250) (hX : va_X b L xs s s.heap) (hbl : b < s.heap.size) (hbA : ¬ s.heap.size ≤ b) : ∀ (n : Nat) (x3 : Int32) (y : Sx), V p l e room_1 s m #[Value.ref b] below meth c K (fun q : Nat => s.heap.size ≤ q) cells slots 4 (QL below b s) 18 [(0, .ref b), (1, .ref (K.2.2 0)), (2, .ref (K.2.2 24)), (3, .int x3)] [] y (L_law xs L n x3 y) := by
  intro n
  induction n with
  | zero => intro x3 y; exact V_none
  | succ n ih =>
    intro x3 y
    rw [L_law]
    refine V_iload_n hc dL_law_18 rfl 3 rfl ?_
    refine V_aload_n hc dL_law_19 rfl 0 rfl ?_
    refine V_slen hc hX hbl hbA dL_law_20 ?_
    refine V_iconst (v := 5) hc dL_law_21 (by decide) ?_
    refine V_isub hc dL_law_22 ?_
    refine V_icmp_gt (tgt := 1240) hc dL_law_23 (by decide) ?_ ?_
    · refine V_iconst (v := 1) hc dL_law_1240 (by decide) ?_
      exact V_law1 hc hcs dL_law_1241
    · refine V_aload_n hc dL_law_26 rfl 0 rfl ?_
      refine V_iload_n hc dL_law_27 rfl 3 rfl ?_
      refine V_sld hc hX hbl hbA dL_law_28 ?_
      refine V_bipush (v := 63) hc dL_law_29 (by decide) ?_
      refine V_iand hc dL_law_31 ?_
      refine V_bdi (fun v1 => ?_)
      refine V_ite (fun h2 => ?_) (fun h2 => ?_)
      · refine V_tsIn (tgt := 200) hc dL_law_32 (by rw [h2] <;> decide) (by rw [h2] <;> decide) (by rw [h2] <;> rfl) (by decide) ?_
        refine V_aload_n hc dL_law_200 rfl 1 rfl ?_
        refine V_aload_n hc dL_law_201 rfl 0 rfl ?_
        refine V_iload_n hc dL_law_202 rfl 3 rfl ?_
        refine V_iconst (v := 1) hc dL_law_203 (by decide) ?_
        refine V_iadd hc dL_law_204 ?_
        refine V_sld hc hX hbl hbA dL_law_205 ?_
        refine V_aload_n hc dL_law_206 rfl 0 rfl ?_
        refine V_iload_n hc dL_law_207 rfl 3 rfl ?_
        refine V_iconst (v := 2) hc dL_law_208 (by decide) ?_
        refine V_iadd hc dL_law_209 ?_
        refine V_sld hc hX hbl hbA dL_law_210 ?_
        refine V_callV_WI (Cn := RX8) (T := TX8) (N := 8) hc (c_X8_add l K y (xs (ix (x3 + 1))) (xs (ix (x3 + 2)))) sP0 rfl 2 gL_law_X8_add rfl ⟨rfl, rfl⟩ (by decide) ⟨Nat.le_of_ble_eq_true rfl, Nat.le_of_ble_eq_true rfl⟩ rfl rfl (Nat.le_of_ble_eq_true rfl) dL_law_211 (fun r3 => ?_)
        refine V_aload_n hc dL_law_214 rfl 2 rfl ?_
        refine V_aload_n hc dL_law_215 rfl 0 rfl ?_
        refine V_iload_n hc dL_law_216 rfl 3 rfl ?_
        refine V_iconst (v := 1) hc dL_law_217 (by decide) ?_
        refine V_iadd hc dL_law_218 ?_
        refine V_sld hc hX hbl hbA dL_law_219 ?_
        refine V_aload_n hc dL_law_220 rfl 0 rfl ?_
        refine V_iload_n hc dL_law_221 rfl 3 rfl ?_
        refine V_iconst (v := 2) hc dL_law_222 (by decide) ?_
        refine V_iadd hc dL_law_223 ?_
        refine V_sld hc hX hbl hbA dL_law_224 ?_
        refine V_callV_WI (Cn := RX9) (T := TX9) (N := 28) hc (c_X9_add l K r3.2 (xs (ix (x3 + 1))) (xs (ix (x3 + 2)))) sP24 rfl 2 gL_law_X9_add rfl ⟨rfl, rfl⟩ (by decide) ⟨Nat.le_of_ble_eq_true rfl, Nat.le_of_ble_eq_true rfl⟩ rfl rfl (Nat.le_of_ble_eq_true rfl) dL_law_225 (fun r4 => ?_)
        refine V_icmp_eq (tgt := 1234) hc dL_law_228 (by decide) ?_ ?_
        · refine V_iinc (v := (x3 + 5)) (lv' := [(3, .int (x3 + 5)), (0, .ref b), (1, .ref (K.2.2 0)), (2, .ref (K.2.2 24))]) hc dL_law_1234 3 rfl rfl (by decide) rfl ?_
          refine V_goto (tgt := 18) hc dL_law_1237 (by decide) ?_
          exact V_sub [1, 2, 3, 0] rfl (ih _ _)
        · refine V_iconst (v := 0) hc dL_law_231 (by decide) ?_
          exact V_law0 hc dL_law_232
      · refine V_ite (fun h5 => ?_) (fun h5 => ?_)
        · refine V_tsIn (tgt := 233) hc dL_law_32 (by rw [h5] <;> decide) (by rw [h5] <;> decide) (by rw [h5] <;> rfl) (by decide) ?_
          refine V_aload_n hc dL_law_233 rfl 1 rfl ?_
          refine V_aload_n hc dL_law_234 rfl 0 rfl ?_
          refine V_iload_n hc dL_law_235 rfl 3 rfl ?_
          refine V_iconst (v := 1) hc dL_law_236 (by decide) ?_
          refine V_iadd hc dL_law_237 ?_
          refine V_sld hc hX hbl hbA dL_law_238 ?_
          refine V_callV_WI (Cn := RX8) (T := TX8) (N := 8) hc (c_X8_remove l K y (xs (ix (x3 + 1)))) sP0 rfl 1 gL_law_X8_remove rfl ⟨rfl, rfl⟩ (by decide) ⟨Nat.le_of_ble_eq_true rfl, Nat.le_of_ble_eq_true rfl⟩ rfl rfl (Nat.le_of_ble_eq_true rfl) dL_law_239 (fun r6 => ?_)
          refine V_aload_n hc dL_law_242 rfl 2 rfl ?_
          refine V_aload_n hc dL_law_243 rfl 0 rfl ?_
          refine V_iload_n hc dL_law_244 rfl 3 rfl ?_
          refine V_iconst (v := 1) hc dL_law_245 (by decide) ?_
          refine V_iadd hc dL_law_246 ?_
          refine V_sld hc hX hbl hbA dL_law_247 ?_
          refine V_callV_WI (Cn := RX9) (T := TX9) (N := 28) hc (c_X9_remove l K r6.2 (xs (ix (x3 + 1)))) sP24 rfl 1 gL_law_X9_remove rfl ⟨rfl, rfl⟩ (by decide) ⟨Nat.le_of_ble_eq_true rfl, Nat.le_of_ble_eq_true rfl⟩ rfl rfl (Nat.le_of_ble_eq_true rfl) dL_law_248 (fun r7 => ?_)
          refine V_icmp_eq (tgt := 1234) hc dL_law_251 (by decide) ?_ ?_
          · refine V_iinc (v := (x3 + 5)) (lv' := [(3, .int (x3 + 5)), (0, .ref b), (1, .ref (K.2.2 0)), (2, .ref (K.2.2 24))]) hc dL_law_1234 3 rfl rfl (by decide) rfl ?_
            refine V_goto (tgt := 18) hc dL_law_1237 (by decide) ?_
            exact V_sub [1, 2, 3, 0] rfl (ih _ _)
          · refine V_iconst (v := 0) hc dL_law_254 (by decide) ?_
            exact V_law0 hc dL_law_255
        · refine V_ite (fun h8 => ?_) (fun h8 => ?_)
          · refine V_tsIn (tgt := 256) hc dL_law_32 (by rw [h8] <;> decide) (by rw [h8] <;> decide) (by rw [h8] <;> rfl) (by decide) ?_
            refine V_aload_n hc dL_law_256 rfl 1 rfl ?_
            refine V_callV_RI (Cn := RX8) (T := TX8) (N := 8) hc (c_X8_fileCount l K y ) sP0 rfl 0 gL_law_X8_fileCount rfl ⟨rfl, rfl⟩ (by decide) ⟨Nat.le_of_ble_eq_true rfl, Nat.le_of_ble_eq_true rfl⟩ rfl rfl (Nat.le_of_ble_eq_true rfl) dL_law_257 (fun r9 => ?_)
            refine V_aload_n hc dL_law_260 rfl 2 rfl ?_
            refine V_callV_RI (Cn := RX9) (T := TX9) (N := 28) hc (c_X9_fileCount l K y ) sP24 rfl 0 gL_law_X9_fileCount rfl ⟨rfl, rfl⟩ (by decide) ⟨Nat.le_of_ble_eq_true rfl, Nat.le_of_ble_eq_true rfl⟩ rfl rfl (Nat.le_of_ble_eq_true rfl) dL_law_261 (fun r10 => ?_)
            refine V_icmp_eq (tgt := 1234) hc dL_law_264 (by decide) ?_ ?_
            · refine V_iinc (v := (x3 + 5)) (lv' := [(3, .int (x3 + 5)), (0, .ref b), (1, .ref (K.2.2 0)), (2, .ref (K.2.2 24))]) hc dL_law_1234 3 rfl rfl (by decide) rfl ?_
              refine V_goto (tgt := 18) hc dL_law_1237 (by decide) ?_
              exact V_sub [1, 2, 3, 0] rfl (ih _ _)
            · refine V_iconst (v := 0) hc dL_law_267 (by decide) ?_
              exact V_law0 hc dL_law_268
          · refine V_ite (fun h11 => ?_) (fun h11 => ?_)
            · refine V_tsIn (tgt := 269) hc dL_law_32 (by rw [h11] <;> decide) (by rw [h11] <;> decide) (by rw [h11] <;> rfl) (by decide) ?_
              refine V_aload_n hc dL_law_269 rfl 1 rfl ?_
              refine V_aload_n hc dL_law_270 rfl 0 rfl ?_
              refine V_iload_n hc dL_law_271 rfl 3 rfl ?_
              refine V_iconst (v := 1) hc dL_law_272 (by decide) ?_
              refine V_iadd hc dL_law_273 ?_
              refine V_sld hc hX hbl hbA dL_law_274 ?_
              refine V_aload_n hc dL_law_275 rfl 0 rfl ?_
              refine V_iload_n hc dL_law_276 rfl 3 rfl ?_
              refine V_iconst (v := 2) hc dL_law_277 (by decide) ?_
              refine V_iadd hc dL_law_278 ?_
              refine V_sld hc hX hbl hbA dL_law_279 ?_
              refine V_callV_WI (Cn := RX8) (T := TX8) (N := 8) hc (c_X8_setDigest l K y (xs (ix (x3 + 1))) (xs (ix (x3 + 2)))) sP0 rfl 2 gL_law_X8_setDigest rfl ⟨rfl, rfl⟩ (by decide) ⟨Nat.le_of_ble_eq_true rfl, Nat.le_of_ble_eq_true rfl⟩ rfl rfl (Nat.le_of_ble_eq_true rfl) dL_law_280 (fun r12 => ?_)
              refine V_aload_n hc dL_law_283 rfl 2 rfl ?_
              refine V_aload_n hc dL_law_284 rfl 0 rfl ?_
              refine V_iload_n hc dL_law_285 rfl 3 rfl ?_
              refine V_iconst (v := 1) hc dL_law_286 (by decide) ?_
              refine V_iadd hc dL_law_287 ?_
              refine V_sld hc hX hbl hbA dL_law_288 ?_
              refine V_aload_n hc dL_law_289 rfl 0 rfl ?_
              refine V_iload_n hc dL_law_290 rfl 3 rfl ?_
              refine V_iconst (v := 2) hc dL_law_291 (by decide) ?_
              refine V_iadd hc dL_law_292 ?_
              refine V_sld hc hX hbl hbA dL_law_293 ?_
              refine V_callV_WI (Cn := RX9) (T := TX9) (N := 28) hc (c_X9_setDigest l K r12.2 (xs (ix (x3 + 1))) (xs (ix (x3 + 2)))) sP24 rfl 2 gL_law_X9_setDigest rfl ⟨rfl, rfl⟩ (by decide) ⟨Nat.le_of_ble_eq_true rfl, Nat.le_of_ble_eq_true rfl⟩ rfl rfl (Nat.le_of_ble_eq_true rfl) dL_law_294 (fun r13 => ?_)
              refine V_icmp_eq (tgt := 1234) hc dL_law_297 (by decide) ?_ ?_
              · refine V_iinc (v := (x3 + 5)) (lv' := [(3, .int (x3 + 5)), (0, .ref b), (1, .ref (K.2.2 0)), (2, .ref (K.2.2 24))]) hc dL_law_1234 3 rfl rfl (by decide) rfl ?_
                refine V_goto (tgt := 18) hc dL_law_1237 (by decide) ?_
                exact V_sub [1, 2, 3, 0] rfl (ih _ _)
              · refine V_iconst (v := 0) hc dL_law_300 (by decide) ?_
                exact V_law0 hc dL_law_301
            · refine V_ite (fun h14 => ?_) (fun h14 => ?_)
              · refine V_tsIn (tgt := 302) hc dL_law_32 (by rw [h14] <;> decide) (by rw [h14] <;> decide) (by rw [h14] <;> rfl) (by decide) ?_
                refine V_aload_n hc dL_law_302 rfl 1 rfl ?_
                refine V_aload_n hc dL_law_303 rfl 0 rfl ?_
                refine V_iload_n hc dL_law_304 rfl 3 rfl ?_
                refine V_iconst (v := 1) hc dL_law_305 (by decide) ?_
                refine V_iadd hc dL_law_306 ?_
                refine V_sld hc hX hbl hbA dL_law_307 ?_
                refine V_aload_n hc dL_law_308 rfl 0 rfl ?_
                refine V_iload_n hc dL_law_309 rfl 3 rfl ?_
                refine V_iconst (v := 2) hc dL_law_310 (by decide) ?_
                refine V_iadd hc dL_law_311 ?_
                refine V_sld hc hX hbl hbA dL_law_312 ?_
                refine V_aload_n hc dL_law_313 rfl 0 rfl ?_
                refine V_iload_n hc dL_law_314 rfl 3 rfl ?_
                refine V_iconst (v := 3) hc dL_law_315 (by decide) ?_
                refine V_iadd hc dL_law_316 ?_
                refine V_sld hc hX hbl hbA dL_law_317 ?_
                refine V_aload_n hc dL_law_318 rfl 0 rfl ?_
                refine V_iload_n hc dL_law_319 rfl 3 rfl ?_
                refine V_iconst (v := 4) hc dL_law_320 (by decide) ?_
                refine V_iadd hc dL_law_321 ?_
                refine V_sld hc hX hbl hbA dL_law_322 ?_
                refine V_callV_WI (Cn := RX8) (T := TX8) (N := 8) hc (c_X8_setValue l K y (xs (ix (x3 + 1))) (xs (ix (x3 + 2))) (xs (ix (x3 + 3))) (xs (ix (x3 + 4)))) sP0 rfl 4 gL_law_X8_setValue rfl ⟨rfl, rfl⟩ (by decide) ⟨Nat.le_of_ble_eq_true rfl, Nat.le_of_ble_eq_true rfl⟩ rfl rfl (Nat.le_of_ble_eq_true rfl) dL_law_323 (fun r15 => ?_)
                refine V_aload_n hc dL_law_326 rfl 2 rfl ?_
                refine V_aload_n hc dL_law_327 rfl 0 rfl ?_
                refine V_iload_n hc dL_law_328 rfl 3 rfl ?_
                refine V_iconst (v := 1) hc dL_law_329 (by decide) ?_
                refine V_iadd hc dL_law_330 ?_
                refine V_sld hc hX hbl hbA dL_law_331 ?_
                refine V_aload_n hc dL_law_332 rfl 0 rfl ?_
                refine V_iload_n hc dL_law_333 rfl 3 rfl ?_
                refine V_iconst (v := 2) hc dL_law_334 (by decide) ?_
                refine V_iadd hc dL_law_335 ?_
                refine V_sld hc hX hbl hbA dL_law_336 ?_
                refine V_aload_n hc dL_law_337 rfl 0 rfl ?_
                refine V_iload_n hc dL_law_338 rfl 3 rfl ?_
                refine V_iconst (v := 3) hc dL_law_339 (by decide) ?_
                refine V_iadd hc dL_law_340 ?_
                refine V_sld hc hX hbl hbA dL_law_341 ?_
                refine V_aload_n hc dL_law_342 rfl 0 rfl ?_
                refine V_iload_n hc dL_law_343 rfl 3 rfl ?_
                refine V_iconst (v := 4) hc dL_law_344 (by decide) ?_
                refine V_iadd hc dL_law_345 ?_
                refine V_sld hc hX hbl hbA dL_law_346 ?_
                refine V_callV_WI (Cn := RX9) (T := TX9) (N := 28) hc (c_X9_setValue l K r15.2 (xs (ix (x3 + 1))) (xs (ix (x3 + 2))) (xs (ix (x3 + 3))) (xs (ix (x3 + 4)))) sP24 rfl 4 gL_law_X9_setValue rfl ⟨rfl, rfl⟩ (by decide) ⟨Nat.le_of_ble_eq_true rfl, Nat.le_of_ble_eq_true rfl⟩ rfl rfl (Nat.le_of_ble_eq_true rfl) dL_law_347 (fun r16 => ?_)
                refine V_icmp_eq (tgt := 1234) hc dL_law_350 (by decide) ?_ ?_
                · refine V_iinc (v := (x3 + 5)) (lv' := [(3, .int (x3 + 5)), (0, .ref b), (1, .ref (K.2.2 0)), (2, .ref (K.2.2 24))]) hc dL_law_1234 3 rfl rfl (by decide) rfl ?_
                  refine V_goto (tgt := 18) hc dL_law_1237 (by decide) ?_
                  exact V_sub [1, 2, 3, 0] rfl (ih _ _)
                · refine V_iconst (v := 0) hc dL_law_353 (by decide) ?_
                  exact V_law0 hc dL_law_354
              · refine V_ite (fun h17 => ?_) (fun h17 => ?_)
                · refine V_tsIn (tgt := 355) hc dL_law_32 (by rw [h17] <;> decide) (by rw [h17] <;> decide) (by rw [h17] <;> rfl) (by decide) ?_
                  refine V_aload_n hc dL_law_355 rfl 1 rfl ?_
                  refine V_aload_n hc dL_law_356 rfl 0 rfl ?_
                  refine V_iload_n hc dL_law_357 rfl 3 rfl ?_
                  refine V_iconst (v := 1) hc dL_law_358 (by decide) ?_
                  refine V_iadd hc dL_law_359 ?_
                  refine V_sld hc hX hbl hbA dL_law_360 ?_
                  refine V_aload_n hc dL_law_361 rfl 0 rfl ?_
                  refine V_iload_n hc dL_law_362 rfl 3 rfl ?_
                  refine V_iconst (v := 2) hc dL_law_363 (by decide) ?_
                  refine V_iadd hc dL_law_364 ?_
                  refine V_sld hc hX hbl hbA dL_law_365 ?_
                  refine V_aload_n hc dL_law_366 rfl 0 rfl ?_
                  refine V_iload_n hc dL_law_367 rfl 3 rfl ?_
                  refine V_iconst (v := 3) hc dL_law_368 (by decide) ?_
                  refine V_iadd hc dL_law_369 ?_
                  refine V_sld hc hX hbl hbA dL_law_370 ?_
                  refine V_callV_WI (Cn := RX8) (T := TX8) (N := 8) hc (c_X8_clearValue l K y (xs (ix (x3 + 1))) (xs (ix (x3 + 2))) (xs (ix (x3 + 3)))) sP0 rfl 3 gL_law_X8_clearValue rfl ⟨rfl, rfl⟩ (by decide) ⟨Nat.le_of_ble_eq_true rfl, Nat.le_of_ble_eq_true rfl⟩ rfl rfl (Nat.le_of_ble_eq_true rfl) dL_law_371 (fun r18 => ?_)
                  refine V_aload_n hc dL_law_374 rfl 2 rfl ?_
                  refine V_aload_n hc dL_law_375 rfl 0 rfl ?_
                  refine V_iload_n hc dL_law_376 rfl 3 rfl ?_
                  refine V_iconst (v := 1) hc dL_law_377 (by decide) ?_
                  refine V_iadd hc dL_law_378 ?_
                  refine V_sld hc hX hbl hbA dL_law_379 ?_
                  refine V_aload_n hc dL_law_380 rfl 0 rfl ?_
                  refine V_iload_n hc dL_law_381 rfl 3 rfl ?_
                  refine V_iconst (v := 2) hc dL_law_382 (by decide) ?_
                  refine V_iadd hc dL_law_383 ?_
                  refine V_sld hc hX hbl hbA dL_law_384 ?_
                  refine V_aload_n hc dL_law_385 rfl 0 rfl ?_
                  refine V_iload_n hc dL_law_386 rfl 3 rfl ?_
                  refine V_iconst (v := 3) hc dL_law_387 (by decide) ?_
                  refine V_iadd hc dL_law_388 ?_
                  refine V_sld hc hX hbl hbA dL_law_389 ?_
                  refine V_callV_WI (Cn := RX9) (T := TX9) (N := 28) hc (c_X9_clearValue l K r18.2 (xs (ix (x3 + 1))) (xs (ix (x3 + 2))) (xs (ix (x3 + 3)))) sP24 rfl 3 gL_law_X9_clearValue rfl ⟨rfl, rfl⟩ (by decide) ⟨Nat.le_of_ble_eq_true rfl, Nat.le_of_ble_eq_true rfl⟩ rfl rfl (Nat.le_of_ble_eq_true rfl) dL_law_390 (fun r19 => ?_)
                  refine V_icmp_eq (tgt := 1234) hc dL_law_393 (by decide) ?_ ?_
                  · refine V_iinc (v := (x3 + 5)) (lv' := [(3, .int (x3 + 5)), (0, .ref b), (1, .ref (K.2.2 0)), (2, .ref (K.2.2 24))]) hc dL_law_1234 3 rfl rfl (by decide) rfl ?_
                    refine V_goto (tgt := 18) hc dL_law_1237 (by decide) ?_
                    exact V_sub [1, 2, 3, 0] rfl (ih _ _)
                  · refine V_iconst (v := 0) hc dL_law_396 (by decide) ?_
                    exact V_law0 hc dL_law_397
                · refine V_ite (fun h20 => ?_) (fun h20 => ?_)
                  · refine V_tsIn (tgt := 398) hc dL_law_32 (by rw [h20] <;> decide) (by rw [h20] <;> decide) (by rw [h20] <;> rfl) (by decide) ?_
                    refine V_aload_n hc dL_law_398 rfl 1 rfl ?_
                    refine V_aload_n hc dL_law_399 rfl 0 rfl ?_
                    refine V_iload_n hc dL_law_400 rfl 3 rfl ?_
                    refine V_iconst (v := 1) hc dL_law_401 (by decide) ?_
                    refine V_iadd hc dL_law_402 ?_
                    refine V_sld hc hX hbl hbA dL_law_403 ?_
                    refine V_aload_n hc dL_law_404 rfl 0 rfl ?_
                    refine V_iload_n hc dL_law_405 rfl 3 rfl ?_
                    refine V_iconst (v := 2) hc dL_law_406 (by decide) ?_
                    refine V_iadd hc dL_law_407 ?_
                    refine V_sld hc hX hbl hbA dL_law_408 ?_
                    refine V_callV_RI (Cn := RX8) (T := TX8) (N := 8) hc (c_X8_value l K y (xs (ix (x3 + 1))) (xs (ix (x3 + 2)))) sP0 rfl 2 gL_law_X8_value rfl ⟨rfl, rfl⟩ (by decide) ⟨Nat.le_of_ble_eq_true rfl, Nat.le_of_ble_eq_true rfl⟩ rfl rfl (Nat.le_of_ble_eq_true rfl) dL_law_409 (fun r21 => ?_)
                    refine V_aload_n hc dL_law_412 rfl 2 rfl ?_
                    refine V_aload_n hc dL_law_413 rfl 0 rfl ?_
                    refine V_iload_n hc dL_law_414 rfl 3 rfl ?_
                    refine V_iconst (v := 1) hc dL_law_415 (by decide) ?_
                    refine V_iadd hc dL_law_416 ?_
                    refine V_sld hc hX hbl hbA dL_law_417 ?_
                    refine V_aload_n hc dL_law_418 rfl 0 rfl ?_
                    refine V_iload_n hc dL_law_419 rfl 3 rfl ?_
                    refine V_iconst (v := 2) hc dL_law_420 (by decide) ?_
                    refine V_iadd hc dL_law_421 ?_
                    refine V_sld hc hX hbl hbA dL_law_422 ?_
                    refine V_callV_RI (Cn := RX9) (T := TX9) (N := 28) hc (c_X9_value l K y (xs (ix (x3 + 1))) (xs (ix (x3 + 2)))) sP24 rfl 2 gL_law_X9_value rfl ⟨rfl, rfl⟩ (by decide) ⟨Nat.le_of_ble_eq_true rfl, Nat.le_of_ble_eq_true rfl⟩ rfl rfl (Nat.le_of_ble_eq_true rfl) dL_law_423 (fun r22 => ?_)
                    refine V_icmp_eq (tgt := 1234) hc dL_law_426 (by decide) ?_ ?_
                    · refine V_iinc (v := (x3 + 5)) (lv' := [(3, .int (x3 + 5)), (0, .ref b), (1, .ref (K.2.2 0)), (2, .ref (K.2.2 24))]) hc dL_law_1234 3 rfl rfl (by decide) rfl ?_
                      refine V_goto (tgt := 18) hc dL_law_1237 (by decide) ?_
                      exact V_sub [1, 2, 3, 0] rfl (ih _ _)
                    · refine V_iconst (v := 0) hc dL_law_429 (by decide) ?_
                      exact V_law0 hc dL_law_430
                  · refine V_ite (fun h23 => ?_) (fun h23 => ?_)
                    · refine V_tsIn (tgt := 431) hc dL_law_32 (by rw [h23] <;> decide) (by rw [h23] <;> decide) (by rw [h23] <;> rfl) (by decide) ?_
                      refine V_aload_n hc dL_law_431 rfl 1 rfl ?_
                      refine V_aload_n hc dL_law_432 rfl 0 rfl ?_
                      refine V_iload_n hc dL_law_433 rfl 3 rfl ?_
                      refine V_iconst (v := 1) hc dL_law_434 (by decide) ?_
                      refine V_iadd hc dL_law_435 ?_
                      refine V_sld hc hX hbl hbA dL_law_436 ?_
                      refine V_aload_n hc dL_law_437 rfl 0 rfl ?_
                      refine V_iload_n hc dL_law_438 rfl 3 rfl ?_
                      refine V_iconst (v := 2) hc dL_law_439 (by decide) ?_
                      refine V_iadd hc dL_law_440 ?_
                      refine V_sld hc hX hbl hbA dL_law_441 ?_
                      refine V_callV_RI (Cn := RX8) (T := TX8) (N := 8) hc (c_X8_sourceOf l K y (xs (ix (x3 + 1))) (xs (ix (x3 + 2)))) sP0 rfl 2 gL_law_X8_sourceOf rfl ⟨rfl, rfl⟩ (by decide) ⟨Nat.le_of_ble_eq_true rfl, Nat.le_of_ble_eq_true rfl⟩ rfl rfl (Nat.le_of_ble_eq_true rfl) dL_law_442 (fun r24 => ?_)
                      refine V_aload_n hc dL_law_445 rfl 2 rfl ?_
                      refine V_aload_n hc dL_law_446 rfl 0 rfl ?_
                      refine V_iload_n hc dL_law_447 rfl 3 rfl ?_
                      refine V_iconst (v := 1) hc dL_law_448 (by decide) ?_
                      refine V_iadd hc dL_law_449 ?_
                      refine V_sld hc hX hbl hbA dL_law_450 ?_
                      refine V_aload_n hc dL_law_451 rfl 0 rfl ?_
                      refine V_iload_n hc dL_law_452 rfl 3 rfl ?_
                      refine V_iconst (v := 2) hc dL_law_453 (by decide) ?_
                      refine V_iadd hc dL_law_454 ?_
                      refine V_sld hc hX hbl hbA dL_law_455 ?_
                      refine V_callV_RI (Cn := RX9) (T := TX9) (N := 28) hc (c_X9_sourceOf l K y (xs (ix (x3 + 1))) (xs (ix (x3 + 2)))) sP24 rfl 2 gL_law_X9_sourceOf rfl ⟨rfl, rfl⟩ (by decide) ⟨Nat.le_of_ble_eq_true rfl, Nat.le_of_ble_eq_true rfl⟩ rfl rfl (Nat.le_of_ble_eq_true rfl) dL_law_456 (fun r25 => ?_)
                      refine V_icmp_eq (tgt := 1234) hc dL_law_459 (by decide) ?_ ?_
                      · refine V_iinc (v := (x3 + 5)) (lv' := [(3, .int (x3 + 5)), (0, .ref b), (1, .ref (K.2.2 0)), (2, .ref (K.2.2 24))]) hc dL_law_1234 3 rfl rfl (by decide) rfl ?_
                        refine V_goto (tgt := 18) hc dL_law_1237 (by decide) ?_
                        exact V_sub [1, 2, 3, 0] rfl (ih _ _)
                      · refine V_iconst (v := 0) hc dL_law_462 (by decide) ?_
                        exact V_law0 hc dL_law_463
                    · refine V_ite (fun h26 => ?_) (fun h26 => ?_)
                      · refine V_tsIn (tgt := 464) hc dL_law_32 (by rw [h26] <;> decide) (by rw [h26] <;> decide) (by rw [h26] <;> rfl) (by decide) ?_
                        refine V_aload_n hc dL_law_464 rfl 1 rfl ?_
                        refine V_aload_n hc dL_law_465 rfl 0 rfl ?_
                        refine V_iload_n hc dL_law_466 rfl 3 rfl ?_
                        refine V_iconst (v := 1) hc dL_law_467 (by decide) ?_
                        refine V_iadd hc dL_law_468 ?_
                        refine V_sld hc hX hbl hbA dL_law_469 ?_
                        refine V_aload_n hc dL_law_470 rfl 0 rfl ?_
                        refine V_iload_n hc dL_law_471 rfl 3 rfl ?_
                        refine V_iconst (v := 2) hc dL_law_472 (by decide) ?_
                        refine V_iadd hc dL_law_473 ?_
                        refine V_sld hc hX hbl hbA dL_law_474 ?_
                        refine V_aload_n hc dL_law_475 rfl 0 rfl ?_
                        refine V_iload_n hc dL_law_476 rfl 3 rfl ?_
                        refine V_iconst (v := 3) hc dL_law_477 (by decide) ?_
                        refine V_iadd hc dL_law_478 ?_
                        refine V_sld hc hX hbl hbA dL_law_479 ?_
                        refine V_callV_WI (Cn := RX8) (T := TX8) (N := 8) hc (c_X8_setOrder l K y (xs (ix (x3 + 1))) (xs (ix (x3 + 2))) (xs (ix (x3 + 3)))) sP0 rfl 3 gL_law_X8_setOrder rfl ⟨rfl, rfl⟩ (by decide) ⟨Nat.le_of_ble_eq_true rfl, Nat.le_of_ble_eq_true rfl⟩ rfl rfl (Nat.le_of_ble_eq_true rfl) dL_law_480 (fun r27 => ?_)
                        refine V_aload_n hc dL_law_483 rfl 2 rfl ?_
                        refine V_aload_n hc dL_law_484 rfl 0 rfl ?_
                        refine V_iload_n hc dL_law_485 rfl 3 rfl ?_
                        refine V_iconst (v := 1) hc dL_law_486 (by decide) ?_
                        refine V_iadd hc dL_law_487 ?_
                        refine V_sld hc hX hbl hbA dL_law_488 ?_
                        refine V_aload_n hc dL_law_489 rfl 0 rfl ?_
                        refine V_iload_n hc dL_law_490 rfl 3 rfl ?_
                        refine V_iconst (v := 2) hc dL_law_491 (by decide) ?_
                        refine V_iadd hc dL_law_492 ?_
                        refine V_sld hc hX hbl hbA dL_law_493 ?_
                        refine V_aload_n hc dL_law_494 rfl 0 rfl ?_
                        refine V_iload_n hc dL_law_495 rfl 3 rfl ?_
                        refine V_iconst (v := 3) hc dL_law_496 (by decide) ?_
                        refine V_iadd hc dL_law_497 ?_
                        refine V_sld hc hX hbl hbA dL_law_498 ?_
                        refine V_callV_WI (Cn := RX9) (T := TX9) (N := 28) hc (c_X9_setOrder l K r27.2 (xs (ix (x3 + 1))) (xs (ix (x3 + 2))) (xs (ix (x3 + 3)))) sP24 rfl 3 gL_law_X9_setOrder rfl ⟨rfl, rfl⟩ (by decide) ⟨Nat.le_of_ble_eq_true rfl, Nat.le_of_ble_eq_true rfl⟩ rfl rfl (Nat.le_of_ble_eq_true rfl) dL_law_499 (fun r28 => ?_)
                        refine V_icmp_eq (tgt := 1234) hc dL_law_502 (by decide) ?_ ?_
                        · refine V_iinc (v := (x3 + 5)) (lv' := [(3, .int (x3 + 5)), (0, .ref b), (1, .ref (K.2.2 0)), (2, .ref (K.2.2 24))]) hc dL_law_1234 3 rfl rfl (by decide) rfl ?_
                          refine V_goto (tgt := 18) hc dL_law_1237 (by decide) ?_
                          exact V_sub [1, 2, 3, 0] rfl (ih _ _)
                        · refine V_iconst (v := 0) hc dL_law_505 (by decide) ?_
                          exact V_law0 hc dL_law_506
                      · refine V_ite (fun h29 => ?_) (fun h29 => ?_)
                        · refine V_tsIn (tgt := 507) hc dL_law_32 (by rw [h29] <;> decide) (by rw [h29] <;> decide) (by rw [h29] <;> rfl) (by decide) ?_
                          refine V_aload_n hc dL_law_507 rfl 1 rfl ?_
                          refine V_aload_n hc dL_law_508 rfl 0 rfl ?_
                          refine V_iload_n hc dL_law_509 rfl 3 rfl ?_
                          refine V_iconst (v := 1) hc dL_law_510 (by decide) ?_
                          refine V_iadd hc dL_law_511 ?_
                          refine V_sld hc hX hbl hbA dL_law_512 ?_
                          refine V_callV_RI (Cn := RX8) (T := TX8) (N := 8) hc (c_X8_keeperOf l K y (xs (ix (x3 + 1)))) sP0 rfl 1 gL_law_X8_keeperOf rfl ⟨rfl, rfl⟩ (by decide) ⟨Nat.le_of_ble_eq_true rfl, Nat.le_of_ble_eq_true rfl⟩ rfl rfl (Nat.le_of_ble_eq_true rfl) dL_law_513 (fun r30 => ?_)
                          refine V_aload_n hc dL_law_516 rfl 2 rfl ?_
                          refine V_aload_n hc dL_law_517 rfl 0 rfl ?_
                          refine V_iload_n hc dL_law_518 rfl 3 rfl ?_
                          refine V_iconst (v := 1) hc dL_law_519 (by decide) ?_
                          refine V_iadd hc dL_law_520 ?_
                          refine V_sld hc hX hbl hbA dL_law_521 ?_
                          refine V_callV_RI (Cn := RX9) (T := TX9) (N := 28) hc (c_X9_keeperOf l K y (xs (ix (x3 + 1)))) sP24 rfl 1 gL_law_X9_keeperOf rfl ⟨rfl, rfl⟩ (by decide) ⟨Nat.le_of_ble_eq_true rfl, Nat.le_of_ble_eq_true rfl⟩ rfl rfl (Nat.le_of_ble_eq_true rfl) dL_law_522 (fun r31 => ?_)
                          refine V_icmp_eq (tgt := 1234) hc dL_law_525 (by decide) ?_ ?_
                          · refine V_iinc (v := (x3 + 5)) (lv' := [(3, .int (x3 + 5)), (0, .ref b), (1, .ref (K.2.2 0)), (2, .ref (K.2.2 24))]) hc dL_law_1234 3 rfl rfl (by decide) rfl ?_
                            refine V_goto (tgt := 18) hc dL_law_1237 (by decide) ?_
                            exact V_sub [1, 2, 3, 0] rfl (ih _ _)
                          · refine V_iconst (v := 0) hc dL_law_528 (by decide) ?_
                            exact V_law0 hc dL_law_529
                        · refine V_ite (fun h32 => ?_) (fun h32 => ?_)
                          · refine V_tsIn (tgt := 530) hc dL_law_32 (by rw [h32] <;> decide) (by rw [h32] <;> decide) (by rw [h32] <;> rfl) (by decide) ?_
                            refine V_aload_n hc dL_law_530 rfl 1 rfl ?_
                            refine V_aload_n hc dL_law_531 rfl 0 rfl ?_
                            refine V_iload_n hc dL_law_532 rfl 3 rfl ?_
                            refine V_iconst (v := 1) hc dL_law_533 (by decide) ?_
                            refine V_iadd hc dL_law_534 ?_
                            refine V_sld hc hX hbl hbA dL_law_535 ?_
                            refine V_callV_RI (Cn := RX8) (T := TX8) (N := 8) hc (c_X8_groupSize l K y (xs (ix (x3 + 1)))) sP0 rfl 1 gL_law_X8_groupSize rfl ⟨rfl, rfl⟩ (by decide) ⟨Nat.le_of_ble_eq_true rfl, Nat.le_of_ble_eq_true rfl⟩ rfl rfl (Nat.le_of_ble_eq_true rfl) dL_law_536 (fun r33 => ?_)
                            refine V_aload_n hc dL_law_539 rfl 2 rfl ?_
                            refine V_aload_n hc dL_law_540 rfl 0 rfl ?_
                            refine V_iload_n hc dL_law_541 rfl 3 rfl ?_
                            refine V_iconst (v := 1) hc dL_law_542 (by decide) ?_
                            refine V_iadd hc dL_law_543 ?_
                            refine V_sld hc hX hbl hbA dL_law_544 ?_
                            refine V_callV_RI (Cn := RX9) (T := TX9) (N := 28) hc (c_X9_groupSize l K y (xs (ix (x3 + 1)))) sP24 rfl 1 gL_law_X9_groupSize rfl ⟨rfl, rfl⟩ (by decide) ⟨Nat.le_of_ble_eq_true rfl, Nat.le_of_ble_eq_true rfl⟩ rfl rfl (Nat.le_of_ble_eq_true rfl) dL_law_545 (fun r34 => ?_)
                            refine V_icmp_eq (tgt := 1234) hc dL_law_548 (by decide) ?_ ?_
                            · refine V_iinc (v := (x3 + 5)) (lv' := [(3, .int (x3 + 5)), (0, .ref b), (1, .ref (K.2.2 0)), (2, .ref (K.2.2 24))]) hc dL_law_1234 3 rfl rfl (by decide) rfl ?_
                              refine V_goto (tgt := 18) hc dL_law_1237 (by decide) ?_
                              exact V_sub [1, 2, 3, 0] rfl (ih _ _)
                            · refine V_iconst (v := 0) hc dL_law_551 (by decide) ?_
                              exact V_law0 hc dL_law_552
                          · refine V_ite (fun h35 => ?_) (fun h35 => ?_)
                            · refine V_tsIn (tgt := 553) hc dL_law_32 (by rw [h35] <;> decide) (by rw [h35] <;> decide) (by rw [h35] <;> rfl) (by decide) ?_
                              refine V_aload_n hc dL_law_553 rfl 1 rfl ?_
                              refine V_callV_RI (Cn := RX8) (T := TX8) (N := 8) hc (c_X8_wasted l K y ) sP0 rfl 0 gL_law_X8_wasted rfl ⟨rfl, rfl⟩ (by decide) ⟨Nat.le_of_ble_eq_true rfl, Nat.le_of_ble_eq_true rfl⟩ rfl rfl (Nat.le_of_ble_eq_true rfl) dL_law_554 (fun r36 => ?_)
                              refine V_aload_n hc dL_law_557 rfl 2 rfl ?_
                              refine V_callV_RI (Cn := RX9) (T := TX9) (N := 28) hc (c_X9_wasted l K y ) sP24 rfl 0 gL_law_X9_wasted rfl ⟨rfl, rfl⟩ (by decide) ⟨Nat.le_of_ble_eq_true rfl, Nat.le_of_ble_eq_true rfl⟩ rfl rfl (Nat.le_of_ble_eq_true rfl) dL_law_558 (fun r37 => ?_)
                              refine V_icmp_eq (tgt := 1234) hc dL_law_561 (by decide) ?_ ?_
                              · refine V_iinc (v := (x3 + 5)) (lv' := [(3, .int (x3 + 5)), (0, .ref b), (1, .ref (K.2.2 0)), (2, .ref (K.2.2 24))]) hc dL_law_1234 3 rfl rfl (by decide) rfl ?_
                                refine V_goto (tgt := 18) hc dL_law_1237 (by decide) ?_
                                exact V_sub [1, 2, 3, 0] rfl (ih _ _)
                              · refine V_iconst (v := 0) hc dL_law_564 (by decide) ?_
                                exact V_law0 hc dL_law_565
                            · refine V_ite (fun h38 => ?_) (fun h38 => ?_)
                              · refine V_tsIn (tgt := 566) hc dL_law_32 (by rw [h38] <;> decide) (by rw [h38] <;> decide) (by rw [h38] <;> rfl) (by decide) ?_
                                refine V_aload_n hc dL_law_566 rfl 1 rfl ?_
                                refine V_aload_n hc dL_law_567 rfl 0 rfl ?_
                                refine V_iload_n hc dL_law_568 rfl 3 rfl ?_
                                refine V_iconst (v := 1) hc dL_law_569 (by decide) ?_
                                refine V_iadd hc dL_law_570 ?_
                                refine V_sld hc hX hbl hbA dL_law_571 ?_
                                refine V_callV_WI (Cn := RX8) (T := TX8) (N := 8) hc (c_X8_merge l K y (xs (ix (x3 + 1)))) sP0 rfl 1 gL_law_X8_merge rfl ⟨rfl, rfl⟩ (by decide) ⟨Nat.le_of_ble_eq_true rfl, Nat.le_of_ble_eq_true rfl⟩ rfl rfl (Nat.le_of_ble_eq_true rfl) dL_law_572 (fun r39 => ?_)
                                refine V_aload_n hc dL_law_575 rfl 2 rfl ?_
                                refine V_aload_n hc dL_law_576 rfl 0 rfl ?_
                                refine V_iload_n hc dL_law_577 rfl 3 rfl ?_
                                refine V_iconst (v := 1) hc dL_law_578 (by decide) ?_
                                refine V_iadd hc dL_law_579 ?_
                                refine V_sld hc hX hbl hbA dL_law_580 ?_
                                refine V_callV_WI (Cn := RX9) (T := TX9) (N := 28) hc (c_X9_merge l K r39.2 (xs (ix (x3 + 1)))) sP24 rfl 1 gL_law_X9_merge rfl ⟨rfl, rfl⟩ (by decide) ⟨Nat.le_of_ble_eq_true rfl, Nat.le_of_ble_eq_true rfl⟩ rfl rfl (Nat.le_of_ble_eq_true rfl) dL_law_581 (fun r40 => ?_)
                                refine V_icmp_eq (tgt := 1234) hc dL_law_584 (by decide) ?_ ?_
                                · refine V_iinc (v := (x3 + 5)) (lv' := [(3, .int (x3 + 5)), (0, .ref b), (1, .ref (K.2.2 0)), (2, .ref (K.2.2 24))]) hc dL_law_1234 3 rfl rfl (by decide) rfl ?_
                                  refine V_goto (tgt := 18) hc dL_law_1237 (by decide) ?_
                                  exact V_sub [1, 2, 3, 0] rfl (ih _ _)
                                · refine V_iconst (v := 0) hc dL_law_587 (by decide) ?_
                                  exact V_law0 hc dL_law_588
                              · refine V_ite (fun h41 => ?_) (fun h41 => ?_)
                                · refine V_tsIn (tgt := 589) hc dL_law_32 (by rw [h41] <;> decide) (by rw [h41] <;> decide) (by rw [h41] <;> rfl) (by decide) ?_
                                  refine V_aload_n hc dL_law_589 rfl 1 rfl ?_
                                  refine V_aload_n hc dL_law_590 rfl 0 rfl ?_
                                  refine V_iload_n hc dL_law_591 rfl 3 rfl ?_
                                  refine V_iconst (v := 1) hc dL_law_592 (by decide) ?_
                                  refine V_iadd hc dL_law_593 ?_
                                  refine V_sld hc hX hbl hbA dL_law_594 ?_
                                  refine V_aload_n hc dL_law_595 rfl 0 rfl ?_
                                  refine V_iload_n hc dL_law_596 rfl 3 rfl ?_
                                  refine V_iconst (v := 2) hc dL_law_597 (by decide) ?_
                                  refine V_iadd hc dL_law_598 ?_
                                  refine V_sld hc hX hbl hbA dL_law_599 ?_
                                  refine V_callV_WI (Cn := RX8) (T := TX8) (N := 8) hc (c_X8_stack l K y (xs (ix (x3 + 1))) (xs (ix (x3 + 2)))) sP0 rfl 2 gL_law_X8_stack rfl ⟨rfl, rfl⟩ (by decide) ⟨Nat.le_of_ble_eq_true rfl, Nat.le_of_ble_eq_true rfl⟩ rfl rfl (Nat.le_of_ble_eq_true rfl) dL_law_600 (fun r42 => ?_)
                                  refine V_aload_n hc dL_law_603 rfl 2 rfl ?_
                                  refine V_aload_n hc dL_law_604 rfl 0 rfl ?_
                                  refine V_iload_n hc dL_law_605 rfl 3 rfl ?_
                                  refine V_iconst (v := 1) hc dL_law_606 (by decide) ?_
                                  refine V_iadd hc dL_law_607 ?_
                                  refine V_sld hc hX hbl hbA dL_law_608 ?_
                                  refine V_aload_n hc dL_law_609 rfl 0 rfl ?_
                                  refine V_iload_n hc dL_law_610 rfl 3 rfl ?_
                                  refine V_iconst (v := 2) hc dL_law_611 (by decide) ?_
                                  refine V_iadd hc dL_law_612 ?_
                                  refine V_sld hc hX hbl hbA dL_law_613 ?_
                                  refine V_callV_WI (Cn := RX9) (T := TX9) (N := 28) hc (c_X9_stack l K r42.2 (xs (ix (x3 + 1))) (xs (ix (x3 + 2)))) sP24 rfl 2 gL_law_X9_stack rfl ⟨rfl, rfl⟩ (by decide) ⟨Nat.le_of_ble_eq_true rfl, Nat.le_of_ble_eq_true rfl⟩ rfl rfl (Nat.le_of_ble_eq_true rfl) dL_law_614 (fun r43 => ?_)
                                  refine V_icmp_eq (tgt := 1234) hc dL_law_617 (by decide) ?_ ?_
                                  · refine V_iinc (v := (x3 + 5)) (lv' := [(3, .int (x3 + 5)), (0, .ref b), (1, .ref (K.2.2 0)), (2, .ref (K.2.2 24))]) hc dL_law_1234 3 rfl rfl (by decide) rfl ?_
                                    refine V_goto (tgt := 18) hc dL_law_1237 (by decide) ?_
                                    exact V_sub [1, 2, 3, 0] rfl (ih _ _)
                                  · refine V_iconst (v := 0) hc dL_law_620 (by decide) ?_
                                    exact V_law0 hc dL_law_621
                                · refine V_ite (fun h44 => ?_) (fun h44 => ?_)
                                  · refine V_tsIn (tgt := 622) hc dL_law_32 (by rw [h44] <;> decide) (by rw [h44] <;> decide) (by rw [h44] <;> rfl) (by decide) ?_
                                    refine V_aload_n hc dL_law_622 rfl 1 rfl ?_
                                    refine V_aload_n hc dL_law_623 rfl 0 rfl ?_
                                    refine V_iload_n hc dL_law_624 rfl 3 rfl ?_
                                    refine V_iconst (v := 1) hc dL_law_625 (by decide) ?_
                                    refine V_iadd hc dL_law_626 ?_
                                    refine V_sld hc hX hbl hbA dL_law_627 ?_
                                    refine V_aload_n hc dL_law_628 rfl 0 rfl ?_
                                    refine V_iload_n hc dL_law_629 rfl 3 rfl ?_
                                    refine V_iconst (v := 2) hc dL_law_630 (by decide) ?_
                                    refine V_iadd hc dL_law_631 ?_
                                    refine V_sld hc hX hbl hbA dL_law_632 ?_
                                    refine V_aload_n hc dL_law_633 rfl 0 rfl ?_
                                    refine V_iload_n hc dL_law_634 rfl 3 rfl ?_
                                    refine V_iconst (v := 3) hc dL_law_635 (by decide) ?_
                                    refine V_iadd hc dL_law_636 ?_
                                    refine V_sld hc hX hbl hbA dL_law_637 ?_
                                    refine V_callV_WI (Cn := RX8) (T := TX8) (N := 8) hc (c_X8_putInto l K y (xs (ix (x3 + 1))) (xs (ix (x3 + 2))) (xs (ix (x3 + 3)))) sP0 rfl 3 gL_law_X8_putInto rfl ⟨rfl, rfl⟩ (by decide) ⟨Nat.le_of_ble_eq_true rfl, Nat.le_of_ble_eq_true rfl⟩ rfl rfl (Nat.le_of_ble_eq_true rfl) dL_law_638 (fun r45 => ?_)
                                    refine V_aload_n hc dL_law_641 rfl 2 rfl ?_
                                    refine V_aload_n hc dL_law_642 rfl 0 rfl ?_
                                    refine V_iload_n hc dL_law_643 rfl 3 rfl ?_
                                    refine V_iconst (v := 1) hc dL_law_644 (by decide) ?_
                                    refine V_iadd hc dL_law_645 ?_
                                    refine V_sld hc hX hbl hbA dL_law_646 ?_
                                    refine V_aload_n hc dL_law_647 rfl 0 rfl ?_
                                    refine V_iload_n hc dL_law_648 rfl 3 rfl ?_
                                    refine V_iconst (v := 2) hc dL_law_649 (by decide) ?_
                                    refine V_iadd hc dL_law_650 ?_
                                    refine V_sld hc hX hbl hbA dL_law_651 ?_
                                    refine V_aload_n hc dL_law_652 rfl 0 rfl ?_
                                    refine V_iload_n hc dL_law_653 rfl 3 rfl ?_
                                    refine V_iconst (v := 3) hc dL_law_654 (by decide) ?_
                                    refine V_iadd hc dL_law_655 ?_
                                    refine V_sld hc hX hbl hbA dL_law_656 ?_
                                    refine V_callV_WI (Cn := RX9) (T := TX9) (N := 28) hc (c_X9_putInto l K r45.2 (xs (ix (x3 + 1))) (xs (ix (x3 + 2))) (xs (ix (x3 + 3)))) sP24 rfl 3 gL_law_X9_putInto rfl ⟨rfl, rfl⟩ (by decide) ⟨Nat.le_of_ble_eq_true rfl, Nat.le_of_ble_eq_true rfl⟩ rfl rfl (Nat.le_of_ble_eq_true rfl) dL_law_657 (fun r46 => ?_)
                                    refine V_icmp_eq (tgt := 1234) hc dL_law_660 (by decide) ?_ ?_
                                    · refine V_iinc (v := (x3 + 5)) (lv' := [(3, .int (x3 + 5)), (0, .ref b), (1, .ref (K.2.2 0)), (2, .ref (K.2.2 24))]) hc dL_law_1234 3 rfl rfl (by decide) rfl ?_
                                      refine V_goto (tgt := 18) hc dL_law_1237 (by decide) ?_
                                      exact V_sub [1, 2, 3, 0] rfl (ih _ _)
                                    · refine V_iconst (v := 0) hc dL_law_663 (by decide) ?_
                                      exact V_law0 hc dL_law_664
                                  · refine V_ite (fun h47 => ?_) (fun h47 => ?_)
                                    · refine V_tsIn (tgt := 665) hc dL_law_32 (by rw [h47] <;> decide) (by rw [h47] <;> decide) (by rw [h47] <;> rfl) (by decide) ?_
                                      refine V_aload_n hc dL_law_665 rfl 1 rfl ?_
                                      refine V_aload_n hc dL_law_666 rfl 0 rfl ?_
                                      refine V_iload_n hc dL_law_667 rfl 3 rfl ?_
                                      refine V_iconst (v := 1) hc dL_law_668 (by decide) ?_
                                      refine V_iadd hc dL_law_669 ?_
                                      refine V_sld hc hX hbl hbA dL_law_670 ?_
                                      refine V_callV_WI (Cn := RX8) (T := TX8) (N := 8) hc (c_X8_takeOut l K y (xs (ix (x3 + 1)))) sP0 rfl 1 gL_law_X8_takeOut rfl ⟨rfl, rfl⟩ (by decide) ⟨Nat.le_of_ble_eq_true rfl, Nat.le_of_ble_eq_true rfl⟩ rfl rfl (Nat.le_of_ble_eq_true rfl) dL_law_671 (fun r48 => ?_)
                                      refine V_aload_n hc dL_law_674 rfl 2 rfl ?_
                                      refine V_aload_n hc dL_law_675 rfl 0 rfl ?_
                                      refine V_iload_n hc dL_law_676 rfl 3 rfl ?_
                                      refine V_iconst (v := 1) hc dL_law_677 (by decide) ?_
                                      refine V_iadd hc dL_law_678 ?_
                                      refine V_sld hc hX hbl hbA dL_law_679 ?_
                                      refine V_callV_WI (Cn := RX9) (T := TX9) (N := 28) hc (c_X9_takeOut l K r48.2 (xs (ix (x3 + 1)))) sP24 rfl 1 gL_law_X9_takeOut rfl ⟨rfl, rfl⟩ (by decide) ⟨Nat.le_of_ble_eq_true rfl, Nat.le_of_ble_eq_true rfl⟩ rfl rfl (Nat.le_of_ble_eq_true rfl) dL_law_680 (fun r49 => ?_)
                                      refine V_icmp_eq (tgt := 1234) hc dL_law_683 (by decide) ?_ ?_
                                      · refine V_iinc (v := (x3 + 5)) (lv' := [(3, .int (x3 + 5)), (0, .ref b), (1, .ref (K.2.2 0)), (2, .ref (K.2.2 24))]) hc dL_law_1234 3 rfl rfl (by decide) rfl ?_
                                        refine V_goto (tgt := 18) hc dL_law_1237 (by decide) ?_
                                        exact V_sub [1, 2, 3, 0] rfl (ih _ _)
                                      · refine V_iconst (v := 0) hc dL_law_686 (by decide) ?_
                                        exact V_law0 hc dL_law_687
                                    · refine V_ite (fun h50 => ?_) (fun h50 => ?_)
                                      · refine V_tsIn (tgt := 688) hc dL_law_32 (by rw [h50] <;> decide) (by rw [h50] <;> decide) (by rw [h50] <;> rfl) (by decide) ?_
                                        refine V_aload_n hc dL_law_688 rfl 1 rfl ?_
                                        refine V_aload_n hc dL_law_689 rfl 0 rfl ?_
                                        refine V_iload_n hc dL_law_690 rfl 3 rfl ?_
                                        refine V_iconst (v := 1) hc dL_law_691 (by decide) ?_
                                        refine V_iadd hc dL_law_692 ?_
                                        refine V_sld hc hX hbl hbA dL_law_693 ?_
                                        refine V_aload_n hc dL_law_694 rfl 0 rfl ?_
                                        refine V_iload_n hc dL_law_695 rfl 3 rfl ?_
                                        refine V_iconst (v := 2) hc dL_law_696 (by decide) ?_
                                        refine V_iadd hc dL_law_697 ?_
                                        refine V_sld hc hX hbl hbA dL_law_698 ?_
                                        refine V_callV_WI (Cn := RX8) (T := TX8) (N := 8) hc (c_X8_chooseCover l K y (xs (ix (x3 + 1))) (xs (ix (x3 + 2)))) sP0 rfl 2 gL_law_X8_chooseCover rfl ⟨rfl, rfl⟩ (by decide) ⟨Nat.le_of_ble_eq_true rfl, Nat.le_of_ble_eq_true rfl⟩ rfl rfl (Nat.le_of_ble_eq_true rfl) dL_law_699 (fun r51 => ?_)
                                        refine V_aload_n hc dL_law_702 rfl 2 rfl ?_
                                        refine V_aload_n hc dL_law_703 rfl 0 rfl ?_
                                        refine V_iload_n hc dL_law_704 rfl 3 rfl ?_
                                        refine V_iconst (v := 1) hc dL_law_705 (by decide) ?_
                                        refine V_iadd hc dL_law_706 ?_
                                        refine V_sld hc hX hbl hbA dL_law_707 ?_
                                        refine V_aload_n hc dL_law_708 rfl 0 rfl ?_
                                        refine V_iload_n hc dL_law_709 rfl 3 rfl ?_
                                        refine V_iconst (v := 2) hc dL_law_710 (by decide) ?_
                                        refine V_iadd hc dL_law_711 ?_
                                        refine V_sld hc hX hbl hbA dL_law_712 ?_
                                        refine V_callV_WI (Cn := RX9) (T := TX9) (N := 28) hc (c_X9_chooseCover l K r51.2 (xs (ix (x3 + 1))) (xs (ix (x3 + 2)))) sP24 rfl 2 gL_law_X9_chooseCover rfl ⟨rfl, rfl⟩ (by decide) ⟨Nat.le_of_ble_eq_true rfl, Nat.le_of_ble_eq_true rfl⟩ rfl rfl (Nat.le_of_ble_eq_true rfl) dL_law_713 (fun r52 => ?_)
                                        refine V_icmp_eq (tgt := 1234) hc dL_law_716 (by decide) ?_ ?_
                                        · refine V_iinc (v := (x3 + 5)) (lv' := [(3, .int (x3 + 5)), (0, .ref b), (1, .ref (K.2.2 0)), (2, .ref (K.2.2 24))]) hc dL_law_1234 3 rfl rfl (by decide) rfl ?_
                                          refine V_goto (tgt := 18) hc dL_law_1237 (by decide) ?_
                                          exact V_sub [1, 2, 3, 0] rfl (ih _ _)
                                        · refine V_iconst (v := 0) hc dL_law_719 (by decide) ?_
                                          exact V_law0 hc dL_law_720
                                      · refine V_ite (fun h53 => ?_) (fun h53 => ?_)
                                        · refine V_tsIn (tgt := 721) hc dL_law_32 (by rw [h53] <;> decide) (by rw [h53] <;> decide) (by rw [h53] <;> rfl) (by decide) ?_
                                          refine V_aload_n hc dL_law_721 rfl 1 rfl ?_
                                          refine V_aload_n hc dL_law_722 rfl 0 rfl ?_
                                          refine V_iload_n hc dL_law_723 rfl 3 rfl ?_
                                          refine V_iconst (v := 1) hc dL_law_724 (by decide) ?_
                                          refine V_iadd hc dL_law_725 ?_
                                          refine V_sld hc hX hbl hbA dL_law_726 ?_
                                          refine V_aload_n hc dL_law_727 rfl 0 rfl ?_
                                          refine V_iload_n hc dL_law_728 rfl 3 rfl ?_
                                          refine V_iconst (v := 2) hc dL_law_729 (by decide) ?_
                                          refine V_iadd hc dL_law_730 ?_
                                          refine V_sld hc hX hbl hbA dL_law_731 ?_
                                          refine V_callV_WI (Cn := RX8) (T := TX8) (N := 8) hc (c_X8_collapse l K y (xs (ix (x3 + 1))) (xs (ix (x3 + 2)))) sP0 rfl 2 gL_law_X8_collapse rfl ⟨rfl, rfl⟩ (by decide) ⟨Nat.le_of_ble_eq_true rfl, Nat.le_of_ble_eq_true rfl⟩ rfl rfl (Nat.le_of_ble_eq_true rfl) dL_law_732 (fun r54 => ?_)
                                          refine V_aload_n hc dL_law_735 rfl 2 rfl ?_
                                          refine V_aload_n hc dL_law_736 rfl 0 rfl ?_
                                          refine V_iload_n hc dL_law_737 rfl 3 rfl ?_
                                          refine V_iconst (v := 1) hc dL_law_738 (by decide) ?_
                                          refine V_iadd hc dL_law_739 ?_
                                          refine V_sld hc hX hbl hbA dL_law_740 ?_
                                          refine V_aload_n hc dL_law_741 rfl 0 rfl ?_
                                          refine V_iload_n hc dL_law_742 rfl 3 rfl ?_
                                          refine V_iconst (v := 2) hc dL_law_743 (by decide) ?_
                                          refine V_iadd hc dL_law_744 ?_
                                          refine V_sld hc hX hbl hbA dL_law_745 ?_
                                          refine V_callV_WI (Cn := RX9) (T := TX9) (N := 28) hc (c_X9_collapse l K r54.2 (xs (ix (x3 + 1))) (xs (ix (x3 + 2)))) sP24 rfl 2 gL_law_X9_collapse rfl ⟨rfl, rfl⟩ (by decide) ⟨Nat.le_of_ble_eq_true rfl, Nat.le_of_ble_eq_true rfl⟩ rfl rfl (Nat.le_of_ble_eq_true rfl) dL_law_746 (fun r55 => ?_)
                                          refine V_icmp_eq (tgt := 1234) hc dL_law_749 (by decide) ?_ ?_
                                          · refine V_iinc (v := (x3 + 5)) (lv' := [(3, .int (x3 + 5)), (0, .ref b), (1, .ref (K.2.2 0)), (2, .ref (K.2.2 24))]) hc dL_law_1234 3 rfl rfl (by decide) rfl ?_
                                            refine V_goto (tgt := 18) hc dL_law_1237 (by decide) ?_
                                            exact V_sub [1, 2, 3, 0] rfl (ih _ _)
                                          · refine V_iconst (v := 0) hc dL_law_752 (by decide) ?_
                                            exact V_law0 hc dL_law_753
                                        · refine V_ite (fun h56 => ?_) (fun h56 => ?_)
                                          · refine V_tsIn (tgt := 754) hc dL_law_32 (by rw [h56] <;> decide) (by rw [h56] <;> decide) (by rw [h56] <;> rfl) (by decide) ?_
                                            refine V_aload_n hc dL_law_754 rfl 1 rfl ?_
                                            refine V_aload_n hc dL_law_755 rfl 0 rfl ?_
                                            refine V_iload_n hc dL_law_756 rfl 3 rfl ?_
                                            refine V_iconst (v := 1) hc dL_law_757 (by decide) ?_
                                            refine V_iadd hc dL_law_758 ?_
                                            refine V_sld hc hX hbl hbA dL_law_759 ?_
                                            refine V_callV_RI (Cn := RX8) (T := TX8) (N := 8) hc (c_X8_stackOf l K y (xs (ix (x3 + 1)))) sP0 rfl 1 gL_law_X8_stackOf rfl ⟨rfl, rfl⟩ (by decide) ⟨Nat.le_of_ble_eq_true rfl, Nat.le_of_ble_eq_true rfl⟩ rfl rfl (Nat.le_of_ble_eq_true rfl) dL_law_760 (fun r57 => ?_)
                                            refine V_aload_n hc dL_law_763 rfl 2 rfl ?_
                                            refine V_aload_n hc dL_law_764 rfl 0 rfl ?_
                                            refine V_iload_n hc dL_law_765 rfl 3 rfl ?_
                                            refine V_iconst (v := 1) hc dL_law_766 (by decide) ?_
                                            refine V_iadd hc dL_law_767 ?_
                                            refine V_sld hc hX hbl hbA dL_law_768 ?_
                                            refine V_callV_RI (Cn := RX9) (T := TX9) (N := 28) hc (c_X9_stackOf l K y (xs (ix (x3 + 1)))) sP24 rfl 1 gL_law_X9_stackOf rfl ⟨rfl, rfl⟩ (by decide) ⟨Nat.le_of_ble_eq_true rfl, Nat.le_of_ble_eq_true rfl⟩ rfl rfl (Nat.le_of_ble_eq_true rfl) dL_law_769 (fun r58 => ?_)
                                            refine V_icmp_eq (tgt := 1234) hc dL_law_772 (by decide) ?_ ?_
                                            · refine V_iinc (v := (x3 + 5)) (lv' := [(3, .int (x3 + 5)), (0, .ref b), (1, .ref (K.2.2 0)), (2, .ref (K.2.2 24))]) hc dL_law_1234 3 rfl rfl (by decide) rfl ?_
                                              refine V_goto (tgt := 18) hc dL_law_1237 (by decide) ?_
                                              exact V_sub [1, 2, 3, 0] rfl (ih _ _)
                                            · refine V_iconst (v := 0) hc dL_law_775 (by decide) ?_
                                              exact V_law0 hc dL_law_776
                                          · refine V_ite (fun h59 => ?_) (fun h59 => ?_)
                                            · refine V_tsIn (tgt := 777) hc dL_law_32 (by rw [h59] <;> decide) (by rw [h59] <;> decide) (by rw [h59] <;> rfl) (by decide) ?_
                                              refine V_aload_n hc dL_law_777 rfl 1 rfl ?_
                                              refine V_aload_n hc dL_law_778 rfl 0 rfl ?_
                                              refine V_iload_n hc dL_law_779 rfl 3 rfl ?_
                                              refine V_iconst (v := 1) hc dL_law_780 (by decide) ?_
                                              refine V_iadd hc dL_law_781 ?_
                                              refine V_sld hc hX hbl hbA dL_law_782 ?_
                                              refine V_callV_RI (Cn := RX8) (T := TX8) (N := 8) hc (c_X8_coverOf l K y (xs (ix (x3 + 1)))) sP0 rfl 1 gL_law_X8_coverOf rfl ⟨rfl, rfl⟩ (by decide) ⟨Nat.le_of_ble_eq_true rfl, Nat.le_of_ble_eq_true rfl⟩ rfl rfl (Nat.le_of_ble_eq_true rfl) dL_law_783 (fun r60 => ?_)
                                              refine V_aload_n hc dL_law_786 rfl 2 rfl ?_
                                              refine V_aload_n hc dL_law_787 rfl 0 rfl ?_
                                              refine V_iload_n hc dL_law_788 rfl 3 rfl ?_
                                              refine V_iconst (v := 1) hc dL_law_789 (by decide) ?_
                                              refine V_iadd hc dL_law_790 ?_
                                              refine V_sld hc hX hbl hbA dL_law_791 ?_
                                              refine V_callV_RI (Cn := RX9) (T := TX9) (N := 28) hc (c_X9_coverOf l K y (xs (ix (x3 + 1)))) sP24 rfl 1 gL_law_X9_coverOf rfl ⟨rfl, rfl⟩ (by decide) ⟨Nat.le_of_ble_eq_true rfl, Nat.le_of_ble_eq_true rfl⟩ rfl rfl (Nat.le_of_ble_eq_true rfl) dL_law_792 (fun r61 => ?_)
                                              refine V_icmp_eq (tgt := 1234) hc dL_law_795 (by decide) ?_ ?_
                                              · refine V_iinc (v := (x3 + 5)) (lv' := [(3, .int (x3 + 5)), (0, .ref b), (1, .ref (K.2.2 0)), (2, .ref (K.2.2 24))]) hc dL_law_1234 3 rfl rfl (by decide) rfl ?_
                                                refine V_goto (tgt := 18) hc dL_law_1237 (by decide) ?_
                                                exact V_sub [1, 2, 3, 0] rfl (ih _ _)
                                              · refine V_iconst (v := 0) hc dL_law_798 (by decide) ?_
                                                exact V_law0 hc dL_law_799
                                            · refine V_ite (fun h62 => ?_) (fun h62 => ?_)
                                              · refine V_tsIn (tgt := 800) hc dL_law_32 (by rw [h62] <;> decide) (by rw [h62] <;> decide) (by rw [h62] <;> rfl) (by decide) ?_
                                                refine V_aload_n hc dL_law_800 rfl 1 rfl ?_
                                                refine V_aload_n hc dL_law_801 rfl 0 rfl ?_
                                                refine V_iload_n hc dL_law_802 rfl 3 rfl ?_
                                                refine V_iconst (v := 1) hc dL_law_803 (by decide) ?_
                                                refine V_iadd hc dL_law_804 ?_
                                                refine V_sld hc hX hbl hbA dL_law_805 ?_
                                                refine V_aload_n hc dL_law_806 rfl 0 rfl ?_
                                                refine V_iload_n hc dL_law_807 rfl 3 rfl ?_
                                                refine V_iconst (v := 2) hc dL_law_808 (by decide) ?_
                                                refine V_iadd hc dL_law_809 ?_
                                                refine V_sld hc hX hbl hbA dL_law_810 ?_
                                                refine V_callV_RI (Cn := RX8) (T := TX8) (N := 8) hc (c_X8_stackAt l K y (xs (ix (x3 + 1))) (xs (ix (x3 + 2)))) sP0 rfl 2 gL_law_X8_stackAt rfl ⟨rfl, rfl⟩ (by decide) ⟨Nat.le_of_ble_eq_true rfl, Nat.le_of_ble_eq_true rfl⟩ rfl rfl (Nat.le_of_ble_eq_true rfl) dL_law_811 (fun r63 => ?_)
                                                refine V_aload_n hc dL_law_814 rfl 2 rfl ?_
                                                refine V_aload_n hc dL_law_815 rfl 0 rfl ?_
                                                refine V_iload_n hc dL_law_816 rfl 3 rfl ?_
                                                refine V_iconst (v := 1) hc dL_law_817 (by decide) ?_
                                                refine V_iadd hc dL_law_818 ?_
                                                refine V_sld hc hX hbl hbA dL_law_819 ?_
                                                refine V_aload_n hc dL_law_820 rfl 0 rfl ?_
                                                refine V_iload_n hc dL_law_821 rfl 3 rfl ?_
                                                refine V_iconst (v := 2) hc dL_law_822 (by decide) ?_
                                                refine V_iadd hc dL_law_823 ?_
                                                refine V_sld hc hX hbl hbA dL_law_824 ?_
                                                refine V_callV_RI (Cn := RX9) (T := TX9) (N := 28) hc (c_X9_stackAt l K y (xs (ix (x3 + 1))) (xs (ix (x3 + 2)))) sP24 rfl 2 gL_law_X9_stackAt rfl ⟨rfl, rfl⟩ (by decide) ⟨Nat.le_of_ble_eq_true rfl, Nat.le_of_ble_eq_true rfl⟩ rfl rfl (Nat.le_of_ble_eq_true rfl) dL_law_825 (fun r64 => ?_)
                                                refine V_icmp_eq (tgt := 1234) hc dL_law_828 (by decide) ?_ ?_
                                                · refine V_iinc (v := (x3 + 5)) (lv' := [(3, .int (x3 + 5)), (0, .ref b), (1, .ref (K.2.2 0)), (2, .ref (K.2.2 24))]) hc dL_law_1234 3 rfl rfl (by decide) rfl ?_
                                                  refine V_goto (tgt := 18) hc dL_law_1237 (by decide) ?_
                                                  exact V_sub [1, 2, 3, 0] rfl (ih _ _)
                                                · refine V_iconst (v := 0) hc dL_law_831 (by decide) ?_
                                                  exact V_law0 hc dL_law_832
                                              · refine V_ite (fun h65 => ?_) (fun h65 => ?_)
                                                · refine V_tsIn (tgt := 833) hc dL_law_32 (by rw [h65] <;> decide) (by rw [h65] <;> decide) (by rw [h65] <;> rfl) (by decide) ?_
                                                  refine V_aload_n hc dL_law_833 rfl 1 rfl ?_
                                                  refine V_aload_n hc dL_law_834 rfl 0 rfl ?_
                                                  refine V_iload_n hc dL_law_835 rfl 3 rfl ?_
                                                  refine V_iconst (v := 1) hc dL_law_836 (by decide) ?_
                                                  refine V_iadd hc dL_law_837 ?_
                                                  refine V_sld hc hX hbl hbA dL_law_838 ?_
                                                  refine V_callV_WI (Cn := RX8) (T := TX8) (N := 8) hc (c_X8_type l K y (xs (ix (x3 + 1)))) sP0 rfl 1 gL_law_X8_type rfl ⟨rfl, rfl⟩ (by decide) ⟨Nat.le_of_ble_eq_true rfl, Nat.le_of_ble_eq_true rfl⟩ rfl rfl (Nat.le_of_ble_eq_true rfl) dL_law_839 (fun r66 => ?_)
                                                  refine V_aload_n hc dL_law_842 rfl 2 rfl ?_
                                                  refine V_aload_n hc dL_law_843 rfl 0 rfl ?_
                                                  refine V_iload_n hc dL_law_844 rfl 3 rfl ?_
                                                  refine V_iconst (v := 1) hc dL_law_845 (by decide) ?_
                                                  refine V_iadd hc dL_law_846 ?_
                                                  refine V_sld hc hX hbl hbA dL_law_847 ?_
                                                  refine V_callV_WI (Cn := RX9) (T := TX9) (N := 28) hc (c_X9_type l K r66.2 (xs (ix (x3 + 1)))) sP24 rfl 1 gL_law_X9_type rfl ⟨rfl, rfl⟩ (by decide) ⟨Nat.le_of_ble_eq_true rfl, Nat.le_of_ble_eq_true rfl⟩ rfl rfl (Nat.le_of_ble_eq_true rfl) dL_law_848 (fun r67 => ?_)
                                                  refine V_icmp_eq (tgt := 1234) hc dL_law_851 (by decide) ?_ ?_
                                                  · refine V_iinc (v := (x3 + 5)) (lv' := [(3, .int (x3 + 5)), (0, .ref b), (1, .ref (K.2.2 0)), (2, .ref (K.2.2 24))]) hc dL_law_1234 3 rfl rfl (by decide) rfl ?_
                                                    refine V_goto (tgt := 18) hc dL_law_1237 (by decide) ?_
                                                    exact V_sub [1, 2, 3, 0] rfl (ih _ _)
                                                  · refine V_iconst (v := 0) hc dL_law_854 (by decide) ?_
                                                    exact V_law0 hc dL_law_855
                                                · refine V_ite (fun h68 => ?_) (fun h68 => ?_)
                                                  · refine V_tsIn (tgt := 856) hc dL_law_32 (by rw [h68] <;> decide) (by rw [h68] <;> decide) (by rw [h68] <;> rfl) (by decide) ?_
                                                    refine V_aload_n hc dL_law_856 rfl 1 rfl ?_
                                                    refine V_callV_WI (Cn := RX8) (T := TX8) (N := 8) hc (c_X8_clearRule l K y ) sP0 rfl 0 gL_law_X8_clearRule rfl ⟨rfl, rfl⟩ (by decide) ⟨Nat.le_of_ble_eq_true rfl, Nat.le_of_ble_eq_true rfl⟩ rfl rfl (Nat.le_of_ble_eq_true rfl) dL_law_857 (fun r69 => ?_)
                                                    refine V_aload_n hc dL_law_860 rfl 2 rfl ?_
                                                    refine V_callV_WI (Cn := RX9) (T := TX9) (N := 28) hc (c_X9_clearRule l K r69.2 ) sP24 rfl 0 gL_law_X9_clearRule rfl ⟨rfl, rfl⟩ (by decide) ⟨Nat.le_of_ble_eq_true rfl, Nat.le_of_ble_eq_true rfl⟩ rfl rfl (Nat.le_of_ble_eq_true rfl) dL_law_861 (fun r70 => ?_)
                                                    refine V_icmp_eq (tgt := 1234) hc dL_law_864 (by decide) ?_ ?_
                                                    · refine V_iinc (v := (x3 + 5)) (lv' := [(3, .int (x3 + 5)), (0, .ref b), (1, .ref (K.2.2 0)), (2, .ref (K.2.2 24))]) hc dL_law_1234 3 rfl rfl (by decide) rfl ?_
                                                      refine V_goto (tgt := 18) hc dL_law_1237 (by decide) ?_
                                                      exact V_sub [1, 2, 3, 0] rfl (ih _ _)
                                                    · refine V_iconst (v := 0) hc dL_law_867 (by decide) ?_
                                                      exact V_law0 hc dL_law_868
                                                  · refine V_ite (fun h71 => ?_) (fun h71 => ?_)
                                                    · refine V_tsIn (tgt := 869) hc dL_law_32 (by rw [h71] <;> decide) (by rw [h71] <;> decide) (by rw [h71] <;> rfl) (by decide) ?_
                                                      refine V_aload_n hc dL_law_869 rfl 1 rfl ?_
                                                      refine V_callV_RI (Cn := RX8) (T := TX8) (N := 8) hc (c_X8_fault l K y ) sP0 rfl 0 gL_law_X8_fault rfl ⟨rfl, rfl⟩ (by decide) ⟨Nat.le_of_ble_eq_true rfl, Nat.le_of_ble_eq_true rfl⟩ rfl rfl (Nat.le_of_ble_eq_true rfl) dL_law_870 (fun r72 => ?_)
                                                      refine V_aload_n hc dL_law_873 rfl 2 rfl ?_
                                                      refine V_callV_RI (Cn := RX9) (T := TX9) (N := 28) hc (c_X9_fault l K y ) sP24 rfl 0 gL_law_X9_fault rfl ⟨rfl, rfl⟩ (by decide) ⟨Nat.le_of_ble_eq_true rfl, Nat.le_of_ble_eq_true rfl⟩ rfl rfl (Nat.le_of_ble_eq_true rfl) dL_law_874 (fun r73 => ?_)
                                                      refine V_icmp_eq (tgt := 1234) hc dL_law_877 (by decide) ?_ ?_
                                                      · refine V_iinc (v := (x3 + 5)) (lv' := [(3, .int (x3 + 5)), (0, .ref b), (1, .ref (K.2.2 0)), (2, .ref (K.2.2 24))]) hc dL_law_1234 3 rfl rfl (by decide) rfl ?_
                                                        refine V_goto (tgt := 18) hc dL_law_1237 (by decide) ?_
                                                        exact V_sub [1, 2, 3, 0] rfl (ih _ _)
                                                      · refine V_iconst (v := 0) hc dL_law_880 (by decide) ?_
                                                        exact V_law0 hc dL_law_881
                                                    · refine V_ite (fun h74 => ?_) (fun h74 => ?_)
                                                      · refine V_tsIn (tgt := 882) hc dL_law_32 (by rw [h74] <;> decide) (by rw [h74] <;> decide) (by rw [h74] <;> rfl) (by decide) ?_
                                                        refine V_aload_n hc dL_law_882 rfl 1 rfl ?_
                                                        refine V_aload_n hc dL_law_883 rfl 0 rfl ?_
                                                        refine V_iload_n hc dL_law_884 rfl 3 rfl ?_
                                                        refine V_iconst (v := 1) hc dL_law_885 (by decide) ?_
                                                        refine V_iadd hc dL_law_886 ?_
                                                        refine V_sld hc hX hbl hbA dL_law_887 ?_
                                                        refine V_callV_WI (Cn := RX8) (T := TX8) (N := 8) hc (c_X8_satisfies l K y (xs (ix (x3 + 1)))) sP0 rfl 1 gL_law_X8_satisfies rfl ⟨rfl, rfl⟩ (by decide) ⟨Nat.le_of_ble_eq_true rfl, Nat.le_of_ble_eq_true rfl⟩ rfl rfl (Nat.le_of_ble_eq_true rfl) dL_law_888 (fun r75 => ?_)
                                                        refine V_aload_n hc dL_law_891 rfl 2 rfl ?_
                                                        refine V_aload_n hc dL_law_892 rfl 0 rfl ?_
                                                        refine V_iload_n hc dL_law_893 rfl 3 rfl ?_
                                                        refine V_iconst (v := 1) hc dL_law_894 (by decide) ?_
                                                        refine V_iadd hc dL_law_895 ?_
                                                        refine V_sld hc hX hbl hbA dL_law_896 ?_
                                                        refine V_callV_WI (Cn := RX9) (T := TX9) (N := 28) hc (c_X9_satisfies l K r75.2 (xs (ix (x3 + 1)))) sP24 rfl 1 gL_law_X9_satisfies rfl ⟨rfl, rfl⟩ (by decide) ⟨Nat.le_of_ble_eq_true rfl, Nat.le_of_ble_eq_true rfl⟩ rfl rfl (Nat.le_of_ble_eq_true rfl) dL_law_897 (fun r76 => ?_)
                                                        refine V_icmp_eq (tgt := 1234) hc dL_law_900 (by decide) ?_ ?_
                                                        · refine V_iinc (v := (x3 + 5)) (lv' := [(3, .int (x3 + 5)), (0, .ref b), (1, .ref (K.2.2 0)), (2, .ref (K.2.2 24))]) hc dL_law_1234 3 rfl rfl (by decide) rfl ?_
                                                          refine V_goto (tgt := 18) hc dL_law_1237 (by decide) ?_
                                                          exact V_sub [1, 2, 3, 0] rfl (ih _ _)
                                                        · refine V_iconst (v := 0) hc dL_law_903 (by decide) ?_
                                                          exact V_law0 hc dL_law_904
                                                      · refine V_ite (fun h77 => ?_) (fun h77 => ?_)
                                                        · refine V_tsIn (tgt := 905) hc dL_law_32 (by rw [h77] <;> decide) (by rw [h77] <;> decide) (by rw [h77] <;> rfl) (by decide) ?_
                                                          refine V_aload_n hc dL_law_905 rfl 1 rfl ?_
                                                          refine V_callV_WI (Cn := RX8) (T := TX8) (N := 8) hc (c_X8_select l K y ) sP0 rfl 0 gL_law_X8_select rfl ⟨rfl, rfl⟩ (by decide) ⟨Nat.le_of_ble_eq_true rfl, Nat.le_of_ble_eq_true rfl⟩ rfl rfl (Nat.le_of_ble_eq_true rfl) dL_law_906 (fun r78 => ?_)
                                                          refine V_aload_n hc dL_law_909 rfl 2 rfl ?_
                                                          refine V_callV_WI (Cn := RX9) (T := TX9) (N := 28) hc (c_X9_select l K r78.2 ) sP24 rfl 0 gL_law_X9_select rfl ⟨rfl, rfl⟩ (by decide) ⟨Nat.le_of_ble_eq_true rfl, Nat.le_of_ble_eq_true rfl⟩ rfl rfl (Nat.le_of_ble_eq_true rfl) dL_law_910 (fun r79 => ?_)
                                                          refine V_icmp_eq (tgt := 1234) hc dL_law_913 (by decide) ?_ ?_
                                                          · refine V_iinc (v := (x3 + 5)) (lv' := [(3, .int (x3 + 5)), (0, .ref b), (1, .ref (K.2.2 0)), (2, .ref (K.2.2 24))]) hc dL_law_1234 3 rfl rfl (by decide) rfl ?_
                                                            refine V_goto (tgt := 18) hc dL_law_1237 (by decide) ?_
                                                            exact V_sub [1, 2, 3, 0] rfl (ih _ _)
                                                          · refine V_iconst (v := 0) hc dL_law_916 (by decide) ?_
                                                            exact V_law0 hc dL_law_917
                                                        · refine V_ite (fun h80 => ?_) (fun h80 => ?_)
                                                          · refine V_tsIn (tgt := 918) hc dL_law_32 (by rw [h80] <;> decide) (by rw [h80] <;> decide) (by rw [h80] <;> rfl) (by decide) ?_
                                                            refine V_aload_n hc dL_law_918 rfl 1 rfl ?_
                                                            refine V_callV_WI (Cn := RX8) (T := TX8) (N := 8) hc (c_X8_makeAlbum l K y ) sP0 rfl 0 gL_law_X8_makeAlbum rfl ⟨rfl, rfl⟩ (by decide) ⟨Nat.le_of_ble_eq_true rfl, Nat.le_of_ble_eq_true rfl⟩ rfl rfl (Nat.le_of_ble_eq_true rfl) dL_law_919 (fun r81 => ?_)
                                                            refine V_aload_n hc dL_law_922 rfl 2 rfl ?_
                                                            refine V_callV_WI (Cn := RX9) (T := TX9) (N := 28) hc (c_X9_makeAlbum l K r81.2 ) sP24 rfl 0 gL_law_X9_makeAlbum rfl ⟨rfl, rfl⟩ (by decide) ⟨Nat.le_of_ble_eq_true rfl, Nat.le_of_ble_eq_true rfl⟩ rfl rfl (Nat.le_of_ble_eq_true rfl) dL_law_923 (fun r82 => ?_)
                                                            refine V_icmp_eq (tgt := 1234) hc dL_law_926 (by decide) ?_ ?_
                                                            · refine V_iinc (v := (x3 + 5)) (lv' := [(3, .int (x3 + 5)), (0, .ref b), (1, .ref (K.2.2 0)), (2, .ref (K.2.2 24))]) hc dL_law_1234 3 rfl rfl (by decide) rfl ?_
                                                              refine V_goto (tgt := 18) hc dL_law_1237 (by decide) ?_
                                                              exact V_sub [1, 2, 3, 0] rfl (ih _ _)
                                                            · refine V_iconst (v := 0) hc dL_law_929 (by decide) ?_
                                                              exact V_law0 hc dL_law_930
                                                          · refine V_ite (fun h83 => ?_) (fun h83 => ?_)
                                                            · refine V_tsIn (tgt := 931) hc dL_law_32 (by rw [h83] <;> decide) (by rw [h83] <;> decide) (by rw [h83] <;> rfl) (by decide) ?_
                                                              refine V_aload_n hc dL_law_931 rfl 1 rfl ?_
                                                              refine V_aload_n hc dL_law_932 rfl 0 rfl ?_
                                                              refine V_iload_n hc dL_law_933 rfl 3 rfl ?_
                                                              refine V_iconst (v := 1) hc dL_law_934 (by decide) ?_
                                                              refine V_iadd hc dL_law_935 ?_
                                                              refine V_sld hc hX hbl hbA dL_law_936 ?_
                                                              refine V_callV_WI (Cn := RX8) (T := TX8) (N := 8) hc (c_X8_removeAlbum l K y (xs (ix (x3 + 1)))) sP0 rfl 1 gL_law_X8_removeAlbum rfl ⟨rfl, rfl⟩ (by decide) ⟨Nat.le_of_ble_eq_true rfl, Nat.le_of_ble_eq_true rfl⟩ rfl rfl (Nat.le_of_ble_eq_true rfl) dL_law_937 (fun r84 => ?_)
                                                              refine V_aload_n hc dL_law_940 rfl 2 rfl ?_
                                                              refine V_aload_n hc dL_law_941 rfl 0 rfl ?_
                                                              refine V_iload_n hc dL_law_942 rfl 3 rfl ?_
                                                              refine V_iconst (v := 1) hc dL_law_943 (by decide) ?_
                                                              refine V_iadd hc dL_law_944 ?_
                                                              refine V_sld hc hX hbl hbA dL_law_945 ?_
                                                              refine V_callV_WI (Cn := RX9) (T := TX9) (N := 28) hc (c_X9_removeAlbum l K r84.2 (xs (ix (x3 + 1)))) sP24 rfl 1 gL_law_X9_removeAlbum rfl ⟨rfl, rfl⟩ (by decide) ⟨Nat.le_of_ble_eq_true rfl, Nat.le_of_ble_eq_true rfl⟩ rfl rfl (Nat.le_of_ble_eq_true rfl) dL_law_946 (fun r85 => ?_)
                                                              refine V_icmp_eq (tgt := 1234) hc dL_law_949 (by decide) ?_ ?_
                                                              · refine V_iinc (v := (x3 + 5)) (lv' := [(3, .int (x3 + 5)), (0, .ref b), (1, .ref (K.2.2 0)), (2, .ref (K.2.2 24))]) hc dL_law_1234 3 rfl rfl (by decide) rfl ?_
                                                                refine V_goto (tgt := 18) hc dL_law_1237 (by decide) ?_
                                                                exact V_sub [1, 2, 3, 0] rfl (ih _ _)
                                                              · refine V_iconst (v := 0) hc dL_law_952 (by decide) ?_
                                                                exact V_law0 hc dL_law_953
                                                            · refine V_ite (fun h86 => ?_) (fun h86 => ?_)
                                                              · refine V_tsIn (tgt := 954) hc dL_law_32 (by rw [h86] <;> decide) (by rw [h86] <;> decide) (by rw [h86] <;> rfl) (by decide) ?_
                                                                refine V_aload_n hc dL_law_954 rfl 1 rfl ?_
                                                                refine V_aload_n hc dL_law_955 rfl 0 rfl ?_
                                                                refine V_iload_n hc dL_law_956 rfl 3 rfl ?_
                                                                refine V_iconst (v := 1) hc dL_law_957 (by decide) ?_
                                                                refine V_iadd hc dL_law_958 ?_
                                                                refine V_sld hc hX hbl hbA dL_law_959 ?_
                                                                refine V_callV_WI (Cn := RX8) (T := TX8) (N := 8) hc (c_X8_changeRule l K y (xs (ix (x3 + 1)))) sP0 rfl 1 gL_law_X8_changeRule rfl ⟨rfl, rfl⟩ (by decide) ⟨Nat.le_of_ble_eq_true rfl, Nat.le_of_ble_eq_true rfl⟩ rfl rfl (Nat.le_of_ble_eq_true rfl) dL_law_960 (fun r87 => ?_)
                                                                refine V_aload_n hc dL_law_963 rfl 2 rfl ?_
                                                                refine V_aload_n hc dL_law_964 rfl 0 rfl ?_
                                                                refine V_iload_n hc dL_law_965 rfl 3 rfl ?_
                                                                refine V_iconst (v := 1) hc dL_law_966 (by decide) ?_
                                                                refine V_iadd hc dL_law_967 ?_
                                                                refine V_sld hc hX hbl hbA dL_law_968 ?_
                                                                refine V_callV_WI (Cn := RX9) (T := TX9) (N := 28) hc (c_X9_changeRule l K r87.2 (xs (ix (x3 + 1)))) sP24 rfl 1 gL_law_X9_changeRule rfl ⟨rfl, rfl⟩ (by decide) ⟨Nat.le_of_ble_eq_true rfl, Nat.le_of_ble_eq_true rfl⟩ rfl rfl (Nat.le_of_ble_eq_true rfl) dL_law_969 (fun r88 => ?_)
                                                                refine V_icmp_eq (tgt := 1234) hc dL_law_972 (by decide) ?_ ?_
                                                                · refine V_iinc (v := (x3 + 5)) (lv' := [(3, .int (x3 + 5)), (0, .ref b), (1, .ref (K.2.2 0)), (2, .ref (K.2.2 24))]) hc dL_law_1234 3 rfl rfl (by decide) rfl ?_
                                                                  refine V_goto (tgt := 18) hc dL_law_1237 (by decide) ?_
                                                                  exact V_sub [1, 2, 3, 0] rfl (ih _ _)
                                                                · refine V_iconst (v := 0) hc dL_law_975 (by decide) ?_
                                                                  exact V_law0 hc dL_law_976
                                                              · refine V_ite (fun h89 => ?_) (fun h89 => ?_)
                                                                · refine V_tsIn (tgt := 977) hc dL_law_32 (by rw [h89] <;> decide) (by rw [h89] <;> decide) (by rw [h89] <;> rfl) (by decide) ?_
                                                                  refine V_aload_n hc dL_law_977 rfl 1 rfl ?_
                                                                  refine V_aload_n hc dL_law_978 rfl 0 rfl ?_
                                                                  refine V_iload_n hc dL_law_979 rfl 3 rfl ?_
                                                                  refine V_iconst (v := 1) hc dL_law_980 (by decide) ?_
                                                                  refine V_iadd hc dL_law_981 ?_
                                                                  refine V_sld hc hX hbl hbA dL_law_982 ?_
                                                                  refine V_callV_RI (Cn := RX8) (T := TX8) (N := 8) hc (c_X8_albumSize l K y (xs (ix (x3 + 1)))) sP0 rfl 1 gL_law_X8_albumSize rfl ⟨rfl, rfl⟩ (by decide) ⟨Nat.le_of_ble_eq_true rfl, Nat.le_of_ble_eq_true rfl⟩ rfl rfl (Nat.le_of_ble_eq_true rfl) dL_law_983 (fun r90 => ?_)
                                                                  refine V_aload_n hc dL_law_986 rfl 2 rfl ?_
                                                                  refine V_aload_n hc dL_law_987 rfl 0 rfl ?_
                                                                  refine V_iload_n hc dL_law_988 rfl 3 rfl ?_
                                                                  refine V_iconst (v := 1) hc dL_law_989 (by decide) ?_
                                                                  refine V_iadd hc dL_law_990 ?_
                                                                  refine V_sld hc hX hbl hbA dL_law_991 ?_
                                                                  refine V_callV_RI (Cn := RX9) (T := TX9) (N := 28) hc (c_X9_albumSize l K y (xs (ix (x3 + 1)))) sP24 rfl 1 gL_law_X9_albumSize rfl ⟨rfl, rfl⟩ (by decide) ⟨Nat.le_of_ble_eq_true rfl, Nat.le_of_ble_eq_true rfl⟩ rfl rfl (Nat.le_of_ble_eq_true rfl) dL_law_992 (fun r91 => ?_)
                                                                  refine V_icmp_eq (tgt := 1234) hc dL_law_995 (by decide) ?_ ?_
                                                                  · refine V_iinc (v := (x3 + 5)) (lv' := [(3, .int (x3 + 5)), (0, .ref b), (1, .ref (K.2.2 0)), (2, .ref (K.2.2 24))]) hc dL_law_1234 3 rfl rfl (by decide) rfl ?_
                                                                    refine V_goto (tgt := 18) hc dL_law_1237 (by decide) ?_
                                                                    exact V_sub [1, 2, 3, 0] rfl (ih _ _)
                                                                  · refine V_iconst (v := 0) hc dL_law_998 (by decide) ?_
                                                                    exact V_law0 hc dL_law_999
                                                                · refine V_ite (fun h92 => ?_) (fun h92 => ?_)
                                                                  · refine V_tsIn (tgt := 1000) hc dL_law_32 (by rw [h92] <;> decide) (by rw [h92] <;> decide) (by rw [h92] <;> rfl) (by decide) ?_
                                                                    refine V_aload_n hc dL_law_1000 rfl 1 rfl ?_
                                                                    refine V_aload_n hc dL_law_1001 rfl 0 rfl ?_
                                                                    refine V_iload_n hc dL_law_1002 rfl 3 rfl ?_
                                                                    refine V_iconst (v := 1) hc dL_law_1003 (by decide) ?_
                                                                    refine V_iadd hc dL_law_1004 ?_
                                                                    refine V_sld hc hX hbl hbA dL_law_1005 ?_
                                                                    refine V_aload_n hc dL_law_1006 rfl 0 rfl ?_
                                                                    refine V_iload_n hc dL_law_1007 rfl 3 rfl ?_
                                                                    refine V_iconst (v := 2) hc dL_law_1008 (by decide) ?_
                                                                    refine V_iadd hc dL_law_1009 ?_
                                                                    refine V_sld hc hX hbl hbA dL_law_1010 ?_
                                                                    refine V_callV_RI (Cn := RX8) (T := TX8) (N := 8) hc (c_X8_isIn l K y (xs (ix (x3 + 1))) (xs (ix (x3 + 2)))) sP0 rfl 2 gL_law_X8_isIn rfl ⟨rfl, rfl⟩ (by decide) ⟨Nat.le_of_ble_eq_true rfl, Nat.le_of_ble_eq_true rfl⟩ rfl rfl (Nat.le_of_ble_eq_true rfl) dL_law_1011 (fun r93 => ?_)
                                                                    refine V_aload_n hc dL_law_1014 rfl 2 rfl ?_
                                                                    refine V_aload_n hc dL_law_1015 rfl 0 rfl ?_
                                                                    refine V_iload_n hc dL_law_1016 rfl 3 rfl ?_
                                                                    refine V_iconst (v := 1) hc dL_law_1017 (by decide) ?_
                                                                    refine V_iadd hc dL_law_1018 ?_
                                                                    refine V_sld hc hX hbl hbA dL_law_1019 ?_
                                                                    refine V_aload_n hc dL_law_1020 rfl 0 rfl ?_
                                                                    refine V_iload_n hc dL_law_1021 rfl 3 rfl ?_
                                                                    refine V_iconst (v := 2) hc dL_law_1022 (by decide) ?_
                                                                    refine V_iadd hc dL_law_1023 ?_
                                                                    refine V_sld hc hX hbl hbA dL_law_1024 ?_
                                                                    refine V_callV_RI (Cn := RX9) (T := TX9) (N := 28) hc (c_X9_isIn l K y (xs (ix (x3 + 1))) (xs (ix (x3 + 2)))) sP24 rfl 2 gL_law_X9_isIn rfl ⟨rfl, rfl⟩ (by decide) ⟨Nat.le_of_ble_eq_true rfl, Nat.le_of_ble_eq_true rfl⟩ rfl rfl (Nat.le_of_ble_eq_true rfl) dL_law_1025 (fun r94 => ?_)
                                                                    refine V_icmp_eq (tgt := 1234) hc dL_law_1028 (by decide) ?_ ?_
                                                                    · refine V_iinc (v := (x3 + 5)) (lv' := [(3, .int (x3 + 5)), (0, .ref b), (1, .ref (K.2.2 0)), (2, .ref (K.2.2 24))]) hc dL_law_1234 3 rfl rfl (by decide) rfl ?_
                                                                      refine V_goto (tgt := 18) hc dL_law_1237 (by decide) ?_
                                                                      exact V_sub [1, 2, 3, 0] rfl (ih _ _)
                                                                    · refine V_iconst (v := 0) hc dL_law_1031 (by decide) ?_
                                                                      exact V_law0 hc dL_law_1032
                                                                  · refine V_ite (fun h95 => ?_) (fun h95 => ?_)
                                                                    · refine V_tsIn (tgt := 1033) hc dL_law_32 (by rw [h95] <;> decide) (by rw [h95] <;> decide) (by rw [h95] <;> rfl) (by decide) ?_
                                                                      refine V_aload_n hc dL_law_1033 rfl 1 rfl ?_
                                                                      refine V_aload_n hc dL_law_1034 rfl 0 rfl ?_
                                                                      refine V_iload_n hc dL_law_1035 rfl 3 rfl ?_
                                                                      refine V_iconst (v := 1) hc dL_law_1036 (by decide) ?_
                                                                      refine V_iadd hc dL_law_1037 ?_
                                                                      refine V_sld hc hX hbl hbA dL_law_1038 ?_
                                                                      refine V_aload_n hc dL_law_1039 rfl 0 rfl ?_
                                                                      refine V_iload_n hc dL_law_1040 rfl 3 rfl ?_
                                                                      refine V_iconst (v := 2) hc dL_law_1041 (by decide) ?_
                                                                      refine V_iadd hc dL_law_1042 ?_
                                                                      refine V_sld hc hX hbl hbA dL_law_1043 ?_
                                                                      refine V_aload_n hc dL_law_1044 rfl 0 rfl ?_
                                                                      refine V_iload_n hc dL_law_1045 rfl 3 rfl ?_
                                                                      refine V_iconst (v := 3) hc dL_law_1046 (by decide) ?_
                                                                      refine V_iadd hc dL_law_1047 ?_
                                                                      refine V_sld hc hX hbl hbA dL_law_1048 ?_
                                                                      refine V_callV_WI (Cn := RX8) (T := TX8) (N := 8) hc (c_X8_sortBy l K y (xs (ix (x3 + 1))) (xs (ix (x3 + 2))) (xs (ix (x3 + 3)))) sP0 rfl 3 gL_law_X8_sortBy rfl ⟨rfl, rfl⟩ (by decide) ⟨Nat.le_of_ble_eq_true rfl, Nat.le_of_ble_eq_true rfl⟩ rfl rfl (Nat.le_of_ble_eq_true rfl) dL_law_1049 (fun r96 => ?_)
                                                                      refine V_aload_n hc dL_law_1052 rfl 2 rfl ?_
                                                                      refine V_aload_n hc dL_law_1053 rfl 0 rfl ?_
                                                                      refine V_iload_n hc dL_law_1054 rfl 3 rfl ?_
                                                                      refine V_iconst (v := 1) hc dL_law_1055 (by decide) ?_
                                                                      refine V_iadd hc dL_law_1056 ?_
                                                                      refine V_sld hc hX hbl hbA dL_law_1057 ?_
                                                                      refine V_aload_n hc dL_law_1058 rfl 0 rfl ?_
                                                                      refine V_iload_n hc dL_law_1059 rfl 3 rfl ?_
                                                                      refine V_iconst (v := 2) hc dL_law_1060 (by decide) ?_
                                                                      refine V_iadd hc dL_law_1061 ?_
                                                                      refine V_sld hc hX hbl hbA dL_law_1062 ?_
                                                                      refine V_aload_n hc dL_law_1063 rfl 0 rfl ?_
                                                                      refine V_iload_n hc dL_law_1064 rfl 3 rfl ?_
                                                                      refine V_iconst (v := 3) hc dL_law_1065 (by decide) ?_
                                                                      refine V_iadd hc dL_law_1066 ?_
                                                                      refine V_sld hc hX hbl hbA dL_law_1067 ?_
                                                                      refine V_callV_WI (Cn := RX9) (T := TX9) (N := 28) hc (c_X9_sortBy l K r96.2 (xs (ix (x3 + 1))) (xs (ix (x3 + 2))) (xs (ix (x3 + 3)))) sP24 rfl 3 gL_law_X9_sortBy rfl ⟨rfl, rfl⟩ (by decide) ⟨Nat.le_of_ble_eq_true rfl, Nat.le_of_ble_eq_true rfl⟩ rfl rfl (Nat.le_of_ble_eq_true rfl) dL_law_1068 (fun r97 => ?_)
                                                                      refine V_icmp_eq (tgt := 1234) hc dL_law_1071 (by decide) ?_ ?_
                                                                      · refine V_iinc (v := (x3 + 5)) (lv' := [(3, .int (x3 + 5)), (0, .ref b), (1, .ref (K.2.2 0)), (2, .ref (K.2.2 24))]) hc dL_law_1234 3 rfl rfl (by decide) rfl ?_
                                                                        refine V_goto (tgt := 18) hc dL_law_1237 (by decide) ?_
                                                                        exact V_sub [1, 2, 3, 0] rfl (ih _ _)
                                                                      · refine V_iconst (v := 0) hc dL_law_1074 (by decide) ?_
                                                                        exact V_law0 hc dL_law_1075
                                                                    · refine V_ite (fun h98 => ?_) (fun h98 => ?_)
                                                                      · refine V_tsIn (tgt := 1076) hc dL_law_32 (by rw [h98] <;> decide) (by rw [h98] <;> decide) (by rw [h98] <;> rfl) (by decide) ?_
                                                                        refine V_aload_n hc dL_law_1076 rfl 1 rfl ?_
                                                                        refine V_aload_n hc dL_law_1077 rfl 0 rfl ?_
                                                                        refine V_iload_n hc dL_law_1078 rfl 3 rfl ?_
                                                                        refine V_iconst (v := 1) hc dL_law_1079 (by decide) ?_
                                                                        refine V_iadd hc dL_law_1080 ?_
                                                                        refine V_sld hc hX hbl hbA dL_law_1081 ?_
                                                                        refine V_callV_RI (Cn := RX8) (T := TX8) (N := 8) hc (c_X8_viewSize l K y (xs (ix (x3 + 1)))) sP0 rfl 1 gL_law_X8_viewSize rfl ⟨rfl, rfl⟩ (by decide) ⟨Nat.le_of_ble_eq_true rfl, Nat.le_of_ble_eq_true rfl⟩ rfl rfl (Nat.le_of_ble_eq_true rfl) dL_law_1082 (fun r99 => ?_)
                                                                        refine V_aload_n hc dL_law_1085 rfl 2 rfl ?_
                                                                        refine V_aload_n hc dL_law_1086 rfl 0 rfl ?_
                                                                        refine V_iload_n hc dL_law_1087 rfl 3 rfl ?_
                                                                        refine V_iconst (v := 1) hc dL_law_1088 (by decide) ?_
                                                                        refine V_iadd hc dL_law_1089 ?_
                                                                        refine V_sld hc hX hbl hbA dL_law_1090 ?_
                                                                        refine V_callV_RI (Cn := RX9) (T := TX9) (N := 28) hc (c_X9_viewSize l K y (xs (ix (x3 + 1)))) sP24 rfl 1 gL_law_X9_viewSize rfl ⟨rfl, rfl⟩ (by decide) ⟨Nat.le_of_ble_eq_true rfl, Nat.le_of_ble_eq_true rfl⟩ rfl rfl (Nat.le_of_ble_eq_true rfl) dL_law_1091 (fun r100 => ?_)
                                                                        refine V_icmp_eq (tgt := 1234) hc dL_law_1094 (by decide) ?_ ?_
                                                                        · refine V_iinc (v := (x3 + 5)) (lv' := [(3, .int (x3 + 5)), (0, .ref b), (1, .ref (K.2.2 0)), (2, .ref (K.2.2 24))]) hc dL_law_1234 3 rfl rfl (by decide) rfl ?_
                                                                          refine V_goto (tgt := 18) hc dL_law_1237 (by decide) ?_
                                                                          exact V_sub [1, 2, 3, 0] rfl (ih _ _)
                                                                        · refine V_iconst (v := 0) hc dL_law_1097 (by decide) ?_
                                                                          exact V_law0 hc dL_law_1098
                                                                      · refine V_ite (fun h101 => ?_) (fun h101 => ?_)
                                                                        · refine V_tsIn (tgt := 1099) hc dL_law_32 (by rw [h101] <;> decide) (by rw [h101] <;> decide) (by rw [h101] <;> rfl) (by decide) ?_
                                                                          refine V_aload_n hc dL_law_1099 rfl 1 rfl ?_
                                                                          refine V_aload_n hc dL_law_1100 rfl 0 rfl ?_
                                                                          refine V_iload_n hc dL_law_1101 rfl 3 rfl ?_
                                                                          refine V_iconst (v := 1) hc dL_law_1102 (by decide) ?_
                                                                          refine V_iadd hc dL_law_1103 ?_
                                                                          refine V_sld hc hX hbl hbA dL_law_1104 ?_
                                                                          refine V_aload_n hc dL_law_1105 rfl 0 rfl ?_
                                                                          refine V_iload_n hc dL_law_1106 rfl 3 rfl ?_
                                                                          refine V_iconst (v := 2) hc dL_law_1107 (by decide) ?_
                                                                          refine V_iadd hc dL_law_1108 ?_
                                                                          refine V_sld hc hX hbl hbA dL_law_1109 ?_
                                                                          refine V_callV_RI (Cn := RX8) (T := TX8) (N := 8) hc (c_X8_viewAt l K y (xs (ix (x3 + 1))) (xs (ix (x3 + 2)))) sP0 rfl 2 gL_law_X8_viewAt rfl ⟨rfl, rfl⟩ (by decide) ⟨Nat.le_of_ble_eq_true rfl, Nat.le_of_ble_eq_true rfl⟩ rfl rfl (Nat.le_of_ble_eq_true rfl) dL_law_1110 (fun r102 => ?_)
                                                                          refine V_aload_n hc dL_law_1113 rfl 2 rfl ?_
                                                                          refine V_aload_n hc dL_law_1114 rfl 0 rfl ?_
                                                                          refine V_iload_n hc dL_law_1115 rfl 3 rfl ?_
                                                                          refine V_iconst (v := 1) hc dL_law_1116 (by decide) ?_
                                                                          refine V_iadd hc dL_law_1117 ?_
                                                                          refine V_sld hc hX hbl hbA dL_law_1118 ?_
                                                                          refine V_aload_n hc dL_law_1119 rfl 0 rfl ?_
                                                                          refine V_iload_n hc dL_law_1120 rfl 3 rfl ?_
                                                                          refine V_iconst (v := 2) hc dL_law_1121 (by decide) ?_
                                                                          refine V_iadd hc dL_law_1122 ?_
                                                                          refine V_sld hc hX hbl hbA dL_law_1123 ?_
                                                                          refine V_callV_RI (Cn := RX9) (T := TX9) (N := 28) hc (c_X9_viewAt l K y (xs (ix (x3 + 1))) (xs (ix (x3 + 2)))) sP24 rfl 2 gL_law_X9_viewAt rfl ⟨rfl, rfl⟩ (by decide) ⟨Nat.le_of_ble_eq_true rfl, Nat.le_of_ble_eq_true rfl⟩ rfl rfl (Nat.le_of_ble_eq_true rfl) dL_law_1124 (fun r103 => ?_)
                                                                          refine V_icmp_eq (tgt := 1234) hc dL_law_1127 (by decide) ?_ ?_
                                                                          · refine V_iinc (v := (x3 + 5)) (lv' := [(3, .int (x3 + 5)), (0, .ref b), (1, .ref (K.2.2 0)), (2, .ref (K.2.2 24))]) hc dL_law_1234 3 rfl rfl (by decide) rfl ?_
                                                                            refine V_goto (tgt := 18) hc dL_law_1237 (by decide) ?_
                                                                            exact V_sub [1, 2, 3, 0] rfl (ih _ _)
                                                                          · refine V_iconst (v := 0) hc dL_law_1130 (by decide) ?_
                                                                            exact V_law0 hc dL_law_1131
                                                                        · refine V_ite (fun h104 => ?_) (fun h104 => ?_)
                                                                          · refine V_tsIn (tgt := 1132) hc dL_law_32 (by rw [h104] <;> decide) (by rw [h104] <;> decide) (by rw [h104] <;> rfl) (by decide) ?_
                                                                            refine V_aload_n hc dL_law_1132 rfl 1 rfl ?_
                                                                            refine V_callV_RI (Cn := RX8) (T := TX8) (N := 8) hc (c_X8_journalSize l K y ) sP0 rfl 0 gL_law_X8_journalSize rfl ⟨rfl, rfl⟩ (by decide) ⟨Nat.le_of_ble_eq_true rfl, Nat.le_of_ble_eq_true rfl⟩ rfl rfl (Nat.le_of_ble_eq_true rfl) dL_law_1133 (fun r105 => ?_)
                                                                            refine V_aload_n hc dL_law_1136 rfl 2 rfl ?_
                                                                            refine V_callV_RI (Cn := RX9) (T := TX9) (N := 28) hc (c_X9_journalSize l K y ) sP24 rfl 0 gL_law_X9_journalSize rfl ⟨rfl, rfl⟩ (by decide) ⟨Nat.le_of_ble_eq_true rfl, Nat.le_of_ble_eq_true rfl⟩ rfl rfl (Nat.le_of_ble_eq_true rfl) dL_law_1137 (fun r106 => ?_)
                                                                            refine V_icmp_eq (tgt := 1234) hc dL_law_1140 (by decide) ?_ ?_
                                                                            · refine V_iinc (v := (x3 + 5)) (lv' := [(3, .int (x3 + 5)), (0, .ref b), (1, .ref (K.2.2 0)), (2, .ref (K.2.2 24))]) hc dL_law_1234 3 rfl rfl (by decide) rfl ?_
                                                                              refine V_goto (tgt := 18) hc dL_law_1237 (by decide) ?_
                                                                              exact V_sub [1, 2, 3, 0] rfl (ih _ _)
                                                                            · refine V_iconst (v := 0) hc dL_law_1143 (by decide) ?_
                                                                              exact V_law0 hc dL_law_1144
                                                                          · refine V_ite (fun h107 => ?_) (fun h107 => ?_)
                                                                            · refine V_tsIn (tgt := 1145) hc dL_law_32 (by rw [h107] <;> decide) (by rw [h107] <;> decide) (by rw [h107] <;> rfl) (by decide) ?_
                                                                              refine V_aload_n hc dL_law_1145 rfl 1 rfl ?_
                                                                              refine V_aload_n hc dL_law_1146 rfl 0 rfl ?_
                                                                              refine V_iload_n hc dL_law_1147 rfl 3 rfl ?_
                                                                              refine V_iconst (v := 1) hc dL_law_1148 (by decide) ?_
                                                                              refine V_iadd hc dL_law_1149 ?_
                                                                              refine V_sld hc hX hbl hbA dL_law_1150 ?_
                                                                              refine V_aload_n hc dL_law_1151 rfl 0 rfl ?_
                                                                              refine V_iload_n hc dL_law_1152 rfl 3 rfl ?_
                                                                              refine V_iconst (v := 2) hc dL_law_1153 (by decide) ?_
                                                                              refine V_iadd hc dL_law_1154 ?_
                                                                              refine V_sld hc hX hbl hbA dL_law_1155 ?_
                                                                              refine V_callV_RI (Cn := RX8) (T := TX8) (N := 8) hc (c_X8_journalAt l K y (xs (ix (x3 + 1))) (xs (ix (x3 + 2)))) sP0 rfl 2 gL_law_X8_journalAt rfl ⟨rfl, rfl⟩ (by decide) ⟨Nat.le_of_ble_eq_true rfl, Nat.le_of_ble_eq_true rfl⟩ rfl rfl (Nat.le_of_ble_eq_true rfl) dL_law_1156 (fun r108 => ?_)
                                                                              refine V_aload_n hc dL_law_1159 rfl 2 rfl ?_
                                                                              refine V_aload_n hc dL_law_1160 rfl 0 rfl ?_
                                                                              refine V_iload_n hc dL_law_1161 rfl 3 rfl ?_
                                                                              refine V_iconst (v := 1) hc dL_law_1162 (by decide) ?_
                                                                              refine V_iadd hc dL_law_1163 ?_
                                                                              refine V_sld hc hX hbl hbA dL_law_1164 ?_
                                                                              refine V_aload_n hc dL_law_1165 rfl 0 rfl ?_
                                                                              refine V_iload_n hc dL_law_1166 rfl 3 rfl ?_
                                                                              refine V_iconst (v := 2) hc dL_law_1167 (by decide) ?_
                                                                              refine V_iadd hc dL_law_1168 ?_
                                                                              refine V_sld hc hX hbl hbA dL_law_1169 ?_
                                                                              refine V_callV_RI (Cn := RX9) (T := TX9) (N := 28) hc (c_X9_journalAt l K y (xs (ix (x3 + 1))) (xs (ix (x3 + 2)))) sP24 rfl 2 gL_law_X9_journalAt rfl ⟨rfl, rfl⟩ (by decide) ⟨Nat.le_of_ble_eq_true rfl, Nat.le_of_ble_eq_true rfl⟩ rfl rfl (Nat.le_of_ble_eq_true rfl) dL_law_1170 (fun r109 => ?_)
                                                                              refine V_icmp_eq (tgt := 1234) hc dL_law_1173 (by decide) ?_ ?_
                                                                              · refine V_iinc (v := (x3 + 5)) (lv' := [(3, .int (x3 + 5)), (0, .ref b), (1, .ref (K.2.2 0)), (2, .ref (K.2.2 24))]) hc dL_law_1234 3 rfl rfl (by decide) rfl ?_
                                                                                refine V_goto (tgt := 18) hc dL_law_1237 (by decide) ?_
                                                                                exact V_sub [1, 2, 3, 0] rfl (ih _ _)
                                                                              · refine V_iconst (v := 0) hc dL_law_1176 (by decide) ?_
                                                                                exact V_law0 hc dL_law_1177
                                                                            · refine V_ite (fun h110 => ?_) (fun h110 => ?_)
                                                                              · refine V_tsIn (tgt := 1178) hc dL_law_32 (by rw [h110] <;> decide) (by rw [h110] <;> decide) (by rw [h110] <;> rfl) (by decide) ?_
                                                                                refine V_aload_n hc dL_law_1178 rfl 1 rfl ?_
                                                                                refine V_aload_n hc dL_law_1179 rfl 0 rfl ?_
                                                                                refine V_iload_n hc dL_law_1180 rfl 3 rfl ?_
                                                                                refine V_iconst (v := 1) hc dL_law_1181 (by decide) ?_
                                                                                refine V_iadd hc dL_law_1182 ?_
                                                                                refine V_sld hc hX hbl hbA dL_law_1183 ?_
                                                                                refine V_aload_n hc dL_law_1184 rfl 0 rfl ?_
                                                                                refine V_iload_n hc dL_law_1185 rfl 3 rfl ?_
                                                                                refine V_iconst (v := 2) hc dL_law_1186 (by decide) ?_
                                                                                refine V_iadd hc dL_law_1187 ?_
                                                                                refine V_sld hc hX hbl hbA dL_law_1188 ?_
                                                                                refine V_callV_RI (Cn := RX8) (T := TX8) (N := 8) hc (c_X8_turnover l K y (xs (ix (x3 + 1))) (xs (ix (x3 + 2)))) sP0 rfl 2 gL_law_X8_turnover rfl ⟨rfl, rfl⟩ (by decide) ⟨Nat.le_of_ble_eq_true rfl, Nat.le_of_ble_eq_true rfl⟩ rfl rfl (Nat.le_of_ble_eq_true rfl) dL_law_1189 (fun r111 => ?_)
                                                                                refine V_aload_n hc dL_law_1192 rfl 2 rfl ?_
                                                                                refine V_aload_n hc dL_law_1193 rfl 0 rfl ?_
                                                                                refine V_iload_n hc dL_law_1194 rfl 3 rfl ?_
                                                                                refine V_iconst (v := 1) hc dL_law_1195 (by decide) ?_
                                                                                refine V_iadd hc dL_law_1196 ?_
                                                                                refine V_sld hc hX hbl hbA dL_law_1197 ?_
                                                                                refine V_aload_n hc dL_law_1198 rfl 0 rfl ?_
                                                                                refine V_iload_n hc dL_law_1199 rfl 3 rfl ?_
                                                                                refine V_iconst (v := 2) hc dL_law_1200 (by decide) ?_
                                                                                refine V_iadd hc dL_law_1201 ?_
                                                                                refine V_sld hc hX hbl hbA dL_law_1202 ?_
                                                                                refine V_callV_RI (Cn := RX9) (T := TX9) (N := 28) hc (c_X9_turnover l K y (xs (ix (x3 + 1))) (xs (ix (x3 + 2)))) sP24 rfl 2 gL_law_X9_turnover rfl ⟨rfl, rfl⟩ (by decide) ⟨Nat.le_of_ble_eq_true rfl, Nat.le_of_ble_eq_true rfl⟩ rfl rfl (Nat.le_of_ble_eq_true rfl) dL_law_1203 (fun r112 => ?_)
                                                                                refine V_icmp_eq (tgt := 1234) hc dL_law_1206 (by decide) ?_ ?_
                                                                                · refine V_iinc (v := (x3 + 5)) (lv' := [(3, .int (x3 + 5)), (0, .ref b), (1, .ref (K.2.2 0)), (2, .ref (K.2.2 24))]) hc dL_law_1234 3 rfl rfl (by decide) rfl ?_
                                                                                  refine V_goto (tgt := 18) hc dL_law_1237 (by decide) ?_
                                                                                  exact V_sub [1, 2, 3, 0] rfl (ih _ _)
                                                                                · refine V_iconst (v := 0) hc dL_law_1209 (by decide) ?_
                                                                                  exact V_law0 hc dL_law_1210
                                                                              · refine V_ite (fun h113 => ?_) (fun h113 => ?_)
                                                                                · refine V_tsIn (tgt := 1211) hc dL_law_32 (by rw [h113] <;> decide) (by rw [h113] <;> decide) (by rw [h113] <;> rfl) (by decide) ?_
                                                                                  refine V_aload_n hc dL_law_1211 rfl 1 rfl ?_
                                                                                  refine V_aload_n hc dL_law_1212 rfl 0 rfl ?_
                                                                                  refine V_iload_n hc dL_law_1213 rfl 3 rfl ?_
                                                                                  refine V_iconst (v := 1) hc dL_law_1214 (by decide) ?_
                                                                                  refine V_iadd hc dL_law_1215 ?_
                                                                                  refine V_sld hc hX hbl hbA dL_law_1216 ?_
                                                                                  refine V_callV_RI (Cn := RX8) (T := TX8) (N := 8) hc (c_X8_count l K y (xs (ix (x3 + 1)))) sP0 rfl 1 gL_law_X8_count rfl ⟨rfl, rfl⟩ (by decide) ⟨Nat.le_of_ble_eq_true rfl, Nat.le_of_ble_eq_true rfl⟩ rfl rfl (Nat.le_of_ble_eq_true rfl) dL_law_1217 (fun r114 => ?_)
                                                                                  refine V_aload_n hc dL_law_1220 rfl 2 rfl ?_
                                                                                  refine V_aload_n hc dL_law_1221 rfl 0 rfl ?_
                                                                                  refine V_iload_n hc dL_law_1222 rfl 3 rfl ?_
                                                                                  refine V_iconst (v := 1) hc dL_law_1223 (by decide) ?_
                                                                                  refine V_iadd hc dL_law_1224 ?_
                                                                                  refine V_sld hc hX hbl hbA dL_law_1225 ?_
                                                                                  refine V_callV_RI (Cn := RX9) (T := TX9) (N := 28) hc (c_X9_count l K y (xs (ix (x3 + 1)))) sP24 rfl 1 gL_law_X9_count rfl ⟨rfl, rfl⟩ (by decide) ⟨Nat.le_of_ble_eq_true rfl, Nat.le_of_ble_eq_true rfl⟩ rfl rfl (Nat.le_of_ble_eq_true rfl) dL_law_1226 (fun r115 => ?_)
                                                                                  refine V_icmp_eq (tgt := 1234) hc dL_law_1229 (by decide) ?_ ?_
                                                                                  · refine V_iinc (v := (x3 + 5)) (lv' := [(3, .int (x3 + 5)), (0, .ref b), (1, .ref (K.2.2 0)), (2, .ref (K.2.2 24))]) hc dL_law_1234 3 rfl rfl (by decide) rfl ?_
                                                                                    refine V_goto (tgt := 18) hc dL_law_1237 (by decide) ?_
                                                                                    exact V_sub [1, 2, 3, 0] rfl (ih _ _)
                                                                                  · refine V_iconst (v := 0) hc dL_law_1232 (by decide) ?_
                                                                                    exact V_law0 hc dL_law_1233
                                                                                · refine V_tsOut (tgt := 1234) hc dL_law_32 (ts_out (lo := 0) (n := 38) (fun i hi => match i, hi with | 0, _ => h2 | 1, _ => h5 | 2, _ => h8 | 3, _ => h11 | 4, _ => h14 | 5, _ => h17 | 6, _ => h20 | 7, _ => h23 | 8, _ => h26 | 9, _ => h29 | 10, _ => h32 | 11, _ => h35 | 12, _ => h38 | 13, _ => h41 | 14, _ => h44 | 15, _ => h47 | 16, _ => h50 | 17, _ => h53 | 18, _ => h56 | 19, _ => h59 | 20, _ => h62 | 21, _ => h65 | 22, _ => h68 | 23, _ => h71 | 24, _ => h74 | 25, _ => h77 | 26, _ => h80 | 27, _ => h83 | 28, _ => h86 | 29, _ => h89 | 30, _ => h92 | 31, _ => h95 | 32, _ => h98 | 33, _ => h101 | 34, _ => h104 | 35, _ => h107 | 36, _ => h110 | 37, _ => h113 | _ + 38, hi => absurd hi (by omega))) (by decide) ?_
                                                                                  refine V_iinc (v := (x3 + 5)) (lv' := [(3, .int (x3 + 5)), (0, .ref b), (1, .ref (K.2.2 0)), (2, .ref (K.2.2 24))]) hc dL_law_1234 3 rfl rfl (by decide) rfl ?_
                                                                                  refine V_goto (tgt := 18) hc dL_law_1237 (by decide) ?_
                                                                                  exact V_sub [1, 2, 3, 0] rfl (ih _ _)
