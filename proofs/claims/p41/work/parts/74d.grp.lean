/-! ===== p41: groups ===== -/
theorem tail_ok {c m : Sx} (h : Inv c m) {k : Nat} (hk : k < 40) (hp : iF m k = true) (A B : Option Int32) : ((f_X8_stackOf c (nI k)).bind fun r => if (1 : Int32) = 0 then none else if r < 0 then A else (f_X8_coverOf c r).bind fun r2 => (f_X8_stackOf c r2).bind fun r3 => if r3 = r then (f_X8_stackAt c r 1).bind fun r4 => if r4 < 0 then B else (f_X8_stackAt c r 8).bind fun r5 => if r5 = (-4) then A else B else B) = A := by
  rw [v_home h hk hp, Option.bind_some, if_neg (by decide)]
  rcases wStk_home h.1.wS hk with e | ⟨s, hs, e, hn, -⟩
  · rw [e, if_pos rfl, if_pos (by decide)]
  · obtain ⟨en, h8, n1⟩ := wStk_mn h.1.wS hs
    obtain ⟨c1, c2⟩ := cov_ok h.1.wS hs hn
    obtain ⟨c3, -⟩ := wStk_in h.1.wS c1 c2 hs
    have n1' : ¬ nI s = -1 := nI_ne_m1 (by omega)
    have a1 : f_X8_stackAt c (nI s) 1 = some (nI (fl m s 1)) := v_at h (k := 1) hs (by omega)
    have l1 := (wStk_fl h.1.wS hs (k := 1) (by omega)).2.1
    rw [e, if_neg n1', if_neg (nI_pos (by omega)), v_cov h hs hn, Option.bind_some, v_home h c1 c3, Option.bind_some, c2, if_neg n1', if_pos rfl, a1, Option.bind_some, if_neg (nI_pos (by omega)), v_at8 h hs hn, Option.bind_some, if_pos rfl]
noncomputable def grK (m : Sx) (k : Nat) : Bool := iF m k && (pb (KP m k k) && decide (1 < fb_ct (grp m k) 40))
theorem groups_loop {c m : Sx} (h : Inv c m) (kont : Int32 → Int32 → Int32 → Int32 → Int32 → Option Int32) : L_L_groups_12 c kont FU 0 0 0 1 0 = kont (smR (fun k => iF m k && !pb (KP m k k)) (gA m 25) 40) (smR (iF m) (gA m 25) 40) (nI (fb_ct (grK m) 40)) 1 (nI 40) := by
  obtain ⟨y, ⟨i1, i2, i3⟩, e⟩ := loop0G (L := fun n i (y : Int32 × Int32 × Int32) => L_L_groups_12 c kont n y.1 y.2.1 y.2.2 1 i) (E := fun y => kont y.1 y.2.1 y.2.2 1 (nI 40)) (N := 40) (by decide) (y := ((0 : Int32), (0 : Int32), (0 : Int32)))
    (fun k y => y.1 = smR (fun k => iF m k && !pb (KP m k k)) (gA m 25) k ∧ y.2.1 = smR (iF m) (gA m 25) k ∧ y.2.2 = nI (fb_ct (grK m) k))
    (fun n y _ => by
      show L_L_groups_12 _ _ _ _ _ _ _ _ = _
      rw [L_L_groups_12, if_pos (by decide)])
    (fun k y hk hI => by
      obtain ⟨i1, i2, i3⟩ := hI
      cases hp : iF m k with
      | false =>
        refine ⟨y, ⟨?_, ?_, ?_⟩, fun n => ?_⟩
        · rw [smR, hp, Bool.false_and, if_neg (by decide)]; exact i1
        · rw [smR, hp, if_neg (by decide)]; exact i2
        · rw [fb_ct_succ, grK, hp, Bool.false_and, if_neg (by decide)]; exact i3
        · show L_L_groups_12 _ _ _ _ _ _ _ _ = L_L_groups_12 _ _ _ _ _ _ _ _
          rw [L_L_groups_12, if_neg (ngo (x := 40) (N := 40) rfl hk (by decide)), if_neg (by decide), v_keeper0 h hk hp, Option.bind_some, if_pos (by decide), nI_lit1]
      | true =>
        obtain ⟨j, ek, hj⟩ := v_keeper h hk hp
        have j40 := hj.1
        have pj := kp_iF hj
        obtain ⟨j2, ek2, hj2⟩ := v_keeper h j40 pj
        have e2 : j2 = j := KP_one ((KP_same hj.2.1).mp hj2) hj
        rw [e2] at ek2
        have dj : gA m 24 j = gA m 24 k := (grp_iff.mp hj.2.1).2
        have gj : grp m j = grp m k := grp_same hj.2.1
        have gl := fb_ct_le (grp m k) 40
        have head : ∀ n, L_L_groups_12 c kont (n + 1) y.1 y.2.1 y.2.2 1 (nI k) = if nI j = nI k then (if nI (fb_ct (grp m k) 40) ≤ 1 then L_L_groups_12 c kont n (y.1 + 0) (y.2.1 + gA m 25 k) (y.2.2 + 0) 1 (nI (k + 1)) else L_L_groups_12 c kont n (y.1 + 0) (y.2.1 + gA m 25 k) (y.2.2 + 1) 1 (nI (k + 1))) else L_L_groups_12 c kont n (y.1 + gA m 25 k) (y.2.1 + gA m 25 k) (y.2.2 + 0) 1 (nI (k + 1)) := fun n => by
          rw [L_L_groups_12, if_neg (ngo (x := 40) (N := 40) rfl hk (by decide)), if_neg (by decide), ek, Option.bind_some, if_neg (nI_pos (by omega)), ek2, Option.bind_some, if_pos rfl, v_dig h j40 pj, Option.bind_some, v_dig h hk hp, Option.bind_some, if_pos dj, v_grp h j40 pj, Option.bind_some, v_grp h hk hp, Option.bind_some, if_pos (by rw [gj]), v_siz h hk hp, Option.bind_some, nI_lit1]
          by_cases q : nI j = nI k
          · rw [if_pos q, if_pos q, if_pos q, Option.bind_some, tail_ok h hk hp, tail_ok h hk hp]
          · simp only [if_neg q, Option.bind_some]
            rw [tail_ok h hk hp]
        by_cases q : j = k
        · subst q
          have pk : pb (KP m j j) = true := pb_iff.mpr hj
          by_cases g1 : 1 < fb_ct (grp m j) 40
          · refine ⟨(y.1 + 0, y.2.1 + gA m 25 j, y.2.2 + 1), ⟨?_, ?_, ?_⟩, fun n => ?_⟩
            · rw [smR, hp, pk, if_neg (by decide), Int32.add_zero]; exact i1
            · rw [smR, hp, if_pos rfl, i2]
            · show y.2.2 + 1 = _
              rw [fb_ct_succ, grK, hp, pk, decide_eq_true g1, if_pos (by decide), i3, nI_lit1]
            · show L_L_groups_12 _ _ _ _ _ _ _ _ = L_L_groups_12 _ _ _ _ _ _ _ _
              rw [head, if_pos rfl, if_neg (by rw [show (1 : Int32) = nI 1 from rfl, nI_le_iff (by omega) (by decide)]; omega)]
          · refine ⟨(y.1 + 0, y.2.1 + gA m 25 j, y.2.2 + 0), ⟨?_, ?_, ?_⟩, fun n => ?_⟩
            · rw [smR, hp, pk, if_neg (by decide), Int32.add_zero]; exact i1
            · rw [smR, hp, if_pos rfl, i2]
            · show y.2.2 + 0 = _
              rw [fb_ct_succ, grK, hp, pk, decide_eq_false g1, if_neg (by decide), Int32.add_zero]; exact i3
            · show L_L_groups_12 _ _ _ _ _ _ _ _ = L_L_groups_12 _ _ _ _ _ _ _ _
              rw [head, if_pos rfl, if_pos (by rw [show (1 : Int32) = nI 1 from rfl, nI_le_iff (by omega) (by decide)]; omega)]
        · have pk : pb (KP m k k) = false := by
            cases z : pb (KP m k k) with
            | false => rfl
            | true => exact absurd (KP_one hj (pb_iff.mp z)) q
          refine ⟨(y.1 + gA m 25 k, y.2.1 + gA m 25 k, y.2.2 + 0), ⟨?_, ?_, ?_⟩, fun n => ?_⟩
          · rw [smR, hp, pk, if_pos (by decide), i1]
          · rw [smR, hp, if_pos rfl, i2]
          · rw [fb_ct_succ, grK, hp, pk, if_neg (by simp), Int32.add_zero]; exact i3
          · show L_L_groups_12 _ _ _ _ _ _ _ _ = L_L_groups_12 _ _ _ _ _ _ _ _
            rw [head, if_neg (by rw [nI_eq_iff (by omega) (by omega)]; exact q)])
    ⟨rfl, rfl, rfl⟩
  dsimp only at e
  rw [e, i1, i2, i3]
theorem groups_ok {c m : Sx} (h : Inv c m) : f_L_groups c = some 1 := by
  obtain ⟨e, he, ej⟩ := v_jn h
  have e2 : f_X8_count c 2 = some (nI (fb_ct (grK m) 40)) := v_c2 h
  unfold f_L_groups
  rw [groups_loop h, if_neg (by decide), v_wasted h, Option.bind_some, if_pos rfl, v_c4 h, Option.bind_some, if_pos rfl, e2, Option.bind_some, if_pos rfl, ej, Option.bind_some, if_neg (by rw [show (24 : Int32) = nI 24 from rfl, nI_lt_iff (by decide) (by omega)]; omega)]
