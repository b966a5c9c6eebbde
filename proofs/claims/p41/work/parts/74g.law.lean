/-! ===== p41: the law ===== -/
theorem law12 (xs : Nat → Int32) (L : Nat) {c m : Sx} (h : Inv c m) (hx : Xs m) (hA : LAlb m 0) (hF : ∀ f, f < 40 → iF m f = false) : ∃ c' m', (∀ kont : Int32 → Int32 → Sx → Option Int32, L_L_law_12 xs L kont FU 1 0 c = kont 1 (nI 5) c') ∧ PI c' m' ∧ ∀ f, f < 40 → iF m' f = false := by
  obtain ⟨y, ⟨m', i1, i2, i3, i4⟩, e⟩ := loop0G (L := fun n i (y : Sx) (kont : Int32 → Int32 → Sx → Option Int32) => L_L_law_12 xs L kont n 1 i y) (E := fun y kont => kont 1 (nI 5) y) (N := 5) (by decide) (y := c)
    (fun k y => ∃ m', Inv y m' ∧ Xs m' ∧ LAlb m' k ∧ ∀ f, f < 40 → iF m' f = false)
    (fun n y _ => by
      funext kont
      show L_L_law_12 _ _ _ _ _ _ _ = _
      rw [L_L_law_12, if_pos (by decide)])
    (fun a y ha hI => by
      obtain ⟨m1, j1, j2, j3, j4⟩ := hI
      obtain ⟨x, et, en⟩ := text_ok y ha
      have l6 := (tx_len a).1
      obtain ⟨c2, m2, ey, k1, k2, k3, k4⟩ := types_ok j1 en (by omega)
      have t2 : TxtIs m2 a := ⟨k3, k4⟩
      have la2 : LAlb m2 a := j3.on (fun i h1 h2 => k2.1 i (by omega) (by omega))
      have ef : fst? (fun k => !iA m2 k) 0 8 = some a := fst?_at (by omega) (by rw [la2.2 a (Nat.le_refl _) (by omega)]; rfl) (fun i hi => by rw [(la2.1 i hi).1]; rfl)
      have ub : usb m2 a := txtIs_usb ha t2 (by omega) (fun x hx => ⟨hx, (la2.1 x hx).1⟩)
      obtain ⟨c3, m3, em, -, n1, n2, n3, n4, n35, n36, n37, n37', n38, n39⟩ := make_one k1 ef ub
      have iA3 : ∀ i, iA m3 i = if i = a then true else iA m2 i := fun i => by
        unfold iA; rw [n35]; split <;> rfl
      refine ⟨c3, ⟨m3, n1, n2 (k2.xs j2), ⟨fun i hi => ?_, fun i h1 h2 => ?_⟩, fun f hf => ?_⟩, fun n => ?_⟩
      · by_cases q : i = a
        · subst q
          refine ⟨by rw [iA3, if_pos rfl], by rw [n36, if_pos rfl, txtIs_tpd t2], fun k hk => ?_, by rw [n38, if_pos rfl], by rw [n39, if_pos rfl]⟩
          rw [n37 k (by rw [txtIs_tpd t2]; exact hk), txtIs_tch ha t2 hk]
        · obtain ⟨p1, p2, p3, p4, p5⟩ := la2.1 i (by omega)
          have l6' := (tx_len i).1
          refine ⟨by rw [iA3, if_neg q]; exact p1, by rw [n36, if_neg q]; exact p2, fun k hk => ?_, by rw [n38, if_neg q]; exact p4, by rw [n39, if_neg q]; exact p5⟩
          rw [n37' _ (by omega)]
          exact p3 k hk
      · rw [iA3, if_neg (by omega)]; exact la2.2 i (by omega) h2
      · rw [iF_on (n3 23 (by decide)), iF_on (k2.1 23 (by decide) (by decide))]; exact j4 f hf
      · funext kont
        show L_L_law_12 _ _ _ _ _ _ _ = L_L_law_12 _ _ _ _ _ _ _
        rw [L_L_law_12, if_neg (ngo (x := 5) (N := 5) rfl ha (by decide)), if_neg (by decide), et, Option.bind_some, ey, Option.bind_some]
        try dsimp only
        rw [if_neg (show ¬ (1 : Int32) = 0 by decide), em, Option.bind_some]
        try dsimp only
        rw [if_pos rfl, nI_lit1])
    ⟨m, h, hx, hA, hF⟩
  exact ⟨y, m', fun kont => congrFun e kont, ⟨i1, i2, i3⟩, i4⟩
theorem law54 (xs : Nat → Int32) {L : Nat} (hL : L ≤ 260) {c m : Sx} (h : PI c m) (hF : ∀ f, f < 40 → iF m f = false) : ∃ c' m', (∀ kont : Int32 → Int32 → Sx → Option Int32, L_L_law_54 xs L kont FU 1 0 c = kont 1 (nI 5) c') ∧ PI c' m' := by
  obtain ⟨y, ⟨m', i1, i2⟩, e⟩ := loop0G (L := fun n i (y : Sx) (kont : Int32 → Int32 → Sx → Option Int32) => L_L_law_54 xs L kont n 1 i y) (E := fun y kont => kont 1 (nI 5) y) (N := 5) (by decide) (y := c)
    (fun k y => ∃ m', PI y m' ∧ ∀ f, f < 40 → iF m' f = decide (f < k))
    (fun n y _ => by
      funext kont
      show L_L_law_54 _ _ _ _ _ _ _ = _
      rw [L_L_law_54, if_pos (by decide)])
    (fun k y hk hI => by
      obtain ⟨m1, p1, f1⟩ := hI
      obtain ⟨v, hv, ev⟩ := cell_ok xs hL (show k < 100 by omega)
      have r4 : nI v - nI v / 4 * 4 = nI (v % 4) := irem_nI (d := 4) hv (by decide) (by decide)
      have r50 : nI v - nI v / 50 * 50 = nI (v % 50) := irem_nI (d := 50) hv (by decide) (by decide)
      have l4 : v % 4 < 4 := Nat.mod_lt _ (by decide)
      have l50 : v % 50 < 50 := Nat.mod_lt _ (by decide)
      have g1 : inr (nI (v % 4)) 0 9999 = true := inr_iff.mpr ⟨nI_pos' (by omega), nI_le (b := 9999) (by omega) (by decide)⟩
      have g2 : inr (1 + nI (v % 50)) 1 100000 = true := by
        rw [show (1 : Int32) + nI (v % 50) = nI (1 + v % 50) from nI_add 1 _]
        exact inr_iff.mpr ⟨nI_le (a := 1) (by omega) (by omega), nI_le (b := 100000) (by omega) (by decide)⟩
      have ef : fst? (fun k => !iF m1 k) 0 40 = some k := fst?_at (by omega) (by rw [f1 k (by omega), decide_eq_false (by omega)]; rfl) (fun i hi => by rw [f1 i (by omega), decide_eq_true hi]; rfl)
      obtain ⟨c2, m2, e1, -, i, fr, f2⟩ := add_full p1.1 g1 g2 ef
      refine ⟨c2, ⟨m2, p1.fr i fr, fun f hf => ?_⟩, fun n => ?_⟩
      · rw [f2]
        by_cases q : f = k
        · rw [if_pos q, decide_eq_true (by omega)]
        · rw [if_neg q, f1 f hf]
          by_cases z : f < k
          · rw [decide_eq_true z, decide_eq_true (by omega)]
          · rw [decide_eq_false z, decide_eq_false (by omega)]
      · funext kont
        show L_L_law_54 _ _ _ _ _ _ _ = L_L_law_54 _ _ _ _ _ _ _
        rw [L_L_law_54, if_neg (ngo (x := 5) (N := 5) rfl hk (by decide)), if_neg (by decide), ev, Option.bind_some, gd_pos (by decide), Option.bind_some, gd_pos (by decide), r4, r50, e1, Option.bind_some]
        try dsimp only
        rw [if_pos rfl, nI_lit1])
    ⟨m, h, fun f hf => by rw [hF f hf]; rfl⟩
  exact ⟨y, m', fun kont => congrFun e kont, i1⟩
theorem law102 (xs : Nat → Int32) {L : Nat} (hL : L ≤ 260) {c m : Sx} (h : PI c m) : ∃ c' m', (∀ kont : Int32 → Int32 → Sx → Option Int32, L_L_law_102 xs L kont FU 1 0 c = kont 1 (nI 56) c') ∧ PI c' m' := by
  obtain ⟨y, ⟨m', i1⟩, e⟩ := loop0G (L := fun n i (y : Sx) (kont : Int32 → Int32 → Sx → Option Int32) => L_L_law_102 xs L kont n 1 i y) (E := fun y kont => kont 1 (nI 56) y) (N := 56) (by decide) (y := c)
    (fun _ y => ∃ m', PI y m')
    (fun n y _ => by
      funext kont
      show L_L_law_102 _ _ _ _ _ _ _ = _
      rw [L_L_law_102, if_pos (by decide)])
    (fun k y hk hI => by
      obtain ⟨m1, p1⟩ := hI
      obtain ⟨v, hv, ev⟩ := cell_ok xs hL (show 5 + k < 100 by omega)
      rw [show nI (5 + k) = 5 + nI k from (nI_add 5 k).symm] at ev
      obtain ⟨c2, m2, ea, p2⟩ := acts_ok p1 hv
      have r4 : nI k - nI k / 4 * 4 = nI (k % 4) := irem_nI (d := 4) (by omega) (by decide) (by decide)
      have head : ∀ (kont : Int32 → Int32 → Sx → Option Int32) n, L_L_law_102 xs L kont (n + 1) 1 (nI k) y = if 0 < nI (k % 4) then L_L_law_102 xs L kont n 1 (nI (k + 1)) c2 else (f_L_groups c2).bind fun r15 => if r15 = 0 then L_L_law_102 xs L kont n 0 (nI (k + 1)) c2 else (f_L_albums c2).bind fun r16 => if r16.1 = 0 then L_L_law_102 xs L kont n 0 (nI (k + 1)) r16.2 else L_L_law_102 xs L kont n 1 (nI (k + 1)) r16.2 := fun kont n => by
        rw [L_L_law_102, if_neg (ngo (x := 56) (N := 56) rfl hk (by decide)), if_neg (by decide), ev, Option.bind_some, ea, Option.bind_some]
        try dsimp only
        rw [if_neg (show ¬ (1 : Int32) = 0 by decide), gd_pos (by decide), r4, nI_lit1]
      by_cases q : (0 : Int32) < nI (k % 4)
      · refine ⟨c2, ⟨m2, p2⟩, fun n => ?_⟩
        funext kont
        show L_L_law_102 _ _ _ _ _ _ _ = L_L_law_102 _ _ _ _ _ _ _
        rw [head, if_pos q]
      · obtain ⟨c3, m3, eb, p3, -⟩ := albums_ok p2
        refine ⟨c3, ⟨m3, p3⟩, fun n => ?_⟩
        funext kont
        show L_L_law_102 _ _ _ _ _ _ _ = L_L_law_102 _ _ _ _ _ _ _
        rw [head, if_neg q, groups_ok p2.1, Option.bind_some, if_neg (by decide), eb, Option.bind_some]
        try dsimp only
        rw [if_neg (show ¬ (1 : Int32) = 0 by decide)])
    ⟨m, h⟩
  exact ⟨y, m', fun kont => congrFun e kont, i1⟩
theorem law184 (xs : Nat → Int32) (L : Nat) {c m : Sx} (h : PI c m) : ∃ c' m', (∀ kont : Int32 → Int32 → Sx → Option Int32, L_L_law_184 xs L kont FU 1 0 c = kont 1 (nI 40) c') ∧ PI c' m' ∧ ∀ f, f < 40 → iF m' f = false := by
  obtain ⟨y, ⟨m', i1, i2⟩, e⟩ := loop0G (L := fun n i (y : Sx) (kont : Int32 → Int32 → Sx → Option Int32) => L_L_law_184 xs L kont n 1 i y) (E := fun y kont => kont 1 (nI 40) y) (N := 40) (by decide) (y := c)
    (fun k y => ∃ m', PI y m' ∧ ∀ f, f < k → iF m' f = false)
    (fun n y _ => by
      funext kont
      show L_L_law_184 _ _ _ _ _ _ _ = _
      rw [L_L_law_184, if_pos (by decide)])
    (fun k y hk hI => by
      obtain ⟨m1, p1, f1⟩ := hI
      cases hp : iF m1 k with
      | false =>
        refine ⟨y, ⟨m1, p1, fun f hf => ?_⟩, fun n => ?_⟩
        · by_cases q : f = k
          · rw [q]; exact hp
          · exact f1 f (by omega)
        · funext kont
          show L_L_law_184 _ _ _ _ _ _ _ = L_L_law_184 _ _ _ _ _ _ _
          rw [L_L_law_184, if_neg (ngo (x := 40) (N := 40) rfl hk (by decide)), if_neg (by decide), v_files p1.1, Option.bind_some, v_keeper0 p1.1 hk hp, Option.bind_some, if_pos (by decide), nI_lit1]
      | true =>
        obtain ⟨j, ek, hj⟩ := v_keeper p1.1 hk hp
        obtain ⟨c2, m2, er, i, fr, f2⟩ := rem_full p1.1 hk hp
        have ct : fb_ct (iF m2) 40 + 1 = fb_ct (iF m1) 40 := by
          have u := fb_ct_upd (iF m1) false (i := k) (n := 40) hk
          rw [hp, if_pos rfl, if_neg (by decide), Nat.add_zero] at u
          rw [fb_ct_cong (p := iF m2) (q := fun x => if x = k then false else iF m1 x) (fun x _ => f2 x)]
          exact u
        have j40 := hj.1
        refine ⟨c2, ⟨m2, p1.fr i fr, fun f hf => ?_⟩, fun n => ?_⟩
        · rw [f2]
          by_cases q : f = k
          · rw [if_pos q]
          · rw [if_neg q]; exact f1 f (by omega)
        · funext kont
          show L_L_law_184 _ _ _ _ _ _ _ = L_L_law_184 _ _ _ _ _ _ _
          rw [L_L_law_184, if_neg (ngo (x := 40) (N := 40) rfl hk (by decide)), if_neg (by decide), v_files p1.1, Option.bind_some, ek, Option.bind_some, if_neg (nI_pos (by omega)), er, Option.bind_some]
          try dsimp only
          rw [if_pos (by rw [← ct, nI_subOne (by omega), Nat.add_sub_cancel]), nI_lit1])
    ⟨m, h, fun f hf => absurd hf (by omega)⟩
  exact ⟨y, m', fun kont => congrFun e kont, i1, i2⟩
theorem law234 (xs : Nat → Int32) (L : Nat) {c m : Sx} (h : PI c m) (hF : ∀ f, f < 40 → iF m f = false) (kont : Int32 → Int32 → Option Int32) : L_L_law_234 xs L c kont FU 1 0 = kont 1 (nI 5) := by
  obtain ⟨y, -, e⟩ := loop0G (L := fun n i (_ : Unit) => L_L_law_234 xs L c kont n 1 i) (E := fun _ => kont 1 (nI 5)) (N := 5) (by decide) (y := ())
    (fun _ _ => True)
    (fun n y _ => by
      show L_L_law_234 _ _ _ _ _ _ _ = _
      rw [L_L_law_234, if_pos (by decide)])
    (fun a y ha _ => by
      refine ⟨(), trivial, fun n => ?_⟩
      have l1 := (h.2.2.1 a ha).1
      have z : fb_ct (hb (gM m 2 a)) 40 = 0 := fb_ct_zero.mpr (fun k hk => by
        cases q : hb (gM m 2 a) k with
        | false => rfl
        | true =>
          have := (Mp.out h.1.2.2.2.2 a (by omega) l1 k (by omega) q).2
          rw [hF k hk] at this
          cases this)
      have ez : f_X8_albumSize c (nI a) = some 0 := by rw [v_size h.1 (by omega) l1, z]; rfl
      obtain ⟨t1, t0⟩ := v_turn h.1 (show a < 8 by omega) l1
      have d : gA m 40 (2 * a + 1) - gA m 40 (2 * a) = nI 0 := by rw [h.2.1.1 a (by omega) l1, z]
      have d' : gA m 40 (2 * a) = gA m 40 (2 * a + 1) := by
        have d2 : gA m 40 (2 * a + 1) - gA m 40 (2 * a) = 0 := d
        grind
      show L_L_law_234 _ _ _ _ _ _ _ = L_L_law_234 _ _ _ _ _ _ _
      rw [L_L_law_234, if_neg (ngo (x := 5) (N := 5) rfl ha (by decide)), if_neg (by decide), ez, Option.bind_some, if_pos rfl, t0, Option.bind_some, t1, Option.bind_some, if_pos d', nI_lit1])
    trivial
  exact e
theorem t_init_xs : Xs t_init := by
  refine ⟨fun a _ hA => ?_, fun f _ => ?_, ⟨0, 1, 2, by decide, by decide, by decide, by decide, by decide, by decide, i28_eq 0 (by decide), i28_eq 1 (by decide), i28_eq 2 (by decide)⟩⟩
  · unfold iA at hA
    rw [t_init_A (by decide) (by decide) (by decide) (by decide)] at hA
    cases hA
  · rw [t_init_A (by decide) (by decide) (by decide) (by decide)]
    decide
theorem f_L_law_all (xs : Nat → Int32) {L : Nat} (hL : L ≤ 260) : f_L_law xs L t_init = some 1 := by
  have nA : ∀ a, iA t_init a = false := fun a => by
    unfold iA; rw [t_init_A (by decide) (by decide) (by decide) (by decide)]; rfl
  have nF : ∀ f, f < 40 → iF t_init f = false := fun f _ => by
    unfold iF; rw [t_init_A (by decide) (by decide) (by decide) (by decide)]; rfl
  obtain ⟨c1, m1, e1, p1, f1⟩ := law12 xs L t_init_inv t_init_xs ⟨fun a ha => absurd ha (by omega), fun a _ _ => nA a⟩ nF
  obtain ⟨c2, m2, e2, p2⟩ := law54 xs hL p1 f1
  obtain ⟨c3, m3, e3, p3⟩ := law102 xs hL p2
  obtain ⟨c4, m4, e4, p4, -⟩ := albums_ok p3
  obtain ⟨c5, m5, e5, p5, f5⟩ := law184 xs L p4
  have wS := p5.1.1.wS
  have s0 : fb_ct (isS m5) 10 = 0 := fb_ct_zero.mpr (fun s hs => by
    refine decide_eq_false fun w => ?_
    obtain ⟨g1, g2, g3⟩ := wStk_fl wS hs (k := 0) w
    have := (wStk_in wS g2 g3 hs).1
    rw [f5 _ g2] at this
    cases this)
  have s3 : fb_ct (fun k => decide (gA m5 29 k ≠ -1)) 40 = 0 := fb_ct_zero.mpr (fun k hk => by
    rcases wStk_home wS hk with w | ⟨s, -, -, -, w⟩
    · exact decide_eq_false fun u => u w
    · rw [f5 k hk] at w; cases w)
  have sF : fb_ct (iF m5) 40 = 0 := fb_ct_zero.mpr f5
  have v0 : f_X8_count c5 0 = some 0 := by rw [v_c0 p5.1, s0]; rfl
  have v3 : f_X8_count c5 3 = some 0 := by rw [v_c3 p5.1, s3]; rfl
  have vF : f_X8_fileCount c5 = some 0 := by rw [v_files p5.1, sF]; rfl
  unfold f_L_law
  rw [e1, e2, e3, if_neg (show ¬ (1 : Int32) = 0 by decide), groups_ok p3.1, Option.bind_some, if_neg (show ¬ (1 : Int32) = 0 by decide), e4, Option.bind_some]
  try dsimp only
  rw [if_neg (show ¬ (1 : Int32) = 0 by decide), e5, law234 xs L p5 f5, if_neg (show ¬ (1 : Int32) = 0 by decide), v0, Option.bind_some, if_pos rfl, v3, Option.bind_some, if_pos rfl, vF, Option.bind_some, if_pos rfl]
