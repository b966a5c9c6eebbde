/-! ===== p41: albums ===== -/
theorem rt_5 {m : Sx} (hO : WOrd m) (hG : WTg m) {f : Nat} (hf : f < 40) : rt m f ≤ 5 := by
  unfold rt
  cases hs : src m f 1 with
  | none => simp [vOr, hs]
  | some j =>
    obtain ⟨-, hj, hT, -⟩ := fst?_some hs
    obtain ⟨-, ho⟩ := wOrd_at hO (k := j) (by omega)
    obtain ⟨v, hv, ev⟩ := hG.2 (18 * f + 6 * od m j + 1) (by omega) (by omega) hT
    have : vOr m f 1 (-1) = nI v := by simp [vOr, hs, ev]
    rw [this, nI_toInt (by omega)]
    omega
/-- the inner loop over those shown ahead -/
theorem alb228 {c m : Sx} (h : Inv c m) {a : Nat} (ha : a < 8) (hA : iA m a = true) (e38 : gA m 38 a = 1) (e39 : gA m 39 a = 1) {f : Nat} (hf : f < 40) (sf : shw m (hb (gM m 2 a)) f = true) {p : Nat} (hp : p < fb_ct (shw m (hb (gM m 2 a))) 40) (er : vrk m a f = p) (b3 b4 b5 b8 : Int32) (kont : Int32 → Int32 → Sx → Option (Int32 × Sx)) : L_L_albums_228 (nI a) b3 b4 b5 (nI p) (nI f) b8 kont FU 1 0 c = kont 1 (nI p) c := by
  have ct40 := fb_ct_le (shw m (hb (gM m 2 a))) 40
  have shF : ∀ f, f < 40 → shw m (hb (gM m 2 a)) f = true → iF m f = true := fun f hf u => by
    unfold shw at u
    exact (Mp.out h.2.2.2.2 a ha hA f (by omega) ((Bool.and_eq_true _ _).mp u).1).2
  have pf := shF f hf sf
  obtain ⟨y, -, e⟩ := loop0G (L := fun n i (_ : Unit) => L_L_albums_228 (nI a) b3 b4 b5 (nI p) (nI f) b8 kont n 1 i c) (E := fun _ => kont 1 (nI p) c) (N := p) (by omega) (y := ())
    (fun _ _ => True)
    (fun n y _ => by
      show L_L_albums_228 _ _ _ _ _ _ _ _ _ _ _ _ = _
      rw [L_L_albums_228, if_pos (nI_le (Nat.le_refl _) (by omega))])
    (fun q y hq _ => by
      refine ⟨(), trivial, fun n => ?_⟩
      show L_L_albums_228 _ _ _ _ _ _ _ _ _ _ _ _ = L_L_albums_228 _ _ _ _ _ _ _ _ _ _ _ _
      obtain ⟨g, hg, sg, erg, eg⟩ := v_va h ha hA e38 e39 (p := q) (by omega)
      have pg := shF g hg sg
      have ne : ¬ nI g = nI f := by
        rw [nI_eq_iff (by omega) (by omega)]
        intro w
        rw [w] at erg
        omega
      rw [L_L_albums_228, if_neg (by rw [nI_le_iff (by omega) (by omega)]; omega), if_neg (by decide), v_home h hf pf, Option.bind_some, eg, Option.bind_some, if_neg ne, nI_lit1]
      rcases wStk_home h.1.wS hf with e | ⟨s, hs, e, hn, -⟩
      · rw [e, if_pos rfl, if_pos (by decide)]
      · have n1 : ¬ nI s = -1 := nI_ne_m1 (by omega)
        rw [e, if_neg n1, if_neg (nI_pos (by omega)), Option.bind_some, v_home h hg pg, Option.bind_some]
        by_cases w : (if gA m 29 g = -1 then -4 else gA m 29 g) = nI s
        · have eg2 : gA m 29 g = nI s := by
            by_cases z : gA m 29 g = -1
            · rw [if_pos z] at w
              exact absurd w (by
                intro u
                have := nI_pos (n := s) (by omega)
                rw [← u] at this
                exact this (by decide))
            · rw [if_neg z] at w; exact w
          have h0 : gA m 33 s = 0 := Classical.byContradiction fun u => by
            have := vw_one hs sf sg e eg2 u
            exact ne (by rw [this])
          rw [if_pos w, v_coll0 h hs hn h0, Option.bind_some, if_pos rfl]
        · rw [if_neg w])
    trivial
  exact e
/-- the loop over the view -/
theorem alb150 {c m : Sx} (h : Inv c m) {a : Nat} (ha : a < 8) (hA : iA m a = true) (e38 : gA m 38 a = 1) (e39 : gA m 39 a = 1) (b3 : Int32) : ∃ x5, ∀ kont : Int32 → Int32 → Int32 → Sx → Option (Int32 × Sx), L_L_albums_150 (nI a) b3 (nI (fb_ct (shw m (hb (gM m 2 a))) 40)) kont FU 1 6 0 c = kont 1 x5 (nI (fb_ct (shw m (hb (gM m 2 a))) 40)) c := by
  have ct40 := fb_ct_le (shw m (hb (gM m 2 a))) 40
  obtain ⟨y, -, e⟩ := loop0G (L := fun n i (y : Int32) (kont : Int32 → Int32 → Int32 → Sx → Option (Int32 × Sx)) => L_L_albums_150 (nI a) b3 (nI (fb_ct (shw m (hb (gM m 2 a))) 40)) kont n 1 y i c) (E := fun y kont => kont 1 y (nI (fb_ct (shw m (hb (gM m 2 a))) 40)) c) (N := fb_ct (shw m (hb (gM m 2 a))) 40) (by omega) (y := (6 : Int32))
    (fun p y => (p = 0 ∧ y = 6) ∨ ∃ f, f < 40 ∧ shw m (hb (gM m 2 a)) f = true ∧ vrk m a f + 1 = p ∧ y.toInt = rt m f)
    (fun n y _ => by
      funext kont
      show L_L_albums_150 _ _ _ _ _ _ _ _ _ = _
      rw [L_L_albums_150, if_pos (nI_le (Nat.le_refl _) (by omega))])
    (fun p y hp hI => by
      obtain ⟨f, hf, sf, er, ev⟩ := v_va h ha hA e38 e39 hp
      have mem : hb (gM m 2 a) f = true := by
        have u := sf
        unfold shw at u
        exact ((Bool.and_eq_true _ _).mp u).1
      have pf := (Mp.out h.2.2.2.2 a ha hA f (by omega) mem).2
      have r5 := rt_5 h.1.wO h.1.wG hf
      have rr := rt_rng h.1.wO h.1.wV hf
      have le : rt m f ≤ y.toInt := by
        rcases hI with ⟨-, w⟩ | ⟨g, hg, sg, w1, w2⟩
        · rw [w, show (6 : Int32).toInt = 6 from rfl]; omega
        · rw [w2]; exact vw_sort h hg hf sg sf (by omega)
      have isin : f_X8_isIn c (nI a) (nI f) = some 1 := by rw [v_isIn h ha hA hf, if_pos pf, mem]; rfl
      have e228 := fun x1 x2 x3 k2 => alb228 h ha hA e38 e39 hf sf hp er b3 x1 x2 x3 k2
      refine ⟨vOr m f 1 (-1), Or.inr ⟨f, hf, sf, by omega, rfl⟩, fun n => ?_⟩
      funext kont
      show L_L_albums_150 _ _ _ _ _ _ _ _ _ = L_L_albums_150 _ _ _ _ _ _ _ _ _
      rw [L_L_albums_150, if_neg (by rw [nI_le_iff (by omega) (by omega)]; omega), if_neg (by decide), ev, Option.bind_some, v_rat h hf pf, Option.bind_some, isin, Option.bind_some, if_pos rfl, nI_lit1]
      have i0 : ((0 : Int32)).toInt = 0 := rfl
      have im1 : ((-1 : Int32)).toInt = -1 := rfl
      by_cases z : vOr m f 1 (-1) = -1
      · have zr : rt m f = -1 := by unfold rt; rw [z]; rfl
        rw [if_pos z, z, if_neg (by decide), if_neg (by rw [i_lt, im1]; omega), if_neg (by decide), e228]
      · have zr : rt m f ≠ -1 := fun w => z (Int32.toInt_inj.mp (w.trans im1.symm))
        have z0 : (0 : Int32) ≤ vOr m f 1 (-1) := by rw [i_le, i0]; show 0 ≤ rt m f; omega
        rw [if_neg z, if_pos z0, if_neg (by rw [i_lt]; show ¬ y.toInt < rt m f; omega), if_pos z0, e228])
    (Or.inl ⟨rfl, rfl⟩)
  exact ⟨y, fun kont => congrFun e kont⟩
/-- the loop that counts the members -/
theorem alb27 {c m : Sx} (h : PI c m) {a : Nat} (ha : a < 5) (ht : TxtIs m a) : ∃ c' m', (∀ kont : Int32 → Int32 → Int32 → Sx → Option (Int32 × Sx), L_L_albums_27 (nI a) kont FU 1 0 0 c = kont 1 (nI (fb_ct (hb (gM m 2 a)) 40)) (nI 40) c') ∧ PI c' m' ∧ TxtIs m' a ∧ gM m' 2 = gM m 2 ∧ SameU m m' := by
  obtain ⟨y, ⟨m', i1, i2, i3, i4, i5⟩, e⟩ := loop0G (L := fun n i (y : Int32 × Sx) (kont : Int32 → Int32 → Int32 → Sx → Option (Int32 × Sx)) => L_L_albums_27 (nI a) kont n 1 y.1 i y.2) (E := fun y kont => kont 1 y.1 (nI 40) y.2) (N := 40) (by decide) (y := ((0 : Int32), c))
    (fun k y => ∃ m', Inv y.2 m' ∧ (∀ i, i < 42 → gA m' i = gA m i) ∧ gM m' 2 = gM m 2 ∧ gI m' 52 = gI m 52 ∧ y.1 = nI (fb_ct (hb (gM m 2 a)) k))
    (fun n y _ => by
      funext kont
      show L_L_albums_27 _ _ _ _ _ _ _ = _
      rw [L_L_albums_27, if_pos (by decide)])
    (fun k y hk hI => by
      obtain ⟨m1, j1, j2, j3, j4, j5⟩ := hI
      have su : SameU m m1 := ⟨fun i hi _ => j2 i hi, j3⟩
      have pi1 : PI y.2 m1 := h.su j1 su
      have ht1 : TxtIs m1 a := ⟨j4.trans ht.1, fun i hi => by rw [j2 34 (by decide)]; exact ht.2 i hi⟩
      have l1 := (pi1.2.2.1 a ha).1
      obtain ⟨r, c2, m2, e1, -, k1, k2, k3, k4, k5, k6⟩ := calQ_satisfies (nI k) y.2 m1 j1
      have e1' : f_X8_satisfies y.2 (nI k) = some (r, c2) := e1
      have ub : usb m1 8 := txtIs_usb ha ht1 (by decide) (fun x hx => ⟨by omega, (pi1.2.2.1 x (by omega)).1⟩)
      have ms := mem_sat pi1 ha ht1 hk
      have inv2 : ∀ v, v = nI (fb_ct (hb (gM m 2 a)) (k + 1)) → ∃ m', Inv c2 m' ∧ (∀ i, i < 42 → gA m' i = gA m i) ∧ gM m' 2 = gM m 2 ∧ gI m' 52 = gI m 52 ∧ v = nI (fb_ct (hb (gM m 2 a)) (k + 1)) := fun v hv => ⟨m2, k1, fun i hi => (k2 i hi).trans (j2 i hi), k3.trans j3, k4.trans j4, hv⟩
      have head : ∀ (kont : Int32 → Int32 → Int32 → Sx → Option (Int32 × Sx)) n, L_L_albums_27 (nI a) kont (n + 1) 1 y.1 (nI k) y.2 = if r = (if iF m1 k = true then b2 (hb (gM m1 2 a) k) else -1) then (if (if iF m1 k = true then b2 (hb (gM m1 2 a) k) else -1) = 1 then L_L_albums_27 (nI a) kont n 1 (y.1 + 1) (nI (k + 1)) c2 else L_L_albums_27 (nI a) kont n 1 (y.1 + 0) (nI (k + 1)) c2) else (if (if iF m1 k = true then b2 (hb (gM m1 2 a) k) else -1) = 1 then L_L_albums_27 (nI a) kont n 0 (y.1 + 1) (nI (k + 1)) c2 else L_L_albums_27 (nI a) kont n 0 (y.1 + 0) (nI (k + 1)) c2) := fun kont n => by
        rw [L_L_albums_27, if_neg (ngo (x := 40) (N := 40) rfl hk (by decide)), if_neg (by decide), v_isIn j1 (by omega) l1 hk, Option.bind_some, e1', Option.bind_some, nI_lit1]
      rw [j3] at ms
      cases hp : iF m1 k with
      | false =>
        rw [hp, Bool.false_and] at ms
        have er := k5 (by rw [fil_nI hk]; exact hp)
        refine ⟨(y.1 + 0, c2), inv2 _ (by rw [fb_ct_succ, ms, if_neg (by decide), Int32.add_zero]; exact j5), fun n => ?_⟩
        funext kont
        show L_L_albums_27 _ _ _ _ _ _ _ = L_L_albums_27 _ _ _ _ _ _ _
        rw [head, hp, if_neg (show ¬ false = true by decide), er, if_pos rfl, if_neg (by decide)]
      | true =>
        have er := k6 (by rw [fil_nI hk]; exact hp) ub
        rw [hp, Bool.true_and] at ms
        rw [ix_nI (by omega), ← ms] at er
        cases hm : hb (gM m 2 a) k with
        | false =>
          refine ⟨(y.1 + 0, c2), inv2 _ (by rw [fb_ct_succ, hm, if_neg (by decide), Int32.add_zero]; exact j5), fun n => ?_⟩
          funext kont
          show L_L_albums_27 _ _ _ _ _ _ _ = L_L_albums_27 _ _ _ _ _ _ _
          rw [head, hp, if_pos rfl, j3, er, if_pos rfl, hm, if_neg (by decide)]
        | true =>
          refine ⟨(y.1 + 1, c2), inv2 _ (by rw [fb_ct_succ, hm, if_pos rfl, j5, nI_lit1]), fun n => ?_⟩
          funext kont
          show L_L_albums_27 _ _ _ _ _ _ _ = L_L_albums_27 _ _ _ _ _ _ _
          rw [head, hp, if_pos rfl, j3, er, if_pos rfl, hm, if_pos (by decide)])
    ⟨m, h.1, fun _ _ => rfl, rfl, rfl, rfl⟩
  have su : SameU m m' := ⟨fun i hi _ => i2 i hi, i3⟩
  refine ⟨y.2, m', fun kont => ?_, h.su i1 su, ⟨i4.trans ht.1, fun i hi => by rw [i2 34 (by decide)]; exact ht.2 i hi⟩, i3, su⟩
  have ek := congrFun e kont
  dsimp only at ek
  rw [ek, i5]
/-- every album is as it should be -/
theorem albums_ok {c m : Sx} (h : PI c m) : ∃ c' m', f_L_albums c = some (1, c') ∧ PI c' m' ∧ SameU m m' := by
  unfold f_L_albums
  obtain ⟨y, ⟨m', i1, i2⟩, e⟩ := loop0G (L := fun n i (y : Sx) => L_L_albums_4 (fun z72 z73 t74 => gd (gz z72) (some (z72, t74))) n 1 i y) (E := fun y => gd (gz 1) (some ((1 : Int32), y))) (N := 5) (by decide) (y := c)
    (fun _ y => ∃ m', PI y m' ∧ SameU m m')
    (fun n y _ => by
      show L_L_albums_4 _ _ _ _ _ = _
      rw [L_L_albums_4, if_pos (by decide)])
    (fun a y ha hI => by
      obtain ⟨m1, p1, s1⟩ := hI
      obtain ⟨x, et, en⟩ := text_ok y ha
      have l6 := (tx_len a).1
      obtain ⟨c2, m2, ey, j1, j2, j3, j4⟩ := types_ok p1.1 en (by omega)
      have p2 := p1.su j1 j2
      have t2 : TxtIs m2 a := ⟨j3, j4⟩
      obtain ⟨c3, m3, e27, p3, t3, g3, s3⟩ := alb27 p2 ha t2
      have l3 := p3.2.2.1 a ha
      have ub : usb m3 8 := txtIs_usb ha t3 (by decide) (fun x hx => ⟨by omega, (p3.2.2.1 x (by omega)).1⟩)
      obtain ⟨r, c4, m4, es, -, k1, k2, k3, k4, k5⟩ := calQ_select c3 m3 p3.1
      have es' : f_X8_select c3 = some (r, c4) := es
      have er : r = nI (fb_ct (hb (gM m2 2 a)) 40) := by
        rw [k5 ub, ← g3]
        congr 1
        exact fb_ct_cong (fun f hf => (mem_sat p3 ha t3 hf).symm)
      have s4 : SameU m3 m4 := ⟨fun i hi _ => k2 i hi, k3⟩
      have p4 := p3.su k1 s4
      obtain ⟨l4, -, -, l38, l39⟩ := p4.2.2.1 a ha
      have g4 : gM m4 2 = gM m2 2 := k3.trans g3
      obtain ⟨et1, et0⟩ := v_turn p4.1 (show a < 8 by omega) l4
      have ed : gA m4 40 (2 * a + 1) - gA m4 40 (2 * a) = nI (fb_ct (hb (gM m2 2 a)) 40) := by rw [p4.2.1.1 a (by omega) l4, g4]
      have ez : f_X8_albumSize c3 (nI a) = some (nI (fb_ct (hb (gM m2 2 a)) 40)) := by rw [v_size p3.1 (by omega) l3.1, g3]
      have ev := v_vs p4.1 (show a < 8 by omega) l4
      obtain ⟨x5, e150⟩ := alb150 p4.1 (show a < 8 by omega) l4 l38 l39 (nI (fb_ct (hb (gM m2 2 a)) 40))
      have le : fb_ct (shw m4 (hb (gM m4 2 a))) 40 ≤ fb_ct (hb (gM m2 2 a)) 40 := fb_ct_sub (fun f hf u => by
        rw [← g4]
        unfold shw at u
        exact ((Bool.and_eq_true _ _).mp u).1)
      have c40 := fb_ct_le (hb (gM m2 2 a)) 40
      refine ⟨c4, ⟨m4, p4, s1.tr (j2.tr (s3.tr s4))⟩, fun n => ?_⟩
      show L_L_albums_4 _ _ _ _ _ = L_L_albums_4 _ _ _ _ _
      rw [L_L_albums_4, if_neg (ngo (x := 5) (N := 5) rfl ha (by decide)), if_neg (by decide), et, Option.bind_some, ey, Option.bind_some]
      try dsimp only
      rw [e27]
      try dsimp only
      rw [if_neg (show ¬ (1 : Int32) = 0 by decide), ez, Option.bind_some, if_pos rfl, es', Option.bind_some]
      try dsimp only
      rw [if_pos er, et1, Option.bind_some, et0, Option.bind_some, if_pos ed, if_neg (show ¬ (1 : Int32) = 0 by decide), ev, Option.bind_some, e150]
      try dsimp only
      rw [if_neg (show ¬ (1 : Int32) = 0 by decide), if_neg (by rw [nI_lt_iff (by omega) (by omega)]; omega), nI_lit1])
    ⟨m, h, SameU.rf m⟩
  refine ⟨y, m', ?_, i1, i2⟩
  rw [e, gd_pos (show gz 1 from Or.inr rfl)]
