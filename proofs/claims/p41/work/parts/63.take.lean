/-! ===== takeOut, remove ===== -/
theorem FrL.frM {c c1 : Sx} (h : FrL c c1) : FrM c c1 := ⟨fun a h1 h2 => h.2.2.2 a (by omega) (by omega) (by omega) (by omega), fun k _ _ => by rw [h.1], by rw [h.2.1]⟩
theorem FrLm.frC {m m1 : Sx} (h : FrLm m m1) : FrC m m1 := FrC.ofM (fun a h1 => h.2.2.2 a (by omega) (by omega) (by omega) (by omega)) (fun k _ => by rw [h.1]) (fun k => by rw [h.2.2.1]) h.2.1
theorem rel_Ba {c m c1 m1 : Sx} (hB : Ba c m) (fc : FrL c c1) (fm : FrLm m m1) (w : WStk m1) (r : RStk c1 m1) : Ba c1 m1 := by
  have m23 := fm.2.2.2 23 (by decide) (by decide) (by decide) (by decide)
  have m26 := fm.2.2.2 26 (by decide) (by decide) (by decide) (by decide)
  have m27 := fm.2.2.2 27 (by decide) (by decide) (by decide) (by decide)
  have m28 := fm.2.2.2 28 (by decide) (by decide) (by decide) (by decide)
  have m34 := fm.2.2.2 34 (by decide) (by decide) (by decide) (by decide)
  exact ⟨hB.wO.on m28, hB.wV.on m26 m27, w, hB.wT.on (by rw [fm.1]) m34, (hB.rP.on (fc.2.2.1 8 (by decide))).onM m23, (hB.rD.onC (fc.2.2.2 9 (by decide) (by decide) (by decide) (by decide)) (fc.2.2.2 10 (by decide) (by decide) (by decide) (by decide))).onM m23 (fm.2.2.2 24 (by decide) (by decide) (by decide) (by decide)) (fm.2.2.2 25 (by decide) (by decide) (by decide) (by decide)), (hB.rV.on (fc.2.2.2 11 (by decide) (by decide) (by decide) (by decide))).onM m23 m26 m27, (hB.rO.on (fc.2.2.2 13 (by decide) (by decide) (by decide) (by decide))).onM m28, r, (hB.rT.onC (by rw [fc.1]) (fc.2.2.2 108 (by decide) (by decide) (by decide) (by decide))).onM (by rw [fm.1]) m34, hB.wG.on m26 m27⟩
theorem rel_Al {c m c1 m1 : Sx} (hA : RAl c m) (fc : FrL c c1) (fm : FrLm m m1) : RAl c1 m1 := hA.on (fun k _ _ => by rw [fc.1]) (fun a _ _ => fc.2.2.2 a (by omega) (by omega) (by omega) (by omega)) (fun k _ => fc.2.2.1 k (by omega)) (fun a _ _ => fm.2.2.2 a (by omega) (by omega) (by omega) (by omega)) (by rw [fm.2.1])
theorem rel_J {c m c1 m1 : Sx} (hJ : RJ c m) (fc : FrL c c1) (fm : FrLm m m1) : RJ c1 m1 := hJ.on (by rw [fc.1]) (by rw [fc.1]) (by rw [fm.1]) (fc.2.2.2 20 (by decide) (by decide) (by decide) (by decide)) (fc.2.2.2 21 (by decide) (by decide) (by decide) (by decide)) (fc.2.2.2 22 (by decide) (by decide) (by decide) (by decide)) (fm.2.2.2 41 (by decide) (by decide) (by decide) (by decide))
theorem cal_takeOut (a1 : Int32) : Cal (-2) (fun t => f_X8_takeOut t a1) (fun t => f_X9_takeOut t a1) := fun c m h => by
  show ∃ r c' m', f_X8_takeOut c a1 = some (r, c') ∧ f_X9_takeOut m a1 = some (r, m') ∧ _
  unfold f_X8_takeOut f_X9_takeOut f_X6_home f_X6_height
  rw [hasC h.1, there_eq, Option.bind_some, Option.bind_some]
  cases q : fil (iF m) a1 with
  | false => exact h.err (-1) (by rw [bF]) (by rw [bF])
  | true =>
    obtain ⟨f, hf, rfl, hp⟩ := fil_out q
    have gf : vp_in (nI f) 40 := vin_nI hf (by decide)
    rw [bT, bT, gd_pos gf, gd_pos gf, ix_nI (by omega), Option.bind_some, h.1.rS.1 f hf]
    rcases wStk_home h.1.wS hf with e | ⟨s, hs, e, hn, -⟩
    · rw [e, if_pos rfl, if_neg (by decide)]
      exact h.err (-2) rfl rfl
    · have gs : vp_in (nI s) 10 := vin_nI hs (by decide)
      obtain ⟨hB, hD, hA, hJ, hM⟩ := h
      obtain ⟨c1, m1, e1, e2, fc, fm, w, r, -⟩ := rel_pair hB.wS hB.rS hf
      obtain ⟨c', m', e3, e4, i1, i2, i3, i4⟩ := fin_settle ⟨rel_Ba hB fc fm w r, rel_Al hA fc fm, rel_J hJ fc fm⟩ fc.frM fm.frC
      rw [e, if_neg (nI_ne_m1 (by omega)), if_pos (nI_pos' (by omega)), e1, e2]
      simp only [Option.bind_some, gd_pos gs, e3, e4]
      rw [ix_nI (by omega), i1.1.rS.2.1 s hs, i4.1 30 (by decide)]
      refine ⟨_, c', m', rfl, rfl, i1, i2, i3, fun _ => ?_⟩
      obtain ⟨n, hn8, en, -⟩ := w.2.1 s hs
      rw [en]; exact lo_nI (by decide) (by omega)
/-- a file goes, on both sides -/
theorem disc_pair {c m : Sx} (hB : Ba c m) (hA : RAl c m) (hJ : RJ c m) {f : Nat} (hf : f < 40) : ∃ c1 m1, f_X8_discard c (nI f) = some c1 ∧ f_X9_goes m (nI f) = some m1 ∧ Ba c1 m1 ∧ RAl c1 m1 ∧ RJ c1 m1 ∧ FrM c c1 ∧ FrC m m1 ∧ (∀ i, iF m1 i = if i = f then false else iF m i) ∧ gA m1 24 = gA m 24 := by
  obtain ⟨c1, m1, e1, e2, fc, fm, w, r, hh⟩ := rel_pair hB.wS hB.rS hf
  have gf : vp_in (nI f) 40 := vin_nI hf (by decide)
  have b1 := rel_Ba hB fc fm w r
  unfold f_X8_discard f_X9_goes f_X1_drop f_X8_only
  rw [e1, e2]
  simp only [Option.bind_some, gd_pos gf, bd_eq]
  rw [ix_nI (by omega)]
  have eF : ∀ i, iF (pA m1 23 f 0) i = if i = f then false else iF m1 i := fun i => by
    unfold iF; rw [gA_pA_at]; split <;> rfl
  have eF1 : iF m1 = iF m := iF_on (fm.2.2.2 23 (by decide) (by decide) (by decide) (by decide))
  refine ⟨_, _, rfl, rfl, ⟨b1.wO.on rfl, b1.wV.on rfl rfl, ⟨fun f' hf' => ?_, b1.wS.2.1, b1.wS.2.2.1, b1.wS.2.2.2.1, b1.wS.2.2.2.2⟩, b1.wT.on rfl rfl, fun k hk => ?_, fun g hg hpg => ?_, fun g hg hpg j hj => ?_, b1.rO, ?_, b1.rT, b1.wG.on rfl rfl⟩, ?_, ?_, fc.frM.tr FrM.pL, fm.frC.tr (FrC.pA (by omega)), fun i => by rw [eF, eF1], by rw [gA_pA_ne (by decide)]; exact fm.2.2.2 24 (by decide) (by decide) (by decide) (by decide)⟩
  · show gA m1 29 f' = -1 ∨ _
    by_cases q : f' = f
    · rw [q]; exact Or.inl hh
    · rcases w.1 f' hf' with u | ⟨s, u1, u2, u3, u4⟩
      · exact Or.inl u
      · exact Or.inr ⟨s, u1, u2, by rw [eF, if_neg q]; exact u3, u4⟩
  · rw [gL_pL, if_pos rfl, hb_cut _ (by omega) hk, b1.rP k hk, eF]
    by_cases q : k = f
    · rw [decide_eq_true q, if_pos q]; simp
    · rw [decide_eq_false q, if_neg q]; simp
  · rw [eF] at hpg
    by_cases q : g = f
    · rw [if_pos q] at hpg; cases hpg
    · rw [if_neg q] at hpg; exact b1.rD g hg hpg
  · rw [eF] at hpg
    by_cases q : g = f
    · rw [if_pos q] at hpg; cases hpg
    · rw [if_neg q] at hpg; exact b1.rV g hg hpg j hj
  · obtain ⟨s1, s2, s3, s4, s5⟩ := b1.rS
    exact ⟨s1, s2, s3, s4, fun k hk => by rw [gL_pL, if_neg (by decide)]; exact s5 k hk⟩
  · exact (rel_Al hA fc fm).on (fun _ _ _ => rfl) (fun _ _ _ => rfl) (fun k hk => by rw [gL_pL, if_neg (by omega)]) (fun a _ _ => gA_pA_ne (by omega)) rfl
  · exact (rel_J hJ fc fm).on rfl rfl rfl rfl rfl rfl rfl
theorem cal_remove (a1 : Int32) : Cal (-1) (fun t => f_X8_remove t a1) (fun t => f_X9_remove t a1) := fun c m h => by
  show ∃ r c' m', f_X8_remove c a1 = some (r, c') ∧ f_X9_remove m a1 = some (r, m') ∧ _
  unfold f_X8_remove f_X9_remove
  rw [hasC h.1, there_eq, Option.bind_some, Option.bind_some]
  cases q : fil (iF m) a1 with
  | false => exact h.err (-1) (by rw [bF]) (by rw [bF])
  | true =>
    obtain ⟨f, hf, rfl, hp⟩ := fil_out q
    obtain ⟨hB, hD, hA, hJ, hM⟩ := h
    obtain ⟨c1, m1, e1, e2, b1, a1, j1, f1, f2, -, -⟩ := disc_pair hB hA hJ hf
    obtain ⟨c', m', e3, e4, i1, i2, i3, i4⟩ := fin_settle ⟨b1, a1, j1⟩ f1 f2
    rw [bT, bT, e1, e2]
    simp only [Option.bind_some, e3, fileCountM, e4, howMany_eq i1.1.rP]
    rw [iF_on (i4.1 23 (by decide))]
    exact ⟨_, c', m', rfl, rfl, i1, i2, i3, fun _ => lo_nI (by decide) (by have := fb_ct_le (iF m1) 40; omega)⟩
/-! ===== merge ===== -/
def mgv (a b : Int32) : Int32 := if a = -1 then b else a
def mgt (a b : Int32) : Int32 := if a = -1 then b else if b = -1 then a else a ||| b
def mgj (j : Nat) (a b : Int32) : Int32 := if j % 6 = 5 then mgt a b else mgv a b
theorem absIn_eq {c : Sx} {k g s : Nat} (hk : k < 40) (hg : g < 40) (hne : k ≠ g) (hs : s < 3) : ∃ y, (∀ kont : Int32 → Sx → Option Sx, L_X1_absorbOne_10 (nI k) (nI g) (nI s) kont FU 0 c = kont (nI 5) y) ∧ OnA 11 c y ∧ ∀ i, gA y 11 i = if 18 * k + 6 * s ≤ i ∧ i < 18 * k + 6 * s + 5 then mgv (gA c 11 i) (gA c 11 (18 * g + (i - 18 * k))) else gA c 11 i := by
  obtain ⟨y, ⟨h1, h2⟩, e⟩ := loop0G (L := fun n i y (kont : Int32 → Sx → Option Sx) => L_X1_absorbOne_10 (nI k) (nI g) (nI s) kont n i y) (E := fun y kont => kont (nI 5) y) (N := 5) (by decide) (y := c)
    (fun fl y => OnA 11 c y ∧ ∀ i, gA y 11 i = if 18 * k + 6 * s ≤ i ∧ i < 18 * k + 6 * s + fl then mgv (gA c 11 i) (gA c 11 (18 * g + (i - 18 * k))) else gA c 11 i)
    (fun n y _ => by
      funext kont
      show L_X1_absorbOne_10 _ _ _ _ _ _ _ = _
      rw [L_X1_absorbOne_10, if_pos (by decide)])
    (fun fl y hfl h => by
      obtain ⟨h1, h2⟩ := h
      have r1 : gA y 11 (18 * k + 6 * s + fl) = gA c 11 (18 * k + 6 * s + fl) := by rw [h2, if_neg (by omega)]
      have r2 : gA y 11 (18 * g + 6 * s + fl) = gA c 11 (18 * g + 6 * s + fl) := by rw [h2, if_neg (by omega)]
      have step : ∀ (kont : Int32 → Sx → Option Sx) n, L_X1_absorbOne_10 (nI k) (nI g) (nI s) kont (n + 1) (nI fl) y = if gA c 11 (18 * k + 6 * s + fl) = -1 then L_X1_absorbOne_10 (nI k) (nI g) (nI s) kont n (nI (fl + 1)) (pA y 11 (18 * k + 6 * s + fl) (gA c 11 (18 * g + 6 * s + fl))) else L_X1_absorbOne_10 (nI k) (nI g) (nI s) kont n (nI (fl + 1)) y := fun kont n => by
        rw [L_X1_absorbOne_10, if_neg (by rw [show (4 : Int32) = nI 4 from rfl, nI_lt_iff (by decide) (by omega)]; omega), told_eq y hk hs (by omega), Option.bind_some, r1, told_eq y hg hs (by omega), Option.bind_some, r2, tell_eq y hk hs (by omega), Option.bind_some, nI_lit1]
      by_cases q : gA c 11 (18 * k + 6 * s + fl) = -1
      · refine ⟨pA y 11 (18 * k + 6 * s + fl) (gA c 11 (18 * g + 6 * s + fl)), ⟨h1.pA _ _, fun i => ?_⟩, fun n => ?_⟩
        · rw [gA_pA_at, h2]
          by_cases z : i = 18 * k + 6 * s + fl
          · rw [if_pos z, if_pos (by omega), z, mgv, if_pos q]; congr 1; omega
          · rw [if_neg z]
            by_cases u : 18 * k + 6 * s ≤ i ∧ i < 18 * k + 6 * s + fl
            · rw [if_pos u, if_pos (by omega)]
            · rw [if_neg u, if_neg (by omega)]
        · funext kont
          show L_X1_absorbOne_10 _ _ _ _ _ _ _ = L_X1_absorbOne_10 _ _ _ _ _ _ _
          rw [step, if_pos q]
      · refine ⟨y, ⟨h1, fun i => ?_⟩, fun n => ?_⟩
        · rw [h2]
          by_cases z : i = 18 * k + 6 * s + fl
          · rw [if_neg (by omega), if_pos (by omega), z, mgv, if_neg q]
          · by_cases u : 18 * k + 6 * s ≤ i ∧ i < 18 * k + 6 * s + fl
            · rw [if_pos u, if_pos (by omega)]
            · rw [if_neg u, if_neg (by omega)]
        · funext kont
          show L_X1_absorbOne_10 _ _ _ _ _ _ _ = L_X1_absorbOne_10 _ _ _ _ _ _ _
          rw [step, if_neg q])
    ⟨OnA.rf _ _, fun i => by rw [if_neg (by omega)]⟩
  exact ⟨y, fun kont => congrFun e kont, h1, h2⟩
theorem absorbOne_eq {c : Sx} {k g : Nat} (hk : k < 40) (hg : g < 40) (hne : k ≠ g) : ∃ y, f_X1_absorbOne c (nI k) (nI g) = some y ∧ OnA 11 c y ∧ ∀ i, gA y 11 i = if 18 * k ≤ i ∧ i < 18 * k + 18 then mgj (i - 18 * k) (gA c 11 i) (gA c 11 (18 * g + (i - 18 * k))) else gA c 11 i := by
  unfold f_X1_absorbOne
  obtain ⟨y, ⟨h1, h2⟩, e⟩ := loop0 (L := fun n i y => L_X1_absorbOne_2 (nI k) (nI g) (fun z10 t11 => some t11) n i y) (E := fun y => some y) (N := 3) (by decide) (y := c)
    (fun s y => OnA 11 c y ∧ ∀ i, gA y 11 i = if 18 * k ≤ i ∧ i < 18 * k + 6 * s then mgj (i - 18 * k) (gA c 11 i) (gA c 11 (18 * g + (i - 18 * k))) else gA c 11 i)
    (fun n y _ => by
      show L_X1_absorbOne_2 _ _ _ _ _ _ = _
      rw [L_X1_absorbOne_2, if_pos (by decide)])
    (fun s y hs h => by
      obtain ⟨h1, h2⟩ := h
      obtain ⟨y2, e2, o2, j2⟩ := absIn_eq (c := y) hk hg hne hs
      have t1 : f_X1_told y2 (nI k) (nI s) 5 = some (gA c 11 (18 * k + 6 * s + 5)) := by
        rw [show (5 : Int32) = nI 5 from rfl, told_eq y2 hk hs (by decide), j2, if_neg (by omega), h2, if_neg (by omega)]
      have t2 : f_X1_told y2 (nI g) (nI s) 5 = some (gA c 11 (18 * g + 6 * s + 5)) := by
        rw [show (5 : Int32) = nI 5 from rfl, told_eq y2 hg hs (by decide), j2, if_neg (by omega), h2, if_neg (by omega)]
      have t3 : f_X1_union y2 (gA c 11 (18 * k + 6 * s + 5)) (gA c 11 (18 * g + 6 * s + 5)) = some (mgt (gA c 11 (18 * k + 6 * s + 5)) (gA c 11 (18 * g + 6 * s + 5))) := by
        unfold f_X1_union mgt
        split
        · rfl
        · split <;> rfl
      have t4 : ∀ v, f_X1_tell y2 (nI k) (nI s) 5 v = some (pA y2 11 (18 * k + 6 * s + 5) v) := fun v => by rw [show (5 : Int32) = nI 5 from rfl, tell_eq y2 hk hs (by decide)]
      refine ⟨pA y2 11 (18 * k + 6 * s + 5) (mgt (gA c 11 (18 * k + 6 * s + 5)) (gA c 11 (18 * g + 6 * s + 5))), ⟨?_, fun i => ?_⟩, fun n => ?_⟩
      · exact OnA.pA ⟨fun a ha => (o2.1 a ha).trans (h1.1 a ha), o2.2.1.trans h1.2.1, o2.2.2.1.trans h1.2.2.1, o2.2.2.2.trans h1.2.2.2⟩ _ _
      · rw [gA_pA_at, j2]
        by_cases z : i = 18 * k + 6 * s + 5
        · rw [if_pos z, if_pos (by omega), z, mgj, if_pos (by omega)]; congr 2; omega
        · rw [if_neg z]
          by_cases u : 18 * k + 6 * s ≤ i ∧ i < 18 * k + 6 * s + 5
          · rw [if_pos u, if_pos (by omega), h2, if_neg (by omega), h2, if_neg (by omega), mgj, if_neg (by omega)]
          · rw [if_neg u, h2]
            by_cases v : 18 * k ≤ i ∧ i < 18 * k + 6 * s
            · rw [if_pos v, if_pos (by omega)]
            · rw [if_neg v, if_neg (by omega)]
      · show L_X1_absorbOne_2 _ _ _ _ _ _ = _
        rw [L_X1_absorbOne_2, if_neg (by rw [show (3 : Int32) = nI 3 from rfl, nI_le_iff (by decide) (by omega)]; omega), e2, t1, Option.bind_some, t2, Option.bind_some, t3, Option.bind_some, t4, Option.bind_some, nI_lit1])
    ⟨OnA.rf _ _, fun i => by rw [if_neg (by omega)]⟩
  exact ⟨y, e, h1, h2⟩
