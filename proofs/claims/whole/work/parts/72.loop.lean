/-! ===== the law's loop ===== -/
theorem Inv.frM {c m m1 : Sx} (h : Inv c m) (f : FrM m m1) : Inv c m1 := by
  obtain ⟨hB, hD, hA, hJ, hM⟩ := h
  have k : ∀ a, 23 ≤ a → a < 100 → gA m1 a = gA m a := f.1
  have i52 := f.2.1 52 (by decide) (by decide)
  exact ⟨⟨hB.wO.on (k 28 (by decide) (by decide)), hB.wV.on (k 26 (by decide) (by decide)) (k 27 (by decide) (by decide)), hB.wS.on (k 23 (by decide) (by decide)) (k 29 (by decide) (by decide)) (k 30 (by decide) (by decide)) (k 31 (by decide) (by decide)) (k 32 (by decide) (by decide)), hB.wT.on i52 (k 34 (by decide) (by decide)), hB.rP.onM (k 23 (by decide) (by decide)), hB.rD.onM (k 23 (by decide) (by decide)) (k 24 (by decide) (by decide)) (k 25 (by decide) (by decide)), hB.rV.onM (k 23 (by decide) (by decide)) (k 26 (by decide) (by decide)) (k 27 (by decide) (by decide)), hB.rO.onM (k 28 (by decide) (by decide)), hB.rS.onM (k 29 (by decide) (by decide)) (k 30 (by decide) (by decide)) (k 31 (by decide) (by decide)) (k 32 (by decide) (by decide)) (k 33 (by decide) (by decide)), hB.rT.onM i52 (k 34 (by decide) (by decide)), hB.wG.on (k 26 (by decide) (by decide)) (k 27 (by decide) (by decide))⟩, hD.gen rfl rfl rfl rfl (k 23 (by decide) (by decide)) (k 24 (by decide) (by decide)) (k 26 (by decide) (by decide)) (k 27 (by decide) (by decide)) (k 28 (by decide) (by decide)) (k 30 (by decide) (by decide)) (k 31 (by decide) (by decide)) (k 32 (by decide) (by decide)), hA.on (fun _ _ _ => rfl) (fun _ _ _ => rfl) (fun _ _ => rfl) (fun a h1 h2 => k a (by omega) (by omega)) f.2.2, hJ.on rfl rfl (f.2.1 53 (by decide) (by decide)) rfl rfl rfl (k 41 (by decide) (by decide)), hM.on (k 23 (by decide) (by decide)) (k 35 (by decide) (by decide)) f.2.2⟩
theorem Inv.frC {c c1 m : Sx} (h : Inv c m) (f : FrC c c1) : Inv c1 m := by
  obtain ⟨hB, hD, hA, hJ, hM⟩ := h
  exact ⟨hB.onC (fun a ha _ => f.1 a (by omega)) (f.1 108 (by decide)) (f.2.2.1 8) (f.2.2.1 11) (f.2.1 158 (by decide)), hD.onC (f.1 12 (by decide)) (fun k _ => f.2.2.1 k), hA.on (fun k hk _ => f.2.1 k (by omega)) (fun a ha _ => f.1 a (by omega)) (fun k _ => f.2.2.1 k) (fun _ _ _ => rfl) rfl, hJ.on (f.2.1 49 (by decide)) (f.2.1 50 (by decide)) rfl (f.1 20 (by decide)) (f.1 21 (by decide)) (f.1 22 (by decide)) rfl, hM⟩
theorem Cal.run {F G : Sx → Option (Int32 × Sx)} (h : Cal F G) {y : Sx} (hi : Inv y y) : ∃ r c' m', F y = some (r, c') ∧ G c' = some (r, m') ∧ Inv m' m' := by
  obtain ⟨r, c1, m1, e1, -, -, f1, -⟩ := h y y hi
  obtain ⟨r2, c2, m2, e2, e3, i2, -, f2⟩ := h y c1 (hi.frM f1)
  rw [e1] at e2
  cases e2
  exact ⟨r, c1, m2, e1, e3, i2.frC f2⟩
theorem Ask.run {F G : Sx → Option Int32} (h : Ask F G) {y : Sx} (hi : Inv y y) : ∃ r, F y = some r ∧ G y = some r := h y y hi
theorem lw_lim {L i : Nat} (hL : L ≤ 2560) (hi : i ≤ 2560) : (Int32.ofNat L - 5 < nI i) ↔ L < i + 5 := by
  have e1 : (Int32.ofNat L).toInt = L := nI_toInt (by omega)
  have e2 : (nI i).toInt = i := nI_toInt (by omega)
  have e3 : (Int32.ofNat L - 5).toInt = (L : Int) - 5 := by
    rw [isub (by rw [e1]; show _ ≤ (L : Int) - 5; omega) (by rw [e1]; show (L : Int) - 5 < _; omega), e1]; rfl
  rw [i_lt, e2, e3]
  omega

set_option maxRecDepth 20000 in
set_option maxHeartbeats 4000000 in
theorem L_law_one (xs : Nat → Int32) {L : Nat} (hL : L ≤ 2560) : ∀ (n i : Nat) (y : Sx), i ≤ L → L < i + 5 * n → Inv y y → L_law xs L n (nI i) y = some 1 := by
  intro n
  induction n with
  | zero => intro i y h1 h2 _; omega
  | succ n ih =>
    intro i y h1 h2 hi
    rw [L_law]
    by_cases q : L < i + 5
    · rw [if_pos ((lw_lim hL (by omega)).mpr q)]
    · rw [if_neg (fun w => q ((lw_lim hL (by omega)).mp w))]
      have i5 : nI i + 5 = nI (i + 5) := by rw [show (5 : Int32) = nI 5 from rfl, nI_add]
      have i1 : nI i + 1 = nI (i + 1) := by rw [show (1 : Int32) = nI 1 from rfl, nI_add]
      have i2 : nI i + 2 = nI (i + 2) := by rw [show (2 : Int32) = nI 2 from rfl, nI_add]
      have i3 : nI i + 3 = nI (i + 3) := by rw [show (3 : Int32) = nI 3 from rfl, nI_add]
      have i4 : nI i + 4 = nI (i + 4) := by rw [show (4 : Int32) = nI 4 from rfl, nI_add]
      have g0 : vp_in (nI i) L := vin_nI (by omega) (by omega)
      have g1 : vp_in (nI (i + 1)) L := vin_nI (by omega) (by omega)
      have g2 : vp_in (nI (i + 2)) L := vin_nI (by omega) (by omega)
      have g3 : vp_in (nI (i + 3)) L := vin_nI (by omega) (by omega)
      have g4 : vp_in (nI (i + 4)) L := vin_nI (by omega) (by omega)
      have nx : ∀ y', Inv y' y' → L_law xs L n (nI (i + 5)) y' = some 1 := fun y' h => ih (i + 5) y' (by omega) (by omega) h
      simp only [i5, i1, i2, i3, i4, gd_pos g0, gd_pos g1, gd_pos g2, gd_pos g3, gd_pos g4, bd_eq]
      generalize xs (ix (nI i)) &&& 63 = v
      generalize xs (ix (nI (i + 1))) = x1
      generalize xs (ix (nI (i + 2))) = x2
      generalize xs (ix (nI (i + 3))) = x3
      generalize xs (ix (nI (i + 4))) = x4
      by_cases q0 : v = 0
      · rw [if_pos q0]
        obtain ⟨r, c1, m1, e1, e2, hi2⟩ := (cal_add x1 x2).run hi
        rw [show f_X8_add y x1 x2 = some (r, c1) from e1, Option.bind_some, show f_X9_add c1 x1 x2 = some (r, m1) from e2, Option.bind_some, if_pos rfl]
        exact nx m1 hi2
      rw [if_neg q0]
      by_cases q1 : v = 1
      · rw [if_pos q1]
        obtain ⟨r, c1, m1, e1, e2, hi2⟩ := (cal_remove x1).run hi
        rw [show f_X8_remove y x1 = some (r, c1) from e1, Option.bind_some, show f_X9_remove c1 x1 = some (r, m1) from e2, Option.bind_some, if_pos rfl]
        exact nx m1 hi2
      rw [if_neg q1]
      by_cases q2 : v = 2
      · rw [if_pos q2]
        obtain ⟨r, e1, e2⟩ := (ask_fileCount).run hi
        rw [show f_X8_fileCount y = some r from e1, Option.bind_some, show f_X9_fileCount y = some r from e2, Option.bind_some, if_pos rfl]
        exact nx y hi
      rw [if_neg q2]
      by_cases q3 : v = 3
      · rw [if_pos q3]
        obtain ⟨r, c1, m1, e1, e2, hi2⟩ := (cal_setDigest x1 x2).run hi
        rw [show f_X8_setDigest y x1 x2 = some (r, c1) from e1, Option.bind_some, show f_X9_setDigest c1 x1 x2 = some (r, m1) from e2, Option.bind_some, if_pos rfl]
        exact nx m1 hi2
      rw [if_neg q3]
      by_cases q4 : v = 4
      · rw [if_pos q4]
        obtain ⟨r, c1, m1, e1, e2, hi2⟩ := (cal_setValue x1 x2 x3 x4).run hi
        rw [show f_X8_setValue y x1 x2 x3 x4 = some (r, c1) from e1, Option.bind_some, show f_X9_setValue c1 x1 x2 x3 x4 = some (r, m1) from e2, Option.bind_some, if_pos rfl]
        exact nx m1 hi2
      rw [if_neg q4]
      by_cases q5 : v = 5
      · rw [if_pos q5]
        obtain ⟨r, c1, m1, e1, e2, hi2⟩ := (cal_clearValue x1 x2 x3).run hi
        rw [show f_X8_clearValue y x1 x2 x3 = some (r, c1) from e1, Option.bind_some, show f_X9_clearValue c1 x1 x2 x3 = some (r, m1) from e2, Option.bind_some, if_pos rfl]
        exact nx m1 hi2
      rw [if_neg q5]
      by_cases q6 : v = 6
      · rw [if_pos q6]
        obtain ⟨r, e1, e2⟩ := (ask_value x1 x2).run hi
        rw [show f_X8_value y x1 x2 = some r from e1, Option.bind_some, show f_X9_value y x1 x2 = some r from e2, Option.bind_some, if_pos rfl]
        exact nx y hi
      rw [if_neg q6]
      by_cases q7 : v = 7
      · rw [if_pos q7]
        obtain ⟨r, e1, e2⟩ := (ask_sourceOf x1 x2).run hi
        rw [show f_X8_sourceOf y x1 x2 = some r from e1, Option.bind_some, show f_X9_sourceOf y x1 x2 = some r from e2, Option.bind_some, if_pos rfl]
        exact nx y hi
      rw [if_neg q7]
      by_cases q8 : v = 8
      · rw [if_pos q8]
        obtain ⟨r, c1, m1, e1, e2, hi2⟩ := (cal_setOrder x1 x2 x3).run hi
        rw [show f_X8_setOrder y x1 x2 x3 = some (r, c1) from e1, Option.bind_some, show f_X9_setOrder c1 x1 x2 x3 = some (r, m1) from e2, Option.bind_some, if_pos rfl]
        exact nx m1 hi2
      rw [if_neg q8]
      by_cases q9 : v = 9
      · rw [if_pos q9]
        obtain ⟨r, e1, e2⟩ := (ask_keeperOf x1).run hi
        rw [show f_X8_keeperOf y x1 = some r from e1, Option.bind_some, show f_X9_keeperOf y x1 = some r from e2, Option.bind_some, if_pos rfl]
        exact nx y hi
      rw [if_neg q9]
      by_cases q10 : v = 10
      · rw [if_pos q10]
        obtain ⟨r, e1, e2⟩ := (ask_groupSize x1).run hi
        rw [show f_X8_groupSize y x1 = some r from e1, Option.bind_some, show f_X9_groupSize y x1 = some r from e2, Option.bind_some, if_pos rfl]
        exact nx y hi
      rw [if_neg q10]
      by_cases q11 : v = 11
      · rw [if_pos q11]
        obtain ⟨r, e1, e2⟩ := (ask_wasted).run hi
        rw [show f_X8_wasted y = some r from e1, Option.bind_some, show f_X9_wasted y = some r from e2, Option.bind_some, if_pos rfl]
        exact nx y hi
      rw [if_neg q11]
      by_cases q12 : v = 12
      · rw [if_pos q12]
        obtain ⟨r, c1, m1, e1, e2, hi2⟩ := (cal_merge x1).run hi
        rw [show f_X8_merge y x1 = some (r, c1) from e1, Option.bind_some, show f_X9_merge c1 x1 = some (r, m1) from e2, Option.bind_some, if_pos rfl]
        exact nx m1 hi2
      rw [if_neg q12]
      by_cases q13 : v = 13
      · rw [if_pos q13]
        obtain ⟨r, c1, m1, e1, e2, hi2⟩ := (cal_stack x1 x2).run hi
        rw [show f_X8_stack y x1 x2 = some (r, c1) from e1, Option.bind_some, show f_X9_stack c1 x1 x2 = some (r, m1) from e2, Option.bind_some, if_pos rfl]
        exact nx m1 hi2
      rw [if_neg q13]
      by_cases q14 : v = 14
      · rw [if_pos q14]
        obtain ⟨r, c1, m1, e1, e2, hi2⟩ := (cal_putInto x1 x2 x3).run hi
        rw [show f_X8_putInto y x1 x2 x3 = some (r, c1) from e1, Option.bind_some, show f_X9_putInto c1 x1 x2 x3 = some (r, m1) from e2, Option.bind_some, if_pos rfl]
        exact nx m1 hi2
      rw [if_neg q14]
      by_cases q15 : v = 15
      · rw [if_pos q15]
        obtain ⟨r, c1, m1, e1, e2, hi2⟩ := (cal_takeOut x1).run hi
        rw [show f_X8_takeOut y x1 = some (r, c1) from e1, Option.bind_some, show f_X9_takeOut c1 x1 = some (r, m1) from e2, Option.bind_some, if_pos rfl]
        exact nx m1 hi2
      rw [if_neg q15]
      by_cases q16 : v = 16
      · rw [if_pos q16]
        obtain ⟨r, c1, m1, e1, e2, hi2⟩ := (cal_chooseCover x1 x2).run hi
        rw [show f_X8_chooseCover y x1 x2 = some (r, c1) from e1, Option.bind_some, show f_X9_chooseCover c1 x1 x2 = some (r, m1) from e2, Option.bind_some, if_pos rfl]
        exact nx m1 hi2
      rw [if_neg q16]
      by_cases q17 : v = 17
      · rw [if_pos q17]
        obtain ⟨r, c1, m1, e1, e2, hi2⟩ := (cal_collapse x1 x2).run hi
        rw [show f_X8_collapse y x1 x2 = some (r, c1) from e1, Option.bind_some, show f_X9_collapse c1 x1 x2 = some (r, m1) from e2, Option.bind_some, if_pos rfl]
        exact nx m1 hi2
      rw [if_neg q17]
      by_cases q18 : v = 18
      · rw [if_pos q18]
        obtain ⟨r, e1, e2⟩ := (ask_stackOf x1).run hi
        rw [show f_X8_stackOf y x1 = some r from e1, Option.bind_some, show f_X9_stackOf y x1 = some r from e2, Option.bind_some, if_pos rfl]
        exact nx y hi
      rw [if_neg q18]
      by_cases q19 : v = 19
      · rw [if_pos q19]
        obtain ⟨r, e1, e2⟩ := (ask_coverOf x1).run hi
        rw [show f_X8_coverOf y x1 = some r from e1, Option.bind_some, show f_X9_coverOf y x1 = some r from e2, Option.bind_some, if_pos rfl]
        exact nx y hi
      rw [if_neg q19]
      by_cases q20 : v = 20
      · rw [if_pos q20]
        obtain ⟨r, e1, e2⟩ := (ask_stackAt x1 x2).run hi
        rw [show f_X8_stackAt y x1 x2 = some r from e1, Option.bind_some, show f_X9_stackAt y x1 x2 = some r from e2, Option.bind_some, if_pos rfl]
        exact nx y hi
      rw [if_neg q20]
      by_cases q21 : v = 21
      · rw [if_pos q21]
        obtain ⟨r, c1, m1, e1, e2, hi2⟩ := (cal_type x1).run hi
        rw [show f_X8_type y x1 = some (r, c1) from e1, Option.bind_some, show f_X9_type c1 x1 = some (r, m1) from e2, Option.bind_some, if_pos rfl]
        exact nx m1 hi2
      rw [if_neg q21]
      by_cases q22 : v = 22
      · rw [if_pos q22]
        obtain ⟨r, c1, m1, e1, e2, hi2⟩ := (cal_clearRule).run hi
        rw [show f_X8_clearRule y = some (r, c1) from e1, Option.bind_some, show f_X9_clearRule c1 = some (r, m1) from e2, Option.bind_some, if_pos rfl]
        exact nx m1 hi2
      rw [if_neg q22]
      by_cases q23 : v = 23
      · rw [if_pos q23]
        obtain ⟨r, e1, e2⟩ := (ask_fault).run hi
        rw [show f_X8_fault y = some r from e1, Option.bind_some, show f_X9_fault y = some r from e2, Option.bind_some, if_pos rfl]
        exact nx y hi
      rw [if_neg q23]
      by_cases q24 : v = 24
      · rw [if_pos q24]
        obtain ⟨r, c1, m1, e1, e2, hi2⟩ := (cal_satisfies x1).run hi
        rw [show f_X8_satisfies y x1 = some (r, c1) from e1, Option.bind_some, show f_X9_satisfies c1 x1 = some (r, m1) from e2, Option.bind_some, if_pos rfl]
        exact nx m1 hi2
      rw [if_neg q24]
      by_cases q25 : v = 25
      · rw [if_pos q25]
        obtain ⟨r, c1, m1, e1, e2, hi2⟩ := (cal_select).run hi
        rw [show f_X8_select y = some (r, c1) from e1, Option.bind_some, show f_X9_select c1 = some (r, m1) from e2, Option.bind_some, if_pos rfl]
        exact nx m1 hi2
      rw [if_neg q25]
      by_cases q26 : v = 26
      · rw [if_pos q26]
        obtain ⟨r, c1, m1, e1, e2, hi2⟩ := (cal_makeAlbum).run hi
        rw [show f_X8_makeAlbum y = some (r, c1) from e1, Option.bind_some, show f_X9_makeAlbum c1 = some (r, m1) from e2, Option.bind_some, if_pos rfl]
        exact nx m1 hi2
      rw [if_neg q26]
      by_cases q27 : v = 27
      · rw [if_pos q27]
        obtain ⟨r, c1, m1, e1, e2, hi2⟩ := (cal_removeAlbum x1).run hi
        rw [show f_X8_removeAlbum y x1 = some (r, c1) from e1, Option.bind_some, show f_X9_removeAlbum c1 x1 = some (r, m1) from e2, Option.bind_some, if_pos rfl]
        exact nx m1 hi2
      rw [if_neg q27]
      by_cases q28 : v = 28
      · rw [if_pos q28]
        obtain ⟨r, c1, m1, e1, e2, hi2⟩ := (cal_changeRule x1).run hi
        rw [show f_X8_changeRule y x1 = some (r, c1) from e1, Option.bind_some, show f_X9_changeRule c1 x1 = some (r, m1) from e2, Option.bind_some, if_pos rfl]
        exact nx m1 hi2
      rw [if_neg q28]
      by_cases q29 : v = 29
      · rw [if_pos q29]
        obtain ⟨r, e1, e2⟩ := (ask_albumSize x1).run hi
        rw [show f_X8_albumSize y x1 = some r from e1, Option.bind_some, show f_X9_albumSize y x1 = some r from e2, Option.bind_some, if_pos rfl]
        exact nx y hi
      rw [if_neg q29]
      by_cases q30 : v = 30
      · rw [if_pos q30]
        obtain ⟨r, e1, e2⟩ := (ask_isIn x1 x2).run hi
        rw [show f_X8_isIn y x1 x2 = some r from e1, Option.bind_some, show f_X9_isIn y x1 x2 = some r from e2, Option.bind_some, if_pos rfl]
        exact nx y hi
      rw [if_neg q30]
      by_cases q31 : v = 31
      · rw [if_pos q31]
        obtain ⟨r, c1, m1, e1, e2, hi2⟩ := (cal_sortBy x1 x2 x3).run hi
        rw [show f_X8_sortBy y x1 x2 x3 = some (r, c1) from e1, Option.bind_some, show f_X9_sortBy c1 x1 x2 x3 = some (r, m1) from e2, Option.bind_some, if_pos rfl]
        exact nx m1 hi2
      rw [if_neg q31]
      by_cases q32 : v = 32
      · rw [if_pos q32]
        obtain ⟨r, e1, e2⟩ := (ask_viewSize x1).run hi
        rw [show f_X8_viewSize y x1 = some r from e1, Option.bind_some, show f_X9_viewSize y x1 = some r from e2, Option.bind_some, if_pos rfl]
        exact nx y hi
      rw [if_neg q32]
      by_cases q33 : v = 33
      · rw [if_pos q33]
        obtain ⟨r, e1, e2⟩ := (ask_viewAt x1 x2).run hi
        rw [show f_X8_viewAt y x1 x2 = some r from e1, Option.bind_some, show f_X9_viewAt y x1 x2 = some r from e2, Option.bind_some, if_pos rfl]
        exact nx y hi
      rw [if_neg q33]
      by_cases q34 : v = 34
      · rw [if_pos q34]
        obtain ⟨r, e1, e2⟩ := (ask_journalSize).run hi
        rw [show f_X8_journalSize y = some r from e1, Option.bind_some, show f_X9_journalSize y = some r from e2, Option.bind_some, if_pos rfl]
        exact nx y hi
      rw [if_neg q34]
      by_cases q35 : v = 35
      · rw [if_pos q35]
        obtain ⟨r, e1, e2⟩ := (ask_journalAt x1 x2).run hi
        rw [show f_X8_journalAt y x1 x2 = some r from e1, Option.bind_some, show f_X9_journalAt y x1 x2 = some r from e2, Option.bind_some, if_pos rfl]
        exact nx y hi
      rw [if_neg q35]
      by_cases q36 : v = 36
      · rw [if_pos q36]
        obtain ⟨r, e1, e2⟩ := (ask_turnover x1 x2).run hi
        rw [show f_X8_turnover y x1 x2 = some r from e1, Option.bind_some, show f_X9_turnover y x1 x2 = some r from e2, Option.bind_some, if_pos rfl]
        exact nx y hi
      rw [if_neg q36]
      by_cases q37 : v = 37
      · rw [if_pos q37]
        obtain ⟨r, e1, e2⟩ := (ask_count x1).run hi
        rw [show f_X8_count y x1 = some r from e1, Option.bind_some, show f_X9_count y x1 = some r from e2, Option.bind_some, if_pos rfl]
        exact nx y hi
      rw [if_neg q37]
      exact nx y hi
