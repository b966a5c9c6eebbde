/-! ===== p41: what the class answers ===== -/
section VALS
variable {c m : Sx}
theorem v_files (h : Inv c m) : f_X8_fileCount c = some (nI (fb_ct (iF m) 40)) := by
  unfold f_X8_fileCount
  rw [howMany_eq h.1.rP, Option.bind_some]
theorem v_keeper (h : Inv c m) {f : Nat} (hf : f < 40) (hp : iF m f = true) : ∃ k, f_X8_keeperOf c (nI f) = some (nI k) ∧ KP m f k := by
  obtain ⟨k, e1, k1⟩ := keeperC h.1 h.2.1.1 hf hp
  refine ⟨k, ?_, k1⟩
  unfold f_X8_keeperOf
  rw [hasC h.1, fil_nI hf, hp, Option.bind_some, bT, e1]
  rfl
theorem v_keeper0 (h : Inv c m) {f : Nat} (hf : f < 40) (hp : iF m f = false) : f_X8_keeperOf c (nI f) = some (-1) := by
  unfold f_X8_keeperOf
  rw [hasC h.1, fil_nI hf, hp, Option.bind_some, bF]
theorem v_grp (h : Inv c m) {f : Nat} (hf : f < 40) (hp : iF m f = true) : f_X8_groupSize c (nI f) = some (nI (fb_ct (grp m f) 40)) := by
  obtain ⟨x, e1, hx⟩ := alike_eq h.1.rP h.1.rD hf hp
  unfold f_X8_groupSize
  rw [hasC h.1, fil_nI hf, hp, Option.bind_some, bT, e1, Option.bind_some, bitCount_eq, cnt40 hx]
  rfl
theorem v_dig (h : Inv c m) {f : Nat} (hf : f < 40) (hp : iF m f = true) : f_X8_value c (nI f) 6 = some (gA m 24 f) := by
  unfold f_X8_value f_X1_digest
  rw [hasC h.1, fil_nI hf, hp, Option.bind_some, bT, isWithin_eq, Option.bind_some, show inr 6 0 7 = true from by decide, bT, if_pos rfl, gd_pos (vin_nI hf (by decide)), ix_nI (by omega), (h.1.rD f hf hp).1]
  rfl
theorem v_siz (h : Inv c m) {f : Nat} (hf : f < 40) (hp : iF m f = true) : f_X8_value c (nI f) 7 = some (gA m 25 f) := by
  unfold f_X8_value f_X1_bytes
  rw [hasC h.1, fil_nI hf, hp, Option.bind_some, bT, isWithin_eq, Option.bind_some, show inr 7 0 7 = true from by decide, bT, if_neg (by decide), if_pos rfl, gd_pos (vin_nI hf (by decide)), ix_nI (by omega), (h.1.rD f hf hp).2]
  rfl
theorem v_rat (h : Inv c m) {f : Nat} (hf : f < 40) (hp : iF m f = true) : f_X8_value c (nI f) 1 = some (if vOr m f 1 (-1) = -1 then -4 else vOr m f 1 (-1)) := by
  have e : f_X1_settledValue c (nI f) 1 = some (gA c 12 (6 * f + 1)) := settledValue_eq c (fld := 1) hf (by omega)
  unfold f_X8_value
  rw [hasC h.1, fil_nI hf, hp, Option.bind_some, bT, isWithin_eq, Option.bind_some, show inr 1 0 7 = true from by decide, bT, if_neg (by decide), if_neg (by decide), e, Option.bind_some, orNF, (h.2.1.1 f hf hp).1 1 (by omega)]
  rfl
theorem v_home (h : Inv c m) {f : Nat} (hf : f < 40) (hp : iF m f = true) : f_X8_stackOf c (nI f) = some (if gA m 29 f = -1 then -4 else gA m 29 f) := by
  unfold f_X8_stackOf f_X6_home
  rw [hasC h.1, fil_nI hf, hp, Option.bind_some, bT, gd_pos (vin_nI hf (by decide)), ix_nI (by omega), Option.bind_some, h.1.rS.1 f hf, orNF]
  rfl
theorem v_cov (h : Inv c m) {s : Nat} (hs : s < 10) (hn : 0 < mn m s) : f_X8_coverOf c (nI s) = some (nI (cov m s)) := by
  unfold f_X8_coverOf
  rw [hasS_eq h.1.wS h.1.rS, stn_nI hs, show isS m s = true from decide_eq_true hn, Option.bind_some, bT, coverC_eq h.1.wO h.1.wV h.1.wS h.1.rS h.2.1.1 hs hn]
  rfl
theorem v_at (h : Inv c m) {s k : Nat} (hs : s < 10) (hk : k < mn m s) : f_X8_stackAt c (nI s) (nI k) = some (nI (fl m s k)) := by
  obtain ⟨en, h8, -⟩ := wStk_mn h.1.wS hs
  have g := vin_nI (n := s) (N := 10) hs (by decide)
  have g2 : vp_in (nI (8 * s + k)) 80 := vin_nI (by omega) (by decide)
  obtain ⟨e, hl, -⟩ := wStk_fl h.1.wS hs hk
  unfold f_X8_stackAt f_X6_fileAt
  rw [hasS_eq h.1.wS h.1.rS, stn_nI hs, show isS m s = true from decide_eq_true (by omega), Option.bind_some, bT, if_pos (nI_pos' (by omega)), gd_pos g, ix_nI (by omega), h.1.rS.2.1 s hs, en, if_neg (by rw [nI_le_iff (by omega) (by omega)]; omega), spot_eq, Option.bind_some, gd_pos g2, ix_nI (by omega), h.1.rS.2.2.1 s hs k hk, Option.bind_some, orNF, e, nI_not_m1 (by omega)]
  rfl
theorem v_at8 (h : Inv c m) {s : Nat} (hs : s < 10) (hn : 0 < mn m s) : f_X8_stackAt c (nI s) 8 = some (-4) := by
  obtain ⟨en, h8, -⟩ := wStk_mn h.1.wS hs
  have g := vin_nI (n := s) (N := 10) hs (by decide)
  unfold f_X8_stackAt f_X6_fileAt
  rw [hasS_eq h.1.wS h.1.rS, stn_nI hs, show isS m s = true from decide_eq_true hn, Option.bind_some, bT, if_pos (by decide), gd_pos g, ix_nI (by omega), h.1.rS.2.1 s hs, en, if_pos (show nI (mn m s) ≤ 8 from nI_le (b := 8) h8 (by decide))]
  rfl
theorem v_wasted (h : Inv c m) : f_X8_wasted c = some (smR (fun k => iF m k && !pb (KP m k k)) (gA m 25) 40) := by
  unfold f_X8_wasted f_X1_all f_X2_keepers
  rw [Option.bind_some, Option.bind_some, sumOfSizes_eq, Option.bind_some]
  refine congrArg some (smR_cong fun k hk => ⟨?_, fun q => ?_⟩)
  · rw [hb_and, hb_not _ (by omega), h.1.rP k (by omega), decide_eq_true hk, Bool.true_and, pb_eq (h.2.1.2.1 k (by omega)).1]
  · exact (h.1.rD k hk ((Bool.and_eq_true _ _).mp q).1).2
theorem v_c4 (h : Inv c m) : f_X8_count c 4 = some (smR (iF m) (gA m 25) 40) := by
  unfold f_X8_count f_X1_all
  rw [if_neg (by decide), if_neg (by decide), if_neg (by decide), if_neg (by decide), if_pos rfl, Option.bind_some, sumOfSizes_eq, Option.bind_some, smR_cong (q := iF m) (w := gA m 25) (fun k hk => ⟨by rw [h.1.rP k (by omega), decide_eq_true hk, Bool.true_and], fun q => (h.1.rD k hk q).2⟩)]
theorem v_c2 (h : Inv c m) : f_X8_count c 2 = some (nI (fb_ct (fun k => iF m k && (pb (KP m k k) && decide (1 < fb_ct (grp m k) 40))) 40)) := by
  unfold f_X8_count f_X2_keepers f_X2_duplicates
  simp only [Option.bind_some]
  rw [if_neg (by decide), if_neg (by decide), if_pos trivial, bitCount_eq, cnt40 (p := fun k => iF m k && (pb (KP m k k) && decide (1 < fb_ct (grp m k) 40))) (fun k hk => by
    obtain ⟨d1, d2⟩ := h.2.1.2.1 k hk
    rw [hb_and, pb_eq d1]
    cases z : hb (gL c 10) k with
    | true =>
      obtain ⟨y1, y2, y3⟩ := d2.mp z
      rw [decide_eq_true y1, y2, decide_eq_true y3, Bool.and_true, Bool.true_and, Bool.true_and]
    | false =>
      rw [Bool.and_false]
      cases y1 : iF m k with
      | false => rw [Bool.false_and, Bool.and_false]
      | true =>
        by_cases y2 : k < 40
        · rw [decide_eq_false (p := 1 < fb_ct (grp m k) 40) (fun y3 => by rw [d2.mpr ⟨y2, y1, y3⟩] at z; cases z), Bool.and_false, Bool.and_false, Bool.and_false]
        · rw [decide_eq_false y2, Bool.false_and]), Option.bind_some]
theorem v_c0 (h : Inv c m) : f_X8_count c 0 = some (nI (fb_ct (isS m) 10)) := by
  unfold f_X8_count
  rw [if_pos rfl, howManyS_eq h.1.wS h.1.rS, Option.bind_some]
theorem v_c3 (h : Inv c m) : f_X8_count c 3 = some (nI (fb_ct (fun k => decide (gA m 29 k ≠ -1)) 40)) := by
  unfold f_X8_count f_X6_stacked
  simp only [Option.bind_some]
  rw [if_neg (by decide), if_neg (by decide), if_neg (by decide), if_pos trivial, bitCount_eq, cnt40 (p := fun k => decide (gA m 29 k ≠ -1)) (fun k hk => by
    have d := h.1.rS.2.2.2.2 k hk
    cases z : hb (gL c 11) k with
    | true => obtain ⟨y1, y2⟩ := d.mp z; rw [decide_eq_true y1, decide_eq_true y2]; rfl
    | false =>
      by_cases y1 : k < 40
      · rw [decide_eq_false (p := gA m 29 k ≠ -1) (fun y2 => by rw [d.mpr ⟨y1, y2⟩] at z; cases z), Bool.and_false]
      · rw [decide_eq_false y1, Bool.false_and]), Option.bind_some]
theorem v_jn (h : Inv c m) : ∃ e, e ≤ 24 ∧ f_X8_journalSize c = some (nI e) := by
  obtain ⟨e, lt, he, -, e1, -, -⟩ := h.2.2.2.1
  exact ⟨e, he, by unfold f_X8_journalSize f_X3_length; rw [e1]; rfl⟩
theorem v_size (h : Inv c m) {a : Nat} (ha : a < 8) (hA : iA m a = true) : f_X8_albumSize c (nI a) = some (nI (fb_ct (hb (gM m 2 a)) 40)) := by
  unfold f_X8_albumSize f_X0_members
  rw [hasAlbum_eq h.2.2.1, alm_nI ha, hA, Option.bind_some, bT, gd_pos (vin_nI ha (by decide)), ix_nI (by omega), Option.bind_some, RMem.of h.2.2.1 a ha hA, memC h ha hA]
  rfl
theorem v_isIn (h : Inv c m) {a f : Nat} (ha : a < 8) (hA : iA m a = true) (hf : f < 40) : f_X8_isIn c (nI a) (nI f) = some (if iF m f = true then b2 (hb (gM m 2 a) f) else -1) := by
  unfold f_X8_isIn f_X0_members
  rw [hasAlbum_eq h.2.2.1, alm_nI ha, hA, Option.bind_some, bT, hasC h.1, fil_nI hf, Option.bind_some]
  cases hp : iF m f with
  | false => rw [bF]; rfl
  | true =>
    rw [bT, gd_pos (vin_nI ha (by decide)), ix_nI (by omega), Option.bind_some, holds_eq _ _ (by omega), Option.bind_some, RMem.of h.2.2.1 a ha hA, if_pos rfl]
    cases hb (gM m 2 a) f <;> rfl
theorem v_turn (h : Inv c m) {a : Nat} (ha : a < 8) (hA : iA m a = true) : f_X8_turnover c (nI a) 1 = some (gA m 40 (2 * a + 1)) ∧ f_X8_turnover c (nI a) 0 = some (gA m 40 (2 * a)) := by
  obtain ⟨-, d1, d2, d3, d4, d5⟩ := (h.2.2.1 a ha).2 hA
  unfold f_X8_turnover f_X0_joined f_X0_left
  refine ⟨?_, ?_⟩
  · rw [hasAlbum_eq h.2.2.1, alm_nI ha, hA, Option.bind_some, bT, isWithin_eq, show inr 1 0 1 = true from by decide, Option.bind_some, bT, if_pos rfl, gd_pos (vin_nI ha (by decide)), ix_nI (by omega), d4]; rfl
  · rw [hasAlbum_eq h.2.2.1, alm_nI ha, hA, Option.bind_some, bT, isWithin_eq, show inr 0 0 1 = true from by decide, Option.bind_some, bT, if_neg (by decide), gd_pos (vin_nI ha (by decide)), ix_nI (by omega), d5]; rfl
theorem v_vs (h : Inv c m) {a : Nat} (ha : a < 8) (hA : iA m a = true) : f_X8_viewSize c (nI a) = some (nI (fb_ct (shw m (hb (gM m 2 a))) 40)) := by
  obtain ⟨x, e, hx⟩ := shown_eq h ha hA
  unfold f_X8_viewSize
  rw [hasAlbum_eq h.2.2.1, alm_nI ha, hA, Option.bind_some, bT, gd_pos (vin_nI ha (by decide)), ix_nI (by omega), e, Option.bind_some, bitCount_eq, cnt40 hx]
  rfl
/-- collapsing to 0 where it is 0 changes nothing -/
theorem pA_id {t : Sx} {a k : Nat} {v : Int32} (h : gA t a k = v) : pA t a k v = t := by
  obtain ⟨t1, t2, t3, t4⟩ := t
  show (t1, t2, upf t3 a (upd (t3 a) k v), t4) = (t1, t2, t3, t4)
  have e : upf t3 a (upd (t3 a) k v) = t3 := by
    funext j i
    unfold upf
    by_cases q : j = a
    · rw [if_pos q, q]
      have : gA (t1, t2, t3, t4) a k = t3 a k := rfl
      rw [this] at h
      unfold upd
      by_cases q2 : i = k
      · rw [if_pos q2, q2, h]
      · rw [if_neg q2]
    · rw [if_neg q]
  rw [e]
theorem v_coll0 (h : Inv c m) {s : Nat} (hs : s < 10) (hn : 0 < mn m s) (h0 : gA m 33 s = 0) : f_X8_collapse c (nI s) 0 = some (0, c) := by
  have g : vp_in (nI s) 10 := vin_nI hs (by decide)
  have e17 := (h.1.rS.2.2.2.1 s hs hn).2
  rw [show decide (gA m 33 s ≠ 0) = false from decide_eq_false (fun u => u h0), b2_f] at e17
  have z0 : gz 0 := Or.inl rfl
  unfold f_X8_collapse f_X6_isCollapsed f_X6_fold
  rw [hasS_eq h.1.wS h.1.rS, stn_nI hs, show isS m s = true from decide_eq_true hn, Option.bind_some, bT, isWithin_eq, show inr 0 0 1 = true from by decide, Option.bind_some, bT, gd_pos g, ix_nI (by omega), e17, gd_pos z0, Option.bind_some, if_pos rfl, if_neg (by decide)]
  simp only [gd_pos g, gd_pos z0, bd_eq, Option.bind_some]
  rw [pA_id e17]
end VALS
