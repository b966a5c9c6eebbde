/-! ===== more that only ask ===== -/
theorem ask_sourceOf (a1 a2 : Int32) : Ask (fun t => f_X8_sourceOf t a1 a2) (fun t => f_X9_sourceOf t a1 a2) := fun c m h => by
  show ∃ r, f_X8_sourceOf c a1 a2 = some r ∧ f_X9_sourceOf m a1 a2 = some r
  unfold f_X8_sourceOf f_X9_sourceOf
  rw [hasC h.1, there_eq, Option.bind_some, Option.bind_some]
  cases q : fil (iF m) a1 with
  | false => exact ⟨-1, by rw [bF], by rw [bF]⟩
  | true =>
    obtain ⟨f, hf, rfl, hp⟩ := fil_out q
    rw [bT, bT, isWithin_eq, in_eq, Option.bind_some, Option.bind_some]
    cases q2 : inr a2 0 4 with
    | false => exact ⟨-1, by rw [bF], by rw [bF]⟩
    | true =>
      obtain ⟨k, hk, rfl⟩ := inr_out (n := 4) (by decide) q2
      rw [bT, bT, firstTeller_eq h.1.wO h.1.wV h.1.rO h.1.rV hf hp (by omega), source_eq h.1.wO hf (by omega)]
      cases e : src m f k with
      | none => exact ⟨-4, rfl, rfl⟩
      | some j =>
        have hj := (fst?_some e).2.1
        obtain ⟨g1, g2⟩ := wOrd_at h.1.wO (k := j) (by omega)
        refine ⟨nI (od m j), ?_, by show some (gA m 28 j) = _; rw [g1]⟩
        show (f_X8_orNotFound c (gA m 28 j)).bind _ = _
        rw [orNF, g1, nI_not_m1 (by omega)]
        rfl
theorem keeperC {c m : Sx} (h : Ba c m) (d : DVal c m) {f : Nat} (hf : f < 40) (hp : iF m f = true) : ∃ k, f_X2_keeper c (nI f) = some (nI k) ∧ KP m f k := by
  unfold f_X2_keeper
  obtain ⟨x, e, hx⟩ := alike_eq h.rP h.rD hf hp
  obtain ⟨k, e2, hk⟩ := preferred_eq h.wO h.wV d hf hp hx
  exact ⟨k, by rw [e, Option.bind_some, e2]; rfl, hk⟩
theorem ask_keeperOf (a1 : Int32) : Ask (fun t => f_X8_keeperOf t a1) (fun t => f_X9_keeperOf t a1) := fun c m h => by
  show ∃ r, f_X8_keeperOf c a1 = some r ∧ f_X9_keeperOf m a1 = some r
  unfold f_X8_keeperOf f_X9_keeperOf
  rw [hasC h.1, there_eq, Option.bind_some, Option.bind_some]
  cases q : fil (iF m) a1 with
  | false => exact ⟨-1, by rw [bF], by rw [bF]⟩
  | true =>
    obtain ⟨f, hf, rfl, hp⟩ := fil_out q
    obtain ⟨k, e1, k1⟩ := keeperC h.1 h.2.1.1 hf hp
    obtain ⟨j, e2, k2⟩ := keeper_eq h.1.wO h.1.wV hf hp
    obtain rfl := KP_one k1 k2
    rw [bT, bT, e1, e2]
    exact ⟨_, rfl, rfl⟩
theorem ask_groupSize (a1 : Int32) : Ask (fun t => f_X8_groupSize t a1) (fun t => f_X9_groupSize t a1) := fun c m h => by
  show ∃ r, f_X8_groupSize c a1 = some r ∧ f_X9_groupSize m a1 = some r
  unfold f_X8_groupSize f_X9_groupSize
  rw [hasC h.1, there_eq, Option.bind_some, Option.bind_some]
  cases q : fil (iF m) a1 with
  | false => exact ⟨-1, by rw [bF], by rw [bF]⟩
  | true =>
    obtain ⟨f, hf, rfl, hp⟩ := fil_out q
    obtain ⟨x, e1, hx⟩ := alike_eq h.1.rP h.1.rD hf hp
    rw [bT, bT, e1, Option.bind_some, bitCount_eq, cnt40 hx, group_eq hf]
    exact ⟨_, rfl, rfl⟩
theorem kp_iF {m : Sx} {f k : Nat} (h : KP m f k) : iF m k = true := (grp_iff.mp h.2.1).1
theorem ask_wasted : Ask (fun t => f_X8_wasted t) (fun t => f_X9_wasted t) := fun c m h => by
  refine ⟨smR (fun k => iF m k && !pb (KP m k k)) (gA m 25) 40, ?_, ?_⟩
  · show f_X8_wasted c = _
    unfold f_X8_wasted f_X1_all f_X2_keepers
    rw [Option.bind_some, Option.bind_some, sumOfSizes_eq, Option.bind_some]
    refine congrArg some (smR_cong fun k hk => ⟨?_, fun q => ?_⟩)
    · rw [hb_and, hb_not _ (by omega), h.1.rP k (by omega), decide_eq_true hk, Bool.true_and, pb_eq (h.2.1.2.1 k (by omega)).1]
    · exact (h.1.rD k hk ((Bool.and_eq_true _ _).mp q).1).2
  · show f_X9_wasted m = _
    unfold f_X9_wasted
    exact sum0 (L := fun n i s => L_X9_wasted_4 m (fun z2 z3 => some z2) n s i) (E := fun s => some s) (p := fun k => iF m k && !pb (KP m k k)) (v := gA m 25) (N := 40) (by decide) (fun n s => by
      show L_X9_wasted_4 _ _ _ _ _ = _
      rw [L_X9_wasted_4, if_pos (by decide)]) (fun n k s hk => by
      show L_X9_wasted_4 _ _ _ _ _ = L_X9_wasted_4 _ _ _ _ _
      rw [L_X9_wasted_4, if_neg (ngo (x := 40) (N := 40) rfl hk (by decide)), gd_pos (vin_nI hk (by decide)), ix_nI (by omega), nI_lit1]
      cases q : iF m k with
      | false => rw [if_pos (iF_dec.mpr q), Int32.add_zero]; rfl
      | true =>
        rw [if_neg (fun w => by rw [iF_dec.mp w] at q; cases q)]
        obtain ⟨j, e, hj⟩ := keeper_eq h.1.wO h.1.wV hk q
        rw [e, Option.bind_some, Int32.add_zero]
        by_cases w : j = k
        · subst w
          rw [if_pos rfl, pb_iff.mpr hj]; rfl
        · have : pb (KP m k k) = false := by
            cases z : pb (KP m k k) with
            | false => rfl
            | true => exact absurd (KP_one hj (pb_iff.mp z)) w
          rw [if_neg (by rw [nI_eq_iff (by have := hj.1; omega) (by omega)]; exact w), gd_pos (vin_nI hk (by decide)), this]; rfl)
theorem wStk_home {m : Sx} (h : WStk m) {f : Nat} (hf : f < 40) : gA m 29 f = -1 ∨ ∃ s, s < 10 ∧ gA m 29 f = nI s ∧ 0 < mn m s ∧ iF m f = true := by
  rcases h.1 f hf with q | ⟨s, hs, e, hp, k, hk, _⟩
  · exact Or.inl q
  · exact Or.inr ⟨s, hs, e, by omega, hp⟩
theorem ask_stackOf (a1 : Int32) : Ask (fun t => f_X8_stackOf t a1) (fun t => f_X9_stackOf t a1) := fun c m h => by
  show ∃ r, f_X8_stackOf c a1 = some r ∧ f_X9_stackOf m a1 = some r
  unfold f_X8_stackOf f_X9_stackOf f_X6_home
  rw [hasC h.1, there_eq, Option.bind_some, Option.bind_some]
  cases q : fil (iF m) a1 with
  | false => exact ⟨-1, by rw [bF], by rw [bF]⟩
  | true =>
    obtain ⟨f, hf, rfl, hp⟩ := fil_out q
    have g := vin_nI (n := f) (N := 40) hf (by decide)
    rw [bT, bT, gd_pos g, gd_pos g, ix_nI (by omega), Option.bind_some, h.1.rS.1 f hf, orNF]
    rcases wStk_home h.1.wS hf with e | ⟨s, hs, e, -, -⟩
    · rw [e]; exact ⟨-4, rfl, rfl⟩
    · rw [e, nI_not_m1 (by omega), if_pos (nI_pos' (by omega)), gd_pos g]
      exact ⟨_, rfl, rfl⟩
theorem ask_coverOf (a1 : Int32) : Ask (fun t => f_X8_coverOf t a1) (fun t => f_X9_coverOf t a1) := fun c m h => by
  show ∃ r, f_X8_coverOf c a1 = some r ∧ f_X9_coverOf m a1 = some r
  unfold f_X8_coverOf f_X9_coverOf
  rw [hasS_eq h.1.wS h.1.rS, isStack_eq h.1.wS, Option.bind_some, Option.bind_some]
  cases q : stn m a1 with
  | false => exact ⟨-1, by rw [bF], by rw [bF]⟩
  | true =>
    obtain ⟨s, hs, rfl, hn⟩ := stn_out q
    rw [bT, bT, cover_eq h.1.wO h.1.wV h.1.wS hs hn, coverC_eq h.1.wO h.1.wV h.1.wS h.1.rS h.2.1.1 hs hn]
    exact ⟨_, rfl, rfl⟩
theorem ask_stackAt (a1 a2 : Int32) : Ask (fun t => f_X8_stackAt t a1 a2) (fun t => f_X9_stackAt t a1 a2) := fun c m h => by
  show ∃ r, f_X8_stackAt c a1 a2 = some r ∧ f_X9_stackAt m a1 a2 = some r
  unfold f_X8_stackAt f_X9_stackAt f_X6_fileAt
  rw [hasS_eq h.1.wS h.1.rS, isStack_eq h.1.wS, Option.bind_some, Option.bind_some]
  cases q : stn m a1 with
  | false => exact ⟨-1, by rw [bF], by rw [bF]⟩
  | true =>
    obtain ⟨s, hs, rfl, hn⟩ := stn_out q
    obtain ⟨en, h8, -⟩ := wStk_mn h.1.wS hs
    have g := vin_nI (n := s) (N := 10) hs (by decide)
    rw [bT, bT]
    by_cases w : 0 ≤ a2
    · rw [if_pos w, if_pos w, gd_pos g, gd_pos g, ix_nI (by omega), h.1.rS.2.1 s hs, en]
      by_cases w2 : nI (mn m s) ≤ a2
      · rw [if_pos w2, if_pos w2]; exact ⟨-4, rfl, rfl⟩
      · have w3 : a2 ≤ nI (mn m s) := by rw [i_le] at w2 ⊢; omega
        obtain ⟨k, hk, rfl⟩ := nI_frm w w3 (by omega)
        rw [nI_le_iff (by omega) (by omega)] at w2
        have hk' : k < mn m s := by omega
        have g2 : vp_in (nI (8 * s + k)) 80 := vin_nI (by omega) (by decide)
        rw [if_neg (by rw [nI_le_iff (by omega) (by omega)]; omega), if_neg (by rw [nI_le_iff (by omega) (by omega)]; omega), spot_eq, Option.bind_some, i8, gd_pos g2, gd_pos g2, ix_nI (by omega), h.1.rS.2.2.1 s hs k hk', Option.bind_some, orNF]
        obtain ⟨e, hl, -⟩ := wStk_fl h.1.wS hs hk'
        rw [e, nI_not_m1 (by omega)]
        exact ⟨_, rfl, rfl⟩
    · rw [if_neg w, if_neg w]; exact ⟨_, rfl, rfl⟩
theorem ask_fault : Ask (fun t => f_X8_fault t) (fun t => f_X9_fault t) := fun c m h => by
  show ∃ r, f_X8_fault c = some r ∧ f_X9_fault m = some r
  unfold f_X8_fault
  rcases fault_eq h.1.wT with ⟨v, e⟩ | ⟨p, hp, fl1, e⟩
  · rcases faultC_eq h.1.wT h.1.rT with ⟨_, e2⟩ | ⟨p2, _, fl2, e2⟩
    · rw [e, e2, Option.bind_some, orNF]; exact ⟨-4, rfl, rfl⟩
    · exact absurd v (flt_vld fl2)
  · rcases faultC_eq h.1.wT h.1.rT with ⟨v, e2⟩ | ⟨p2, _, fl2, e2⟩
    · exact absurd v (flt_vld fl1)
    · obtain rfl := flt_one fl1 fl2
      rw [e, e2, Option.bind_some, orNF, nI_not_m1 (by omega)]
      exact ⟨_, rfl, rfl⟩
theorem count40_eq (m : Sx) (x : Int64) : f_X9_count40 m x = some (nI (fb_ct (hb x) 40)) := by
  unfold f_X9_count40
  exact cnt0 (L := fun n i s => L_X9_count40_5 m x (fun z1 z2 => some z1) n s i) (E := fun s => some s) (p := hb x) (N := 40) (by decide) (fun n s => by
    show L_X9_count40_5 _ _ _ _ _ _ = _
    rw [L_X9_count40_5, if_pos (by decide)]) (fun n k s hk => by
    show L_X9_count40_5 _ _ _ _ _ _ = L_X9_count40_5 _ _ _ _ _ _
    rw [L_X9_count40_5, if_neg (ngo (x := 40) (N := 40) rfl hk (by decide)), s_bitI _ (by omega), nI_lit1]
    cases q : hb x k with
    | false => rw [if_neg (by decide), b2_f, Int32.add_zero]
    | true => rw [if_pos rfl, b2_t])
theorem memC {c m : Sx} (h : Inv c m) {a : Nat} (ha : a < 8) (hA : iA m a = true) (t : Sx) : f_J13_bitCount_95d88 t (gM m 2 a) = some (nI (fb_ct (hb (gM m 2 a)) 40)) := by
  rw [bitCount_eq, cnt40 (p := hb (gM m 2 a)) (fun k hk => by
    cases q : hb (gM m 2 a) k with
    | false => rw [Bool.and_false]
    | true => rw [decide_eq_true (Mp.out h.2.2.2.2 a ha hA k hk q).1]; rfl)]
theorem ask_albumSize (a1 : Int32) : Ask (fun t => f_X8_albumSize t a1) (fun t => f_X9_albumSize t a1) := fun c m h => by
  show ∃ r, f_X8_albumSize c a1 = some r ∧ f_X9_albumSize m a1 = some r
  unfold f_X8_albumSize f_X9_albumSize f_X0_members
  rw [hasAlbum_eq h.2.2.1, there8_eq]
  simp only [Option.bind_some]
  cases q : alm m a1 with
  | false => exact ⟨-1, by rw [bF], by rw [bF]⟩
  | true =>
    obtain ⟨a, ha, rfl, hA⟩ := alm_out q
    have g := vin_nI (n := a) (N := 8) ha (by decide)
    rw [bT, bT, gd_pos g, gd_pos g, ix_nI (by omega), RMem.of h.2.2.1 a ha hA, memC h ha hA, count40_eq]
    exact ⟨_, rfl, rfl⟩
theorem ask_isIn (a1 a2 : Int32) : Ask (fun t => f_X8_isIn t a1 a2) (fun t => f_X9_isIn t a1 a2) := fun c m h => by
  show ∃ r, f_X8_isIn c a1 a2 = some r ∧ f_X9_isIn m a1 a2 = some r
  unfold f_X8_isIn f_X9_isIn f_X0_members
  rw [hasAlbum_eq h.2.2.1, there8_eq]
  simp only [Option.bind_some]
  cases q : alm m a1 with
  | false => exact ⟨-1, by rw [bF], by rw [bF]⟩
  | true =>
    obtain ⟨a, ha, rfl, hA⟩ := alm_out q
    have g := vin_nI (n := a) (N := 8) ha (by decide)
    rw [bT, bT, hasC h.1, there_eq, Option.bind_some, Option.bind_some]
    cases q2 : fil (iF m) a2 with
    | false => exact ⟨-1, by rw [bF], by rw [bF]⟩
    | true =>
      obtain ⟨f, hf, rfl, hp⟩ := fil_out q2
      rw [bT, bT, gd_pos g, gd_pos g, ix_nI (by omega), holds_eq _ _ (by omega), Option.bind_some, RMem.of h.2.2.1 a ha hA, s_bitI _ (by omega), bd_eq]
      refine ⟨_, ?_, rfl⟩
      cases hb (gM m 2 a) f <;> rfl
theorem ask_journalSize : Ask (fun t => f_X8_journalSize t) (fun t => f_X9_journalSize t) := fun c m h => by
  obtain ⟨e, lt, -, -, e1, e2, -⟩ := h.2.2.2.1
  refine ⟨nI e, ?_, ?_⟩
  · show f_X8_journalSize c = _; unfold f_X8_journalSize f_X3_length; rw [e1]; rfl
  · show f_X9_journalSize m = _; unfold f_X9_journalSize; rw [e2]
theorem row_tab : ∀ lt, lt < 24 → ∀ i, i < 24 → (if 0 ≤ ((nI lt - nI i) ^^^ 24) then some ((nI lt - nI i) - (nI lt - nI i) / 24 * 24) else if ((nI lt - nI i) - (nI lt - nI i) / 24 * 24) = 0 then some ((nI lt - nI i) - (nI lt - nI i) / 24 * 24) else some (((nI lt - nI i) - (nI lt - nI i) / 24 * 24) + 24)) = some (nI (row lt i)) := by decide +kernel
theorem rowC {c : Sx} {lt i : Nat} (hl : lt < 24) (hi : i < 24) (e : gI c 50 = nI lt) : f_X3_row c (nI i) = some (nI (row lt i)) := by
  unfold f_X3_row f_J9_floorMod_7cf53
  rw [gd_pos (by decide), e, row_tab lt hl i hi]
  rfl
theorem row_lt (lt i : Nat) : row lt i < 24 := Nat.mod_lt _ (by decide)
theorem ask_journalAt (a1 a2 : Int32) : Ask (fun t => f_X8_journalAt t a1 a2) (fun t => f_X9_journalAt t a1 a2) := fun c m h => by
  show ∃ r, f_X8_journalAt c a1 a2 = some r ∧ f_X9_journalAt m a1 a2 = some r
  unfold f_X8_journalAt f_X9_journalAt f_X3_length
  obtain ⟨e, lt, he, hl, e1, e2, e3, hr⟩ := h.2.2.2.1
  by_cases w : a1 < 0
  · rw [if_pos w, if_pos w]; exact ⟨_, rfl, rfl⟩
  · rw [if_neg w, if_neg w, isWithin_eq, in_eq, e1, e2]
    simp only [Option.bind_some]
    cases q2 : inr a2 0 2 with
    | false => exact ⟨-1, by rw [bF], by rw [bF]⟩
    | true =>
      obtain ⟨k, hk, rfl⟩ := inr_out (n := 2) (by decide) q2
      rw [bT, bT]
      by_cases w2 : a1 < nI e
      · have w0 : 0 ≤ a1 := by rw [i_le]; rw [i_lt] at w; omega
        have w3 : a1 ≤ nI e := by rw [i_le]; rw [i_lt] at w2; omega
        obtain ⟨i, hi, rfl⟩ := nI_frm w0 w3 (by omega)
        have hie : i < e := by rw [nI_lt_iff (by omega) (by omega)] at w2; exact w2
        have g : vp_in (nI (row lt i)) 24 := vin_nI (row_lt lt i) (by decide)
        have hx : ix (nI (row lt i)) = row lt i := ix_nI (by have := row_lt lt i; omega)
        obtain ⟨r1, r2, r3, r4⟩ := hr i hie
        have ei : (3 * nI i) + nI k = nI (3 * i + k) := by rw [show (3 : Int32) = nI 3 from rfl, nI_mul, nI_add]
        rw [if_pos w2, if_neg (show ¬ nI e ≤ nI i by rw [nI_le_iff (by omega) (by omega)]; omega), ei, gd_pos (vin_nI (by omega) (by decide)), ix_nI (by omega)]
        refine ⟨_, ?_, rfl⟩
        rcases (show k = 0 ∨ k = 1 ∨ k = 2 by omega) with z | z | z
        · subst z
          rw [if_pos (by decide)]
          unfold f_X3_album
          rw [rowC hl (by omega) e3, Option.bind_some, gd_pos g, hx, r1]; rfl
        · subst z
          rw [if_neg (by decide), if_pos (by decide)]
          unfold f_X3_file
          rw [rowC hl (by omega) e3, Option.bind_some, gd_pos g, hx, r2]; rfl
        · subst z
          rw [if_neg (by decide), if_neg (by decide)]
          unfold f_X3_hasJoined
          rw [rowC hl (by omega) e3, Option.bind_some, gd_pos g, hx, r3, gd_pos r4, Option.bind_some]
          rcases r4 with u | u <;> rw [u] <;> rfl
      · rw [if_neg w2, if_pos (by rw [i_le]; rw [i_lt] at w2; omega)]
        exact ⟨_, rfl, rfl⟩
theorem ask_turnover (a1 a2 : Int32) : Ask (fun t => f_X8_turnover t a1 a2) (fun t => f_X9_turnover t a1 a2) := fun c m h => by
  show ∃ r, f_X8_turnover c a1 a2 = some r ∧ f_X9_turnover m a1 a2 = some r
  unfold f_X8_turnover f_X9_turnover f_X0_joined f_X0_left
  rw [hasAlbum_eq h.2.2.1, there8_eq]
  simp only [Option.bind_some]
  cases q : alm m a1 with
  | false => exact ⟨-1, by rw [bF], by rw [bF]⟩
  | true =>
    obtain ⟨a, ha, rfl, hA⟩ := alm_out q
    have g := vin_nI (n := a) (N := 8) ha (by decide)
    rw [bT, bT, isWithin_eq, in_eq, Option.bind_some, Option.bind_some]
    cases q2 : inr a2 0 1 with
    | false => exact ⟨-1, by rw [bF], by rw [bF]⟩
    | true =>
      obtain ⟨k, hk, rfl⟩ := inr_out (n := 1) (by decide) q2
      obtain ⟨-, d1, d2, d3, d4, d5⟩ := (h.2.2.1 a ha).2 hA
      have ei : (2 * nI a) + nI k = nI (2 * a + k) := by rw [show (2 : Int32) = nI 2 from rfl, nI_mul, nI_add]
      rw [bT, bT, ei, gd_pos g, gd_pos g, ix_nI (by omega), d4, d5, gd_pos (vin_nI (by omega) (by decide)), ix_nI (by omega)]
      refine ⟨_, ?_, rfl⟩
      rcases (show k = 0 ∨ k = 1 by omega) with z | z <;> subst z
      · rw [if_neg (by decide)]; rfl
      · rw [if_pos (by decide)]
theorem howManyS_eq {c m : Sx} (h : WStk m) (rS : RStk c m) : f_X6_howMany c = some (nI (fb_ct (isS m) 10)) := by
  unfold f_X6_howMany
  exact cnt0 (L := fun n i s => L_X6_howMany_4 c (fun z2 z3 => some z2) n s i) (E := fun s => some s) (p := isS m) (N := 10) (by decide) (fun n s => by
    show L_X6_howMany_4 _ _ _ _ _ = _
    rw [L_X6_howMany_4, if_pos (by decide)]) (fun n k s hk => by
    show L_X6_howMany_4 _ _ _ _ _ = L_X6_howMany_4 _ _ _ _ _
    rw [L_X6_howMany_4, if_neg (ngo (x := 10) (N := 10) rfl hk (by decide)), hasS_eq h rS, stn_nI hk, Option.bind_some, nI_lit1]
    cases q : isS m k with
    | false => rw [bF, if_neg (by decide)]
    | true => rw [bT, if_pos rfl])
theorem albumCount_eq {c m : Sx} (h : RAl c m) : f_X8_albumCount c = some (nI (fb_ct (iA m) 8)) := by
  unfold f_X8_albumCount
  exact cnt0 (L := fun n i s => L_X8_albumCount_4 c (fun z2 z3 => some z2) n s i) (E := fun s => some s) (p := iA m) (N := 8) (by decide) (fun n s => by
    show L_X8_albumCount_4 _ _ _ _ _ = _
    rw [L_X8_albumCount_4, if_pos (by decide)]) (fun n k s hk => by
    show L_X8_albumCount_4 _ _ _ _ _ = L_X8_albumCount_4 _ _ _ _ _
    rw [L_X8_albumCount_4, if_neg (ngo (x := 8) (N := 8) rfl hk (by decide)), hasAlbum_eq h, alm_nI hk, Option.bind_some, nI_lit1]
    cases q : iA m k with
    | false => rw [bF, if_neg (by decide)]
    | true => rw [bT, if_pos rfl])
theorem ct_cut (p : Nat → Bool) {n : Nat} (hn : n ≤ 40) : fb_ct (fun k => decide (k < n) && p k) 40 = fb_ct p n := by
  have e : 40 = n + (40 - n) := by omega
  rw [e, fb_ct_split]
  rw [fb_ct_cong (p := fun k => decide (k < n) && p k) (q := p) (n := n) (fun k hk => by rw [decide_eq_true hk, Bool.true_and])]
  have z : fb_ct (fun k => decide (n + k < n) && p (n + k)) (40 - n) = 0 := fb_ct_zero.mpr (fun k hk => by rw [decide_eq_false (by omega)]; rfl)
  rw [z, Nat.add_zero]
theorem cntM {m : Sx} {w : Int32} {p : Nat → Bool} (hstep : ∀ n k s, k < 40 → L_X9_count_4 m w (fun z8 z9 => some z8) (n + 1) s (nI k) = L_X9_count_4 m w (fun z8 z9 => some z8) n (if p k = true then s + 1 else s) (nI (k + 1))) : f_X9_count m w = some (nI (fb_ct p 40)) := by
  unfold f_X9_count
  exact cnt0 (L := fun n i s => L_X9_count_4 m w (fun z8 z9 => some z8) n s i) (E := fun s => some s) (p := p) (N := 40) (by decide) (fun n s => by
    show L_X9_count_4 _ _ _ _ _ _ = _
    rw [L_X9_count_4, if_pos (by decide)]) (fun n k s hk => hstep n k s hk)
theorem iF_ne {m : Sx} {k : Nat} (h : iF m k = true) : ¬ gA m 23 k = 0 := fun w => by rw [iF_dec.mp w] at h; cases h
theorem ask_count (a1 : Int32) : Ask (fun t => f_X8_count t a1) (fun t => f_X9_count t a1) := fun c m h => by
  show ∃ r, f_X8_count c a1 = some r ∧ f_X9_count m a1 = some r
  have go : ∀ k, k < 40 → ¬ (40 : Int32) ≤ nI k := fun k hk => ngo (x := 40) (N := 40) rfl hk (by decide)
  have g40 : ∀ k, k < 40 → vp_in (nI k) 40 := fun k hk => vin_nI hk (by decide)
  have x40 : ∀ k, k < 40 → ix (nI k) = k := fun k hk => ix_nI (by omega)
  unfold f_X8_count
  by_cases q0 : a1 = 0
  · subst q0
    rw [if_pos rfl, howManyS_eq h.1.wS h.1.rS, Option.bind_some]
    refine ⟨_, rfl, ?_⟩
    rw [← ct_cut (isS m) (n := 10) (by decide)]
    refine cntM fun n k s hk => ?_
    rw [L_X9_count_4, if_neg (go k hk), if_pos rfl, nI_lit1]
    by_cases w : k < 10
    · obtain ⟨en, h8, -⟩ := wStk_mn h.1.wS w
      rw [if_neg (ngo (x := 10) (N := 10) rfl w (by decide)), gd_pos (vin_nI w (by decide)), x40 k hk, en, decide_eq_true w, Bool.true_and, isS]
      by_cases w2 : 0 < mn m k
      · rw [if_neg (by rw [show (0 : Int32) = nI 0 from rfl, nI_le_iff (by omega) (by decide)]; omega), decide_eq_true w2, if_pos rfl]
      · rw [if_pos (by rw [show (0 : Int32) = nI 0 from rfl, nI_le_iff (by omega) (by decide)]; omega), decide_eq_false w2, if_neg (by decide), Int32.add_zero]
    · rw [if_pos (by rw [show (10 : Int32) = nI 10 from rfl, nI_le_iff (by decide) (by omega)]; omega), decide_eq_false w, Bool.false_and, if_neg (by decide), Int32.add_zero]
  · rw [if_neg q0]
    by_cases q1 : a1 = 1
    · subst q1
      rw [if_pos rfl, albumCount_eq h.2.2.1, Option.bind_some]
      refine ⟨_, rfl, ?_⟩
      rw [← ct_cut (iA m) (n := 8) (by decide)]
      refine cntM fun n k s hk => ?_
      rw [L_X9_count_4, if_neg (go k hk), if_neg (by decide), if_pos rfl, nI_lit1]
      by_cases w : k < 8
      · rw [if_neg (ngo (x := 8) (N := 8) rfl w (by decide)), gd_pos (vin_nI w (by decide)), x40 k hk, decide_eq_true w, Bool.true_and, iA]
        by_cases w2 : gA m 35 k = 0
        · rw [if_pos w2, decide_eq_false (fun u => u w2), if_neg (by decide), Int32.add_zero]
        · rw [if_neg w2, decide_eq_true w2, if_pos rfl]
      · rw [if_pos (by rw [show (8 : Int32) = nI 8 from rfl, nI_le_iff (by decide) (by omega)]; omega), decide_eq_false w, Bool.false_and, if_neg (by decide), Int32.add_zero]
    · rw [if_neg q1]
      by_cases q2 : a1 = 2
      · subst q2
        unfold f_X2_keepers f_X2_duplicates
        simp only [Option.bind_some]
        rw [if_pos trivial, bitCount_eq, cnt40 (p := fun k => iF m k && (pb (KP m k k) && decide (1 < fb_ct (grp m k) 40))) (fun k hk => by
          obtain ⟨d1, d2⟩ := h.2.1.2.1 k hk
          rw [hb_and, pb_eq d1]
          cases z : hb (gL c 10) k with
          | true =>
            obtain ⟨y1, y2, y3⟩ := d2.mp z
            rw [decide_eq_true y1, y2, decide_eq_true y3, Bool.and_true, Bool.true_and, Bool.true_and]
          | false =>
            rw [Bool.and_false]
            cases y1 : iF m k with
            | false => rw [Bool.false_and, Bool.and_false]
            | true =>
              by_cases y2 : k < 40
              · rw [decide_eq_false (p := 1 < fb_ct (grp m k) 40) (fun y3 => by rw [d2.mpr ⟨y2, y1, y3⟩] at z; cases z), Bool.and_false, Bool.and_false, Bool.and_false]
              · rw [decide_eq_false y2, Bool.false_and]), Option.bind_some]
        refine ⟨_, rfl, ?_⟩
        refine cntM fun n k s hk => ?_
        rw [L_X9_count_4, if_neg (go k hk), if_neg (by decide), if_neg (by decide), if_pos rfl, gd_pos (g40 k hk), x40 k hk, nI_lit1]
        cases y1 : iF m k with
        | false => rw [if_pos (iF_dec.mpr y1), Int32.add_zero]; rfl
        | true =>
          rw [if_neg (iF_ne y1)]
          obtain ⟨j, e, hj⟩ := keeper_eq h.1.wO h.1.wV hk y1
          rw [e, Option.bind_some, group_eq hk, Option.bind_some, Int32.add_zero]
          by_cases w : j = k
          · subst w
            rw [if_pos rfl, pb_iff.mpr hj]
            by_cases w2 : 1 < fb_ct (grp m j) 40
            · rw [if_neg (by rw [show (1 : Int32) = nI 1 from rfl, nI_le_iff (by have := fb_ct_le (grp m j) 40; omega) (by decide)]; omega), decide_eq_true w2]; rfl
            · rw [if_pos (by rw [show (1 : Int32) = nI 1 from rfl, nI_le_iff (by have := fb_ct_le (grp m j) 40; omega) (by decide)]; omega), decide_eq_false w2]; rfl
          · have : pb (KP m k k) = false := by
              cases z : pb (KP m k k) with
              | false => rfl
              | true => exact absurd (KP_one hj (pb_iff.mp z)) w
            rw [if_neg (by rw [nI_eq_iff (by have := hj.1; omega) (by omega)]; exact w), this]; rfl
      · rw [if_neg q2]
        by_cases q3 : a1 = 3
        · subst q3
          unfold f_X6_stacked
          simp only [Option.bind_some]
          rw [if_pos trivial, bitCount_eq, cnt40 (p := fun k => decide (gA m 29 k ≠ -1)) (fun k hk => by
            have d := h.1.rS.2.2.2.2 k hk
            cases z : hb (gL c 11) k with
            | true => obtain ⟨y1, y2⟩ := d.mp z; rw [decide_eq_true y1, decide_eq_true y2]; rfl
            | false =>
              by_cases y1 : k < 40
              · rw [decide_eq_false (p := gA m 29 k ≠ -1) (fun y2 => by rw [d.mpr ⟨y1, y2⟩] at z; cases z), Bool.and_false]
              · rw [decide_eq_false y1, Bool.false_and]), Option.bind_some]
          refine ⟨_, rfl, ?_⟩
          refine cntM fun n k s hk => ?_
          rw [L_X9_count_4, if_neg (go k hk), if_neg (by decide), if_neg (by decide), if_neg (by decide), if_pos rfl, gd_pos (g40 k hk), gd_pos (g40 k hk), x40 k hk, nI_lit1]
          rcases wStk_home h.1.wS hk with e | ⟨j, hj, e, -, y1⟩
          · rw [e, if_pos (show (-1 : Int32) < 0 by decide), Int32.add_zero, show decide ((-1 : Int32) ≠ -1) = false by decide]
            split <;> rfl
          · rw [if_neg (iF_ne y1), e, if_neg (nI_pos (by omega)), decide_eq_true (nI_ne_m1 (by omega)), if_pos rfl]
        · rw [if_neg q3]
          by_cases q4 : a1 = 4
          · subst q4
            unfold f_X1_all
            simp only [Option.bind_some]
            rw [if_pos trivial, sumOfSizes_eq, Option.bind_some, smR_cong (q := iF m) (w := gA m 25) (fun k hk => ⟨by rw [h.1.rP k (by omega), decide_eq_true hk, Bool.true_and], fun q => (h.1.rD k hk q).2⟩)]
            refine ⟨_, rfl, ?_⟩
            unfold f_X9_count
            exact sum0 (L := fun n i s => L_X9_count_4 m 4 (fun z8 z9 => some z8) n s i) (E := fun s => some s) (p := iF m) (v := gA m 25) (N := 40) (by decide) (fun n s => by
              show L_X9_count_4 _ _ _ _ _ _ = _
              rw [L_X9_count_4, if_pos (by decide)]) (fun n k s hk => by
              show L_X9_count_4 _ _ _ _ _ _ = L_X9_count_4 _ _ _ _ _ _
              rw [L_X9_count_4, if_neg (go k hk), if_neg (by decide), if_neg (by decide), if_neg (by decide), if_neg (by decide), if_pos rfl, gd_pos (g40 k hk), x40 k hk, nI_lit1]
              cases y1 : iF m k with
              | false => rw [if_pos (iF_dec.mpr y1), Int32.add_zero]; rfl
              | true => rw [if_neg (iF_ne y1), gd_pos (g40 k hk), if_pos rfl])
          · rw [if_neg q4]
            refine ⟨_, rfl, ?_⟩
            unfold f_X9_count
            obtain ⟨fu, e⟩ := FU_ge (n := 1) (by decide)
            rw [e, L_X9_count_4, if_neg (by decide), if_neg q0, if_neg q1, if_neg q2, if_neg q3, if_neg q4]
