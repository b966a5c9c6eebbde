theorem pre_choose {c m : Sx} (hB : Ba c m) (hA : RAl c m) (hJ : RJ c m) {s : Nat} (hs : s < 10) {v : Int32} (hv : v = -1 ∨ ∃ f, f < 40 ∧ v = nI f ∧ gA m 29 f = nI s) : Pre (pA c 16 s v) (pA m 32 s v) := by
  refine ⟨⟨hB.wO.on rfl, hB.wV.on rfl rfl, ?_, hB.wT.on rfl rfl, (hB.rP.on (y := pA c 16 s v) rfl).onM rfl, (hB.rD.onC (c' := pA c 16 s v) rfl rfl).onM rfl rfl rfl, (hB.rV.on (y := pA c 16 s v) rfl).onM rfl rfl rfl, (hB.rO.on (y := pA c 16 s v) rfl).onM rfl, ?_, (hB.rT.onC (c' := pA c 16 s v) rfl rfl).onM rfl rfl, hB.wG.on rfl rfl⟩, hA.on (fun _ _ _ => rfl) (fun a _ _ => by rw [gA_pA_ne (by omega)]) (fun _ _ => rfl) (fun a _ _ => by rw [gA_pA_ne (by omega)]) rfl, hJ.on rfl rfl rfl rfl rfl rfl rfl⟩
  · obtain ⟨s1, s2, s3, s4, s5⟩ := hB.wS
    refine ⟨s1, s2, s3, s4, fun s' hs' hn' => ?_⟩
    rw [gA_pA_at]
    by_cases w : s' = s
    · rw [if_pos w, w]; exact hv
    · rw [if_neg w]; exact s5 s' hs' hn'
  · obtain ⟨s1, s2, s3, s4, s5⟩ := hB.rS
    refine ⟨s1, s2, s3, fun s' hs' hn' => ⟨?_, (s4 s' hs' hn').2⟩, s5⟩
    rw [gA_pA_at, gA_pA_at]
    by_cases w : s' = s
    · rw [if_pos w, if_pos w]
    · rw [if_neg w, if_neg w]; exact (s4 s' hs' hn').1
theorem cal_chooseCover (a1 a2 : Int32) : Cal (-2) (fun t => f_X8_chooseCover t a1 a2) (fun t => f_X9_chooseCover t a1 a2) := fun c m h => by
  show ∃ r c' m', f_X8_chooseCover c a1 a2 = some (r, c') ∧ f_X9_chooseCover m a1 a2 = some (r, m') ∧ _
  unfold f_X8_chooseCover f_X9_chooseCover f_X6_choose f_X6_home
  rw [hasS_eq h.1.wS h.1.rS, isStack_eq h.1.wS]
  simp only [Option.bind_some]
  cases q : stn m a1 with
  | false => exact h.err (-1) (by rw [bF]) (by rw [bF])
  | true =>
    obtain ⟨s, hs, rfl, hn⟩ := stn_out q
    have g : vp_in (nI s) 10 := vin_nI hs (by decide)
    have fin : ∀ v, (v = -1 ∨ ∃ f, f < 40 ∧ v = nI f ∧ gA m 29 f = nI s) → ∃ c' m' k, f_X8_settle (pA c 16 s v) = some c' ∧ f_X6_cover c' (nI s) = some (nI k) ∧ k < 40 ∧ f_X9_cover (pA m 32 s v) (nI s) = some (nI k) ∧ (∀ r, f_X9_settled (pA m 32 s v) r = some (r, m')) ∧ Inv c' m' ∧ FrM c c' ∧ FrC m m' := fun v hv => by
      obtain ⟨hB, hD, hA, hJ, hM⟩ := h
      have p1 := pre_choose hB hA hJ hs hv
      obtain ⟨c', m', e1, e2, i1, i2, i3, i4⟩ := fin_settle (c := c) (m := m) p1 (FrM.pA (by omega)) (FrC.pA (by omega))
      refine ⟨c', m', cov (pA m 32 s v) s, e1, ?_, (cov_ok p1.1.wS hs hn).1, cover_eq p1.1.wO p1.1.wV p1.1.wS hs hn, e2, i1, i2, i3⟩
      have en : mn m' = mn m := by rw [mn_on (i4.1 30 (by decide))]; rfl
      rw [coverC_eq i1.1.wO i1.1.wV i1.1.wS i1.1.rS i1.2.1.1 hs (by rw [en]; exact hn), i4.cov]
    rw [bT, bT]
    by_cases w : a2 = -1
    · subst w
      rw [if_pos rfl, if_pos rfl, if_pos rfl, if_pos (by decide)]
      obtain ⟨c', m', k, e1, e2, k40, e3, e4, i1, i2, i3⟩ := fin (-1) (Or.inl rfl)
      rw [gd_pos g, gd_pos g, ix_nI (by omega)]
      simp only [bd_eq, Option.bind_some, e1, e2, e3, e4]
      exact ⟨_, c', m', rfl, rfl, i1, i2, i3, fun _ => lo_nI (by decide) (by omega)⟩
    · simp only [if_neg w]
      rw [hasC h.1, there_eq]
      simp only [Option.bind_some]
      cases q2 : fil (iF m) a2 with
      | false => exact h.err (-1) (by rw [bF]) (by rw [bF])
      | true =>
        obtain ⟨f, hf, rfl, hp⟩ := fil_out q2
        have gf : vp_in (nI f) 40 := vin_nI hf (by decide)
        rw [bT, bT, if_neg (nI_pos (by omega)), gd_pos gf, gd_pos gf, ix_nI (by omega), ix_nI (by omega), h.1.rS.1 f hf, gd_pos g, gd_pos g]
        simp only [Option.bind_some]
        by_cases w2 : gA m 29 f = nI s
        · obtain ⟨c', m', k, e1, e2, k40, e3, e4, i1, i2, i3⟩ := fin (nI f) (Or.inr ⟨f, hf, rfl, w2⟩)
          rw [if_pos w2, if_pos w2]
          simp only [bd_eq, Option.bind_some, e1, e2, e3, e4]
          exact ⟨_, c', m', rfl, rfl, i1, i2, i3, fun _ => lo_nI (by decide) (by omega)⟩
        · rw [if_neg w2, if_neg w2]
          exact h.err (-2) rfl rfl
theorem i2c_tab : ∀ k, k < 127 → i2c (nI k) = nI k := by decide +kernel
theorem cal_type (a1 : Int32) : Cal (-3) (fun t => f_X8_type t a1) (fun t => f_X9_type t a1) := fun c m h => by
  show ∃ r c' m', f_X8_type c a1 = some (r, c') ∧ f_X9_type m a1 = some (r, m') ∧ _
  unfold f_X8_type f_X9_type f_X5_length
  rw [isWithin_eq, in_eq]
  simp only [Option.bind_some]
  cases q : inr a1 33 126 with
  | false => exact h.err (-1) (by rw [bF]) (by rw [bF])
  | true =>
    obtain ⟨q1, q2⟩ := inr_iff.mp q
    obtain ⟨ch, hch, rfl⟩ := nI_frm (x := a1) (n := 126) (by rw [i_le] at q1 ⊢; exact Int.le_trans (by decide) q1) q2 (by decide)
    have h33 : 33 ≤ ch := by rw [show (33 : Int32) = nI 33 from rfl, nI_le_iff (by decide) (by omega)] at q1; exact q1
    obtain ⟨t80, et⟩ := wTxt_n h.1.wT
    have ec : gI c 158 = nI (tpd m) := by rw [h.1.rT.1, et]
    rw [bT, bT, ec, et]
    by_cases w : tpd m = 80
    · rw [w, if_pos (by decide), if_pos (by decide)]
      exact h.err (-3) rfl rfl
    · have w' : ¬ nI (tpd m) = 80 := by rw [show (80 : Int32) = nI 80 from rfl, nI_eq_iff (by omega) (by decide)]; exact w
      have g : vp_in (nI (tpd m)) 80 := vin_nI (by omega) (by decide)
      rw [if_neg w', if_neg w', i2c_tab ch (by omega), gd_pos (gch_nI (by omega)), gd_pos g, ix_nI (by omega)]
      unfold f_X5_append
      rw [ec, if_neg (ngo (x := 80) (N := 80) rfl (by omega) (by decide)), gd_pos (gch_nI (by omega)), gd_pos g, ix_nI (by omega)]
      simp only [bd_eq, Option.bind_some, gI_pI, gI_pA, if_true, ec, et, nI_lit1]
      refine ⟨_, _, _, rfl, rfl, ?_, (FrM.pA (by omega)).tr (FrM.pI (by omega)), (FrC.pA (by omega)).tr (FrC.pI (by omega)), fun _ => lo_nI (by decide) (by omega)⟩
      obtain ⟨hB, hD, hA, hJ, hM⟩ := h
      have ntp : tpd (pI (pA m 34 (tpd m) (nI ch)) 52 (nI (tpd m + 1))) = tpd m + 1 := by unfold tpd; rw [gI_pI, if_pos rfl, ix_nI (by unfold tpd at *; omega)]
      refine ⟨⟨hB.wO.on rfl, hB.wV.on rfl rfl, hB.wS.on rfl rfl rfl rfl rfl, ⟨tpd m + 1, by omega, rfl, fun k hk => ?_⟩, (hB.rP.on (y := pI (pA c 108 (tpd m) (nI ch)) 158 (nI (tpd m + 1))) rfl).onM rfl, (hB.rD.onC (c' := pI (pA c 108 (tpd m) (nI ch)) 158 (nI (tpd m + 1))) rfl rfl).onM rfl rfl rfl, (hB.rV.on (y := pI (pA c 108 (tpd m) (nI ch)) 158 (nI (tpd m + 1))) rfl).onM rfl rfl rfl, (hB.rO.on (y := pI (pA c 108 (tpd m) (nI ch)) 158 (nI (tpd m + 1))) rfl).onM rfl, (hB.rS.onC (c' := pI (pA c 108 (tpd m) (nI ch)) 158 (nI (tpd m + 1))) rfl rfl rfl rfl rfl rfl).onM rfl rfl rfl rfl rfl, ⟨rfl, fun k hk => ?_⟩, hB.wG.on rfl rfl⟩, hD.gen rfl rfl rfl rfl rfl rfl rfl rfl rfl rfl rfl rfl, hA.on (fun k _ hk => by show gI (pI (pA c 108 (tpd m) (nI ch)) 158 (nI (tpd m + 1))) k = _; rw [gI_pI, if_neg hk, gI_pA]) (fun a _ ha => by show gA (pI (pA c 108 (tpd m) (nI ch)) 158 (nI (tpd m + 1))) a = _; rw [gA_pI, gA_pA_ne ha]) (fun _ _ => rfl) (fun a _ _ => by rw [gA_pI, gA_pA_ne (by omega)]) rfl, hJ.on rfl rfl rfl rfl rfl rfl rfl, hM.on (fun a _ ha => by rw [gA_pI, gA_pA_ne (by omega)]) rfl rfl rfl rfl⟩
      · rw [gA_pI, gA_pA_at]
        by_cases z : k = tpd m
        · rw [if_pos z]; exact ⟨ch, h33, by omega, rfl⟩
        · rw [if_neg z]
          obtain ⟨n, hn, e0, hc⟩ := hB.wT
          have en : n = tpd m := by
            have := e0.symm.trans et
            rw [nI_eq_iff (by omega) (by omega)] at this; exact this
          exact hc k (by omega)
      · rw [ntp] at hk
        show gA (pI (pA c 108 (tpd m) (nI ch)) 158 (nI (tpd m + 1))) 108 k = _
        rw [gA_pI, gA_pI, gA_pA_at, gA_pA_at]
        by_cases z : k = tpd m
        · rw [if_pos z, if_pos z]
        · rw [if_neg z, if_neg z]; exact hB.rT.2 k (by omega)
theorem cal_clearRule : Cal 0 (fun t => f_X8_clearRule t) (fun t => f_X9_clearRule t) := fun c m h => by
  show ∃ r c' m', f_X8_clearRule c = some (r, c') ∧ f_X9_clearRule m = some (r, m') ∧ _
  unfold f_X8_clearRule f_X9_clearRule f_X5_length f_X5_empty
  simp only [Option.bind_some, bd_eq]
  refine ⟨gI m 52, pI c 158 0, pI m 52 0, by rw [h.1.rT.1], rfl, ?_, FrM.pI (by omega), FrC.pI (by omega), fun _ => by rw [(wTxt_n h.1.wT).2]; exact lo_nI (by decide) (by have := (wTxt_n h.1.wT).1; omega)⟩
  obtain ⟨hB, hD, hA, hJ, hM⟩ := h
  have ntp : tpd (pI m 52 0) = 0 := rfl
  exact ⟨⟨hB.wO.on rfl, hB.wV.on rfl rfl, hB.wS.on rfl rfl rfl rfl rfl, ⟨0, by omega, rfl, fun k hk => absurd hk (by omega)⟩, (hB.rP.on (y := pI c 158 0) rfl).onM rfl, (hB.rD.onC (c' := pI c 158 0) rfl rfl).onM rfl rfl rfl, (hB.rV.on (y := pI c 158 0) rfl).onM rfl rfl rfl, (hB.rO.on (y := pI c 158 0) rfl).onM rfl, (hB.rS.onC (c' := pI c 158 0) rfl rfl rfl rfl rfl rfl).onM rfl rfl rfl rfl rfl, ⟨rfl, fun k hk => absurd hk (by rw [ntp]; omega)⟩, hB.wG.on rfl rfl⟩, hD.gen rfl rfl rfl rfl rfl rfl rfl rfl rfl rfl rfl rfl, hA.on (fun k _ hk => by rw [gI_pI, if_neg hk]) (fun a _ ha => rfl) (fun _ _ => rfl) (fun a _ _ => rfl) rfl, hJ.on rfl rfl rfl rfl rfl rfl rfl, hM.on (fun _ _ _ => rfl) rfl rfl rfl rfl⟩
