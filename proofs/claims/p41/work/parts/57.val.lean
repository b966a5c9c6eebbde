section ON2
variable {c c' m m' : Sx}
theorem od_on (e : gA m' 28 = gA m 28) : od m' = od m := by funext f; unfold od; rw [e]
theorem src_on (e26 : gA m' 26 = gA m 26) (e28 : gA m' 28 = gA m 28) : src m' = src m := by funext f k; unfold src; rw [iT_on e26, od_on e28]
theorem vOr_on (e26 : gA m' 26 = gA m 26) (e27 : gA m' 27 = gA m 27) (e28 : gA m' 28 = gA m 28) : vOr m' = vOr m := by funext f k n; unfold vOr; rw [src_on e26 e28, od_on e28, e27]
theorem tgR_on (e26 : gA m' 26 = gA m 26) (e27 : gA m' 27 = gA m 27) (f : Nat) : ∀ k, tgR m' f k = tgR m f k
  | 0 => rfl
  | k + 1 => by rw [tgR, tgR, tgR_on e26 e27 f k, iT_on e26, e27]
theorem tgs_on (e26 : gA m' 26 = gA m 26) (e27 : gA m' 27 = gA m 27) : tgs m' = tgs m := by funext f; unfold tgs; rw [tgR_on e26 e27]
theorem rt_on (e : vOr m' = vOr m) : rt m' = rt m := by funext f; unfold rt; rw [e]
theorem yr_on (e : vOr m' = vOr m) : yr m' = yr m := by funext f; unfold yr; rw [e]
theorem pref_on (e : vOr m' = vOr m) : pref m' = pref m := by funext f g; unfold pref; rw [rt_on e, yr_on e]
theorem grp_on (e23 : gA m' 23 = gA m 23) (e24 : gA m' 24 = gA m 24) : grp m' = grp m := by funext f g; unfold grp; rw [iF_on e23, e24]
theorem KP_on (e : vOr m' = vOr m) (e23 : gA m' 23 = gA m 23) (e24 : gA m' 24 = gA m 24) : KP m' = KP m := by funext f g; unfold KP; rw [pref_on e, grp_on e23 e24]
theorem fl_on (e31 : gA m' 31 = gA m 31) : fl m' = fl m := by funext s k; unfold fl; rw [e31]
theorem bst_on (e : vOr m' = vOr m) (e31 : gA m' 31 = gA m 31) (s : Nat) : ∀ k, bst m' s k = bst m s k
  | 0 => by rw [bst, bst, fl_on e31]
  | k + 1 => by rw [bst, bst, bst_on e e31 s k, fl_on e31, rt_on e]
theorem cov_on (e : vOr m' = vOr m) (e30 : gA m' 30 = gA m 30) (e31 : gA m' 31 = gA m 31) (e32 : gA m' 32 = gA m 32) : cov m' = cov m := by funext s; unfold cov; rw [bst_on e e31, mn_on e30, e32]
theorem De.gen (h : De c m) (k12 : gA c' 12 = gA c 12) (k9 : gL c' 9 = gL c 9) (k10 : gL c' 10 = gL c 10) (k12' : gL c' 12 = gL c 12) (e23 : gA m' 23 = gA m 23) (e24 : gA m' 24 = gA m 24) (e26 : gA m' 26 = gA m 26) (e27 : gA m' 27 = gA m 27) (e28 : gA m' 28 = gA m 28) (e30 : gA m' 30 = gA m 30) (e31 : gA m' 31 = gA m 31) (e32 : gA m' 32 = gA m 32) : De c' m' := by
  have ev := vOr_on e26 e27 e28
  obtain ⟨h1, h2, h3⟩ := h
  refine ⟨?_, ?_, ?_⟩
  · unfold DVal; rw [k12, iF_on e23, ev, tgs_on e26 e27]; exact h1
  · unfold DKee; rw [k9, k10, KP_on ev e23 e24, iF_on e23, grp_on e23 e24]; exact h2
  · unfold DCov; rw [k12', mn_on e30, cov_on ev e30 e31 e32]; exact h3
theorem Mp.on {k : Nat} (h : Mp m k) (s : SameG m m') (e35 : gA m' 35 = gA m 35) (e36 : gA m' 36 = gA m 36) (e37 : gA m' 37 = gA m 37) (eM : gM m' 2 = gM m 2) : Mp m' k := fun a ha hA => (h a ha (by rw [← iA_on e35]; exact hA)).on s (by rw [e36]) e37 (fun b _ => by rw [eM])
theorem St.cov (s : St m m') : cov m' = cov m := cov_on (vOr_on (s.1 26 (by decide)) (s.1 27 (by decide)) (s.1 28 (by decide))) (s.1 30 (by decide)) (s.1 31 (by decide)) (s.1 32 (by decide))
end ON2
theorem isSlot_eq {c m : Sx} (h : Ba c m) (a1 a2 a3 : Int32) : f_X8_isSlot c a1 a2 a3 = some (b2 (fil (iF m) a1 && (inr a2 0 2 && inr a3 0 5))) := by
  unfold f_X8_isSlot
  rw [hasC h, Option.bind_some]
  cases fil (iF m) a1 with
  | false => rw [bF]; rfl
  | true =>
    rw [bT, isSource_eq, Option.bind_some]
    cases inr a2 0 2 with
    | false => rw [bF]; rfl
    | true =>
      rw [bT, isWithin_eq, Option.bind_some]
      cases inr a3 0 5 <;> rfl
theorem isCell_eq (m : Sx) (a1 a2 a3 : Int32) : f_X9_isCell m a1 a2 a3 = some (b2 (fil (iF m) a1 && (inr a2 0 2 && inr a3 0 5))) := by
  unfold f_X9_isCell
  rw [there_eq, Option.bind_some]
  cases fil (iF m) a1 with
  | false => rw [bF]; rfl
  | true =>
    rw [bT, in_eq, Option.bind_some]
    cases inr a2 0 2 with
    | false => rw [bF]; rfl
    | true =>
      rw [bT, in_eq, Option.bind_some]
      cases inr a3 0 5 <;> rfl
theorem fits_eq (m : Sx) {k : Nat} (hk : k < 6) (v : Int32) : f_X9_fits m (nI k) v = some (b2 (inr v (lstV k) (grtV k))) := by
  unfold f_X9_fits
  rcases (show k = 0 ∨ k = 1 ∨ k = 2 ∨ k = 3 ∨ k = 4 ∨ k = 5 by omega) with rfl | rfl | rfl | rfl | rfl | rfl
  · rw [if_pos (by decide), in_eq, Option.bind_some, gd_pos (gz_b2 _)]; rfl
  · rw [if_neg (by decide), if_pos (by decide), in_eq, Option.bind_some, gd_pos (gz_b2 _)]; rfl
  · rw [if_neg (by decide), if_neg (by decide), if_pos (by decide), in_eq, Option.bind_some, gd_pos (gz_b2 _)]; rfl
  · rw [if_neg (by decide), if_neg (by decide), if_neg (by decide), if_pos (by decide), in_eq, Option.bind_some, gd_pos (gz_b2 _)]; rfl
  · rw [if_neg (by decide), if_neg (by decide), if_neg (by decide), if_neg (by decide), if_pos (by decide), in_eq, Option.bind_some, gd_pos (gz_b2 _)]; rfl
  · rw [if_neg (by decide), if_neg (by decide), if_neg (by decide), if_neg (by decide), if_neg (by decide), in_eq, Option.bind_some, gd_pos (gz_b2 _)]; rfl
theorem val_rng {k : Nat} (hk : k < 6) {x : Int32} (h : inr x (lstV k) (grtV k) = true) : ∃ v, v ≤ 9999 ∧ x = nI v ∧ (k = 5 → v ≤ 1023) ∧ (k = 1 → v ≤ 5) := by
  obtain ⟨h1, h2⟩ := inr_iff.mp h
  have l : (0 : Int32) ≤ lstV k ∧ grtV k ≤ nI 9999 := (by decide +kernel : ∀ k, k < 6 → (0 : Int32) ≤ lstV k ∧ grtV k ≤ nI 9999) k hk
  rw [i_le] at h1 h2
  obtain ⟨v, hv, rfl⟩ := nI_frm (x := x) (n := 9999) (by have := l.1; rw [i_le] at this ⊢; omega) (by have := l.2; rw [i_le] at this ⊢; omega) (by decide)
  refine ⟨v, hv, rfl, fun e => ?_, fun e => ?_⟩
  · subst e
    have h3 : nI v ≤ nI 1023 := by rw [i_le]; exact h2
    exact (nI_le_iff (by omega) (by decide)).mp h3
  · subst e
    have h3 : nI v ≤ nI 5 := by rw [i_le]; exact h2
    exact (nI_le_iff (by omega) (by decide)).mp h3
theorem iT_put (m : Sx) (p : Nat) (v w : Int32) (k : Nat) : iT (pA (pA m 26 p v) 27 p w) k = if k = p then decide (v ≠ 0) else iT m k := by
  unfold iT
  rw [gA_pA_ne (by decide), gA_pA_at]
  split <;> rfl
theorem iT_put' (m : Sx) (p : Nat) (v : Int32) (k : Nat) : iT (pA m 26 p v) k = if k = p then decide (v ≠ 0) else iT m k := by
  unfold iT
  rw [gA_pA_at]
  split <;> rfl
theorem pre_set {c m : Sx} (hB : Ba c m) (hA : RAl c m) (hJ : RJ c m) {f s k v : Nat} (hf : f < 40) (hs : s < 3) (hk : k < 6) (hv : v ≤ 9999) (h5 : k = 5 → v ≤ 1023) (h1 : k = 1 → v ≤ 5) : Pre (pA c 11 (18 * f + 6 * s + k) (nI v)) (pA (pA m 26 (18 * f + 6 * s + k) 1) 27 (18 * f + 6 * s + k) (nI v)) := by
  have t1 : decide ((1 : Int32) ≠ 0) = true := by decide
  refine ⟨⟨hB.wO.on rfl, fun i hi ht => ?_, hB.wS.on rfl rfl rfl rfl rfl, hB.wT.on rfl rfl, (hB.rP.on (y := pA c 11 (18 * f + 6 * s + k) (nI v)) rfl).onM rfl, (hB.rD.onC (c' := pA c 11 (18 * f + 6 * s + k) (nI v)) rfl rfl).onM rfl rfl rfl, fun g hg hpg j hj => ?_, (hB.rO.on (y := pA c 11 (18 * f + 6 * s + k) (nI v)) rfl).onM rfl, (hB.rS.onC (c' := pA c 11 (18 * f + 6 * s + k) (nI v)) rfl rfl rfl rfl rfl rfl).onM rfl rfl rfl rfl rfl, (hB.rT.onC (c' := pA c 11 (18 * f + 6 * s + k) (nI v)) rfl rfl).onM rfl rfl, ⟨fun g hg i hi ht => ?_, fun i hi h6 ht => ?_⟩⟩, hA.on (fun _ _ _ => rfl) (fun a _ _ => gA_pA_ne (by omega)) (fun _ _ => rfl) (fun a _ _ => by rw [gA_pA_ne (by omega), gA_pA_ne (by omega)]) rfl, hJ.on rfl rfl rfl rfl rfl rfl rfl⟩
  · rw [iT_put] at ht
    rw [gA_pA_at]
    by_cases q : i = 18 * f + 6 * s + k
    · rw [if_pos q]; exact ⟨v, hv, rfl⟩
    · rw [if_neg q] at ht ⊢; exact hB.wV i hi ht
  · rw [gA_pA_at, iT_put, gA_pA_at]
    by_cases q : 18 * g + j = 18 * f + 6 * s + k
    · rw [if_pos q, if_pos q, if_pos q, t1, if_pos rfl]
    · rw [if_neg q, if_neg q, if_neg q]; exact hB.rV g hg hpg j hj
  · rw [iT_put] at ht
    rw [gA_pA_at]
    by_cases q : 18 * g + 6 * i + 5 = 18 * f + 6 * s + k
    · rw [if_pos q]; exact ⟨v, h5 (by omega), rfl⟩
    · rw [if_neg q] at ht ⊢; exact hB.wG.1 g hg i hi ht
  · rw [iT_put] at ht
    rw [gA_pA_at]
    by_cases q : i = 18 * f + 6 * s + k
    · rw [if_pos q]; exact ⟨v, h1 (by omega), rfl⟩
    · rw [if_neg q] at ht ⊢; exact hB.wG.2 i hi h6 ht
theorem cal_setValue (a1 a2 a3 a4 : Int32) : Cal (-4) (fun t => f_X8_setValue t a1 a2 a3 a4) (fun t => f_X9_setValue t a1 a2 a3 a4) := fun c m h => by
  show ∃ r c' m', f_X8_setValue c a1 a2 a3 a4 = some (r, c') ∧ f_X9_setValue m a1 a2 a3 a4 = some (r, m') ∧ _
  unfold f_X8_setValue f_X9_setValue
  rw [isSlot_eq h.1, isCell_eq]
  simp only [Option.bind_some]
  cases q : (fil (iF m) a1 && (inr a2 0 2 && inr a3 0 5)) with
  | false => exact h.err (-1) (by rw [bF]) (by rw [bF])
  | true =>
    obtain ⟨q1, q'⟩ := (Bool.and_eq_true _ _).mp q
    obtain ⟨q2, q3⟩ := (Bool.and_eq_true _ _).mp q'
    obtain ⟨f, hf, rfl, hp⟩ := fil_out q1
    obtain ⟨s, hs, rfl⟩ := inr_out (n := 2) (by decide) q2
    obtain ⟨k, hk, rfl⟩ := inr_out (n := 5) (by decide) q3
    have g6 : vp_in (nI k) 6 := vin_nI (by omega) (by decide)
    rw [bT, bT, gd_pos g6, gd_pos g6, ix_nI (by omega), isWithin_eq, fits_eq m (by omega)]
    simp only [Option.bind_some]
    cases q4 : inr a4 (lstV k) (grtV k) with
    | false => exact h.err (-1) (by rw [bF]) (by rw [bF])
    | true =>
      obtain ⟨v, hv, rfl, h5, h1⟩ := val_rng (by omega) q4
      obtain ⟨hB, hD, hA, hJ, hM⟩ := h
      obtain ⟨c', m', e1, e2, i1, i2, i3, -⟩ := fin_settle (c := c) (m := m) (pre_set hB hA hJ hf (show s < 3 by omega) (show k < 6 by omega) hv h5 h1) (FrM.pA (by omega)) ((FrC.pA (by omega)).tr (FrC.pA (by omega)))
      have gi : vp_in (nI (18 * f + 6 * s + k)) 720 := vin_nI (by omega) (by decide)
      rw [bT, bT, told_eq c hf (by omega) (by omega), Option.bind_some, tell_eq c hf (by omega) (by omega), Option.bind_some, e1, Option.bind_some, orNF, Option.bind_some, i18, gd_pos gi, gd_pos gi, gd_pos gi, gd_pos gi, ix_nI (by omega)]
      simp only [bd_eq]
      rw [gd_pos gi, gd_pos gi, e2, e2]
      have hr := hB.rV f hf hp (6 * s + k) (by omega)
      rw [← Nat.add_assoc] at hr
      refine ⟨_, c', m', rfl, ?_, i1, i2, i3, fun _ => ?_⟩
      cases ht : iT m (18 * f + 6 * s + k) with
      | false =>
        have z : gA m 26 (18 * f + 6 * s + k) = 0 := by simpa [iT] using ht
        rw [if_pos z, hr, ht]; rfl
      | true =>
        have z : ¬ gA m 26 (18 * f + 6 * s + k) = 0 := by simpa [iT] using ht
        obtain ⟨w, hw, ew⟩ := hB.wV _ (by omega) ht
        rw [if_neg z, hr, ht, if_pos rfl, ew, nI_not_m1 (by omega)]; rfl
      split
      · decide
      · rename_i nz
        cases ht : iT m (18 * f + 6 * s + k) with
        | false => rw [ht] at hr; exact absurd hr nz
        | true =>
          obtain ⟨w, hw, ew⟩ := hB.wV _ (by omega) ht
          rw [hr, ht, if_pos rfl, ew]; exact lo_nI (by decide) (by omega)
theorem pre_clr {c m : Sx} (hB : Ba c m) (hA : RAl c m) (hJ : RJ c m) {f s k : Nat} (hf : f < 40) (hs : s < 3) (hk : k < 6) : Pre (pA c 11 (18 * f + 6 * s + k) (-1)) (pA m 26 (18 * f + 6 * s + k) 0) := by
  have t0 : decide ((0 : Int32) ≠ 0) = false := by decide
  refine ⟨⟨hB.wO.on rfl, fun i hi ht => ?_, hB.wS.on rfl rfl rfl rfl rfl, hB.wT.on rfl rfl, (hB.rP.on (y := pA c 11 (18 * f + 6 * s + k) (-1)) rfl).onM rfl, (hB.rD.onC (c' := pA c 11 (18 * f + 6 * s + k) (-1)) rfl rfl).onM rfl rfl rfl, fun g hg hpg j hj => ?_, (hB.rO.on (y := pA c 11 (18 * f + 6 * s + k) (-1)) rfl).onM rfl, (hB.rS.onC (c' := pA c 11 (18 * f + 6 * s + k) (-1)) rfl rfl rfl rfl rfl rfl).onM rfl rfl rfl rfl rfl, (hB.rT.onC (c' := pA c 11 (18 * f + 6 * s + k) (-1)) rfl rfl).onM rfl rfl, ⟨fun g hg i hi ht => ?_, fun i hi h6 ht => ?_⟩⟩, hA.on (fun _ _ _ => rfl) (fun a _ _ => gA_pA_ne (by omega)) (fun _ _ => rfl) (fun a _ _ => by rw [gA_pA_ne (by omega)]) rfl, hJ.on rfl rfl rfl rfl rfl rfl rfl⟩
  · rw [iT_put', t0] at ht
    rw [gA_pA_ne (by decide)]
    by_cases q : i = 18 * f + 6 * s + k
    · rw [if_pos q] at ht; cases ht
    · rw [if_neg q] at ht; exact hB.wV i hi ht
  · rw [gA_pA_at, iT_put', gA_pA_ne (by decide)]
    by_cases q : 18 * g + j = 18 * f + 6 * s + k
    · rw [if_pos q, if_pos q, t0, if_neg (by decide)]
    · rw [if_neg q, if_neg q]; exact hB.rV g hg hpg j hj
  · rw [iT_put', t0] at ht
    rw [gA_pA_ne (by decide)]
    by_cases q : 18 * g + 6 * i + 5 = 18 * f + 6 * s + k
    · rw [if_pos q] at ht; cases ht
    · rw [if_neg q] at ht; exact hB.wG.1 g hg i hi ht
  · rw [iT_put', t0] at ht
    rw [gA_pA_ne (by decide)]
    by_cases q : i = 18 * f + 6 * s + k
    · rw [if_pos q] at ht; cases ht
    · rw [if_neg q] at ht; exact hB.wG.2 i hi h6 ht
theorem cal_clearValue (a1 a2 a3 : Int32) : Cal (-4) (fun t => f_X8_clearValue t a1 a2 a3) (fun t => f_X9_clearValue t a1 a2 a3) := fun c m h => by
  show ∃ r c' m', f_X8_clearValue c a1 a2 a3 = some (r, c') ∧ f_X9_clearValue m a1 a2 a3 = some (r, m') ∧ _
  unfold f_X8_clearValue f_X9_clearValue
  rw [isSlot_eq h.1, isCell_eq]
  simp only [Option.bind_some]
  cases q : (fil (iF m) a1 && (inr a2 0 2 && inr a3 0 5)) with
  | false => exact h.err (-1) (by rw [bF]) (by rw [bF])
  | true =>
    obtain ⟨q1, q'⟩ := (Bool.and_eq_true _ _).mp q
    obtain ⟨q2, q3⟩ := (Bool.and_eq_true _ _).mp q'
    obtain ⟨f, hf, rfl, hp⟩ := fil_out q1
    obtain ⟨s, hs, rfl⟩ := inr_out (n := 2) (by decide) q2
    obtain ⟨k, hk, rfl⟩ := inr_out (n := 5) (by decide) q3
    have gi : vp_in (nI (18 * f + 6 * s + k)) 720 := vin_nI (by omega) (by decide)
    have hr := h.1.rV f hf hp (6 * s + k) (by omega)
    rw [← Nat.add_assoc] at hr
    rw [bT, bT, told_eq c hf (by omega) (by omega), Option.bind_some, i18, gd_pos gi, ix_nI (by omega), hr]
    cases ht : iT m (18 * f + 6 * s + k) with
    | false =>
      have z : gA m 26 (18 * f + 6 * s + k) = 0 := by simpa [iT] using ht
      exact h.err (-4) (by rfl) (by rw [if_pos z])
    | true =>
      have z : ¬ gA m 26 (18 * f + 6 * s + k) = 0 := by simpa [iT] using ht
      obtain ⟨w, hw, ew⟩ := h.1.wV _ (by omega) ht
      obtain ⟨hB, hD, hA, hJ, hM⟩ := h
      obtain ⟨c', m', e1, e2, i1, i2, i3, -⟩ := fin_settle (c := c) (m := m) (pre_clr hB hA hJ hf (show s < 3 by omega) (show k < 6 by omega)) (FrM.pA (by omega)) (FrC.pA (by omega))
      rw [if_pos rfl, if_neg z, ew, if_neg (nI_ne_m1 (by omega)), tell_eq c hf (by omega) (by omega), Option.bind_some, e1, Option.bind_some, gd_pos gi]
      simp only [bd_eq]
      rw [gd_pos gi, e2, gA_pA_ne (by decide), ew]
      exact ⟨_, c', m', rfl, rfl, i1, i2, i3, fun _ => lo_nI (by decide) (by omega)⟩
theorem frC_ord {m : Sx} {k1 k2 k3 : Nat} (h1 : k1 ≤ 2) (h2 : k2 ≤ 2) (h3 : k3 ≤ 2) (w1 : ¬ nI k1 = nI k2) (w2 : ¬ nI k1 = nI k3) (w3 : ¬ nI k2 = nI k3) : FrC m (pA (pA (pA m 28 0 (nI k1)) 28 1 (nI k2)) 28 2 (nI k3)) := by
  refine ⟨fun j h => by rw [gA_pA_ne (by omega), gA_pA_ne (by omega), gA_pA_ne (by omega)], fun _ _ => rfl, fun _ => rfl, rfl, rfl, fun w => ⟨w.1, w.2.1, k1, k2, k3, by omega, by omega, by omega, fun e => w1 (by rw [e]), fun e => w2 (by rw [e]), fun e => w3 (by rw [e]), ?_, ?_, ?_⟩⟩
  · rw [gA_pA_at, gA_pA_at, gA_pA_at]; rfl
  · rw [gA_pA_at, gA_pA_at, gA_pA_at]; rfl
  · rw [gA_pA_at, gA_pA_at, gA_pA_at]; rfl
theorem ord_tab (x : Nat) (hx : x < 3) (y : Nat) (hy : y < 3) (z : Nat) (hz : z < 3) (h1 : x ≠ y) (h2 : x ≠ z) (h3 : y ≠ z) : (12 : Int32) ≤ ((100 * nI x) + (10 * nI y)) + nI z := by
  rcases (show (x = 0 ∧ y = 1 ∧ z = 2) ∨ (x = 0 ∧ y = 2 ∧ z = 1) ∨ (x = 1 ∧ y = 0 ∧ z = 2) ∨ (x = 1 ∧ y = 2 ∧ z = 0) ∨ (x = 2 ∧ y = 0 ∧ z = 1) ∨ (x = 2 ∧ y = 1 ∧ z = 0) by omega) with ⟨rfl, rfl, rfl⟩ | ⟨rfl, rfl, rfl⟩ | ⟨rfl, rfl, rfl⟩ | ⟨rfl, rfl, rfl⟩ | ⟨rfl, rfl, rfl⟩ | ⟨rfl, rfl, rfl⟩ <;> decide
theorem ord_12 {m : Sx} (h : Op m) : (12 : Int32) ≤ ((100 * gA m 28 0) + (10 * gA m 28 1)) + gA m 28 2 := by
  obtain ⟨x, y, z, h1, h2, h3, h4, h5, h6, e1, e2, e3⟩ := h
  rw [e1, e2, e3]
  exact ord_tab x h1 y h2 z h3 h4 h5 h6
theorem ord_lo {m : Sx} (h : Op m) : (-1 : Int32) ≤ ((100 * gA m 28 0) + (10 * gA m 28 1)) + gA m 28 2 := Int32.le_trans (by decide) (ord_12 h)
theorem cal_setOrder (a1 a2 a3 : Int32) : Cal (-1) (fun t => f_X8_setOrder t a1 a2 a3) (fun t => f_X9_setOrder t a1 a2 a3) := fun c m h => by
  show ∃ r c' m', f_X8_setOrder c a1 a2 a3 = some (r, c') ∧ f_X9_setOrder m a1 a2 a3 = some (r, m') ∧ _
  unfold f_X8_setOrder f_X9_setOrder
  simp only [isSource_eq, in_eq, Option.bind_some]
  cases q1 : inr a1 0 2 with
  | false => exact h.err (-1) (by rw [bF]) (by rw [bF, if_pos trivial])
  | true =>
    rw [bT, bT]
    cases q2 : inr a2 0 2 with
    | false => exact h.err (-1) (by rw [bF]) (by rw [bF, if_pos trivial])
    | true =>
      rw [bT, bT]
      cases q3 : inr a3 0 2 with
      | false => exact h.err (-1) (by rw [bF]) (by rw [bF, if_pos trivial])
      | true =>
        rw [bT, bT, if_neg (show ¬ (1 : Int32) = 0 by decide)]
        by_cases w1 : a1 = a2
        · rw [if_pos w1, if_pos w1]; exact h.err (-1) rfl rfl
        · rw [if_neg w1, if_neg w1]
          by_cases w2 : a1 = a3
          · rw [if_pos w2, if_pos w2]; exact h.err (-1) rfl rfl
          · rw [if_neg w2, if_neg w2]
            by_cases w3 : a2 = a3
            · rw [if_pos w3, if_pos w3]; exact h.err (-1) rfl rfl
            · rw [if_neg w3, if_neg w3]
              obtain ⟨k1, h1, rfl⟩ := inr_out (n := 2) (by decide) q1
              obtain ⟨k2, h2, rfl⟩ := inr_out (n := 2) (by decide) q2
              obtain ⟨k3, h3, rfl⟩ := inr_out (n := 2) (by decide) q3
              obtain ⟨hB, hD, hA, hJ, hM⟩ := h
              have p1 : Pre (pA (pA (pA c 13 0 (nI k1)) 13 1 (nI k2)) 13 2 (nI k3)) (pA (pA (pA m 28 0 (nI k1)) 28 1 (nI k2)) 28 2 (nI k3)) := by
                refine ⟨⟨fun k hk => ?_, hB.wV.on rfl rfl, hB.wS.on rfl rfl rfl rfl rfl, hB.wT.on rfl rfl, (hB.rP.on (y := pA (pA (pA c 13 0 (nI k1)) 13 1 (nI k2)) 13 2 (nI k3)) rfl).onM rfl, (hB.rD.onC (c' := pA (pA (pA c 13 0 (nI k1)) 13 1 (nI k2)) 13 2 (nI k3)) rfl rfl).onM rfl rfl rfl, (hB.rV.on (y := pA (pA (pA c 13 0 (nI k1)) 13 1 (nI k2)) 13 2 (nI k3)) rfl).onM rfl rfl rfl, fun k hk => ?_, (hB.rS.onC (c' := pA (pA (pA c 13 0 (nI k1)) 13 1 (nI k2)) 13 2 (nI k3)) rfl rfl rfl rfl rfl rfl).onM rfl rfl rfl rfl rfl, (hB.rT.onC (c' := pA (pA (pA c 13 0 (nI k1)) 13 1 (nI k2)) 13 2 (nI k3)) rfl rfl).onM rfl rfl, hB.wG.on rfl rfl⟩, hA.on (fun _ _ _ => rfl) (fun a _ _ => by rw [gA_pA_ne (by omega), gA_pA_ne (by omega), gA_pA_ne (by omega)]) (fun _ _ => rfl) (fun a _ _ => by rw [gA_pA_ne (by omega), gA_pA_ne (by omega), gA_pA_ne (by omega)]) rfl, hJ.on rfl rfl rfl rfl rfl rfl rfl⟩
                · rw [gA_pA_at, gA_pA_at, gA_pA_at]
                  rcases (show k = 0 ∨ k = 1 ∨ k = 2 by omega) with rfl | rfl | rfl
                  · exact ⟨k1, by omega, rfl⟩
                  · exact ⟨k2, by omega, rfl⟩
                  · exact ⟨k3, by omega, rfl⟩
                · rw [gA_pA_at, gA_pA_at, gA_pA_at, gA_pA_at, gA_pA_at, gA_pA_at]
                  rcases (show k = 0 ∨ k = 1 ∨ k = 2 by omega) with rfl | rfl | rfl <;> rfl
              obtain ⟨c', m', e1, e2, i1, i2, i3, -⟩ := fin_settle (c := c) (m := m) p1 ((FrM.pA (by omega)).tr ((FrM.pA (by omega)).tr (FrM.pA (by omega)))) (frC_ord h1 h2 h3 w1 w2 w3)
              unfold f_X1_orderCode f_X1_reorder
              have g0 : vp_in 0 3 := vin_nI (n := 0) (by decide) (by decide)
              have g1 : vp_in 1 3 := vin_nI (n := 1) (by decide) (by decide)
              have g2 : vp_in 2 3 := vin_nI (n := 2) (by decide) (by decide)
              have x0 : ix 0 = 0 := rfl
              have x1 : ix 1 = 1 := rfl
              have x2 : ix 2 = 2 := rfl
              simp only [gd_pos g0, gd_pos g1, gd_pos g2, bd_eq, x0, x1, x2, Option.bind_some, e1, e2]
              rw [hB.rO 0 (by decide), hB.rO 1 (by decide), hB.rO 2 (by decide)]
              exact ⟨_, c', m', rfl, rfl, i1, i2, i3, fun w => ord_lo w.2.2⟩
theorem cal_collapse (a1 a2 : Int32) : Cal (-1) (fun t => f_X8_collapse t a1 a2) (fun t => f_X9_collapse t a1 a2) := fun c m h => by
  show ∃ r c' m', f_X8_collapse c a1 a2 = some (r, c') ∧ f_X9_collapse m a1 a2 = some (r, m') ∧ _
  unfold f_X8_collapse f_X9_collapse f_X6_isCollapsed f_X6_fold
  rw [hasS_eq h.1.wS h.1.rS, isStack_eq h.1.wS]
  simp only [Option.bind_some]
  cases q : stn m a1 with
  | false => exact h.err (-1) (by rw [bF]) (by rw [bF])
  | true =>
    obtain ⟨s, hs, rfl, hn⟩ := stn_out q
    rw [bT, bT, isWithin_eq, in_eq]
    simp only [Option.bind_some]
    cases q2 : inr a2 0 1 with
    | false => exact h.err (-1) (by rw [bF]) (by rw [bF])
    | true =>
      obtain ⟨k, hk, rfl⟩ := inr_out (n := 1) (by decide) q2
      have g : vp_in (nI s) 10 := vin_nI hs (by decide)
      have fin : ∀ b : Bool, Inv (pA c 17 s (b2 b)) (pA m 33 s (b2 b)) := fun b => by
        obtain ⟨hB, hD, hA, hJ, hM⟩ := h
        refine ⟨⟨hB.wO.on rfl, hB.wV.on rfl rfl, hB.wS.on rfl rfl rfl rfl rfl, hB.wT.on rfl rfl, (hB.rP.on (y := pA c 17 s (b2 b)) rfl).onM rfl, (hB.rD.onC (c' := pA c 17 s (b2 b)) rfl rfl).onM rfl rfl rfl, (hB.rV.on (y := pA c 17 s (b2 b)) rfl).onM rfl rfl rfl, (hB.rO.on (y := pA c 17 s (b2 b)) rfl).onM rfl, ?_, (hB.rT.onC (c' := pA c 17 s (b2 b)) rfl rfl).onM rfl rfl, hB.wG.on rfl rfl⟩, hD.gen rfl rfl rfl rfl rfl rfl rfl rfl rfl rfl rfl rfl, hA.on (fun _ _ _ => rfl) (fun a _ _ => by rw [gA_pA_ne (by omega)]) (fun _ _ => rfl) (fun a _ _ => by rw [gA_pA_ne (by omega)]) rfl, hJ.on rfl rfl rfl rfl rfl rfl rfl, hM.on (fun a _ ha => gA_pA_ne (by omega)) rfl rfl rfl rfl⟩
        obtain ⟨s1, s2, s3, s4, s5⟩ := hB.rS
        refine ⟨s1, s2, s3, fun s' hs' hn' => ⟨(s4 s' hs' hn').1, ?_⟩, s5⟩
        rw [gA_pA_at, gA_pA_at]
        by_cases w : s' = s
        · rw [if_pos w, if_pos w]; cases b <;> rfl
        · rw [if_neg w, if_neg w]; exact (s4 s' hs' hn').2
      have f1 : ∀ v, FrM c (pA c 17 s v) := fun v => FrM.pA (by omega)
      have f2 : ∀ v, FrC m (pA m 33 s v) := fun v => FrC.pA (by omega)
      have e17 := (h.1.rS.2.2.2.1 s hs hn).2
      have z1 : gz 1 := Or.inr rfl
      have z0 : gz 0 := Or.inl rfl
      rw [bT, bT, gd_pos g, gd_pos g, ix_nI (by omega), e17, gd_pos (gz_b2 _)]
      simp only [Option.bind_some, gd_pos g, gd_pos z1, gd_pos z0, bd_eq]
      rcases (show k = 0 ∨ k = 1 by omega) with rfl | rfl
      · rw [if_neg (show ¬ nI 0 = 1 by decide)]
        by_cases w : gA m 33 s = 0
        · rw [if_pos w, show decide (gA m 33 s ≠ 0) = false from decide_eq_false (fun u => u w), if_pos b2_f]
          exact ⟨_, _, _, rfl, rfl, fin false, f1 _, f2 _, fun _ => by decide⟩
        · rw [if_neg w, show decide (gA m 33 s ≠ 0) = true from decide_eq_true w, if_neg (by decide)]
          exact ⟨_, _, _, rfl, rfl, fin false, f1 _, f2 _, fun _ => by decide⟩
      · rw [if_pos (show nI 1 = 1 by decide)]
        by_cases w : gA m 33 s = 0
        · rw [if_pos w, show decide (gA m 33 s ≠ 0) = false from decide_eq_false (fun u => u w), if_pos b2_f]
          exact ⟨_, _, _, rfl, rfl, fin true, f1 _, f2 _, fun _ => by decide⟩
        · rw [if_neg w, show decide (gA m 33 s ≠ 0) = true from decide_eq_true w, if_neg (by decide)]
          exact ⟨_, _, _, rfl, rfl, fin true, f1 _, f2 _, fun _ => by decide⟩
