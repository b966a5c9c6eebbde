/-! ===== what each relation rests on ===== -/
section ON
variable {c c' m m' : Sx}
theorem iF_on (e : gA m' 23 = gA m 23) : iF m' = iF m := by funext f; unfold iF; rw [e]
theorem iT_on (e : gA m' 26 = gA m 26) : iT m' = iT m := by funext f; unfold iT; rw [e]
theorem mn_on (e : gA m' 30 = gA m 30) : mn m' = mn m := by funext f; unfold mn; rw [e]
theorem iA_on (e : gA m' 35 = gA m 35) : iA m' = iA m := by funext f; unfold iA; rw [e]
theorem WOrd.on (h : WOrd m) (e : gA m' 28 = gA m 28) : WOrd m' := by unfold WOrd; rw [e]; exact h
theorem WVal.on (h : WVal m) (e : gA m' 26 = gA m 26) (e2 : gA m' 27 = gA m 27) : WVal m' := by unfold WVal; rw [iT_on e, e2]; exact h
theorem WTg.on (h : WTg m) (e : gA m' 26 = gA m 26) (e2 : gA m' 27 = gA m 27) : WTg m' := by unfold WTg; rw [iT_on e, e2]; exact h
theorem WStk.on (h : WStk m) (e23 : gA m' 23 = gA m 23) (e29 : gA m' 29 = gA m 29) (e30 : gA m' 30 = gA m 30) (e31 : gA m' 31 = gA m 31) (e32 : gA m' 32 = gA m 32) : WStk m' := by unfold WStk; rw [iF_on e23, mn_on e30, e29, e30, e31, e32]; exact h
theorem WTxt.on (h : WTxt m) (e : gI m' 52 = gI m 52) (e2 : gA m' 34 = gA m 34) : WTxt m' := by unfold WTxt; rw [e, e2]; exact h
theorem RPres.onM (h : RPres c m) (e : gA m' 23 = gA m 23) : RPres c m' := by unfold RPres; rw [iF_on e]; exact h
theorem RDig.onM (h : RDig c m) (e : gA m' 23 = gA m 23) (e2 : gA m' 24 = gA m 24) (e3 : gA m' 25 = gA m 25) : RDig c m' := by unfold RDig; rw [iF_on e, e2, e3]; exact h
theorem RDig.onC (h : RDig c m) (e2 : gA c' 9 = gA c 9) (e3 : gA c' 10 = gA c 10) : RDig c' m := by unfold RDig; rw [e2, e3]; exact h
theorem RVal.onM (h : RVal c m) (e : gA m' 23 = gA m 23) (e2 : gA m' 26 = gA m 26) (e3 : gA m' 27 = gA m 27) : RVal c m' := by unfold RVal; rw [iF_on e, iT_on e2, e3]; exact h
theorem ROrd.onM (h : ROrd c m) (e : gA m' 28 = gA m 28) : ROrd c m' := by unfold ROrd; rw [e]; exact h
theorem RStk.onM (h : RStk c m) (e29 : gA m' 29 = gA m 29) (e30 : gA m' 30 = gA m 30) (e31 : gA m' 31 = gA m 31) (e32 : gA m' 32 = gA m 32) (e33 : gA m' 33 = gA m 33) : RStk c m' := by unfold RStk; rw [mn_on e30, e29, e30, e31, e32, e33]; exact h
theorem RStk.onC (h : RStk c m) (e14 : gA c' 14 = gA c 14) (e15 : gA c' 15 = gA c 15) (e16 : gA c' 16 = gA c 16) (e17 : gA c' 17 = gA c 17) (e18 : gA c' 18 = gA c 18) (e11 : gL c' 11 = gL c 11) : RStk c' m := by unfold RStk; rw [e14, e15, e16, e17, e18, e11]; exact h
theorem RTxt.onM (h : RTxt c m) (e : gI m' 52 = gI m 52) (e2 : gA m' 34 = gA m 34) : RTxt c m' := by unfold RTxt tpd; rw [e, e2]; exact h
theorem RTxt.onC (h : RTxt c m) (e : gI c' 158 = gI c 158) (e2 : gA c' 108 = gA c 108) : RTxt c' m := by unfold RTxt; rw [e, e2]; exact h
theorem RAl.on (h : RAl c m) (eI : ∀ k, 100 ≤ k → k ≠ 158 → gI c' k = gI c k) (eA : ∀ a, 100 ≤ a → a ≠ 108 → gA c' a = gA c a) (eL : ∀ k, 100 ≤ k → gL c' k = gL c k) (mA : ∀ a, 35 ≤ a → a ≤ 40 → gA m' a = gA m a) (mM : gM m' 2 = gM m 2) : RAl c' m' := fun a ha => by
  have ei := iA_on (mA 35 (by omega) (by omega))
  rw [ei, eI _ (by omega) (by omega)]
  refine ⟨(h a ha).1, fun hA => ?_⟩
  obtain ⟨⟨ch, n, w1, w2, w3, w4, w5⟩, d1, d2, d3, d4, d5⟩ := (h a ha).2 hA
  refine ⟨⟨ch, n, ⟨w1.1, ?_, ?_, w1.2.2.2⟩, ?_, ?_, w4, ?_⟩, ?_, ?_, ?_, ?_, ?_⟩
  · rw [eI _ (by omega) (by omega)]; exact w1.2.1
  · rw [eA _ (by omega) (by omega)]; exact w1.2.2.1
  · rw [mA 36 (by omega) (by omega)]; exact w2
  · rw [mA 37 (by omega) (by omega)]; exact w3
  · rw [ei]; exact w5
  · rw [eL _ (by omega), mM]; exact d1
  · rw [eI _ (by omega) (by omega), mA 38 (by omega) (by omega)]; exact d2
  · rw [eI _ (by omega) (by omega), mA 39 (by omega) (by omega)]; exact d3
  · rw [eI _ (by omega) (by omega), mA 40 (by omega) (by omega)]; exact d4
  · rw [eI _ (by omega) (by omega), mA 40 (by omega) (by omega)]; exact d5
end ON
/-! ===== calls that change something ===== -/
/-- what a call answers is no less than lo, where the state is as it should be -/
def Cal (lo : Int32) (F G : Sx → Option (Int32 × Sx)) : Prop := ∀ c m, Inv c m → ∃ r c' m', F c = some (r, c') ∧ G m = some (r, m') ∧ Inv c' m' ∧ FrM c c' ∧ FrC m m' ∧ (Xs m → lo ≤ r)
theorem Inv.err {c m : Sx} (h : Inv c m) (r : Int32) {lo : Int32} {F G : Option (Int32 × Sx)} (e1 : F = some (r, c)) (e2 : G = some (r, m)) (hlo : Xs m → lo ≤ r := by intro _; decide) : ∃ r c' m', F = some (r, c') ∧ G = some (r, m') ∧ Inv c' m' ∧ FrM c c' ∧ FrC m m' ∧ (Xs m → lo ≤ r) := ⟨r, c, m, e1, e2, h, FrM.rf _, FrC.rf _, hlo⟩
theorem lo_nI {lo : Int32} (h : lo ≤ 0) {n : Nat} (hn : n < 2 ^ 31) : lo ≤ nI n := Int32.le_trans h (nI_pos' hn)
theorem fin_settle {c m c1 m1 : Sx} (h : Pre c1 m1) (f1 : FrM c c1) (f2 : FrC m m1) : ∃ c' m', f_X8_settle c1 = some c' ∧ (∀ r, f_X9_settled m1 r = some (r, m')) ∧ Inv c' m' ∧ FrM c c' ∧ FrC m m' ∧ St m1 m' := by
  obtain ⟨c', m', e1, e2, h1, h2, h3, h4⟩ := settle_pair h
  exact ⟨c', m', e1, fun r => by unfold f_X9_settled; rw [e2]; rfl, h1, f1.tr h2, f2.tr h3, h4⟩
theorem cal_setDigest (a1 a2 : Int32) : Cal (-1) (fun t => f_X8_setDigest t a1 a2) (fun t => f_X9_setDigest t a1 a2) := fun c m h => by
  show ∃ r c' m', f_X8_setDigest c a1 a2 = some (r, c') ∧ f_X9_setDigest m a1 a2 = some (r, m') ∧ _
  unfold f_X8_setDigest f_X9_setDigest f_X1_digest f_X1_changeDigest
  rw [hasC h.1, there_eq]
  simp only [Option.bind_some]
  cases q : fil (iF m) a1 with
  | false => exact h.err (-1) (by rw [bF]) (by rw [bF])
  | true =>
    obtain ⟨f, hf, rfl, hp⟩ := fil_out q
    rw [bT, bT, isWithin_eq, in_eq]
    simp only [Option.bind_some]
    cases q2 : inr a2 0 9999 with
    | false => exact h.err (-1) (by rw [bF]) (by rw [bF])
    | true =>
      have g := vin_nI (n := f) (N := 40) hf (by decide)
      obtain ⟨hB, hD, hA, hJ, hM⟩ := h
      have b1 : Ba (pA c 9 f a2) (pA m 24 f a2) := ⟨hB.wO.on rfl, hB.wV.on rfl rfl, hB.wS.on rfl rfl rfl rfl rfl, hB.wT.on rfl rfl, (hB.rP.on (y := pA c 9 f a2) rfl).onM rfl, fun g hg hpg => by
          rw [iF_on (m := m) (by rfl)] at hpg
          rw [gA_pA_at, gA_pA_at, gA_pA_ne (by decide), gA_pA_ne (by decide)]
          obtain ⟨d1, d2⟩ := hB.rD g hg hpg
          exact ⟨by rw [d1], d2⟩, (hB.rV.on (y := pA c 9 f a2) rfl).onM rfl rfl rfl, (hB.rO.on (y := pA c 9 f a2) rfl).onM rfl, (hB.rS.onC (c' := pA c 9 f a2) rfl rfl rfl rfl rfl rfl).onM rfl rfl rfl rfl rfl, (hB.rT.onC (c' := pA c 9 f a2) rfl rfl).onM rfl rfl, hB.wG.on rfl rfl⟩
      have p1 : Pre (pA c 9 f a2) (pA m 24 f a2) := ⟨b1, hA.on (fun _ _ _ => rfl) (fun a _ _ => gA_pA_ne (by omega)) (fun _ _ => rfl) (fun a _ _ => gA_pA_ne (by omega)) rfl, hJ.on rfl rfl rfl (gA_pA_ne (by decide)) (gA_pA_ne (by decide)) (gA_pA_ne (by decide)) (gA_pA_ne (by decide))⟩
      obtain ⟨c', m', e1, e2, i1, i2, i3, -⟩ := fin_settle p1 (FrM.pA (t := c) (by omega)) (frC_pA24 (t := m) (inr_iff.mp q2).1)
      rw [bT, bT, gd_pos g, gd_pos g, gd_pos g, gd_pos g, ix_nI (by omega)]
      simp only [Option.bind_some, bd_eq]
      rw [e1, e2, (hB.rD f hf hp).1]
      exact ⟨_, c', m', rfl, rfl, i1, i2, i3, fun w => Int32.le_trans (by decide) (w.2.1 f hf)⟩
