/-! ===== rules: the reference's side ===== -/
def SameD (m y : Sx) : Prop := (∀ a, a < 40 → gA y a = gA m a) ∧ gM y 2 = gM m 2
section CG
variable {m y : Sx}
theorem cg_iF (h : SameD m y) : iF y = iF m := by funext f; unfold iF; rw [h.1 23 (by decide)]
theorem cg_iT (h : SameD m y) : iT y = iT m := by funext f; unfold iT; rw [h.1 26 (by decide)]
theorem cg_iA (h : SameD m y) : iA y = iA m := by funext f; unfold iA; rw [h.1 35 (by decide)]
theorem cg_od (h : SameD m y) : od y = od m := by funext f; unfold od; rw [h.1 28 (by decide)]
theorem cg_mn (h : SameD m y) : mn y = mn m := by funext f; unfold mn; rw [h.1 30 (by decide)]
theorem cg_fl (h : SameD m y) : fl y = fl m := by funext s k; unfold fl; rw [h.1 31 (by decide)]
theorem cg_src (h : SameD m y) : src y = src m := by funext f k; unfold src; rw [cg_iT h, cg_od h]
theorem cg_vOr (h : SameD m y) : vOr y = vOr m := by funext f k n; unfold vOr; rw [cg_src h, cg_od h, h.1 27 (by decide)]
theorem cg_tgR (h : SameD m y) : ∀ k f, tgR y f k = tgR m f k
  | 0, _ => rfl
  | k + 1, f => by rw [tgR, tgR, cg_tgR h k f, cg_iT h, h.1 27 (by decide)]
theorem cg_tgs (h : SameD m y) : tgs y = tgs m := by funext f; unfold tgs; rw [cg_tgR h]
theorem cg_rt (h : SameD m y) : rt y = rt m := by funext f; unfold rt; rw [cg_vOr h]
theorem cg_yr (h : SameD m y) : yr y = yr m := by funext f; unfold yr; rw [cg_vOr h]
theorem cg_pref (h : SameD m y) : pref y = pref m := by funext f g; unfold pref; rw [cg_rt h, cg_yr h]
theorem cg_grp (h : SameD m y) : grp y = grp m := by funext f g; unfold grp; rw [cg_iF h, h.1 24 (by decide)]
theorem cg_KP (h : SameD m y) : KP y = KP m := by funext f g; unfold KP; rw [cg_grp h, cg_pref h]
theorem cg_bst (h : SameD m y) : ∀ k s, bst y s k = bst m s k
  | 0, s => by rw [bst, bst, cg_fl h]
  | k + 1, s => by rw [bst, bst, cg_bst h k s, cg_fl h, cg_rt h]
theorem cg_cov (h : SameD m y) : cov y = cov m := by funext s; unfold cov; rw [cg_bst h, cg_mn h, h.1 32 (by decide)]
theorem cg_tbit (h : SameD m y) : tbit y = tbit m := by funext f d; unfold tbit; rw [cg_tgs h]
theorem cg_cnd (h : SameD m y) : cnd y = cnd m := by funext ch n f p; unfold cnd; rw [cg_src h, cg_vOr h, cg_tbit h, h.2, h.1 29 (by decide), cg_cov h, cg_grp h, cg_KP h]
theorem cg_WOrd (h : SameD m y) (w : WOrd m) : WOrd y := fun k hk => by rw [h.1 28 (by decide)]; exact w k hk
theorem cg_WVal (h : SameD m y) (w : WVal m) : WVal y := fun c hc hT => by rw [cg_iT h] at hT; rw [h.1 27 (by decide)]; exact w c hc hT
theorem cg_WStk (h : SameD m y) (w : WStk m) : WStk y := by
  unfold WStk at *
  rw [h.1 29 (by decide), h.1 30 (by decide), h.1 31 (by decide), h.1 32 (by decide), cg_iF h, cg_mn h]
  exact w
end CG
/-- what a rule asks of a file, but for the albums -/
def SameG (m y : Sx) : Prop := ∀ a, 23 ≤ a → a < 33 → gA y a = gA m a
section CE
variable {m y : Sx}
theorem ce_iF (h : SameG m y) : iF y = iF m := by funext f; unfold iF; rw [h 23 (by decide) (by decide)]
theorem ce_iT (h : SameG m y) : iT y = iT m := by funext f; unfold iT; rw [h 26 (by decide) (by decide)]
theorem ce_od (h : SameG m y) : od y = od m := by funext f; unfold od; rw [h 28 (by decide) (by decide)]
theorem ce_mn (h : SameG m y) : mn y = mn m := by funext f; unfold mn; rw [h 30 (by decide) (by decide)]
theorem ce_fl (h : SameG m y) : fl y = fl m := by funext s k; unfold fl; rw [h 31 (by decide) (by decide)]
theorem ce_src (h : SameG m y) : src y = src m := by funext f k; unfold src; rw [ce_iT h, ce_od h]
theorem ce_vOr (h : SameG m y) : vOr y = vOr m := by funext f k n; unfold vOr; rw [ce_src h, ce_od h, h 27 (by decide) (by decide)]
theorem ce_tgR (h : SameG m y) : ∀ k f, tgR y f k = tgR m f k
  | 0, _ => rfl
  | k + 1, f => by rw [tgR, tgR, ce_tgR h k f, ce_iT h, h 27 (by decide) (by decide)]
theorem ce_tgs (h : SameG m y) : tgs y = tgs m := by funext f; unfold tgs; rw [ce_tgR h]
theorem ce_rt (h : SameG m y) : rt y = rt m := by funext f; unfold rt; rw [ce_vOr h]
theorem ce_yr (h : SameG m y) : yr y = yr m := by funext f; unfold yr; rw [ce_vOr h]
theorem ce_pref (h : SameG m y) : pref y = pref m := by funext f g; unfold pref; rw [ce_rt h, ce_yr h]
theorem ce_grp (h : SameG m y) : grp y = grp m := by funext f g; unfold grp; rw [ce_iF h, h 24 (by decide) (by decide)]
theorem ce_KP (h : SameG m y) : KP y = KP m := by funext f g; unfold KP; rw [ce_grp h, ce_pref h]
theorem ce_bst (h : SameG m y) : ∀ k s, bst y s k = bst m s k
  | 0, s => by rw [bst, bst, ce_fl h]
  | k + 1, s => by rw [bst, bst, ce_bst h k s, ce_fl h, ce_rt h]
theorem ce_cov (h : SameG m y) : cov y = cov m := by funext s; unfold cov; rw [ce_bst h, ce_mn h, h 32 (by decide) (by decide)]
theorem ce_tbit (h : SameG m y) : tbit y = tbit m := by funext f d; unfold tbit; rw [ce_tgs h]
theorem ce_cnd (h : SameG m y) {ch : Nat → Nat} {n f p : Nat} (hM : ch p = 97 → gM y 2 (ch (p + 1) - 48) = gM m 2 (ch (p + 1) - 48)) : cnd y ch n f p = cnd m ch n f p := by
  unfold cnd
  rw [ce_src h, ce_vOr h, ce_tbit h, h 29 (by decide) (by decide), ce_cov h, ce_grp h, ce_KP h]
  by_cases q : ch p = 97
  · rw [hM q]
  · rw [if_neg q, if_neg q]
theorem eRun_cong {cn cn' : Nat → Bool} {ch : Nat → Nat} : ∀ {n : Nat}, (∀ p, p < n → cn p = cn' p) → eRun cn ch n = eRun cn' ch n
  | 0, _ => rfl
  | n + 1, h => by
    rw [eRun, eRun, eRun_cong (fun p hp => h p (by omega))]
    unfold eStep
    rw [h n (by omega)]
end CE
def OnE (m m' : Sx) : Prop := (∀ a, a ≠ 42 → a ≠ 43 → a ≠ 44 → gA m' a = gA m a) ∧ (∀ k, k ≠ 54 → gI m' k = gI m k) ∧ gL m' = gL m ∧ gM m' = gM m
theorem OnE.rf (m : Sx) : OnE m m := ⟨fun _ _ _ _ => rfl, fun _ _ => rfl, rfl, rfl⟩
theorem OnE.tr {a b c : Sx} (h : OnE a b) (g : OnE b c) : OnE a c := ⟨fun i h1 h2 h3 => (g.1 i h1 h2 h3).trans (h.1 i h1 h2 h3), fun i hi => (g.2.1 i hi).trans (h.2.1 i hi), g.2.2.1.trans h.2.2.1, g.2.2.2.trans h.2.2.2⟩
theorem OnE.pI {m : Sx} {v : Int32} : OnE m (pI m 54 v) := ⟨fun _ _ _ _ => rfl, fun k hk => by rw [gI_pI, if_neg hk], rfl, rfl⟩
theorem OnE.pA {m : Sx} {a k : Nat} {v : Int32} (h : a = 42 ∨ a = 43 ∨ a = 44) : OnE m (pA m a k v) := ⟨fun i h1 h2 h3 => gA_pA_ne (by omega), fun _ _ => rfl, rfl, rfl⟩
theorem OnE.sd {m y : Sx} (h : OnE m y) : SameD m y := ⟨fun a ha => h.1 a (by omega) (by omega) (by omega), by rw [h.2.2.2]⟩
/-- the reference's rows show what the file answers so far -/
def Me (y : Sx) (E : Es) (o : Nat) : Prop := gI y 54 = nI o ∧ o < 11 ∧ E.1 = o ∧ ∀ l, l ≤ o → gA y 42 l = b2 (E.2.1 l) ∧ gA y 43 l = b2 (E.2.2.1 l) ∧ gA y 44 l = b2 (E.2.2.2 l)
theorem b2_0 (b : Bool) : (b2 b = 0) ↔ b = false := b2_eq0 b
theorem tells_eq {y : Sx} {E : Es} {o : Nat} (h : Me y E o) (b : Bool) : ∃ y', f_X9_tells y (b2 b) = some y' ∧ OnE y y' ∧ Me y' (eTake E b) o := by
  obtain ⟨e1, ho, eL, hl⟩ := h
  obtain ⟨h42, h43, h44⟩ := hl o (Nat.le_refl _)
  have g12 : vp_in (gI y 54) 12 := by rw [e1]; exact vin_nI (by omega) (by decide)
  have ixo : ix (gI y 54) = o := by rw [e1, ix_nI (by omega)]
  have key : ∀ v : Bool, v = (E.2.2.1 o && (b != E.2.2.2 o)) → OnE y (pA (pA y 43 o (b2 v)) 44 o 0) ∧ Me (pA (pA y 43 o (b2 v)) 44 o 0) (eTake E b) o := fun v hv => by
    refine ⟨(OnE.pA (by omega)).tr (OnE.pA (by omega)), e1, ho, eL, fun l hl2 => ?_⟩
    obtain ⟨a1, a2, a3⟩ := hl l hl2
    refine ⟨?_, ?_, ?_⟩
    · rw [gA_pA_ne (by decide), gA_pA_ne (by decide)]; exact a1
    · rw [gA_pA_ne (by decide), gA_pA_at]
      show _ = b2 (upf E.2.2.1 E.1 (E.2.2.1 E.1 && (b != E.2.2.2 E.1)) l)
      unfold upf
      rw [eL]
      by_cases q : l = o
      · rw [if_pos q, if_pos q, hv]
      · rw [if_neg q, if_neg q]; exact a2
    · rw [gA_pA_at]
      show _ = b2 (upf E.2.2.2 E.1 false l)
      unfold upf
      rw [eL]
      by_cases q : l = o
      · rw [if_pos q, if_pos q]; rfl
      · rw [if_neg q, if_neg q, gA_pA_ne (by decide)]; exact a3
  unfold f_X9_tells
  rw [gd_pos g12, gd_pos g12, gd_pos g12, gd_pos g12, ixo, h43, h44]
  cases q1 : E.2.2.1 o with
  | false =>
    rw [bF, bd_eq, gI_pA, gd_pos g12, bd_eq, ixo]
    exact ⟨_, rfl, key false (by rw [q1]; rfl)⟩
  | true =>
    rw [bT]
    by_cases q2 : b2 b = b2 (E.2.2.2 o)
    · rw [if_pos q2, bd_eq, gI_pA, gd_pos g12, bd_eq, ixo]
      exact ⟨_, rfl, key false (by rw [q1, b2_inj.mp q2]; simp)⟩
    · rw [if_neg q2, bd_eq, gI_pA, gd_pos g12, bd_eq, ixo]
      refine ⟨_, rfl, key true ?_⟩
      rw [q1]
      have : b ≠ E.2.2.2 o := fun w => q2 (by rw [w])
      simp [this]
theorem enters_eq {y : Sx} {o : Nat} (e1 : gI y 54 = nI o) (ho : o < 11) : f_X9_enters y = some (pA (pA (pA y 42 o 0) 43 o 1) 44 o 0) := by
  have g12 : vp_in (gI y 54) 12 := by rw [e1]; exact vin_nI (by omega) (by decide)
  have ixo : ix (gI y 54) = o := by rw [e1, ix_nI (by omega)]
  unfold f_X9_enters
  rw [gd_pos g12, bd_eq, gI_pA, gd_pos g12, bd_eq, gI_pA, gI_pA, gd_pos g12, bd_eq, ixo]
/-- the rule that the reference works out -/
def Rx (y : Sx) (ch : Nat → Nat) (n : Nat) : Prop := n ≤ 80 ∧ gI y 55 = nI n ∧ ∀ k, k < n → gA y 45 k = nI (ch k)
theorem Rx.on {m y : Sx} {ch : Nat → Nat} {n : Nat} (h : Rx m ch n) (o : OnE m y) : Rx y ch n := ⟨h.1, by rw [o.2.1 55 (by decide)]; exact h.2.1, fun k hk => by rw [o.1 45 (by decide) (by decide) (by decide)]; exact h.2.2 k hk⟩
theorem L_asks {y : Sx} {ch : Nat → Nat} {n : Nat} (hX : Rx y ch n) (hok : okc ch n) (a b c d e g : Int32) (kont : Int32 → Int32 → Option (Int32 × Sx)) : ∀ (k q v fu : Nat), n - q ≤ k → q ≤ n → k < fu → L_X9_asks_102 y a b c d e g kont fu (nI v) (nI q) = kont (nI (nmb ch n k q v)) (nI (nend ch n k q)) := by
  have hn := hX.1
  intro k
  induction k with
  | zero =>
    intro q v fu hk hq hf
    obtain ⟨fu, rfl⟩ : ∃ r, fu = r + 1 := ⟨fu - 1, by omega⟩
    rw [L_X9_asks_102, hX.2.1, if_pos (nI_le (by omega) (by omega))]
    rfl
  | succ k ih =>
    intro q v fu hk hq hf
    obtain ⟨fu, rfl⟩ : ∃ r, fu = r + 1 := ⟨fu - 1, by omega⟩
    rw [L_X9_asks_102, hX.2.1, nmb, nend]
    by_cases hl : q < n
    · obtain ⟨c1, c2⟩ := hok q hl
      rw [if_neg (by rw [nI_le_iff (by omega) (by omega)]; omega), gd_pos (vin_nI (by omega) (by decide)), gd_pos (vin_nI (by omega) (by decide)), ix_nI (by omega), hX.2.2 q hl, isDigitM_eq y (by omega), Option.bind_some]
      cases hd : dgt (ch q) with
      | false => rw [bF, if_neg (by simp), if_neg (by simp)]
      | true => rw [bT, num_add' hd, nI_lit1, if_pos ⟨hl, rfl⟩, if_pos ⟨hl, rfl⟩, ih (q + 1) _ fu (by omega) (by omega) (by omega)]
    · rw [if_pos (nI_le (by omega) (by omega)), if_neg (fun w => hl w.1), if_neg (fun w => hl w.1)]
/-- what a field's condition is followed by -/
theorem field_tok {ch : Nat → Nat} {n : Nat} (h : Rul ch n) {p o : Nat} (e : rn ch (p + 1) = some (1, o)) (hp : p + 1 ≤ n) : p + 1 < n ∧ ((ch (p + 1) = 63 ∧ rn ch (p + 2) = some (8, o)) ∨ ((ch (p + 1) = 60 ∨ ch (p + 1) = 61 ∨ ch (p + 1) = 62) ∧ p + 2 < n ∧ dgt (ch (p + 2)) = true ∧ (∃ s', rn ch (nend ch n 5 (p + 2)) = some (s', o) ∧ aft s') ∧ nend ch n 5 (p + 2) ≤ n ∧ ¬ (nend ch n 5 (p + 2) < n ∧ dgt (ch (nend ch n 5 (p + 2))) = true))) := by
  have hp1 := rul_at h hp e (by omega)
  obtain ⟨sn, hv, -⟩ := id h.2
  obtain ⟨s1, o1, e1, g1, g2, g3, g4⟩ := rn_at h.1 hv hp1
  rw [e] at e1
  cases e1
  refine ⟨hp1, ?_⟩
  rcases nx1 g3 with ⟨q, w⟩ | ⟨q, w⟩
  · rw [w, if_neg (by omega), if_neg (by omega)] at g4
    have hp2 := rul_at h (show p + 2 ≤ n by omega) g4 (by omega)
    obtain ⟨s2, o2, e2, k1, k2, k3, k4⟩ := rn_at h.1 hv hp2
    rw [g4] at e2
    cases e2
    obtain ⟨hd, h3⟩ := nx2 k3
    have hd2 := dgt_iff.mp hd
    rw [h3, if_neg (by omega), if_neg (by omega)] at k4
    obtain ⟨s', a1, a2, a3, a4⟩ := dend h 4 (p + 3) 3 o k4 (Or.inr ⟨by omega, by omega⟩) (by decide) (by omega)
    have en : nend ch n 5 (p + 2) = nend ch n 4 (p + 3) := by rw [nend, if_pos ⟨hp2, hd⟩]
    rw [en]
    exact Or.inr ⟨q, hp2, hd, ⟨s', a1, a2⟩, a3, a4⟩
  · rw [w, if_neg (by omega), if_neg (by omega)] at g4
    exact Or.inl ⟨q, g4⟩
theorem asks_107 {y : Sx} (hO : WOrd y) (hV : WVal y) {ch : Nat → Nat} {n : Nat} (hX : Rx y ch n) (hR : Rul ch n) {f p o os : Nat} {E : Es} (hf : f < 40) (hM : Me y E o) (hp : p + 1 ≤ n) (e : rn ch (p + 1) = some (1, os)) (hc : ch p = 107) : ∃ y' q, f_X9_asks y (nI f) (nI p) = some (nI q, y') ∧ OnE y y' ∧ Me y' (eTake E (cnd y ch n f p)) o ∧ q = (if ch (p + 1) = 63 then p + 2 else nend ch n 5 (p + 2)) := by
  have hn := hX.1
  obtain ⟨hp1, htok⟩ := field_tok hR e hp
  obtain ⟨c1, c2⟩ := hR.1 (p + 1) hp1
  have es : f_X9_source y (nI f) 0 = match src y f 0 with
    | some j => some (gA y 28 j)
    | none => some (-4) := source_eq hO hf (fld := 0) (by decide)
  have ev : f_X9_valueOr y (nI f) 0 0 = some (vOr y f 0 0) := valueOr_eq hO hf (fld := 0) (by decide) 0
  have ep : gA y 45 p = 107 := by rw [hX.2.2 p (by omega), hc]; rfl
  have e1 : gA y 45 (p + 1) = nI (ch (p + 1)) := hX.2.2 (p + 1) hp1
  have z : ∀ k, k < 2000 → ((nI (ch (p + 1)) = nI k) ↔ ch (p + 1) = k) := fun k hk => nI_eq_iff (by omega) (by omega)
  have z63 : (nI (ch (p + 1)) = 63) ↔ ch (p + 1) = 63 := z 63 (by decide)
  have z60 : (nI (ch (p + 1)) = 60) ↔ ch (p + 1) = 60 := z 60 (by decide)
  have z61 : (nI (ch (p + 1)) = 61) ↔ ch (p + 1) = 61 := z 61 (by decide)
  have nle : ∀ u v : Int32, ¬ u ≤ v ↔ v < u := fun u v => by rw [i_le, i_lt]; omega
  have ec : cnd y ch n f p = ((src y f 0).isSome && cmpv (ch (p + 1)) (vOr y f 0 0) (nmb ch n 5 (p + 2) 0)) := by
    rw [cnd, if_pos (by rw [hc]; rfl), hc]; rfl
  have p2 : nI p + 2 = nI (p + 2) := by rw [show (2 : Int32) = nI 2 from rfl, nI_add]
  have hloop : ∀ (a b c d e g : Int32) (kont : Int32 → Int32 → Option (Int32 × Sx)), ¬ ch (p + 1) = 63 → L_X9_asks_102 y a b c d e g kont FU 0 (nI (p + 2)) = kont (nI (nmb ch n 5 (p + 2) 0)) (nI (nend ch n 5 (p + 2))) := fun a b c d e g kont h63 => by
    rcases htok with ⟨w, -⟩ | ⟨-, hp2, -, -, -, hs⟩
    · exact absurd w h63
    · obtain ⟨s1, s2⟩ := nstop (ch := ch) (n := n) 5 (p + 2) 0 80 hs
      rw [← s1, ← s2, ← nI_0]
      exact L_asks hX hR.1 a b c d e g kont 85 (p + 2) 0 FU (by omega) (by omega) (by rw [FU_eq]; decide)
  rw [ec]
  unfold f_X9_asks
  rw [gd_pos (vin_nI (by omega) (by decide)), ix_nI (by omega), ep, if_pos rfl, es]
  cases hs : src y f 0 with
  | none =>
    dsimp only
    rw [Option.bind_some, if_pos (by decide), nI_lit1, gd_pos (vin_nI (by omega) (by decide)), ix_nI (by omega), e1]
    by_cases q63 : ch (p + 1) = 63
    · obtain ⟨y', a1, a2, a3⟩ := tells_eq hM false
      rw [if_pos (z63.mpr q63), p2, show (0 : Int32) = b2 false from rfl, a1]
      exact ⟨y', p + 2, rfl, a2, a3, by rw [if_pos q63]⟩
    · obtain ⟨y', a1, a2, a3⟩ := tells_eq hM false
      rw [if_neg (fun w => q63 (z63.mp w)), p2, hloop _ _ _ _ _ _ _ q63, ev, Option.bind_some, if_pos rfl]
      rw [show f_X9_tells y 0 = some y' from a1]
      exact ⟨y', _, rfl, a2, a3, by rw [if_neg q63]⟩
  | some j =>
    obtain ⟨-, hj, hT, -⟩ := fst?_some hs
    obtain ⟨ee, ho⟩ := wOrd_at hO (k := j) (by omega)
    dsimp only
    rw [Option.bind_some, ee, if_neg (nI_pos (by omega)), nI_lit1, gd_pos (vin_nI (by omega) (by decide)), ix_nI (by omega), e1]
    by_cases q63 : ch (p + 1) = 63
    · obtain ⟨y', a1, a2, a3⟩ := tells_eq hM true
      rw [if_pos (z63.mpr q63), p2, show f_X9_tells y 1 = some y' from a1]
      refine ⟨y', p + 2, rfl, a2, ?_, by rw [if_pos q63]⟩
      have : cmpv (ch (p + 1)) (vOr y f 0 0) (nmb ch n 5 (p + 2) 0) = true := by unfold cmpv; rw [q63]; rfl
      rw [this]; exact a3
    · rw [if_neg (fun w => q63 (z63.mp w)), p2, hloop _ _ _ _ _ _ _ q63, ev, Option.bind_some, if_neg (by decide)]
      obtain ⟨y', a1, a2, a3⟩ := tells_eq hM (cmpv (ch (p + 1)) (vOr y f 0 0) (nmb ch n 5 (p + 2) 0))
      refine ⟨y', nend ch n 5 (p + 2), ?_, a2, a3, by rw [if_neg q63]⟩
      unfold cmpv at a1
      by_cases q60 : ch (p + 1) = 60
      · rw [if_pos q60] at a1
        rw [if_pos (z60.mpr q60)]
        by_cases w : nI (nmb ch n 5 (p + 2) 0) ≤ vOr y f 0 0
        · rw [decide_eq_false (fun u => (nle _ _).mpr u w)] at a1
          rw [if_pos w, show f_X9_tells y 0 = some y' from a1]; rfl
        · rw [decide_eq_true ((nle _ _).mp w)] at a1
          rw [if_neg w, show f_X9_tells y 1 = some y' from a1]; rfl
      · rw [if_neg q60] at a1
        rw [if_neg (fun w => q60 (z60.mp w))]
        by_cases q61 : ch (p + 1) = 61
        · rw [if_pos q61] at a1
          rw [if_pos (z61.mpr q61)]
          by_cases w : vOr y f 0 0 = nI (nmb ch n 5 (p + 2) 0)
          · rw [decide_eq_true w] at a1
            rw [if_pos w, show f_X9_tells y 1 = some y' from a1]; rfl
          · rw [decide_eq_false w] at a1
            rw [if_neg w, show f_X9_tells y 0 = some y' from a1]; rfl
        · rw [if_neg q61, if_pos (show ch (p + 1) = 62 by omega)] at a1
          rw [if_neg (fun w => q61 (z61.mp w))]
          by_cases w : vOr y f 0 0 ≤ nI (nmb ch n 5 (p + 2) 0)
          · rw [decide_eq_false (fun u => (nle _ _).mpr u w)] at a1
            rw [if_pos w, show f_X9_tells y 0 = some y' from a1]; rfl
          · rw [decide_eq_true ((nle _ _).mp w)] at a1
            rw [if_neg w, show f_X9_tells y 1 = some y' from a1]; rfl
theorem asks_114 {y : Sx} (hO : WOrd y) (hV : WVal y) {ch : Nat → Nat} {n : Nat} (hX : Rx y ch n) (hR : Rul ch n) {f p o os : Nat} {E : Es} (hf : f < 40) (hM : Me y E o) (hp : p + 1 ≤ n) (e : rn ch (p + 1) = some (1, os)) (hc : ch p = 114) : ∃ y' q, f_X9_asks y (nI f) (nI p) = some (nI q, y') ∧ OnE y y' ∧ Me y' (eTake E (cnd y ch n f p)) o ∧ q = (if ch (p + 1) = 63 then p + 2 else nend ch n 5 (p + 2)) := by
  have hn := hX.1
  obtain ⟨hp1, htok⟩ := field_tok hR e hp
  obtain ⟨c1, c2⟩ := hR.1 (p + 1) hp1
  have es : f_X9_source y (nI f) 1 = match src y f 1 with
    | some j => some (gA y 28 j)
    | none => some (-4) := source_eq hO hf (fld := 1) (by decide)
  have ev : f_X9_valueOr y (nI f) 1 0 = some (vOr y f 1 0) := valueOr_eq hO hf (fld := 1) (by decide) 0
  have ep : gA y 45 p = 114 := by rw [hX.2.2 p (by omega), hc]; rfl
  have e1 : gA y 45 (p + 1) = nI (ch (p + 1)) := hX.2.2 (p + 1) hp1
  have z : ∀ k, k < 2000 → ((nI (ch (p + 1)) = nI k) ↔ ch (p + 1) = k) := fun k hk => nI_eq_iff (by omega) (by omega)
  have z63 : (nI (ch (p + 1)) = 63) ↔ ch (p + 1) = 63 := z 63 (by decide)
  have z60 : (nI (ch (p + 1)) = 60) ↔ ch (p + 1) = 60 := z 60 (by decide)
  have z61 : (nI (ch (p + 1)) = 61) ↔ ch (p + 1) = 61 := z 61 (by decide)
  have nle : ∀ u v : Int32, ¬ u ≤ v ↔ v < u := fun u v => by rw [i_le, i_lt]; omega
  have ec : cnd y ch n f p = ((src y f 1).isSome && cmpv (ch (p + 1)) (vOr y f 1 0) (nmb ch n 5 (p + 2) 0)) := by
    rw [cnd, if_pos (by rw [hc]; rfl), hc]; rfl
  have p2 : nI p + 2 = nI (p + 2) := by rw [show (2 : Int32) = nI 2 from rfl, nI_add]
  have hloop : ∀ (a b c d e g : Int32) (kont : Int32 → Int32 → Option (Int32 × Sx)), ¬ ch (p + 1) = 63 → L_X9_asks_102 y a b c d e g kont FU 0 (nI (p + 2)) = kont (nI (nmb ch n 5 (p + 2) 0)) (nI (nend ch n 5 (p + 2))) := fun a b c d e g kont h63 => by
    rcases htok with ⟨w, -⟩ | ⟨-, hp2, -, -, -, hs⟩
    · exact absurd w h63
    · obtain ⟨s1, s2⟩ := nstop (ch := ch) (n := n) 5 (p + 2) 0 80 hs
      rw [← s1, ← s2, ← nI_0]
      exact L_asks hX hR.1 a b c d e g kont 85 (p + 2) 0 FU (by omega) (by omega) (by rw [FU_eq]; decide)
  rw [ec]
  unfold f_X9_asks
  rw [gd_pos (vin_nI (by omega) (by decide)), ix_nI (by omega), ep, if_neg (by decide), if_pos rfl, es]
  cases hs : src y f 1 with
  | none =>
    dsimp only
    rw [Option.bind_some, if_pos (by decide), nI_lit1, gd_pos (vin_nI (by omega) (by decide)), ix_nI (by omega), e1]
    by_cases q63 : ch (p + 1) = 63
    · obtain ⟨y', a1, a2, a3⟩ := tells_eq hM false
      rw [if_pos (z63.mpr q63), p2, show (0 : Int32) = b2 false from rfl, a1]
      exact ⟨y', p + 2, rfl, a2, a3, by rw [if_pos q63]⟩
    · obtain ⟨y', a1, a2, a3⟩ := tells_eq hM false
      rw [if_neg (fun w => q63 (z63.mp w)), p2, hloop _ _ _ _ _ _ _ q63, ev, Option.bind_some, if_pos rfl]
      rw [show f_X9_tells y 0 = some y' from a1]
      exact ⟨y', _, rfl, a2, a3, by rw [if_neg q63]⟩
  | some j =>
    obtain ⟨-, hj, hT, -⟩ := fst?_some hs
    obtain ⟨ee, ho⟩ := wOrd_at hO (k := j) (by omega)
    dsimp only
    rw [Option.bind_some, ee, if_neg (nI_pos (by omega)), nI_lit1, gd_pos (vin_nI (by omega) (by decide)), ix_nI (by omega), e1]
    by_cases q63 : ch (p + 1) = 63
    · obtain ⟨y', a1, a2, a3⟩ := tells_eq hM true
      rw [if_pos (z63.mpr q63), p2, show f_X9_tells y 1 = some y' from a1]
      refine ⟨y', p + 2, rfl, a2, ?_, by rw [if_pos q63]⟩
      have : cmpv (ch (p + 1)) (vOr y f 1 0) (nmb ch n 5 (p + 2) 0) = true := by unfold cmpv; rw [q63]; rfl
      rw [this]; exact a3
    · rw [if_neg (fun w => q63 (z63.mp w)), p2, hloop _ _ _ _ _ _ _ q63, ev, Option.bind_some, if_neg (by decide)]
      obtain ⟨y', a1, a2, a3⟩ := tells_eq hM (cmpv (ch (p + 1)) (vOr y f 1 0) (nmb ch n 5 (p + 2) 0))
      refine ⟨y', nend ch n 5 (p + 2), ?_, a2, a3, by rw [if_neg q63]⟩
      unfold cmpv at a1
      by_cases q60 : ch (p + 1) = 60
      · rw [if_pos q60] at a1
        rw [if_pos (z60.mpr q60)]
        by_cases w : nI (nmb ch n 5 (p + 2) 0) ≤ vOr y f 1 0
        · rw [decide_eq_false (fun u => (nle _ _).mpr u w)] at a1
          rw [if_pos w, show f_X9_tells y 0 = some y' from a1]; rfl
        · rw [decide_eq_true ((nle _ _).mp w)] at a1
          rw [if_neg w, show f_X9_tells y 1 = some y' from a1]; rfl
      · rw [if_neg q60] at a1
        rw [if_neg (fun w => q60 (z60.mp w))]
        by_cases q61 : ch (p + 1) = 61
        · rw [if_pos q61] at a1
          rw [if_pos (z61.mpr q61)]
          by_cases w : vOr y f 1 0 = nI (nmb ch n 5 (p + 2) 0)
          · rw [decide_eq_true w] at a1
            rw [if_pos w, show f_X9_tells y 1 = some y' from a1]; rfl
          · rw [decide_eq_false w] at a1
            rw [if_neg w, show f_X9_tells y 0 = some y' from a1]; rfl
        · rw [if_neg q61, if_pos (show ch (p + 1) = 62 by omega)] at a1
          rw [if_neg (fun w => q61 (z61.mp w))]
          by_cases w : vOr y f 1 0 ≤ nI (nmb ch n 5 (p + 2) 0)
          · rw [decide_eq_false (fun u => (nle _ _).mpr u w)] at a1
            rw [if_pos w, show f_X9_tells y 0 = some y' from a1]; rfl
          · rw [decide_eq_true ((nle _ _).mp w)] at a1
            rw [if_neg w, show f_X9_tells y 1 = some y' from a1]; rfl
theorem asks_121 {y : Sx} (hO : WOrd y) (hV : WVal y) {ch : Nat → Nat} {n : Nat} (hX : Rx y ch n) (hR : Rul ch n) {f p o os : Nat} {E : Es} (hf : f < 40) (hM : Me y E o) (hp : p + 1 ≤ n) (e : rn ch (p + 1) = some (1, os)) (hc : ch p = 121) : ∃ y' q, f_X9_asks y (nI f) (nI p) = some (nI q, y') ∧ OnE y y' ∧ Me y' (eTake E (cnd y ch n f p)) o ∧ q = (if ch (p + 1) = 63 then p + 2 else nend ch n 5 (p + 2)) := by
  have hn := hX.1
  obtain ⟨hp1, htok⟩ := field_tok hR e hp
  obtain ⟨c1, c2⟩ := hR.1 (p + 1) hp1
  have es : f_X9_source y (nI f) 2 = match src y f 2 with
    | some j => some (gA y 28 j)
    | none => some (-4) := source_eq hO hf (fld := 2) (by decide)
  have ev : f_X9_valueOr y (nI f) 2 0 = some (vOr y f 2 0) := valueOr_eq hO hf (fld := 2) (by decide) 0
  have ep : gA y 45 p = 121 := by rw [hX.2.2 p (by omega), hc]; rfl
  have e1 : gA y 45 (p + 1) = nI (ch (p + 1)) := hX.2.2 (p + 1) hp1
  have z : ∀ k, k < 2000 → ((nI (ch (p + 1)) = nI k) ↔ ch (p + 1) = k) := fun k hk => nI_eq_iff (by omega) (by omega)
  have z63 : (nI (ch (p + 1)) = 63) ↔ ch (p + 1) = 63 := z 63 (by decide)
  have z60 : (nI (ch (p + 1)) = 60) ↔ ch (p + 1) = 60 := z 60 (by decide)
  have z61 : (nI (ch (p + 1)) = 61) ↔ ch (p + 1) = 61 := z 61 (by decide)
  have nle : ∀ u v : Int32, ¬ u ≤ v ↔ v < u := fun u v => by rw [i_le, i_lt]; omega
  have ec : cnd y ch n f p = ((src y f 2).isSome && cmpv (ch (p + 1)) (vOr y f 2 0) (nmb ch n 5 (p + 2) 0)) := by
    rw [cnd, if_pos (by rw [hc]; rfl), hc]; rfl
  have p2 : nI p + 2 = nI (p + 2) := by rw [show (2 : Int32) = nI 2 from rfl, nI_add]
  have hloop : ∀ (a b c d e g : Int32) (kont : Int32 → Int32 → Option (Int32 × Sx)), ¬ ch (p + 1) = 63 → L_X9_asks_102 y a b c d e g kont FU 0 (nI (p + 2)) = kont (nI (nmb ch n 5 (p + 2) 0)) (nI (nend ch n 5 (p + 2))) := fun a b c d e g kont h63 => by
    rcases htok with ⟨w, -⟩ | ⟨-, hp2, -, -, -, hs⟩
    · exact absurd w h63
    · obtain ⟨s1, s2⟩ := nstop (ch := ch) (n := n) 5 (p + 2) 0 80 hs
      rw [← s1, ← s2, ← nI_0]
      exact L_asks hX hR.1 a b c d e g kont 85 (p + 2) 0 FU (by omega) (by omega) (by rw [FU_eq]; decide)
  rw [ec]
  unfold f_X9_asks
  rw [gd_pos (vin_nI (by omega) (by decide)), ix_nI (by omega), ep, if_neg (by decide), if_neg (by decide), if_pos rfl, es]
  cases hs : src y f 2 with
  | none =>
    dsimp only
    rw [Option.bind_some, if_pos (by decide), nI_lit1, gd_pos (vin_nI (by omega) (by decide)), ix_nI (by omega), e1]
    by_cases q63 : ch (p + 1) = 63
    · obtain ⟨y', a1, a2, a3⟩ := tells_eq hM false
      rw [if_pos (z63.mpr q63), p2, show (0 : Int32) = b2 false from rfl, a1]
      exact ⟨y', p + 2, rfl, a2, a3, by rw [if_pos q63]⟩
    · obtain ⟨y', a1, a2, a3⟩ := tells_eq hM false
      rw [if_neg (fun w => q63 (z63.mp w)), p2, hloop _ _ _ _ _ _ _ q63, ev, Option.bind_some, if_pos rfl]
      rw [show f_X9_tells y 0 = some y' from a1]
      exact ⟨y', _, rfl, a2, a3, by rw [if_neg q63]⟩
  | some j =>
    obtain ⟨-, hj, hT, -⟩ := fst?_some hs
    obtain ⟨ee, ho⟩ := wOrd_at hO (k := j) (by omega)
    dsimp only
    rw [Option.bind_some, ee, if_neg (nI_pos (by omega)), nI_lit1, gd_pos (vin_nI (by omega) (by decide)), ix_nI (by omega), e1]
    by_cases q63 : ch (p + 1) = 63
    · obtain ⟨y', a1, a2, a3⟩ := tells_eq hM true
      rw [if_pos (z63.mpr q63), p2, show f_X9_tells y 1 = some y' from a1]
      refine ⟨y', p + 2, rfl, a2, ?_, by rw [if_pos q63]⟩
      have : cmpv (ch (p + 1)) (vOr y f 2 0) (nmb ch n 5 (p + 2) 0) = true := by unfold cmpv; rw [q63]; rfl
      rw [this]; exact a3
    · rw [if_neg (fun w => q63 (z63.mp w)), p2, hloop _ _ _ _ _ _ _ q63, ev, Option.bind_some, if_neg (by decide)]
      obtain ⟨y', a1, a2, a3⟩ := tells_eq hM (cmpv (ch (p + 1)) (vOr y f 2 0) (nmb ch n 5 (p + 2) 0))
      refine ⟨y', nend ch n 5 (p + 2), ?_, a2, a3, by rw [if_neg q63]⟩
      unfold cmpv at a1
      by_cases q60 : ch (p + 1) = 60
      · rw [if_pos q60] at a1
        rw [if_pos (z60.mpr q60)]
        by_cases w : nI (nmb ch n 5 (p + 2) 0) ≤ vOr y f 2 0
        · rw [decide_eq_false (fun u => (nle _ _).mpr u w)] at a1
          rw [if_pos w, show f_X9_tells y 0 = some y' from a1]; rfl
        · rw [decide_eq_true ((nle _ _).mp w)] at a1
          rw [if_neg w, show f_X9_tells y 1 = some y' from a1]; rfl
      · rw [if_neg q60] at a1
        rw [if_neg (fun w => q60 (z60.mp w))]
        by_cases q61 : ch (p + 1) = 61
        · rw [if_pos q61] at a1
          rw [if_pos (z61.mpr q61)]
          by_cases w : vOr y f 2 0 = nI (nmb ch n 5 (p + 2) 0)
          · rw [decide_eq_true w] at a1
            rw [if_pos w, show f_X9_tells y 1 = some y' from a1]; rfl
          · rw [decide_eq_false w] at a1
            rw [if_neg w, show f_X9_tells y 0 = some y' from a1]; rfl
        · rw [if_neg q61, if_pos (show ch (p + 1) = 62 by omega)] at a1
          rw [if_neg (fun w => q61 (z61.mp w))]
          by_cases w : vOr y f 2 0 ≤ nI (nmb ch n 5 (p + 2) 0)
          · rw [decide_eq_false (fun u => (nle _ _).mpr u w)] at a1
            rw [if_pos w, show f_X9_tells y 0 = some y' from a1]; rfl
          · rw [decide_eq_true ((nle _ _).mp w)] at a1
            rw [if_neg w, show f_X9_tells y 1 = some y' from a1]; rfl
theorem asks_99 {y : Sx} (hO : WOrd y) (hV : WVal y) {ch : Nat → Nat} {n : Nat} (hX : Rx y ch n) (hR : Rul ch n) {f p o os : Nat} {E : Es} (hf : f < 40) (hM : Me y E o) (hp : p + 1 ≤ n) (e : rn ch (p + 1) = some (1, os)) (hc : ch p = 99) : ∃ y' q, f_X9_asks y (nI f) (nI p) = some (nI q, y') ∧ OnE y y' ∧ Me y' (eTake E (cnd y ch n f p)) o ∧ q = (if ch (p + 1) = 63 then p + 2 else nend ch n 5 (p + 2)) := by
  have hn := hX.1
  obtain ⟨hp1, htok⟩ := field_tok hR e hp
  obtain ⟨c1, c2⟩ := hR.1 (p + 1) hp1
  have es : f_X9_source y (nI f) 3 = match src y f 3 with
    | some j => some (gA y 28 j)
    | none => some (-4) := source_eq hO hf (fld := 3) (by decide)
  have ev : f_X9_valueOr y (nI f) 3 0 = some (vOr y f 3 0) := valueOr_eq hO hf (fld := 3) (by decide) 0
  have ep : gA y 45 p = 99 := by rw [hX.2.2 p (by omega), hc]; rfl
  have e1 : gA y 45 (p + 1) = nI (ch (p + 1)) := hX.2.2 (p + 1) hp1
  have z : ∀ k, k < 2000 → ((nI (ch (p + 1)) = nI k) ↔ ch (p + 1) = k) := fun k hk => nI_eq_iff (by omega) (by omega)
  have z63 : (nI (ch (p + 1)) = 63) ↔ ch (p + 1) = 63 := z 63 (by decide)
  have z60 : (nI (ch (p + 1)) = 60) ↔ ch (p + 1) = 60 := z 60 (by decide)
  have z61 : (nI (ch (p + 1)) = 61) ↔ ch (p + 1) = 61 := z 61 (by decide)
  have nle : ∀ u v : Int32, ¬ u ≤ v ↔ v < u := fun u v => by rw [i_le, i_lt]; omega
  have ec : cnd y ch n f p = ((src y f 3).isSome && cmpv (ch (p + 1)) (vOr y f 3 0) (nmb ch n 5 (p + 2) 0)) := by
    rw [cnd, if_pos (by rw [hc]; rfl), hc]; rfl
  have p2 : nI p + 2 = nI (p + 2) := by rw [show (2 : Int32) = nI 2 from rfl, nI_add]
  have hloop : ∀ (a b c d e g : Int32) (kont : Int32 → Int32 → Option (Int32 × Sx)), ¬ ch (p + 1) = 63 → L_X9_asks_102 y a b c d e g kont FU 0 (nI (p + 2)) = kont (nI (nmb ch n 5 (p + 2) 0)) (nI (nend ch n 5 (p + 2))) := fun a b c d e g kont h63 => by
    rcases htok with ⟨w, -⟩ | ⟨-, hp2, -, -, -, hs⟩
    · exact absurd w h63
    · obtain ⟨s1, s2⟩ := nstop (ch := ch) (n := n) 5 (p + 2) 0 80 hs
      rw [← s1, ← s2, ← nI_0]
      exact L_asks hX hR.1 a b c d e g kont 85 (p + 2) 0 FU (by omega) (by omega) (by rw [FU_eq]; decide)
  rw [ec]
  unfold f_X9_asks
  rw [gd_pos (vin_nI (by omega) (by decide)), ix_nI (by omega), ep, if_neg (by decide), if_neg (by decide), if_neg (by decide), if_pos rfl, es]
  cases hs : src y f 3 with
  | none =>
    dsimp only
    rw [Option.bind_some, if_pos (by decide), nI_lit1, gd_pos (vin_nI (by omega) (by decide)), ix_nI (by omega), e1]
    by_cases q63 : ch (p + 1) = 63
    · obtain ⟨y', a1, a2, a3⟩ := tells_eq hM false
      rw [if_pos (z63.mpr q63), p2, show (0 : Int32) = b2 false from rfl, a1]
      exact ⟨y', p + 2, rfl, a2, a3, by rw [if_pos q63]⟩
    · obtain ⟨y', a1, a2, a3⟩ := tells_eq hM false
      rw [if_neg (fun w => q63 (z63.mp w)), p2, hloop _ _ _ _ _ _ _ q63, ev, Option.bind_some, if_pos rfl]
      rw [show f_X9_tells y 0 = some y' from a1]
      exact ⟨y', _, rfl, a2, a3, by rw [if_neg q63]⟩
  | some j =>
    obtain ⟨-, hj, hT, -⟩ := fst?_some hs
    obtain ⟨ee, ho⟩ := wOrd_at hO (k := j) (by omega)
    dsimp only
    rw [Option.bind_some, ee, if_neg (nI_pos (by omega)), nI_lit1, gd_pos (vin_nI (by omega) (by decide)), ix_nI (by omega), e1]
    by_cases q63 : ch (p + 1) = 63
    · obtain ⟨y', a1, a2, a3⟩ := tells_eq hM true
      rw [if_pos (z63.mpr q63), p2, show f_X9_tells y 1 = some y' from a1]
      refine ⟨y', p + 2, rfl, a2, ?_, by rw [if_pos q63]⟩
      have : cmpv (ch (p + 1)) (vOr y f 3 0) (nmb ch n 5 (p + 2) 0) = true := by unfold cmpv; rw [q63]; rfl
      rw [this]; exact a3
    · rw [if_neg (fun w => q63 (z63.mp w)), p2, hloop _ _ _ _ _ _ _ q63, ev, Option.bind_some, if_neg (by decide)]
      obtain ⟨y', a1, a2, a3⟩ := tells_eq hM (cmpv (ch (p + 1)) (vOr y f 3 0) (nmb ch n 5 (p + 2) 0))
      refine ⟨y', nend ch n 5 (p + 2), ?_, a2, a3, by rw [if_neg q63]⟩
      unfold cmpv at a1
      by_cases q60 : ch (p + 1) = 60
      · rw [if_pos q60] at a1
        rw [if_pos (z60.mpr q60)]
        by_cases w : nI (nmb ch n 5 (p + 2) 0) ≤ vOr y f 3 0
        · rw [decide_eq_false (fun u => (nle _ _).mpr u w)] at a1
          rw [if_pos w, show f_X9_tells y 0 = some y' from a1]; rfl
        · rw [decide_eq_true ((nle _ _).mp w)] at a1
          rw [if_neg w, show f_X9_tells y 1 = some y' from a1]; rfl
      · rw [if_neg q60] at a1
        rw [if_neg (fun w => q60 (z60.mp w))]
        by_cases q61 : ch (p + 1) = 61
        · rw [if_pos q61] at a1
          rw [if_pos (z61.mpr q61)]
          by_cases w : vOr y f 3 0 = nI (nmb ch n 5 (p + 2) 0)
          · rw [decide_eq_true w] at a1
            rw [if_pos w, show f_X9_tells y 1 = some y' from a1]; rfl
          · rw [decide_eq_false w] at a1
            rw [if_neg w, show f_X9_tells y 0 = some y' from a1]; rfl
        · rw [if_neg q61, if_pos (show ch (p + 1) = 62 by omega)] at a1
          rw [if_neg (fun w => q61 (z61.mp w))]
          by_cases w : vOr y f 3 0 ≤ nI (nmb ch n 5 (p + 2) 0)
          · rw [decide_eq_false (fun u => (nle _ _).mpr u w)] at a1
            rw [if_pos w, show f_X9_tells y 0 = some y' from a1]; rfl
          · rw [decide_eq_true ((nle _ _).mp w)] at a1
            rw [if_neg w, show f_X9_tells y 1 = some y' from a1]; rfl
theorem asks_100 {y : Sx} (hO : WOrd y) (hV : WVal y) {ch : Nat → Nat} {n : Nat} (hX : Rx y ch n) (hR : Rul ch n) {f p o os : Nat} {E : Es} (hf : f < 40) (hM : Me y E o) (hp : p + 1 ≤ n) (e : rn ch (p + 1) = some (1, os)) (hc : ch p = 100) : ∃ y' q, f_X9_asks y (nI f) (nI p) = some (nI q, y') ∧ OnE y y' ∧ Me y' (eTake E (cnd y ch n f p)) o ∧ q = (if ch (p + 1) = 63 then p + 2 else nend ch n 5 (p + 2)) := by
  have hn := hX.1
  obtain ⟨hp1, htok⟩ := field_tok hR e hp
  obtain ⟨c1, c2⟩ := hR.1 (p + 1) hp1
  have es : f_X9_source y (nI f) 4 = match src y f 4 with
    | some j => some (gA y 28 j)
    | none => some (-4) := source_eq hO hf (fld := 4) (by decide)
  have ev : f_X9_valueOr y (nI f) 4 0 = some (vOr y f 4 0) := valueOr_eq hO hf (fld := 4) (by decide) 0
  have ep : gA y 45 p = 100 := by rw [hX.2.2 p (by omega), hc]; rfl
  have e1 : gA y 45 (p + 1) = nI (ch (p + 1)) := hX.2.2 (p + 1) hp1
  have z : ∀ k, k < 2000 → ((nI (ch (p + 1)) = nI k) ↔ ch (p + 1) = k) := fun k hk => nI_eq_iff (by omega) (by omega)
  have z63 : (nI (ch (p + 1)) = 63) ↔ ch (p + 1) = 63 := z 63 (by decide)
  have z60 : (nI (ch (p + 1)) = 60) ↔ ch (p + 1) = 60 := z 60 (by decide)
  have z61 : (nI (ch (p + 1)) = 61) ↔ ch (p + 1) = 61 := z 61 (by decide)
  have nle : ∀ u v : Int32, ¬ u ≤ v ↔ v < u := fun u v => by rw [i_le, i_lt]; omega
  have ec : cnd y ch n f p = ((src y f 4).isSome && cmpv (ch (p + 1)) (vOr y f 4 0) (nmb ch n 5 (p + 2) 0)) := by
    rw [cnd, if_pos (by rw [hc]; rfl), hc]; rfl
  have p2 : nI p + 2 = nI (p + 2) := by rw [show (2 : Int32) = nI 2 from rfl, nI_add]
  have hloop : ∀ (a b c d e g : Int32) (kont : Int32 → Int32 → Option (Int32 × Sx)), ¬ ch (p + 1) = 63 → L_X9_asks_102 y a b c d e g kont FU 0 (nI (p + 2)) = kont (nI (nmb ch n 5 (p + 2) 0)) (nI (nend ch n 5 (p + 2))) := fun a b c d e g kont h63 => by
    rcases htok with ⟨w, -⟩ | ⟨-, hp2, -, -, -, hs⟩
    · exact absurd w h63
    · obtain ⟨s1, s2⟩ := nstop (ch := ch) (n := n) 5 (p + 2) 0 80 hs
      rw [← s1, ← s2, ← nI_0]
      exact L_asks hX hR.1 a b c d e g kont 85 (p + 2) 0 FU (by omega) (by omega) (by rw [FU_eq]; decide)
  rw [ec]
  unfold f_X9_asks
  rw [gd_pos (vin_nI (by omega) (by decide)), ix_nI (by omega), ep, if_neg (by decide), if_neg (by decide), if_neg (by decide), if_neg (by decide), es]
  cases hs : src y f 4 with
  | none =>
    dsimp only
    rw [Option.bind_some, if_pos (by decide), nI_lit1, gd_pos (vin_nI (by omega) (by decide)), ix_nI (by omega), e1]
    by_cases q63 : ch (p + 1) = 63
    · obtain ⟨y', a1, a2, a3⟩ := tells_eq hM false
      rw [if_pos (z63.mpr q63), p2, show (0 : Int32) = b2 false from rfl, a1]
      exact ⟨y', p + 2, rfl, a2, a3, by rw [if_pos q63]⟩
    · obtain ⟨y', a1, a2, a3⟩ := tells_eq hM false
      rw [if_neg (fun w => q63 (z63.mp w)), p2, hloop _ _ _ _ _ _ _ q63, ev, Option.bind_some, if_pos rfl]
      rw [show f_X9_tells y 0 = some y' from a1]
      exact ⟨y', _, rfl, a2, a3, by rw [if_neg q63]⟩
  | some j =>
    obtain ⟨-, hj, hT, -⟩ := fst?_some hs
    obtain ⟨ee, ho⟩ := wOrd_at hO (k := j) (by omega)
    dsimp only
    rw [Option.bind_some, ee, if_neg (nI_pos (by omega)), nI_lit1, gd_pos (vin_nI (by omega) (by decide)), ix_nI (by omega), e1]
    by_cases q63 : ch (p + 1) = 63
    · obtain ⟨y', a1, a2, a3⟩ := tells_eq hM true
      rw [if_pos (z63.mpr q63), p2, show f_X9_tells y 1 = some y' from a1]
      refine ⟨y', p + 2, rfl, a2, ?_, by rw [if_pos q63]⟩
      have : cmpv (ch (p + 1)) (vOr y f 4 0) (nmb ch n 5 (p + 2) 0) = true := by unfold cmpv; rw [q63]; rfl
      rw [this]; exact a3
    · rw [if_neg (fun w => q63 (z63.mp w)), p2, hloop _ _ _ _ _ _ _ q63, ev, Option.bind_some, if_neg (by decide)]
      obtain ⟨y', a1, a2, a3⟩ := tells_eq hM (cmpv (ch (p + 1)) (vOr y f 4 0) (nmb ch n 5 (p + 2) 0))
      refine ⟨y', nend ch n 5 (p + 2), ?_, a2, a3, by rw [if_neg q63]⟩
      unfold cmpv at a1
      by_cases q60 : ch (p + 1) = 60
      · rw [if_pos q60] at a1
        rw [if_pos (z60.mpr q60)]
        by_cases w : nI (nmb ch n 5 (p + 2) 0) ≤ vOr y f 4 0
        · rw [decide_eq_false (fun u => (nle _ _).mpr u w)] at a1
          rw [if_pos w, show f_X9_tells y 0 = some y' from a1]; rfl
        · rw [decide_eq_true ((nle _ _).mp w)] at a1
          rw [if_neg w, show f_X9_tells y 1 = some y' from a1]; rfl
      · rw [if_neg q60] at a1
        rw [if_neg (fun w => q60 (z60.mp w))]
        by_cases q61 : ch (p + 1) = 61
        · rw [if_pos q61] at a1
          rw [if_pos (z61.mpr q61)]
          by_cases w : vOr y f 4 0 = nI (nmb ch n 5 (p + 2) 0)
          · rw [decide_eq_true w] at a1
            rw [if_pos w, show f_X9_tells y 1 = some y' from a1]; rfl
          · rw [decide_eq_false w] at a1
            rw [if_neg w, show f_X9_tells y 0 = some y' from a1]; rfl
        · rw [if_neg q61, if_pos (show ch (p + 1) = 62 by omega)] at a1
          rw [if_neg (fun w => q61 (z61.mp w))]
          by_cases w : vOr y f 4 0 ≤ nI (nmb ch n 5 (p + 2) 0)
          · rw [decide_eq_false (fun u => (nle _ _).mpr u w)] at a1
            rw [if_pos w, show f_X9_tells y 0 = some y' from a1]; rfl
          · rw [decide_eq_true ((nle _ _).mp w)] at a1
            rw [if_neg w, show f_X9_tells y 1 = some y' from a1]; rfl
