theorem closeGap_eq {c : Sx} {s n k0 f : Nat} (hs : s < 10) (hn : n ≤ 8) (e15 : gA c 15 s = nI n) (hk0 : k0 < n) (hu : ∀ k, k < n → (gA c 14 (8 * s + k) = nI f ↔ k = k0)) : ∃ c1, f_X6_closeGap c (nI s) (nI f) = some c1 ∧ (∀ a, a ≠ 14 → a ≠ 15 → gA c1 a = gA c a) ∧ gI c1 = gI c ∧ gL c1 = gL c ∧ gM c1 = gM c ∧ (∀ i, gA c1 15 i = if i = s then nI (n - 1) else gA c 15 i) ∧ ∀ i, gA c1 14 i = if 8 * s + k0 ≤ i ∧ i + 1 < 8 * s + n then gA c 14 (i + 1) else gA c 14 i := by
  unfold f_X6_closeGap
  have g : vp_in (nI s) 10 := vin_nI hs (by decide)
  obtain ⟨y, ⟨h1, h2, h3⟩, e⟩ := loop0 (L := fun i x (σ : Int32 × Sx) => L_X6_closeGap_5 (nI s) (nI f) (fun z4 z5 t6 => gd (vp_in (nI s) 10) (bd (pA t6 15 (ix (nI s)) z4) fun t7 => some t7)) i σ.1 x σ.2) (E := fun σ => some (pA σ.2 15 s σ.1)) (N := n) (by omega) (y := ((0 : Int32), c))
    (fun k σ => σ.1 = nI (if k ≤ k0 then k else k - 1) ∧ OnA 14 c σ.2 ∧ ∀ i, gA σ.2 14 i = if 8 * s + k0 ≤ i ∧ i + 1 < 8 * s + k then gA c 14 (i + 1) else gA c 14 i)
    (fun i σ h => by
      show L_X6_closeGap_5 _ _ _ _ _ _ _ = _
      rw [L_X6_closeGap_5, gd_pos g, ix_nI (by omega), h.2.1.1 15 (by decide), e15, if_pos (nI_le (Nat.le_refl _) (by omega)), gd_pos g, bd_eq])
    (fun k σ hk h => by
      obtain ⟨h1, h2, h3⟩ := h
      have ev : gA σ.2 14 (8 * s + k) = gA c 14 (8 * s + k) := by rw [h3, if_neg (by omega)]
      have step : ∀ i, L_X6_closeGap_5 (nI s) (nI f) (fun z4 z5 t6 => gd (vp_in (nI s) 10) (bd (pA t6 15 (ix (nI s)) z4) fun t7 => some t7)) (i + 1) σ.1 (nI k) σ.2 = if gA c 14 (8 * s + k) = nI f then L_X6_closeGap_5 (nI s) (nI f) (fun z4 z5 t6 => gd (vp_in (nI s) 10) (bd (pA t6 15 (ix (nI s)) z4) fun t7 => some t7)) i σ.1 (nI (k + 1)) σ.2 else L_X6_closeGap_5 (nI s) (nI f) (fun z4 z5 t6 => gd (vp_in (nI s) 10) (bd (pA t6 15 (ix (nI s)) z4) fun t7 => some t7)) i (nI ((if k ≤ k0 then k else k - 1) + 1)) (nI (k + 1)) (pA σ.2 14 (8 * s + (if k ≤ k0 then k else k - 1)) (gA c 14 (8 * s + k))) := fun i => by
        have hb : (if k ≤ k0 then k else k - 1) ≤ k := by split <;> omega
        rw [L_X6_closeGap_5, gd_pos g, ix_nI (n := s) (by omega), h2.1 15 (by decide), e15, if_neg (by rw [nI_le_iff (by omega) (by omega)]; omega), spot_eq, Option.bind_some, gd_pos (vin_nI (by omega) (by decide)), ix_nI (by omega), ev, nI_lit1, h1, spot_eq, Option.bind_some, gd_pos (vin_nI (by omega) (by decide)), ix_nI (by omega), bd_eq, nI_lit1]
      by_cases q : k = k0
      · refine ⟨σ, ⟨?_, h2, fun i => ?_⟩, fun i => ?_⟩
        · rw [h1, if_pos (by omega), if_neg (by omega)]; rfl
        · rw [h3 i, if_neg (by omega), if_neg (by omega)]
        · show L_X6_closeGap_5 _ _ _ _ _ _ _ = L_X6_closeGap_5 _ _ _ _ _ _ _
          rw [step, if_pos ((hu k hk).mpr q)]
      · refine ⟨(nI ((if k ≤ k0 then k else k - 1) + 1), pA σ.2 14 (8 * s + (if k ≤ k0 then k else k - 1)) (gA c 14 (8 * s + k))), ⟨?_, h2.pA _ _, fun i => ?_⟩, fun i => ?_⟩
        · dsimp only; congr 1; split <;> split <;> omega
        · dsimp only
          rw [gA_pA_at, h3 i]
          by_cases w : k ≤ k0
          · rw [if_pos w]
            by_cases z : i = 8 * s + k
            · rw [if_pos z, if_neg (by omega), z]
            · rw [if_neg z, if_neg (by omega), if_neg (by omega)]
          · rw [if_neg w]
            by_cases z : i = 8 * s + (k - 1)
            · rw [if_pos z, if_pos (by omega), z]; congr 1; omega
            · rw [if_neg z]
              by_cases u : 8 * s + k0 ≤ i ∧ i + 1 < 8 * s + k
              · rw [if_pos u, if_pos (by omega)]
              · rw [if_neg u, if_neg (by omega)]
        · show L_X6_closeGap_5 _ _ _ _ _ _ _ = L_X6_closeGap_5 _ _ _ _ _ _ _
          rw [step, if_neg (fun w => q ((hu k hk).mp w))])
    ⟨by rw [if_pos (by omega)]; rfl, OnA.rf _ _, fun i => by rw [if_neg (by omega)]⟩
  refine ⟨_, e, fun a q1 q2 => ?_, ?_, ?_, ?_, fun i => ?_, fun i => ?_⟩
  · rw [gA_pA_ne q2, h2.1 a q1]
  · show gI y.2 = _; rw [h2.2.1]
  · show gL y.2 = _; rw [h2.2.2.1]
  · show gM y.2 = _; rw [h2.2.2.2]
  · rw [gA_pA_at, h1, if_neg (show ¬ n ≤ k0 by omega), h2.1 15 (by decide)]
  · rw [gA_pA_ne (by decide), h3]
theorem leave_eq (c : Sx) {f : Nat} (hf : f < 40) : f_X6_leave c (nI f) = some (pL (pA c 18 f (-1)) 11 (gL c 11 &&& (shlL 1 (nI f) ^^^ -1))) := by
  unfold f_X6_leave f_X8_only
  rw [gd_pos (vin_nI hf (by decide)), ix_nI (by omega)]
  simp only [bd_eq, Option.bind_some, gL_pA]
theorem hb_cut (x : Int64) {f k : Nat} (hf : f < 64) (hk : k < 64) : hb (x &&& (shlL 1 (nI f) ^^^ -1)) k = (hb x k && !decide (k = f)) := by rw [hb_and, hb_not _ hk, hb_only hf hk]
/-- what release leaves as it was -/
def FrL (c c1 : Sx) : Prop := gI c1 = gI c ∧ gM c1 = gM c ∧ (∀ k, k ≠ 11 → gL c1 k = gL c k) ∧ ∀ a, a ≠ 14 → a ≠ 15 → a ≠ 16 → a ≠ 18 → gA c1 a = gA c a
theorem release_eq {c m : Sx} (h : WStk m) (r : RStk c m) {f s k0 : Nat} (hf : f < 40) (hs : s < 10) (hfs : gA m 29 f = nI s) (hk : k0 < mn m s) (e : fl m s k0 = f) : ∃ c1, f_X6_release c (nI f) = some c1 ∧ FrL c c1 ∧ Lv (gA c 18) (gA c 15) (gA c 14) (gA c 16) (gA c1 18) (gA c1 15) (gA c1 14) (gA c1 16) f s k0 (mn m s) (fl m s (if k0 = 0 then 1 else 0)) ∧ ∀ k, k < 64 → hb (gL c1 11) k = (hb (gL c 11) k && !decide (k = f ∨ (mn m s = 2 ∧ k = fl m s (if k0 = 0 then 1 else 0)))) := by
  obtain ⟨en, h8, n1⟩ := wStk_mn h hs
  have gf : vp_in (nI f) 40 := vin_nI hf (by decide)
  have gs : vp_in (nI s) 10 := vin_nI hs (by decide)
  have xs : ix (nI s) = s := ix_nI (by omega)
  have e15 : gA c 15 s = nI (mn m s) := by rw [r.2.1 s hs, en]
  have e14 : ∀ k, k < mn m s → gA c 14 (8 * s + k) = nI (fl m s k) := fun k hk' => by rw [r.2.2.1 s hs k hk']; exact (wStk_fl h hs hk').1
  obtain ⟨c1, p1, oA, oI, oL, oM, o15, o14⟩ := closeGap_eq (f := f) hs h8 e15 hk (fun k hk' => by
    rw [e14 k hk', nI_eq_iff (by have := (wStk_fl h hs hk').2.1; omega) (by omega)]
    exact ⟨fun w => wStk_fl_inj h hs hk' hk (by rw [w, e]), fun w => by rw [w, e]⟩)
  unfold f_X6_release
  rw [gd_pos gf, ix_nI (n := f) (by omega), r.1 f hf, hfs, if_neg (nI_ne_m1 (by omega)), p1, Option.bind_some, leave_eq c1 hf, Option.bind_some, gd_pos gs, xs]
  have b11 : ∀ k, k < 64 → hb (gL (pL (pA c1 18 f (-1)) 11 (gL c1 11 &&& (shlL 1 (nI f) ^^^ -1))) 11) k = (hb (gL c 11) k && !decide (k = f)) := fun k hk' => by
    rw [gL_pL, if_pos rfl, hb_cut _ (by omega) hk', oL]
  -- the rest, for the state behind the choice
  have fin : ∀ t : Sx, (gA t 16 = gA c 16 ∨ (gA c 16 s = nI f ∧ ∀ i, gA t 16 i = if i = s then -1 else gA c 16 i)) → (gA c 16 s = nI f → gA t 16 s = -1) → (∀ a, a ≠ 16 → gA t a = gA (pL (pA c1 18 f (-1)) 11 (gL c1 11 &&& (shlL 1 (nI f) ^^^ -1))) a) → gI t = gI c → gM t = gM c → gL t = gL (pL (pA c1 18 f (-1)) 11 (gL c1 11 &&& (shlL 1 (nI f) ^^^ -1))) → ∃ c2, (if gA t 15 s = 1 then (f_X6_spot t (nI s) 0).bind fun r7 => gd (vp_in r7 80) ((f_X6_leave t (gA t 14 (ix r7))).bind fun r8 => gd (vp_in (nI s) 10) (bd (pA r8 15 s 0) fun t9 => some t9)) else some t) = some c2 ∧ FrL c c2 ∧ Lv (gA c 18) (gA c 15) (gA c 14) (gA c 16) (gA c2 18) (gA c2 15) (gA c2 14) (gA c2 16) f s k0 (mn m s) (fl m s (if k0 = 0 then 1 else 0)) ∧ ∀ k, k < 64 → hb (gL c2 11) k = (hb (gL c 11) k && !decide (k = f ∨ (mn m s = 2 ∧ k = fl m s (if k0 = 0 then 1 else 0)))) := by
    intro t t16 t16s tA tI tM tL
    have t15 : ∀ i, gA t 15 i = if i = s then nI (mn m s - 1) else gA c 15 i := fun i => by rw [tA 15 (by decide), gA_pL, gA_pA_ne (by decide), o15]
    have t14 : ∀ i, gA t 14 i = if 8 * s + k0 ≤ i ∧ i + 1 < 8 * s + mn m s then gA c 14 (i + 1) else gA c 14 i := fun i => by rw [tA 14 (by decide), gA_pL, gA_pA_ne (by decide), o14]
    have t18 : ∀ i, gA t 18 i = if i = f then -1 else gA c 18 i := fun i => by rw [tA 18 (by decide), gA_pL, gA_pA_at, oA 18 (by decide) (by decide)]
    have tO : ∀ a, a ≠ 14 → a ≠ 15 → a ≠ 16 → a ≠ 18 → gA t a = gA c a := fun a q1 q2 q3 q4 => by rw [tA a q3, gA_pL, gA_pA_ne q4, oA a q1 q2]
    have c16 : ∀ i, gA t 16 i = if i = s ∧ gA c 16 s = nI f then -1 else gA c 16 i := fun i => by
      rcases t16 with w | ⟨w, w2⟩
      · by_cases z : i = s ∧ gA c 16 s = nI f
        · rw [if_pos z, z.1, t16s z.2]
        · rw [if_neg z, w]
      · rw [w2]
        by_cases z : i = s
        · rw [if_pos z, if_pos ⟨z, w⟩]
        · rw [if_neg z, if_neg (fun u => z u.1)]
    have tl : ∀ k, k ≠ 11 → gL t k = gL c k := fun k hk' => by rw [tL, gL_pL, if_neg hk', gL_pA, oL]
    rw [t15, if_pos rfl]
    by_cases n2 : mn m s = 2
    · have hg := wStk_fl h hs (k := if k0 = 0 then 1 else 0) (by split <;> omega)
      have e8 : gA t 14 (8 * s) = nI (fl m s (if k0 = 0 then 1 else 0)) := by
        rw [t14]
        by_cases z : k0 = 0
        · rw [if_pos (by omega), if_pos z]; exact e14 1 (by omega)
        · rw [if_neg (by omega), if_neg z]; exact e14 0 (by omega)
      rw [if_pos (by rw [n2]; rfl), show (0 : Int32) = nI 0 from rfl, spot_eq, Option.bind_some, gd_pos (vin_nI (by omega) (by decide)), ix_nI (by omega), Nat.add_zero, e8, leave_eq t hg.2.1, Option.bind_some, gd_pos gs]
      simp only [bd_eq]
      refine ⟨_, rfl, ⟨?_, ?_, fun k hk' => ?_, fun a q1 q2 q3 q4 => ?_⟩, ⟨fun i => ?_, fun i => ?_, fun i => ?_, fun i => ?_⟩, fun k hk' => ?_⟩
      · show gI t = _; exact tI
      · show gM t = _; exact tM
      · rw [gL_pA, gL_pL, if_neg hk', gL_pA, tl k hk']
      · rw [gA_pA_ne q2, gA_pL, gA_pA_ne q4, tO a q1 q2 q3 q4]
      · rw [gA_pA_ne (by decide), gA_pL, gA_pA_at, t18]
        by_cases z : i = fl m s (if k0 = 0 then 1 else 0)
        · rw [if_pos z, if_pos (Or.inr ⟨n2, z⟩)]
        · rw [if_neg z]
          by_cases z2 : i = f
          · rw [if_pos z2, if_pos (Or.inl z2)]
          · rw [if_neg z2, if_neg (fun w => w.elim z2 (fun u => z u.2))]
      · rw [gA_pA_at, gA_pL, gA_pA_ne (by decide), t15]
        by_cases z : i = s
        · rw [if_pos z, if_pos z, if_pos n2]; rfl
        · rw [if_neg z, if_neg z, if_neg z]
      · rw [gA_pA_ne (by decide), gA_pL, gA_pA_ne (by decide), t14]
      · rw [gA_pA_ne (by decide), gA_pL, gA_pA_ne (by decide), c16]
      · rw [gL_pA, gL_pL, if_pos rfl, hb_cut _ (by omega) hk', tL, b11 k hk', Bool.and_assoc]
        congr 1
        by_cases z : k = fl m s (if k0 = 0 then 1 else 0)
        · rw [decide_eq_true z, decide_eq_true (p := k = f ∨ _) (Or.inr ⟨n2, z⟩)]; simp
        · by_cases z2 : k = f
          · rw [decide_eq_true z2, decide_eq_true (p := k = f ∨ _) (Or.inl z2)]; simp
          · rw [decide_eq_false z, decide_eq_false z2, decide_eq_false (p := k = f ∨ _) (fun w => w.elim z2 (fun u => z u.2))]; rfl
    · rw [if_neg (by rw [show (1 : Int32) = nI 1 from rfl, nI_eq_iff (by omega) (by omega)]; omega)]
      refine ⟨t, rfl, ⟨tI, tM, tl, tO⟩, ⟨fun i => ?_, fun i => ?_, t14, c16⟩, fun k hk' => ?_⟩
      · rw [t18]
        by_cases z2 : i = f
        · rw [if_pos z2, if_pos (Or.inl z2)]
        · rw [if_neg z2, if_neg (fun w => w.elim z2 (fun u => n2 u.1))]
      · rw [t15]
        by_cases z : i = s
        · rw [if_pos z, if_pos z, if_neg n2]
        · rw [if_neg z, if_neg z]
      · rw [tL, b11 k hk']
        congr 2
        exact decide_eq_decide.mpr ⟨fun u => Or.inl u, fun u => u.elim id (fun v => absurd v.1 n2)⟩
  have e16 : gA (pL (pA c1 18 f (-1)) 11 (gL c1 11 &&& (shlL 1 (nI f) ^^^ -1))) 16 = gA c 16 := by rw [gA_pL, gA_pA_ne (by decide), oA 16 (by decide) (by decide)]
  rw [e16]
  by_cases ch : gA c 16 s = nI f
  · rw [if_pos ch, gd_pos gs]
    simp only [bd_eq]
    rw [gd_pos gs]
    exact fin (pA (pL (pA c1 18 f (-1)) 11 (gL c1 11 &&& (shlL 1 (nI f) ^^^ -1))) 16 s (-1)) (Or.inr ⟨ch, fun i => by rw [gA_pA_at, e16]⟩) (fun _ => by rw [gA_pA_at, if_pos rfl]) (fun a ha => gA_pA_ne ha) (by show gI c1 = _; exact oI) (by show gM c1 = _; exact oM) rfl
  · rw [if_neg ch, gd_pos gs]
    exact fin (pL (pA c1 18 f (-1)) 11 (gL c1 11 &&& (shlL 1 (nI f) ^^^ -1))) (Or.inl e16) (fun w => absurd w ch) (fun a ha => rfl) (by show gI c1 = _; exact oI) (by show gM c1 = _; exact oM) rfl
