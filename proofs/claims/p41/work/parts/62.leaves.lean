theorem nI_subOne {k : Nat} (h : 0 < k) : nI k - 1 = nI (k - 1) := by rw [Int32.sub_eq_add_neg]; exact nI_sub1 h
def FrLm (m m1 : Sx) : Prop := gI m1 = gI m ∧ gM m1 = gM m ∧ gL m1 = gL m ∧ ∀ a, a ≠ 29 → a ≠ 30 → a ≠ 31 → a ≠ 32 → gA m1 a = gA m a
theorem leaves_eq {m : Sx} (h : WStk m) {f s k0 : Nat} (hf : f < 40) (hs : s < 10) (hfs : gA m 29 f = nI s) (hk : k0 < mn m s) (e : fl m s k0 = f) : ∃ m1, f_X9_leaves m (nI f) = some m1 ∧ FrLm m m1 ∧ Lv (gA m 29) (gA m 30) (gA m 31) (gA m 32) (gA m1 29) (gA m1 30) (gA m1 31) (gA m1 32) f s k0 (mn m s) (fl m s (if k0 = 0 then 1 else 0)) := by
  obtain ⟨en, h8, n1⟩ := wStk_mn h hs
  have gf : vp_in (nI f) 40 := vin_nI hf (by decide)
  have gs : vp_in (nI s) 10 := vin_nI hs (by decide)
  have xs : ix (nI s) = s := ix_nI (by omega)
  have xf : ix (nI f) = f := ix_nI (by omega)
  have e31 : ∀ k, k < mn m s → gA m 31 (8 * s + k) = nI (fl m s k) := fun k hk' => (wStk_fl h hs hk').1
  unfold f_X9_leaves
  rw [gd_pos gf, xf, hfs, if_pos (nI_pos' (by omega)), xs]
  -- the place
  have find : ∀ kont : Int32 → Option Sx, L_X9_leaves_14 m (nI f) (nI s) kont FU 0 = kont (nI k0) := fun kont => by
    obtain ⟨_, -, r⟩ := loop0G (L := fun n i (_ : Unit) => L_X9_leaves_14 m (nI f) (nI s) kont n i) (E := fun _ => kont (nI k0)) (N := k0) (by omega) (y := ()) (fun _ _ => True)
      (fun n _ _ => by
        show L_X9_leaves_14 _ _ _ _ _ _ = _
        rw [L_X9_leaves_14, i8, gd_pos (vin_nI (by omega) (by decide)), ix_nI (by omega), e31 k0 hk, e, if_pos rfl])
      (fun k _ hk' _ => ⟨(), trivial, fun n => by
        show L_X9_leaves_14 _ _ _ _ _ _ = _
        rw [L_X9_leaves_14, i8, gd_pos (vin_nI (by omega) (by decide)), ix_nI (by omega), e31 k (by omega), if_neg (by
          rw [nI_eq_iff (by have := (wStk_fl h hs (k := k) (by omega)).2.1; omega) (by omega), ← e]
          intro w; have := wStk_fl_inj h hs (by omega) hk w; omega), nI_lit1]⟩) trivial
    exact r
  rw [find, nI_lit1]
  -- the shift
  have shift : ∀ kont : Int32 → Sx → Option Sx, ∃ y, L_X9_leaves_40 (nI f) (nI s) (nI k0) kont FU (nI (k0 + 1)) m = kont (nI (mn m s)) y ∧ OnA 31 m y ∧ ∀ i, gA y 31 i = if 8 * s + k0 ≤ i ∧ i + 1 < 8 * s + mn m s then gA m 31 (i + 1) else gA m 31 i := fun kont => by
    obtain ⟨y, ⟨-, h1, h2⟩, r⟩ := loopUp (L := fun n i y => L_X9_leaves_40 (nI f) (nI s) (nI k0) kont n i y) (E := fun y => kont (nI (mn m s)) y) (N := mn m s)
      (fun k y => k0 + 1 ≤ k ∧ OnA 31 m y ∧ ∀ i, gA y 31 i = if 8 * s + k0 ≤ i ∧ i + 1 < 8 * s + k then gA m 31 (i + 1) else gA m 31 i)
      (fun n y hI => by
        show L_X9_leaves_40 _ _ _ _ _ _ _ = _
        rw [L_X9_leaves_40, gd_pos gs, xs, hI.2.1.1 30 (by decide), en, if_pos (nI_le (Nat.le_refl _) (by omega))])
      (fun k y hk' hI => by
        obtain ⟨q, h1, h2⟩ := hI
        have ev : gA y 31 (8 * s + k) = gA m 31 (8 * s + k) := by rw [h2, if_neg (by omega)]
        refine ⟨pA y 31 (8 * s + k - 1) (gA m 31 (8 * s + k)), ⟨by omega, h1.pA _ _, fun i => ?_⟩, fun n => ?_⟩
        · rw [gA_pA_at, h2]
          by_cases z : i = 8 * s + k - 1
          · rw [if_pos z, if_pos (by omega)]; congr 1; omega
          · rw [if_neg z]
            by_cases u : 8 * s + k0 ≤ i ∧ i + 1 < 8 * s + k
            · rw [if_pos u, if_pos (by omega)]
            · rw [if_neg u, if_neg (by omega)]
        · show L_X9_leaves_40 _ _ _ _ _ _ _ = _
          rw [L_X9_leaves_40, gd_pos gs, xs, h1.1 30 (by decide), en, if_neg (by rw [nI_le_iff (by omega) (by omega)]; omega), i8, nI_subOne (by omega), gd_pos (vin_nI (by omega) (by decide)), gd_pos (vin_nI (by omega) (by decide)), ix_nI (by omega), ix_nI (by omega), ev, bd_eq, nI_lit1])
      (mn m s - (k0 + 1)) (k0 + 1) FU m (by omega) (by rw [FU_eq]; omega) ⟨Nat.le_refl _, OnA.rf _ _, fun i => by rw [if_neg (by omega)]⟩
    exact ⟨y, r, h1, h2⟩
  obtain ⟨y, r, h1, h2⟩ := shift _
  rw [r]
  have y30 : gA y 30 s = nI (mn m s) := by rw [h1.1 30 (by decide), en]
  simp only [gd_pos gs, gd_pos gf, bd_eq, y30, nI_subOne (show 0 < mn m s by omega)]
  -- the choice
  have t29 : ∀ i, gA (pA (pA y 30 s (nI (mn m s - 1))) 29 f (-1)) 29 i = if i = f then -1 else gA m 29 i := fun i => by rw [gA_pA_at, gA_pA_ne (by decide), h1.1 29 (by decide)]
  have e32 : gA (pA (pA y 30 s (nI (mn m s - 1))) 29 f (-1)) 32 = gA m 32 := by rw [gA_pA_ne (by decide), gA_pA_ne (by decide), h1.1 32 (by decide)]
  have fin : ∀ t : Sx, (∀ i, gA t 32 i = if i = s ∧ gA m 32 s = nI f then -1 else gA m 32 i) → (∀ a, a ≠ 32 → gA t a = gA (pA (pA y 30 s (nI (mn m s - 1))) 29 f (-1)) a) → gI t = gI m → gM t = gM m → gL t = gL m → ∃ m1, (if gA t 30 s = 1 then gd (vp_in (8 * nI s) 80) (gd (vp_in (gA t 31 (ix (8 * nI s))) 40) (some (pA (pA t 29 (ix (gA t 31 (ix (8 * nI s)))) (-1)) 30 s 0))) else some t) = some m1 ∧ FrLm m m1 ∧ Lv (gA m 29) (gA m 30) (gA m 31) (gA m 32) (gA m1 29) (gA m1 30) (gA m1 31) (gA m1 32) f s k0 (mn m s) (fl m s (if k0 = 0 then 1 else 0)) := by
    intro t t32 tA tI tM tL
    have t30 : ∀ i, gA t 30 i = if i = s then nI (mn m s - 1) else gA m 30 i := fun i => by rw [tA 30 (by decide), gA_pA_ne (by decide), gA_pA_at, h1.1 30 (by decide)]
    have t31 : ∀ i, gA t 31 i = if 8 * s + k0 ≤ i ∧ i + 1 < 8 * s + mn m s then gA m 31 (i + 1) else gA m 31 i := fun i => by rw [tA 31 (by decide), gA_pA_ne (by decide), gA_pA_ne (by decide), h2]
    have t29' : ∀ i, gA t 29 i = if i = f then -1 else gA m 29 i := fun i => by rw [tA 29 (by decide), t29]
    have tO : ∀ a, a ≠ 29 → a ≠ 30 → a ≠ 31 → a ≠ 32 → gA t a = gA m a := fun a q1 q2 q3 q4 => by rw [tA a q4, gA_pA_ne q1, gA_pA_ne q2, h1.1 a q3]
    rw [t30, if_pos rfl]
    by_cases n2 : mn m s = 2
    · have hg := wStk_fl h hs (k := if k0 = 0 then 1 else 0) (by split <;> omega)
      have e8 : gA t 31 (8 * s) = nI (fl m s (if k0 = 0 then 1 else 0)) := by
        rw [t31]
        by_cases z : k0 = 0
        · rw [if_pos (by omega), if_pos z]; exact e31 1 (by omega)
        · rw [if_neg (by omega), if_neg z]; exact e31 0 (by omega)
      rw [if_pos (by rw [n2]; rfl), i80, gd_pos (vin_nI (by omega) (by decide)), ix_nI (n := 8 * s) (by omega), e8, gd_pos (vin_nI hg.2.1 (by decide)), ix_nI (by omega)]
      refine ⟨_, rfl, ⟨?_, ?_, ?_, fun a q1 q2 q3 q4 => ?_⟩, fun i => ?_, fun i => ?_, fun i => ?_, fun i => ?_⟩
      · exact tI
      · exact tM
      · exact tL
      · rw [gA_pA_ne q2, gA_pA_ne q1, tO a q1 q2 q3 q4]
      · rw [gA_pA_ne (by decide), gA_pA_at, t29']
        by_cases z : i = fl m s (if k0 = 0 then 1 else 0)
        · rw [if_pos z, if_pos (Or.inr ⟨n2, z⟩)]
        · rw [if_neg z]
          by_cases z2 : i = f
          · rw [if_pos z2, if_pos (Or.inl z2)]
          · rw [if_neg z2, if_neg (fun w => w.elim z2 (fun u => z u.2))]
      · rw [gA_pA_at, gA_pA_ne (by decide), t30]
        by_cases z : i = s
        · rw [if_pos z, if_pos z, if_pos n2]
        · rw [if_neg z, if_neg z, if_neg z]
      · rw [gA_pA_ne (by decide), gA_pA_ne (by decide), t31]
      · rw [gA_pA_ne (by decide), gA_pA_ne (by decide), t32]
    · rw [if_neg (by rw [show (1 : Int32) = nI 1 from rfl, nI_eq_iff (by omega) (by omega)]; omega)]
      refine ⟨t, rfl, ⟨tI, tM, tL, tO⟩, fun i => ?_, fun i => ?_, t31, t32⟩
      · rw [t29']
        by_cases z2 : i = f
        · rw [if_pos z2, if_pos (Or.inl z2)]
        · rw [if_neg z2, if_neg (fun w => w.elim z2 (fun u => n2 u.1))]
      · rw [t30]
        by_cases z : i = s
        · rw [if_pos z, if_pos z, if_neg n2]
        · rw [if_neg z, if_neg z]
  have yI : gI y = gI m := h1.2.1
  have yL : gL y = gL m := h1.2.2.1
  have yM : gM y = gM m := h1.2.2.2
  by_cases chs : gA m 32 s = nI f
  · rw [if_pos (by rw [e32]; exact chs)]
    exact fin (pA (pA (pA y 30 s (nI (mn m s - 1))) 29 f (-1)) 32 s (-1)) (fun i => by
      rw [gA_pA_at, e32]
      by_cases z : i = s
      · rw [if_pos z, if_pos ⟨z, chs⟩]
      · rw [if_neg z, if_neg (fun u => z u.1)]) (fun a ha => gA_pA_ne ha) yI yM yL
  · rw [if_neg (by rw [e32]; exact chs)]
    exact fin (pA (pA (pA y 30 s (nI (mn m s - 1))) 29 f (-1)) 32 s (gA (pA (pA y 30 s (nI (mn m s - 1))) 29 f (-1)) 32 s)) (fun i => by
      rw [gA_pA_at, e32]
      by_cases z : i = s
      · rw [if_pos z, if_neg (fun u => chs u.2), z]
      · rw [if_neg z, if_neg (fun u => z u.1)]) (fun a ha => gA_pA_ne ha) yI yM yL
/-- both sides -/
theorem rel_pair {c m : Sx} (h : WStk m) (r : RStk c m) {f : Nat} (hf : f < 40) : ∃ c1 m1, f_X6_release c (nI f) = some c1 ∧ f_X9_leaves m (nI f) = some m1 ∧ FrL c c1 ∧ FrLm m m1 ∧ WStk m1 ∧ RStk c1 m1 ∧ gA m1 29 f = -1 := by
  rcases h.1 f hf with w | ⟨s, hs, hfs, hp, k0, hk, e31⟩
  · refine ⟨c, m, ?_, ?_, ⟨rfl, rfl, fun _ _ => rfl, fun _ _ _ _ _ => rfl⟩, ⟨rfl, rfl, rfl, fun _ _ _ _ _ => rfl⟩, h, r, w⟩
    · unfold f_X6_release
      rw [gd_pos (vin_nI hf (by decide)), ix_nI (by omega), r.1 f hf, w, if_pos rfl]
    · unfold f_X9_leaves
      rw [gd_pos (vin_nI hf (by decide)), ix_nI (by omega), w, if_neg (by decide)]
  · have e : fl m s k0 = f := by unfold fl; rw [e31, ix_nI (by omega)]
    obtain ⟨c1, p1, fc, lc, b⟩ := release_eq h r hf hs hfs hk e
    obtain ⟨m1, p2, fm, lm⟩ := leaves_eq h hf hs hfs hk e
    refine ⟨c1, m1, p1, p2, fc, fm, lv_W h hf hs hk e rfl lm (iF_on (fm.2.2.2 23 (by decide) (by decide) (by decide) (by decide))), lv_R h r hf hs hk rfl lm lc (fc.2.2.2 17 (by decide) (by decide) (by decide) (by decide)) (fm.2.2.2 33 (by decide) (by decide) (by decide) (by decide)) b, ?_⟩
    rw [lm.1, if_pos (Or.inl rfl)]
