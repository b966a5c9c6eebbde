/-! ===== putInto, stack ===== -/
theorem loopDown {σ Rt : Type} (L : Nat → Int32 → σ → Rt) (E : σ → Rt) (P : Nat) (I : Nat → σ → Prop) (hexit : ∀ n y, I P y → L (n + 1) (nI P) y = E y) (hstep : ∀ k y, P < k → I k y → ∃ y', I (k - 1) y' ∧ ∀ n, L (n + 1) (nI k) y = L n (nI (k - 1)) y') : ∀ d n y, d < n → I (P + d) y → ∃ y', I P y' ∧ L n (nI (P + d)) y = E y' := by
  intro d
  induction d with
  | zero =>
    intro n y hn hI
    obtain ⟨n, rfl⟩ : ∃ q, n = q + 1 := ⟨n - 1, by omega⟩
    exact ⟨y, hI, hexit n y hI⟩
  | succ d ih =>
    intro n y hn hI
    obtain ⟨n, rfl⟩ : ∃ q, n = q + 1 := ⟨n - 1, by omega⟩
    obtain ⟨y', h1, h2⟩ := hstep (P + (d + 1)) y (by omega) hI
    rw [show P + (d + 1) - 1 = P + d by omega] at h1 h2
    obtain ⟨z, h3, h4⟩ := ih n y' (by omega) h1
    exact ⟨z, h3, by rw [h2, h4]⟩
def In (A29 A30 A31 B29 B30 B31 : Nat → Int32) (f s p n : Nat) : Prop := (∀ i, B29 i = if i = f then nI s else A29 i) ∧ (∀ i, B30 i = if i = s then nI (n + 1) else A30 i) ∧ ∀ i, B31 i = if i = 8 * s + p then nI f else if 8 * s + p < i ∧ i ≤ 8 * s + n then A31 (i - 1) else A31 i
def FrI (c c1 : Sx) : Prop := gI c1 = gI c ∧ gM c1 = gM c ∧ (∀ k, k ≠ 11 → gL c1 k = gL c k) ∧ ∀ a, a ≠ 14 → a ≠ 15 → a ≠ 18 → gA c1 a = gA c a
theorem insert_eq {c : Sx} {s n p f : Nat} (hs : s < 10) (hn : n < 8) (hp : p ≤ n) (hf : f < 40) (e15 : gA c 15 s = nI n) : ∃ c1, f_X6_insert c (nI s) (nI f) (nI p) = some c1 ∧ FrI c c1 ∧ In (gA c 18) (gA c 15) (gA c 14) (gA c1 18) (gA c1 15) (gA c1 14) f s p n ∧ ∀ k, k < 64 → hb (gL c1 11) k = (hb (gL c 11) k || decide (k = f)) := by
  unfold f_X6_insert
  have gs : vp_in (nI s) 10 := vin_nI hs (by decide)
  have gf : vp_in (nI f) 40 := vin_nI hf (by decide)
  have xs : ix (nI s) = s := ix_nI (by omega)
  have xf : ix (nI f) = f := ix_nI (by omega)
  rw [gd_pos gs, xs, e15]
  have run : ∀ kont : Int32 → Sx → Option Sx, ∃ y, L_X6_insert_8 (nI s) (nI f) (nI p) kont FU (nI n) c = kont (nI p) y ∧ OnA 14 c y ∧ ∀ i, gA y 14 i = if 8 * s + p < i ∧ i ≤ 8 * s + n then gA c 14 (i - 1) else gA c 14 i := fun kont => by
    obtain ⟨y, ⟨-, h1, h2⟩, e⟩ := loopDown (fun m i y => L_X6_insert_8 (nI s) (nI f) (nI p) kont m i y) (fun y => kont (nI p) y) p
      (fun k y => k ≤ n ∧ OnA 14 c y ∧ ∀ i, gA y 14 i = if 8 * s + k < i ∧ i ≤ 8 * s + n then gA c 14 (i - 1) else gA c 14 i)
      (fun m y _ => by
        show L_X6_insert_8 _ _ _ _ _ _ _ = _
        rw [L_X6_insert_8, if_pos (nI_le (Nat.le_refl _) (by omega))])
      (fun k y hk hI => by
        obtain ⟨q, h1, h2⟩ := hI
        have ev : gA y 14 (8 * s + (k - 1)) = gA c 14 (8 * s + (k - 1)) := by rw [h2, if_neg (by omega)]
        refine ⟨pA y 14 (8 * s + k) (gA c 14 (8 * s + (k - 1))), ⟨by omega, h1.pA _ _, fun i => ?_⟩, fun m => ?_⟩
        · rw [gA_pA_at, h2]
          by_cases z : i = 8 * s + k
          · rw [if_pos z, if_pos (by omega)]; congr 1; omega
          · rw [if_neg z]
            by_cases u : 8 * s + k < i ∧ i ≤ 8 * s + n
            · rw [if_pos u, if_pos (by omega)]
            · rw [if_neg u, if_neg (by omega)]
        · show L_X6_insert_8 _ _ _ _ _ _ _ = _
          rw [L_X6_insert_8, if_neg (by rw [nI_le_iff (by omega) (by omega)]; omega), spot_eq, Option.bind_some, nI_subOne (by omega), spot_eq, Option.bind_some, gd_pos (vin_nI (by omega) (by decide)), gd_pos (vin_nI (by omega) (by decide)), ix_nI (by omega), ix_nI (by omega), ev, bd_eq, nI_sub1 (by omega)])
      (n - p) FU c (by rw [FU_eq]; omega) ⟨by omega, OnA.rf _ _, fun i => by rw [if_neg (by omega)]⟩
    rw [show p + (n - p) = n by omega] at e
    exact ⟨y, e, h1, h2⟩
  obtain ⟨y, e, h1, h2⟩ := run _
  rw [e, spot_eq]
  simp only [Option.bind_some, bd_eq, gd_pos gs, gd_pos gf, xf, L_only]
  rw [gd_pos (vin_nI (by omega) (by decide)), ix_nI (by omega)]
  refine ⟨_, rfl, ⟨?_, ?_, fun k hk => ?_, fun a q1 q2 q3 => ?_⟩, ⟨fun i => ?_, fun i => ?_, fun i => ?_⟩, fun k hk => ?_⟩
  · show gI y = _; exact h1.2.1
  · show gM y = _; exact h1.2.2.2
  · rw [gL_pL, if_neg hk]; show gL y k = _; rw [h1.2.2.1]
  · rw [gA_pL, gA_pA_ne q3, gA_pA_ne q2, gA_pA_ne q1, h1.1 a q1]
  · rw [gA_pL, gA_pA_at, gA_pA_ne (by decide), gA_pA_ne (by decide), h1.1 18 (by decide)]
  · rw [gA_pL, gA_pA_ne (by decide), gA_pA_at, gA_pA_ne (by decide), h1.1 15 (by decide), e15, nI_lit1]
  · rw [gA_pL, gA_pA_ne (by decide), gA_pA_ne (by decide), gA_pA_at, h2]
  · rw [gL_pL, if_pos rfl, hb_orx _ (by omega) hk]
    show (hb (gL y 11) k || _) = _
    rw [h1.2.2.1]
def FrIm (m m1 : Sx) : Prop := gI m1 = gI m ∧ gM m1 = gM m ∧ gL m1 = gL m ∧ ∀ a, a ≠ 29 → a ≠ 30 → a ≠ 31 → gA m1 a = gA m a
theorem putM_eq {m : Sx} {s n p f : Nat} (hs : s < 10) (hn : n < 8) (hp : p ≤ n) (kont : Int32 → Sx → Option (Int32 × Sx)) : ∃ y, L_X9_putInto_66 (nI s) (nI f) (nI p) kont FU (nI n) m = kont (nI p) y ∧ OnA 31 m y ∧ ∀ i, gA y 31 i = if 8 * s + p < i ∧ i ≤ 8 * s + n then gA m 31 (i - 1) else gA m 31 i := by
  obtain ⟨y, ⟨-, h1, h2⟩, e⟩ := loopDown (fun k i y => L_X9_putInto_66 (nI s) (nI f) (nI p) kont k i y) (fun y => kont (nI p) y) p
    (fun k y => k ≤ n ∧ OnA 31 m y ∧ ∀ i, gA y 31 i = if 8 * s + k < i ∧ i ≤ 8 * s + n then gA m 31 (i - 1) else gA m 31 i)
    (fun k y _ => by
      show L_X9_putInto_66 _ _ _ _ _ _ _ = _
      rw [L_X9_putInto_66, if_pos (nI_le (Nat.le_refl _) (by omega))])
    (fun k y hk hI => by
      obtain ⟨q, h1, h2⟩ := hI
      have ev : gA y 31 (8 * s + k - 1) = gA m 31 (8 * s + k - 1) := by rw [h2, if_neg (by omega)]
      refine ⟨pA y 31 (8 * s + k) (gA m 31 (8 * s + k - 1)), ⟨by omega, h1.pA _ _, fun i => ?_⟩, fun k' => ?_⟩
      · rw [gA_pA_at, h2]
        by_cases z : i = 8 * s + k
        · rw [if_pos z, if_pos (by omega), z]
        · rw [if_neg z]
          by_cases u : 8 * s + k < i ∧ i ≤ 8 * s + n
          · rw [if_pos u, if_pos (by omega)]
          · rw [if_neg u, if_neg (by omega)]
      · show L_X9_putInto_66 _ _ _ _ _ _ _ = _
        rw [L_X9_putInto_66, if_neg (by rw [nI_le_iff (by omega) (by omega)]; omega), i8, nI_subOne (by omega), gd_pos (vin_nI (by omega) (by decide)), gd_pos (vin_nI (by omega) (by decide)), ix_nI (by omega), ix_nI (by omega), ev, bd_eq, nI_sub1 (by omega)])
    (n - p) FU m (by rw [FU_eq]; omega) ⟨by omega, OnA.rf _ _, fun i => by rw [if_neg (by omega)]⟩
  rw [show p + (n - p) = n by omega] at e
  exact ⟨y, e, h1, h2⟩
theorem in_mn {m m1 : Sx} {f s p : Nat} (h8 : mn m s < 8) (L : In (gA m 29) (gA m 30) (gA m 31) (gA m1 29) (gA m1 30) (gA m1 31) f s p (mn m s)) (s' : Nat) : mn m1 s' = if s' = s then mn m s + 1 else mn m s' := by
  show ix (gA m1 30 s') = _
  rw [L.2.1]
  split
  · exact ix_nI (by omega)
  · rfl
theorem in_W {m m1 : Sx} (h : WStk m) {f s p : Nat} (hf : f < 40) (hfp : iF m f = true) (hff : gA m 29 f = -1) (hs : s < 10) (hn : 0 < mn m s) (h8 : mn m s < 8) (hp : p ≤ mn m s) (L : In (gA m 29) (gA m 30) (gA m 31) (gA m1 29) (gA m1 30) (gA m1 31) f s p (mn m s)) (e23 : iF m1 = iF m) (e32 : gA m1 32 = gA m 32) : WStk m1 := by
  obtain ⟨en, -, n1⟩ := wStk_mn h hs
  have hmn := in_mn h8 L
  obtain ⟨a29, a30, a31⟩ := L
  have live : ∀ i s', s' < 10 → gA m 29 i = nI s' → i ≠ f := fun i s' hs' hi w => by
    rw [w, hff] at hi; exact nI_ne_m1 (by omega) hi.symm
  have far : ∀ s' k, s' ≠ s → k < 8 → gA m1 31 (8 * s' + k) = gA m 31 (8 * s' + k) := fun s' k ne hk8 => by rw [a31, if_neg (by omega), if_neg (by omega)]
  have near : ∀ k, k < mn m s + 1 → k ≠ p → gA m1 31 (8 * s + k) = gA m 31 (8 * s + (if k < p then k else k - 1)) := fun k hk1 ne => by
    rw [a31, if_neg (by omega)]
    by_cases w : k < p
    · rw [if_neg (by omega), if_pos w]
    · rw [if_pos (by omega), if_neg w]; congr 1; omega
  have here : gA m1 31 (8 * s + p) = nI f := by rw [a31, if_pos rfl]
  have in8 : ∀ s', s' < 10 → mn m s' ≤ 8 := fun s' hs' => (wStk_mn h hs').2.1
  refine ⟨fun f' hf' => ?_, fun s' hs' => ?_, fun s' hs' k hk' => ?_, fun s' hs' j k hjk hk' => ?_, fun s' hs' hn' => ?_⟩
  · rw [a29, e23]
    by_cases q : f' = f
    · rw [if_pos q]
      exact Or.inr ⟨s, hs, rfl, by rw [q]; exact hfp, p, by rw [hmn, if_pos rfl]; omega, by rw [here, q]⟩
    · rw [if_neg q]
      rcases h.1 f' hf' with w | ⟨s', hs', w1, w2, k, hk', w3⟩
      · exact Or.inl w
      · refine Or.inr ⟨s', hs', w1, w2, ?_⟩
        by_cases z : s' = s
        · subst z
          rw [hmn, if_pos rfl]
          refine ⟨if k < p then k else k + 1, by split <;> omega, ?_⟩
          rw [near _ (by split <;> omega) (by split <;> omega), ← w3]
          congr 2
          by_cases u : k < p
          · rw [if_pos u, if_pos u]
          · rw [if_neg u, if_neg (by omega)]; omega
        · exact ⟨k, by rw [hmn, if_neg z]; exact hk', by rw [far s' k z (by have := in8 s' hs'; omega)]; exact w3⟩
  · rw [a30]
    by_cases q : s' = s
    · rw [if_pos q]; exact ⟨mn m s + 1, by omega, rfl, by omega⟩
    · rw [if_neg q]; exact h.2.1 s' hs'
  · rw [hmn] at hk'
    by_cases q : s' = s
    · subst q
      rw [if_pos rfl] at hk'
      by_cases z : k = p
      · exact ⟨f, hf, by rw [z, here], by rw [a29, if_pos rfl]⟩
      · rw [near k hk' z]
        obtain ⟨b1, b2', b3⟩ := wStk_fl h hs (k := if k < p then k else k - 1) (by split <;> omega)
        exact ⟨_, b2', b1, by rw [a29, if_neg (live _ s' hs b3)]; exact b3⟩
    · rw [if_neg q] at hk'
      obtain ⟨b1, b2', b3⟩ := wStk_fl h hs' hk'
      exact ⟨_, b2', by rw [far s' k q (by have := in8 s' hs'; omega)]; exact b1, by rw [a29, if_neg (live _ s' hs' b3)]; exact b3⟩
  · rw [hmn] at hk'
    by_cases q : s' = s
    · subst q
      rw [if_pos rfl] at hk'
      have notf : ∀ i, i < mn m s' + 1 → i ≠ p → gA m1 31 (8 * s' + i) ≠ nI f := fun i hi ne w => by
        rw [near i hi ne] at w
        obtain ⟨b1, b2', b3⟩ := wStk_fl h hs (k := if i < p then i else i - 1) (by split <;> omega)
        rw [b1, nI_eq_iff (by omega) (by omega)] at w
        exact live _ s' hs b3 w
      by_cases z : k = p
      · rw [z, here]; exact notf j (by omega) (by omega)
      · by_cases z2 : j = p
        · rw [z2, here]; exact fun w => notf k hk' z w.symm
        · rw [near k hk' z, near j (by omega) z2]
          exact h.2.2.2.1 s' hs' _ _ (by split <;> split <;> omega) (by split <;> omega)
    · rw [if_neg q] at hk'
      rw [far s' k q (by have := in8 s' hs'; omega), far s' j q (by have := in8 s' hs'; omega)]
      exact h.2.2.2.1 s' hs' j k hjk hk'
  · rw [hmn] at hn'
    rw [e32]
    have hn2 : 0 < mn m s' := by
      by_cases q : s' = s
      · rw [q]; exact hn
      · rw [if_neg q] at hn'; exact hn'
    rcases h.2.2.2.2 s' hs' hn2 with w | ⟨f', w1, w2, w3⟩
    · exact Or.inl w
    · exact Or.inr ⟨f', w1, w2, by rw [a29, if_neg (live _ s' hs' w3)]; exact w3⟩
theorem in_R {c m c1 m1 : Sx} (h : WStk m) (r : RStk c m) {f s p : Nat} (hf : f < 40) (hs : s < 10) (hn : 0 < mn m s) (h8 : mn m s < 8) (hp : p ≤ mn m s) (L : In (gA m 29) (gA m 30) (gA m 31) (gA m1 29) (gA m1 30) (gA m1 31) f s p (mn m s)) (LC : In (gA c 18) (gA c 15) (gA c 14) (gA c1 18) (gA c1 15) (gA c1 14) f s p (mn m s)) (e16 : gA c1 16 = gA c 16) (e17 : gA c1 17 = gA c 17) (e32 : gA m1 32 = gA m 32) (e33 : gA m1 33 = gA m 33) (hb11 : ∀ k, k < 64 → hb (gL c1 11) k = (hb (gL c 11) k || decide (k = f))) : RStk c1 m1 := by
  have hmn := in_mn h8 L
  obtain ⟨a29, a30, a31⟩ := L
  obtain ⟨b18, b15, b14⟩ := LC
  obtain ⟨r1, r2, r3, r4, r5⟩ := r
  have in8 : ∀ s', s' < 10 → mn m s' ≤ 8 := fun s' hs' => (wStk_mn h hs').2.1
  refine ⟨fun f' hf' => by rw [b18, a29, r1 f' hf'], fun s' hs' => by rw [b15, a30, r2 s' hs'], fun s' hs' k hk' => ?_, fun s' hs' hn' => ?_, fun k hk' => ?_⟩
  · rw [hmn] at hk'
    rw [b14, a31]
    by_cases q : s' = s
    · subst q
      rw [if_pos rfl] at hk'
      split
      · rfl
      · split
        · rw [show 8 * s' + k - 1 = 8 * s' + (k - 1) by omega]; exact r3 s' hs' (k - 1) (by omega)
        · exact r3 s' hs' k (by omega)
    · rw [if_neg q] at hk'
      have := in8 s' hs'
      rw [if_neg (by omega), if_neg (by omega), if_neg (by omega), if_neg (by omega)]
      exact r3 s' hs' k hk'
  · rw [hmn] at hn'
    rw [e16, e17, e32, e33]
    refine r4 s' hs' ?_
    by_cases q : s' = s
    · rw [q]; exact hn
    · rw [if_neg q] at hn'; exact hn'
  · rw [hb11 k hk', a29, Bool.or_eq_true, r5 k hk']
    by_cases dd : k = f
    · rw [if_pos dd, decide_eq_true dd]
      exact ⟨fun _ => ⟨by omega, nI_ne_m1 (by omega)⟩, fun _ => Or.inr rfl⟩
    · rw [if_neg dd, decide_eq_false dd]
      exact ⟨fun w => w.elim id (fun u => absurd u (by decide)), fun w => Or.inl w⟩
theorem cal_putInto (a1 a2 a3 : Int32) : Cal (-3) (fun t => f_X8_putInto t a1 a2 a3) (fun t => f_X9_putInto t a1 a2 a3) := fun c m h => by
  show ∃ r c' m', f_X8_putInto c a1 a2 a3 = some (r, c') ∧ f_X9_putInto m a1 a2 a3 = some (r, m') ∧ _
  unfold f_X8_putInto f_X9_putInto f_X6_home f_X6_height
  rw [hasS_eq h.1.wS h.1.rS, isStack_eq h.1.wS]
  simp only [Option.bind_some]
  cases q : stn m a1 with
  | false => exact h.err (-1) (by rw [bF]) (by rw [bF])
  | true =>
    obtain ⟨s, hs, rfl, hn⟩ := stn_out q
    obtain ⟨en, h8, n1⟩ := wStk_mn h.1.wS hs
    have gs : vp_in (nI s) 10 := vin_nI hs (by decide)
    have xs : ix (nI s) = s := ix_nI (by omega)
    rw [bT, bT, hasC h.1, there_eq]
    simp only [Option.bind_some]
    cases q2 : fil (iF m) a2 with
    | false => exact h.err (-1) (by rw [bF]) (by rw [bF])
    | true =>
      obtain ⟨f, hf, rfl, hpf⟩ := fil_out q2
      have gf : vp_in (nI f) 40 := vin_nI hf (by decide)
      have xf : ix (nI f) = f := ix_nI (by omega)
      rw [bT, bT]
      simp only [gd_pos gs, gd_pos gf, xs, xf, Option.bind_some, h.1.rS.2.1 s hs, en, h.1.rS.1 f hf, isWithin_eq, in_eq]
      cases q3 : inr a3 0 (nI (mn m s)) with
      | false => exact h.err (-1) (by rw [bF]) (by rw [bF])
      | true =>
        obtain ⟨p, hp, rfl⟩ := inr_out (by omega) q3
        rw [bT, bT]
        rcases wStk_home h.1.wS hf with e | ⟨s', hs', e, -, -⟩
        · rw [e, if_pos rfl, if_pos (show (-1 : Int32) < 0 by decide)]
          by_cases w : mn m s = 8
          · rw [if_pos (by rw [w]; rfl), if_pos (by rw [w]; rfl)]
            exact h.err (-3) rfl rfl
          · have w' : ¬ nI (mn m s) = 8 := by rw [show (8 : Int32) = nI 8 from rfl, nI_eq_iff (by omega) (by decide)]; exact w
            obtain ⟨hB, hD, hA, hJ, hM⟩ := h
            obtain ⟨c1, p1, fc, lc, b⟩ := insert_eq (c := c) (f := f) hs (show mn m s < 8 by omega) hp hf (by rw [hB.rS.2.1 s hs, en])
            rw [if_neg w', if_neg w', p1, Option.bind_some]
            obtain ⟨y, p2, o, y31⟩ := putM_eq (m := m) (f := f) hs (show mn m s < 8 by omega) hp (fun z5 t6 => gd (vp_in ((8 * nI s) + nI p) 80) (bd (pA t6 31 (ix ((8 * nI s) + nI p)) (nI f)) fun t7 => bd (pA t7 29 f (nI s)) fun t8 => bd (pA t8 30 s ((gA t8 30 s) + 1)) fun t9 => (f_X9_settled t9 (gA t9 30 s)).bind fun r10 => some (r10.1, r10.2)))
            rw [p2, i8, gd_pos (vin_nI (by omega) (by decide)), ix_nI (by omega)]
            simp only [bd_eq]
            have l1 : In (gA m 29) (gA m 30) (gA m 31) (gA (pA (pA (pA y 31 (8 * s + p) (nI f)) 29 f (nI s)) 30 s (gA (pA (pA y 31 (8 * s + p) (nI f)) 29 f (nI s)) 30 s + 1)) 29) (gA (pA (pA (pA y 31 (8 * s + p) (nI f)) 29 f (nI s)) 30 s (gA (pA (pA y 31 (8 * s + p) (nI f)) 29 f (nI s)) 30 s + 1)) 30) (gA (pA (pA (pA y 31 (8 * s + p) (nI f)) 29 f (nI s)) 30 s (gA (pA (pA y 31 (8 * s + p) (nI f)) 29 f (nI s)) 30 s + 1)) 31) f s p (mn m s) := by
              refine ⟨fun i => ?_, fun i => ?_, fun i => ?_⟩
              · rw [gA_pA_ne (by decide), gA_pA_at, gA_pA_ne (by decide), o.1 29 (by decide)]
              · rw [gA_pA_at, gA_pA_ne (by decide), gA_pA_ne (by decide), o.1 30 (by decide), en, nI_lit1]
              · rw [gA_pA_ne (by decide), gA_pA_ne (by decide), gA_pA_at, y31]
            have fm : FrIm m (pA (pA (pA y 31 (8 * s + p) (nI f)) 29 f (nI s)) 30 s (gA (pA (pA y 31 (8 * s + p) (nI f)) 29 f (nI s)) 30 s + 1)) := ⟨o.2.1, o.2.2.2, o.2.2.1, fun a q1 q2 q3 => by rw [gA_pA_ne q2, gA_pA_ne q1, gA_pA_ne q3, o.1 a q3]⟩
            generalize pA (pA (pA y 31 (8 * s + p) (nI f)) 29 f (nI s)) 30 s (gA (pA (pA y 31 (8 * s + p) (nI f)) 29 f (nI s)) 30 s + 1) = m1 at l1 fm
            have mA : ∀ a, a ≠ 29 → a ≠ 30 → a ≠ 31 → gA m1 a = gA m a := fm.2.2.2
            have cA : ∀ a, a ≠ 14 → a ≠ 15 → a ≠ 18 → gA c1 a = gA c a := fc.2.2.2
            have W := in_W hB.wS hf hpf e hs hn (by omega) hp l1 (iF_on (mA 23 (by decide) (by decide) (by decide))) (mA 32 (by decide) (by decide) (by decide))
            have R := in_R hB.wS hB.rS hf hs hn (by omega) hp l1 lc (cA 16 (by decide) (by decide) (by decide)) (cA 17 (by decide) (by decide) (by decide)) (mA 32 (by decide) (by decide) (by decide)) (mA 33 (by decide) (by decide) (by decide)) b
            have fc' : FrL c c1 := ⟨fc.1, fc.2.1, fc.2.2.1, fun a q1 q2 q3 q4 => cA a q1 q2 q4⟩
            have fm' : FrLm m m1 := ⟨fm.1, fm.2.1, fm.2.2.1, fun a q1 q2 q3 q4 => mA a q1 q2 q3⟩
            obtain ⟨c', m', e3, e4, i1, i2, i3, i4⟩ := fin_settle ⟨rel_Ba hB fc' fm' W R, rel_Al hA fc' fm', rel_J hJ fc' fm'⟩ fc'.frM fm'.frC
            rw [e3, e4, Option.bind_some, Option.bind_some, i1.1.rS.2.1 s hs, i4.1 30 (by decide)]
            refine ⟨_, c', m', rfl, rfl, i1, i2, i3, fun _ => ?_⟩
            obtain ⟨n, hn8, en', -⟩ := W.2.1 s hs
            rw [en']; exact lo_nI (by decide) (by omega)
        · rw [e, if_neg (nI_ne_m1 (by omega)), if_neg (nI_pos (by omega))]
          exact h.err (-2) rfl rfl
theorem freeS_eq {c m : Sx} (h : WStk m) (rS : RStk c m) : f_X6_freeNumber c = match fst? (fun k => !isS m k) 0 10 with
    | some k => some (nI k)
    | none => some (-1) := by
  unfold f_X6_freeNumber
  exact find0 (L := fun n i => L_X6_freeNumber_2 c (fun z2 => some (-1)) n i) (p := fun k => !isS m k) (N := 10) (by decide) (fun n => by
    show L_X6_freeNumber_2 _ _ _ _ = _
    rw [L_X6_freeNumber_2, if_pos (by decide)]) (fun n k hk => by
    show L_X6_freeNumber_2 _ _ _ _ = _
    rw [L_X6_freeNumber_2, if_neg (ngo (x := 10) (N := 10) rfl hk (by decide)), hasS_eq h rS, stn_nI hk, Option.bind_some, nI_lit1]
    cases isS m k <;> rfl)
theorem stackM_eq {m : Sx} (h : WStk m) (b1 b2 : Int32) (kont : Int32 → Option (Int32 × Sx)) : L_X9_stack_46 m b1 b2 kont FU 0 = match fst? (fun k => !isS m k) 0 10 with
    | some k => kont (nI k)
    | none => kont (nI 10) := by
  exact find0 (L := fun n i => L_X9_stack_46 m b1 b2 kont n i) (p := fun k => !isS m k) (N := 10) (by decide) (fun n => by
    show L_X9_stack_46 _ _ _ _ _ _ = _
    rw [L_X9_stack_46, if_pos (by decide)]) (fun n k hk => by
    show L_X9_stack_46 _ _ _ _ _ _ = _
    obtain ⟨en, h8, -⟩ := wStk_mn h hk
    rw [L_X9_stack_46, if_neg (ngo (x := 10) (N := 10) rfl hk (by decide)), gd_pos (vin_nI hk (by decide)), ix_nI (by omega), en, nI_lit1, isS]
    by_cases q : 0 < mn m k
    · rw [if_neg (by rw [show (0 : Int32) = nI 0 from rfl, nI_le_iff (by omega) (by decide)]; omega), decide_eq_true q]; rfl
    · rw [if_pos (by rw [show (0 : Int32) = nI 0 from rfl, nI_le_iff (by omega) (by decide)]; omega), decide_eq_false q]; rfl)
theorem cal_stack (a1 a2 : Int32) : Cal (-3) (fun t => f_X8_stack t a1 a2) (fun t => f_X9_stack t a1 a2) := fun c m h => by
  show ∃ r c' m', f_X8_stack c a1 a2 = some (r, c') ∧ f_X9_stack m a1 a2 = some (r, m') ∧ _
  unfold f_X8_stack f_X9_stack f_X6_home
  rw [hasC h.1, there_eq]
  simp only [Option.bind_some]
  cases q : fil (iF m) a1 with
  | false => exact h.err (-1) (by rw [bF]) (by rw [bF])
  | true =>
    obtain ⟨f, hf, rfl, pf⟩ := fil_out q
    rw [bT, bT, hasC h.1, there_eq]
    simp only [Option.bind_some]
    cases q2 : fil (iF m) a2 with
    | false => exact h.err (-1) (by rw [bF]) (by rw [bF])
    | true =>
      obtain ⟨g, hg, rfl, pg⟩ := fil_out q2
      have gf : vp_in (nI f) 40 := vin_nI hf (by decide)
      have xf : ix (nI f) = f := ix_nI (by omega)
      have gg : vp_in (nI g) 40 := vin_nI hg (by decide)
      have xg : ix (nI g) = g := ix_nI (by omega)
      rw [bT, bT]
      by_cases w : f = g
      · rw [if_pos (by rw [w]), if_pos (by rw [w])]
        exact h.err (-1) rfl rfl
      · have w' : ¬ nI f = nI g := by rw [nI_eq_iff (by omega) (by omega)]; exact w
        rw [if_neg w', if_neg w']
        simp only [gd_pos gf, gd_pos gg, xf, xg, Option.bind_some, h.1.rS.1 f hf, h.1.rS.1 g hg]
        rcases wStk_home h.1.wS hf with e | ⟨s', hs', e, -, -⟩
        · rcases wStk_home h.1.wS hg with e' | ⟨s', hs', e', -, -⟩
          · rw [e, e', if_pos rfl, if_pos rfl, if_neg (by decide), if_pos (by decide), freeS_eq h.1.wS h.1.rS, stackM_eq h.1.wS]
            cases ef : fst? (fun k => !isS m k) 0 10 with
            | none => exact h.err (-3) (by rfl) (by dsimp only; rw [if_pos (by decide)])
            | some s =>
              obtain ⟨-, hs, hns, -⟩ := fst?_some ef
              have hs : s < 10 := by omega
              have h0 : mn m s = 0 := by
                have : isS m s = false := by simpa using hns
                unfold isS at this
                have := of_decide_eq_false this
                omega
              obtain ⟨en, -, -⟩ := wStk_mn h.1.wS hs
              have gs : vp_in (nI s) 10 := vin_nI hs (by decide)
              have xs : ix (nI s) = s := ix_nI (by omega)
              dsimp only
              rw [Option.bind_some, if_neg (nI_ne_m1 (by omega)), if_neg (by rw [show (10 : Int32) = nI 10 from rfl, nI_eq_iff (by omega) (by decide)]; omega)]
              obtain ⟨hB, hD, hA, hJ, hM⟩ := h
              unfold f_X6_begin
              obtain ⟨c1, p1, fc1, l1, b1⟩ := insert_eq (c := pA (pA c 16 s (-1)) 17 s 0) (f := f) (p := 0) hs (show 0 < 8 by decide) (Nat.le_refl _) hf (by rw [gA_pA_ne (by decide), gA_pA_ne (by decide), hB.rS.2.1 s hs, en, h0])
              have e15 : gA c1 15 s = nI 1 := by rw [l1.2.1, if_pos rfl]
              obtain ⟨c2, p2, fc2, l2, b2'⟩ := insert_eq (c := c1) (f := g) (p := 1) hs (show 1 < 8 by decide) (Nat.le_refl _) hg e15
              have p1' : f_X6_insert (pA (pA c 16 s (-1)) 17 s 0) (nI s) (nI f) 0 = some c1 := p1
              have p2' : f_X6_insert c1 (nI s) (nI g) 1 = some c2 := p2
              simp only [gd_pos gs, xs, bd_eq, Option.bind_some, p1', p2', i80, nI_lit1, gd_pos (show vp_in (nI (8 * s)) 80 from vin_nI (by omega) (by decide)), gd_pos (show vp_in (nI (8 * s + 1)) 80 from vin_nI (by omega) (by decide)), ix_nI (show 8 * s < 2 ^ 31 by omega), ix_nI (show 8 * s + 1 < 2 ^ 31 by omega)]
              -- the reference's new state
              have m29 : ∀ i, gA (pA (pA (pA (pA (pA (pA (pA m 30 s 2) 31 (8 * s) (nI f)) 31 (8 * s + 1) (nI g)) 32 s (-1)) 33 s 0) 29 f (nI s)) 29 g (nI s)) 29 i = if i = f ∨ i = g then nI s else gA m 29 i := fun i => by
                rw [gA_pA_at, gA_pA_at, gA_pA_ne (by decide), gA_pA_ne (by decide), gA_pA_ne (by decide), gA_pA_ne (by decide), gA_pA_ne (by decide)]
                by_cases z : i = g
                · rw [if_pos z, if_pos (Or.inr z)]
                · rw [if_neg z]
                  by_cases z2 : i = f
                  · rw [if_pos z2, if_pos (Or.inl z2)]
                  · rw [if_neg z2, if_neg (fun u => u.elim z2 z)]
              have m30 : ∀ i, gA (pA (pA (pA (pA (pA (pA (pA m 30 s 2) 31 (8 * s) (nI f)) 31 (8 * s + 1) (nI g)) 32 s (-1)) 33 s 0) 29 f (nI s)) 29 g (nI s)) 30 i = if i = s then nI 2 else gA m 30 i := fun i => by
                rw [gA_pA_ne (by decide), gA_pA_ne (by decide), gA_pA_ne (by decide), gA_pA_ne (by decide), gA_pA_ne (by decide), gA_pA_ne (by decide), gA_pA_at]; rfl
              have m31 : ∀ i, gA (pA (pA (pA (pA (pA (pA (pA m 30 s 2) 31 (8 * s) (nI f)) 31 (8 * s + 1) (nI g)) 32 s (-1)) 33 s 0) 29 f (nI s)) 29 g (nI s)) 31 i = if i = 8 * s + 1 then nI g else if i = 8 * s then nI f else gA m 31 i := fun i => by
                rw [gA_pA_ne (by decide), gA_pA_ne (by decide), gA_pA_ne (by decide), gA_pA_ne (by decide), gA_pA_at, gA_pA_at, gA_pA_ne (by decide)]
              have m32 : ∀ i, gA (pA (pA (pA (pA (pA (pA (pA m 30 s 2) 31 (8 * s) (nI f)) 31 (8 * s + 1) (nI g)) 32 s (-1)) 33 s 0) 29 f (nI s)) 29 g (nI s)) 32 i = if i = s then -1 else gA m 32 i := fun i => by
                rw [gA_pA_ne (by decide), gA_pA_ne (by decide), gA_pA_ne (by decide), gA_pA_at, gA_pA_ne (by decide), gA_pA_ne (by decide), gA_pA_ne (by decide)]
              have m33 : ∀ i, gA (pA (pA (pA (pA (pA (pA (pA m 30 s 2) 31 (8 * s) (nI f)) 31 (8 * s + 1) (nI g)) 32 s (-1)) 33 s 0) 29 f (nI s)) 29 g (nI s)) 33 i = if i = s then 0 else gA m 33 i := fun i => by
                rw [gA_pA_ne (by decide), gA_pA_ne (by decide), gA_pA_at, gA_pA_ne (by decide), gA_pA_ne (by decide), gA_pA_ne (by decide), gA_pA_ne (by decide)]
              have mA : ∀ a, a ≠ 29 → a ≠ 30 → a ≠ 31 → a ≠ 32 → a ≠ 33 → gA (pA (pA (pA (pA (pA (pA (pA m 30 s 2) 31 (8 * s) (nI f)) 31 (8 * s + 1) (nI g)) 32 s (-1)) 33 s 0) 29 f (nI s)) 29 g (nI s)) a = gA m a := fun a v1 v2 v3 v4 v5 => by
                rw [gA_pA_ne v1, gA_pA_ne v1, gA_pA_ne v5, gA_pA_ne v4, gA_pA_ne v3, gA_pA_ne v3, gA_pA_ne v2]
              have mI : gI (pA (pA (pA (pA (pA (pA (pA m 30 s 2) 31 (8 * s) (nI f)) 31 (8 * s + 1) (nI g)) 32 s (-1)) 33 s 0) 29 f (nI s)) 29 g (nI s)) = gI m := rfl
              have mL : gL (pA (pA (pA (pA (pA (pA (pA m 30 s 2) 31 (8 * s) (nI f)) 31 (8 * s + 1) (nI g)) 32 s (-1)) 33 s 0) 29 f (nI s)) 29 g (nI s)) = gL m := rfl
              have mM : gM (pA (pA (pA (pA (pA (pA (pA m 30 s 2) 31 (8 * s) (nI f)) 31 (8 * s + 1) (nI g)) 32 s (-1)) 33 s 0) 29 f (nI s)) 29 g (nI s)) = gM m := rfl
              generalize pA (pA (pA (pA (pA (pA (pA m 30 s 2) 31 (8 * s) (nI f)) 31 (8 * s + 1) (nI g)) 32 s (-1)) 33 s 0) 29 f (nI s)) 29 g (nI s) = m1 at m29 m30 m31 m32 m33 mA mI mL mM
              have hmn : ∀ s', mn m1 s' = if s' = s then 2 else mn m s' := fun s' => by
                show ix (gA m1 30 s') = _
                rw [m30]
                split
                · exact ix_nI (by omega)
                · rfl
              have in8 : ∀ s', s' < 10 → mn m s' ≤ 8 := fun s' hs' => (wStk_mn hB.wS hs').2.1
              have live : ∀ i s', s' < 10 → gA m 29 i = nI s' → ¬ (i = f ∨ i = g) := fun i s' hs' hi u => by
                rcases u with u | u
                · rw [u, e] at hi; exact nI_ne_m1 (by omega) hi.symm
                · rw [u, e'] at hi; exact nI_ne_m1 (by omega) hi.symm
              have far : ∀ s' k, s' ≠ s → k < 8 → gA m1 31 (8 * s' + k) = gA m 31 (8 * s' + k) := fun s' k ne hk8 => by rw [m31, if_neg (by omega), if_neg (by omega)]
              have W : WStk m1 := by
                refine ⟨fun f' hf' => ?_, fun s' hs' => ?_, fun s' hs' k hk' => ?_, fun s' hs' j k hjk hk' => ?_, fun s' hs' hn' => ?_⟩
                · rw [m29, iF_on (mA 23 (by decide) (by decide) (by decide) (by decide) (by decide))]
                  by_cases z : f' = f ∨ f' = g
                  · rw [if_pos z]
                    refine Or.inr ⟨s, hs, rfl, ?_, ?_⟩
                    · rcases z with z | z <;> rw [z] <;> assumption
                    · rcases z with z | z
                      · exact ⟨0, by rw [hmn, if_pos rfl]; omega, by rw [m31, if_neg (by omega), if_pos (by omega), z]⟩
                      · exact ⟨1, by rw [hmn, if_pos rfl]; omega, by rw [m31, if_pos rfl, z]⟩
                  · rw [if_neg z]
                    rcases hB.wS.1 f' hf' with u | ⟨s', hs', u1, u2, k, hk', u3⟩
                    · exact Or.inl u
                    · have ne : s' ≠ s := fun v => by rw [v, h0] at hk'; omega
                      exact Or.inr ⟨s', hs', u1, u2, k, by rw [hmn, if_neg ne]; exact hk', by rw [far s' k ne (by have := in8 s' hs'; omega)]; exact u3⟩
                · rw [m30]
                  by_cases z : s' = s
                  · rw [if_pos z]; exact ⟨2, by omega, rfl, by omega⟩
                  · rw [if_neg z]; exact hB.wS.2.1 s' hs'
                · rw [hmn] at hk'
                  by_cases z : s' = s
                  · rw [if_pos z] at hk'
                    rw [z]
                    rcases (show k = 0 ∨ k = 1 by omega) with rfl | rfl
                    · exact ⟨f, hf, by rw [m31, if_neg (by omega), if_pos (by omega)], by rw [m29, if_pos (Or.inl rfl)]⟩
                    · exact ⟨g, hg, by rw [m31, if_pos rfl], by rw [m29, if_pos (Or.inr rfl)]⟩
                  · rw [if_neg z] at hk'
                    obtain ⟨b1, b2'', b3⟩ := wStk_fl hB.wS hs' hk'
                    exact ⟨_, b2'', by rw [far s' k z (by have := in8 s' hs'; omega)]; exact b1, by rw [m29, if_neg (live _ s' hs' b3)]; exact b3⟩
                · rw [hmn] at hk'
                  by_cases z : s' = s
                  · rw [if_pos z] at hk'
                    rw [z]
                    obtain rfl : j = 0 := by omega
                    obtain rfl : k = 1 := by omega
                    rw [m31, m31, if_neg (by omega), if_pos (by omega), if_pos rfl]
                    exact w'
                  · rw [if_neg z] at hk'
                    rw [far s' k z (by have := in8 s' hs'; omega), far s' j z (by have := in8 s' hs'; omega)]
                    exact hB.wS.2.2.2.1 s' hs' j k hjk hk'
                · rw [hmn] at hn'
                  rw [m32]
                  by_cases z : s' = s
                  · rw [if_pos z]; exact Or.inl rfl
                  · rw [if_neg z] at hn' ⊢
                    rcases hB.wS.2.2.2.2 s' hs' hn' with u | ⟨f', u1, u2, u3⟩
                    · exact Or.inl u
                    · exact Or.inr ⟨f', u1, u2, by rw [m29, if_neg (live _ s' hs' u3)]; exact u3⟩
              have c18 : ∀ i, gA c2 18 i = if i = f ∨ i = g then nI s else gA c 18 i := fun i => by
                rw [l2.1, l1.1, gA_pA_ne (by decide), gA_pA_ne (by decide)]
                by_cases z : i = g
                · rw [if_pos z, if_pos (Or.inr z)]
                · rw [if_neg z]
                  by_cases z2 : i = f
                  · rw [if_pos z2, if_pos (Or.inl z2)]
                  · rw [if_neg z2, if_neg (fun u => u.elim z2 z)]
              have c15 : ∀ i, gA c2 15 i = if i = s then nI 2 else gA c 15 i := fun i => by
                rw [l2.2.1, l1.2.1, gA_pA_ne (by decide), gA_pA_ne (by decide)]
                by_cases z : i = s
                · rw [if_pos z, if_pos z]
                · rw [if_neg z, if_neg z, if_neg z]
              have c14 : ∀ i, gA c2 14 i = if i = 8 * s + 1 then nI g else if i = 8 * s then nI f else gA c 14 i := fun i => by
                rw [l2.2.2]
                by_cases z : i = 8 * s + 1
                · rw [if_pos z, if_pos z]
                · rw [if_neg z, if_neg z, if_neg (by omega), l1.2.2, Nat.add_zero]
                  by_cases z2 : i = 8 * s
                  · rw [if_pos z2, if_pos z2]
                  · rw [if_neg z2, if_neg z2, if_neg (by omega), gA_pA_ne (by decide), gA_pA_ne (by decide)]
              have c16 : ∀ i, gA c2 16 i = if i = s then -1 else gA c 16 i := fun i => by
                rw [fc2.2.2.2 16 (by decide) (by decide) (by decide), fc1.2.2.2 16 (by decide) (by decide) (by decide), gA_pA_ne (by decide), gA_pA_at]
              have c17 : ∀ i, gA c2 17 i = if i = s then 0 else gA c 17 i := fun i => by
                rw [fc2.2.2.2 17 (by decide) (by decide) (by decide), fc1.2.2.2 17 (by decide) (by decide) (by decide), gA_pA_at, gA_pA_ne (by decide)]
              have cA : ∀ a, a ≠ 14 → a ≠ 15 → a ≠ 16 → a ≠ 17 → a ≠ 18 → gA c2 a = gA c a := fun a v1 v2 v3 v4 v5 => by
                rw [fc2.2.2.2 a v1 v2 v5, fc1.2.2.2 a v1 v2 v5, gA_pA_ne v4, gA_pA_ne v3]
              have cI : gI c2 = gI c := by rw [fc2.1, fc1.1]; rfl
              have cM : gM c2 = gM c := by rw [fc2.2.1, fc1.2.1]; rfl
              have cL : ∀ k, k ≠ 11 → gL c2 k = gL c k := fun k hk => by rw [fc2.2.2.1 k hk, fc1.2.2.1 k hk]; rfl
              have c11 : ∀ k, k < 64 → hb (gL c2 11) k = (hb (gL c 11) k || decide (k = f ∨ k = g)) := fun k hk => by
                rw [b2' k hk, b1 k hk]
                show (hb (gL c 11) k || _ || _) = _
                rw [Bool.or_assoc]
                congr 1
                by_cases z : k = f
                · rw [decide_eq_true z, decide_eq_true (p := k = f ∨ k = g) (Or.inl z)]; rfl
                · by_cases z2 : k = g
                  · rw [decide_eq_true z2, decide_eq_true (p := k = f ∨ k = g) (Or.inr z2), Bool.or_true]
                  · rw [decide_eq_false z, decide_eq_false z2, decide_eq_false (p := k = f ∨ k = g) (fun u => u.elim z z2)]; rfl
              have R : RStk c2 m1 := by
                obtain ⟨r1, r2, r3, r4, r5⟩ := hB.rS
                refine ⟨fun f' hf' => by rw [c18, m29, r1 f' hf'], fun s' hs' => by rw [c15, m30, r2 s' hs'], fun s' hs' k hk' => ?_, fun s' hs' hn' => ?_, fun k hk' => ?_⟩
                · rw [hmn] at hk'
                  rw [c14, m31]
                  by_cases z : s' = s
                  · rw [if_pos z] at hk'
                    rcases (show k = 0 ∨ k = 1 by omega) with rfl | rfl
                    · rw [if_neg (by omega), if_pos (by omega), if_neg (by omega), if_pos (by omega)]
                    · rw [if_pos (by omega), if_pos (by omega)]
                  · rw [if_neg z] at hk'
                    have := in8 s' hs'
                    rw [if_neg (by omega), if_neg (by omega), if_neg (by omega), if_neg (by omega)]
                    exact r3 s' hs' k hk'
                · rw [hmn] at hn'
                  rw [c16, c17, m32, m33]
                  by_cases z : s' = s
                  · rw [if_pos z, if_pos z, if_pos z, if_pos z]; exact ⟨rfl, rfl⟩
                  · rw [if_neg z] at hn'
                    rw [if_neg z, if_neg z, if_neg z, if_neg z]; exact r4 s' hs' hn'
                · rw [c11 k hk', m29, Bool.or_eq_true, r5 k hk']
                  by_cases dd : k = f ∨ k = g
                  · rw [if_pos dd, decide_eq_true dd]
                    exact ⟨fun _ => ⟨by omega, nI_ne_m1 (by omega)⟩, fun _ => Or.inr rfl⟩
                  · rw [if_neg dd, decide_eq_false dd]
                    exact ⟨fun u => u.elim id (fun v => absurd v (by decide)), fun u => Or.inl u⟩
              have m23 := mA 23 (by decide) (by decide) (by decide) (by decide) (by decide)
              have m26 := mA 26 (by decide) (by decide) (by decide) (by decide) (by decide)
              have m27 := mA 27 (by decide) (by decide) (by decide) (by decide) (by decide)
              have m28 := mA 28 (by decide) (by decide) (by decide) (by decide) (by decide)
              have m34 := mA 34 (by decide) (by decide) (by decide) (by decide) (by decide)
              have b1 : Ba c2 m1 := ⟨hB.wO.on m28, hB.wV.on m26 m27, W, hB.wT.on (by rw [mI]) m34, (hB.rP.on (cL 8 (by decide))).onM m23, (hB.rD.onC (cA 9 (by decide) (by decide) (by decide) (by decide) (by decide)) (cA 10 (by decide) (by decide) (by decide) (by decide) (by decide))).onM m23 (mA 24 (by decide) (by decide) (by decide) (by decide) (by decide)) (mA 25 (by decide) (by decide) (by decide) (by decide) (by decide)), (hB.rV.on (cA 11 (by decide) (by decide) (by decide) (by decide) (by decide))).onM m23 m26 m27, (hB.rO.on (cA 13 (by decide) (by decide) (by decide) (by decide) (by decide))).onM m28, R, (hB.rT.onC (by rw [cI]) (cA 108 (by decide) (by decide) (by decide) (by decide) (by decide))).onM (by rw [mI]) m34, hB.wG.on m26 m27⟩
              have a1' : RAl c2 m1 := hA.on (fun k _ _ => by rw [cI]) (fun a _ _ => cA a (by omega) (by omega) (by omega) (by omega) (by omega)) (fun k _ => cL k (by omega)) (fun a _ _ => mA a (by omega) (by omega) (by omega) (by omega) (by omega)) (by rw [mM])
              have j1 : RJ c2 m1 := hJ.on (by rw [cI]) (by rw [cI]) (by rw [mI]) (cA 20 (by decide) (by decide) (by decide) (by decide) (by decide)) (cA 21 (by decide) (by decide) (by decide) (by decide) (by decide)) (cA 22 (by decide) (by decide) (by decide) (by decide) (by decide)) (mA 41 (by decide) (by decide) (by decide) (by decide) (by decide))
              obtain ⟨c', m', e3, e4, i1, i2, i3, i4⟩ := fin_settle (c := c) (m := m) ⟨b1, a1', j1⟩ ⟨fun a _ _ => cA a (by omega) (by omega) (by omega) (by omega) (by omega), fun k _ _ => by rw [cI], by rw [cM]⟩ (FrC.ofM (fun a _ => mA a (by omega) (by omega) (by omega) (by omega) (by omega)) (fun k _ => by rw [mI]) (fun k => by rw [mL]) mM)
              rw [e3, e4]
              exact ⟨_, c', m', rfl, rfl, i1, i2, i3, fun _ => lo_nI (by decide) (by omega)⟩
          · rw [e, e', if_pos rfl, if_neg (nI_ne_m1 (by omega)), if_neg (by decide), if_neg (nI_pos (by omega))]
            exact h.err (-2) rfl rfl
        · rw [e, if_neg (nI_ne_m1 (by omega)), if_pos (nI_pos' (by omega))]
          exact h.err (-2) rfl rfl
