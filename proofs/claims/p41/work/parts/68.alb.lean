/-! ===== albums are made, changed, removed ===== -/
theorem freeA_eq {c m : Sx} (h : RAl c m) : f_X8_freeAlbum c = match fst? (fun k => !iA m k) 0 8 with
    | some k => some (nI k)
    | none => some (nI 8) := by
  unfold f_X8_freeAlbum
  exact find0 (L := fun n i => L_X8_freeAlbum_2 c (fun z2 => some z2) n i) (p := fun k => !iA m k) (N := 8) (by decide) (fun n => by
    show L_X8_freeAlbum_2 _ _ _ _ = _
    rw [L_X8_freeAlbum_2, if_pos (by decide)]) (fun n k hk => by
    show L_X8_freeAlbum_2 _ _ _ _ = _
    rw [L_X8_freeAlbum_2, if_neg (ngo (x := 8) (N := 8) rfl hk (by decide)), hasAlbum_eq h, alm_nI hk, Option.bind_some, nI_lit1]
    cases iA m k <;> rfl)
theorem makeM_eq (m : Sx) (kont : Int32 → Option (Int32 × Sx)) : L_X9_makeAlbum_2 m kont FU 0 = match fst? (fun k => !iA m k) 0 8 with
    | some k => kont (nI k)
    | none => kont (nI 8) := by
  exact find0 (L := fun n i => L_X9_makeAlbum_2 m kont n i) (p := fun k => !iA m k) (N := 8) (by decide) (fun n => by
    show L_X9_makeAlbum_2 _ _ _ _ = _
    rw [L_X9_makeAlbum_2, if_pos (by decide)]) (fun n k hk => by
    show L_X9_makeAlbum_2 _ _ _ _ = _
    rw [L_X9_makeAlbum_2, if_neg (ngo (x := 8) (N := 8) rfl hk (by decide)), gd_pos (vin_nI hk (by decide)), ix_nI (by omega), nI_lit1]
    cases q : iA m k with
    | false => rw [if_pos (by simpa [iA] using q)]; rfl
    | true => rw [if_neg (by simpa [iA] using q)]; rfl)
theorem fits_char {n : Nat} (h : n < 65536) : fits .char (.int (nI n)) = true := by
  show (decide ((0 : Int32) ≤ nI n) && decide (nI n ≤ (65535 : Int32))) = true
  rw [decide_eq_true (nI_pos' (by omega)), decide_eq_true (by rw [show (65535 : Int32) = nI 65535 from rfl]; exact nI_le (by omega) (by decide))]
  rfl
theorem follow_eq {c : Sx} {a n : Nat} {ch : Nat → Nat} (hT : Tx c 8 ch n) : ∃ c', f_X0_follow c a 8 = some c' ∧ (∀ k, k ≠ 100 + a → gA c' k = gA c k) ∧ (∀ k, k < n → gA c' (100 + a) k = nI (ch k)) ∧ (∀ k, gI c' k = if k = 150 + a then nI n else gI c k) ∧ gL c' = gL c ∧ gM c' = gM c := by
  obtain ⟨h80, e, hc, hok⟩ := hT
  unfold f_X0_follow f_X5_copy
  have x0 : ix 0 = 0 := rfl
  have xn : ix (nI n) = n := ix_nI (by omega)
  rw [e, xn, x0, gd_pos ⟨⟨by decide, by decide, nI_pos (by omega), by omega, by omega⟩, fun i hi => by rw [Nat.zero_add, hc i hi]; have := hok i hi; exact fits_char (by omega)⟩]
  simp only [bd_eq, Option.bind_some]
  refine ⟨_, rfl, fun k hk => ?_, fun k hk => ?_, fun k => ?_, rfl, rfl⟩
  · rw [gA_pI, gA_pW, if_neg hk]
  · rw [gA_pI, gA_pW, if_pos rfl]
    unfold va_cpy
    rw [if_pos ⟨by omega, by omega⟩, show 0 + (k - 0) = k by omega]
    exact hc k hk
  · rw [gI_pI, gI_pW]
    split
    · exact e
    · rfl
theorem rules_eq {m : Sx} (h : WTxt m) {a : Nat} (ha : a < 8) : ∃ m', f_X9_rules m (nI a) = some m' ∧ (∀ k, k ≠ 36 → k ≠ 37 → gA m' k = gA m k) ∧ (∀ i, gA m' 36 i = if i = a then nI (tpd m) else gA m 36 i) ∧ (∀ k, k < tpd m → gA m' 37 (80 * a + k) = nI (tch m k)) ∧ (∀ i, i < 80 * a ∨ 80 * a + 80 ≤ i → gA m' 37 i = gA m 37 i) ∧ gI m' = gI m ∧ gL m' = gL m ∧ gM m' = gM m := by
  unfold f_X9_rules
  obtain ⟨n80, et⟩ := wTxt_n h
  rw [gd_pos (vin_nI ha (by decide)), bd_eq, ix_nI (by omega), et]
  obtain ⟨y, ⟨hy, e, e2⟩, r⟩ := loop0 (L := fun i x s => L_X9_rules_12 (nI a) (fun z3 t4 => some t4) i x s) (E := fun s => some s) (N := tpd m) (by omega) (y := pA m 36 a (nI (tpd m)))
    (fun k s => OnA 37 (pA m 36 a (nI (tpd m))) s ∧ (∀ j, j < k → gA s 37 (80 * a + j) = nI (tch m j)) ∧ ∀ i, i < 80 * a ∨ 80 * a + 80 ≤ i → gA s 37 i = gA m 37 i)
    (fun i s h2 => by
      show L_X9_rules_12 _ _ _ _ _ = _
      rw [L_X9_rules_12, h2.1.2.1, gI_pA, et, if_pos (nI_le (Nat.le_refl _) (by omega))])
    (fun k s hk h2 => by
      obtain ⟨c1, c2, e34⟩ := wTxt_c h hk
      have e34' : gA s 34 k = nI (tch m k) := by rw [h2.1.1 34 (by decide), gA_pA_ne (by decide)]; exact e34
      refine ⟨pA s 37 (80 * a + k) (nI (tch m k)), ⟨h2.1.pA _ _, fun j hj => ?_, fun i hi => ?_⟩, fun i => ?_⟩
      · rw [gA_pA_at]
        by_cases q : j = k
        · rw [if_pos (by omega), q]
        · rw [if_neg (by omega)]; exact h2.2.1 j (by omega)
      · rw [gA_pA_at, if_neg (by omega)]; exact h2.2.2 i hi
      · show L_X9_rules_12 _ _ _ _ _ = _
        rw [L_X9_rules_12, h2.1.2.1, gI_pA, et, if_neg (by rw [nI_le_iff (by omega) (by omega)]; omega), gd_pos (vin_nI (by omega) (by decide)), ix_nI (by omega), e34', gd_pos (gch_nI (by omega)), i80a, gd_pos (vin_nI (by omega) (by decide)), bd_eq, ix_nI (by omega), nI_lit1])
    ⟨OnA.rf _ _, fun j hj => absurd hj (by omega), fun i _ => by rw [gA_pA_ne (by decide)]⟩
  refine ⟨y, r, fun k h1 h2 => by rw [hy.1 k h2, gA_pA_ne h1], fun i => by rw [hy.1 36 (by decide), gA_pA_at], e, e2, by rw [hy.2.1]; rfl, by rw [hy.2.2.1]; rfl, by rw [hy.2.2.2]; rfl⟩
/-- Ba behind changes that touch albums alone -/
theorem Ba.al {c c1 m m1 : Sx} (h : Ba c m) (cA : ∀ k, k < 19 → gA c1 k = gA c k) (c108 : gA c1 108 = gA c 108) (cI : gI c1 158 = gI c 158) (cL : ∀ k, k < 100 → gL c1 k = gL c k) (mA : ∀ a, a < 35 → gA m1 a = gA m a) (m52 : gI m1 52 = gI m 52) : Ba c1 m1 := by
  have k := fun (a : Nat) (ha : a < 35) => mA a ha
  exact ⟨h.wO.on (k 28 (by decide)), h.wV.on (k 26 (by decide)) (k 27 (by decide)), h.wS.on (k 23 (by decide)) (k 29 (by decide)) (k 30 (by decide)) (k 31 (by decide)) (k 32 (by decide)), h.wT.on m52 (k 34 (by decide)), (h.rP.on (cL 8 (by decide))).onM (k 23 (by decide)), (h.rD.onC (cA 9 (by decide)) (cA 10 (by decide))).onM (k 23 (by decide)) (k 24 (by decide)) (k 25 (by decide)), (h.rV.on (cA 11 (by decide))).onM (k 23 (by decide)) (k 26 (by decide)) (k 27 (by decide)), (h.rO.on (cA 13 (by decide))).onM (k 28 (by decide)), (h.rS.onC (cA 14 (by decide)) (cA 15 (by decide)) (cA 16 (by decide)) (cA 17 (by decide)) (cA 18 (by decide)) (cL 11 (by decide))).onM (k 29 (by decide)) (k 30 (by decide)) (k 31 (by decide)) (k 32 (by decide)) (k 33 (by decide)), (h.rT.onC cI c108).onM m52 (k 34 (by decide)), h.wG.on (k 26 (by decide)) (k 27 (by decide))⟩
theorem make_one {c m : Sx} (h : Inv c m) {a0 : Nat} (ef0 : fst? (fun k => !iA m k) 0 8 = some a0) (u0 : usb m a0) : ∃ c' m', f_X8_makeAlbum c = some (nI a0, c') ∧ f_X9_makeAlbum m = some (nI a0, m') ∧ Inv c' m' ∧ (Xs m → Xs m') ∧ (∀ k, k < 35 → gA m' k = gA m k) ∧ gI m' 52 = gI m 52 ∧ (∀ i, gA m' 35 i = if i = a0 then 1 else gA m 35 i) ∧ (∀ i, gA m' 36 i = if i = a0 then nI (tpd m) else gA m 36 i) ∧ (∀ k, k < tpd m → gA m' 37 (80 * a0 + k) = nI (tch m k)) ∧ (∀ i, i < 80 * a0 ∨ 80 * a0 + 80 ≤ i → gA m' 37 i = gA m 37 i) ∧ (∀ i, gA m' 38 i = if i = a0 then 1 else gA m 38 i) ∧ (∀ i, gA m' 39 i = if i = a0 then 1 else gA m 39 i) := by
  unfold f_X8_makeAlbum f_X9_makeAlbum
  rw [freeA_eq h.2.2.1, makeM_eq]
  cases ef : fst? (fun k => !iA m k) 0 8 with
  | none => rw [ef0] at ef; cases ef
  | some a =>
    obtain rfl : a = a0 := Option.some.inj (ef.symm.trans ef0)
    obtain ⟨-, ha, hna, -⟩ := fst?_some ef
    have ha : a < 8 := by omega
    have hnA : iA m a = false := by simpa using hna
    have g : vp_in (nI a) 8 := vin_nI ha (by decide)
    have xa : ix (nI a) = a := ix_nI (by omega)
    dsimp only
    obtain ⟨m1, e1, o1, hX⟩ := isRule_eq h.1.wT (b := a) (by omega)
    rw [Option.bind_some, usable_eq h.1 h.2.2.1 (by omega), e1]
    simp only [Option.bind_some]
    cases u : pb (usb m a) with
    | false => rw [pb_iff.mpr u0] at u; cases u
    | true =>
      have n8 : ¬ nI a = 8 := by rw [nb8, nI_eq_iff (by omega) (by decide)]; omega
      have u' := pb_iff.mp u
      obtain ⟨hB, hD, hA, hJ, hM⟩ := o1.inv h
      have et : tpd m1 = tpd m := by unfold tpd; rw [o1.2.1 52 (by decide)]
      have ec : tch m1 = tch m := by funext k; unfold tch; rw [o1.1 34 (by decide)]
      have iAe : iA m1 = iA m := iA_on (o1.1 35 (by decide))
      -- the class's new album
      unfold f_X0_begin f_X0_sort
      have z1 : gz 1 := Or.inr rfl
      simp only [bd_eq, gd_pos z1, Option.bind_some]
      have hT1 : Tx (pI (pI (pI (pI (pL (pI c (100 + a) 1) (100 + a) 0) (130 + a) 0) (140 + a) 0) (110 + a) 1) (120 + a) 1) 8 (tch m1) (tpd m1) := by
        have t := tx_of hB.wT hB.rT
        refine ⟨t.1, ?_, t.2.2.1, t.2.2.2⟩
        rw [gI_pI, if_neg (by omega), gI_pI, if_neg (by omega), gI_pI, if_neg (by omega), gI_pI, if_neg (by omega), gI_pL, gI_pI, if_neg (by omega)]
        exact t.2.1
      obtain ⟨c2, e2, cA, ck, cI0, cL0, cM⟩ := follow_eq (a := a) hT1
      have cI : ∀ k, k ≠ 100 + a → k ≠ 110 + a → k ≠ 120 + a → k ≠ 130 + a → k ≠ 140 + a → k ≠ 150 + a → gI c2 k = gI c k := fun k v1 v2 v3 v4 v5 v6 => by
        rw [cI0, if_neg v6, gI_pI, if_neg v3, gI_pI, if_neg v2, gI_pI, if_neg v5, gI_pI, if_neg v4, gI_pL, gI_pI, if_neg v1]
      have c100 : gI c2 (100 + a) = 1 := by rw [cI0, if_neg (by omega), gI_pI, if_neg (by omega), gI_pI, if_neg (by omega), gI_pI, if_neg (by omega), gI_pI, if_neg (by omega), gI_pL, gI_pI, if_pos rfl]
      have c110 : gI c2 (110 + a) = 1 := by rw [cI0, if_neg (by omega), gI_pI, if_neg (by omega), gI_pI, if_pos rfl]
      have c120 : gI c2 (120 + a) = 1 := by rw [cI0, if_neg (by omega), gI_pI, if_pos rfl]
      have c130 : gI c2 (130 + a) = 0 := by rw [cI0, if_neg (by omega), gI_pI, if_neg (by omega), gI_pI, if_neg (by omega), gI_pI, if_neg (by omega), gI_pI, if_pos rfl]
      have c140 : gI c2 (140 + a) = 0 := by rw [cI0, if_neg (by omega), gI_pI, if_neg (by omega), gI_pI, if_neg (by omega), gI_pI, if_pos rfl]
      have c150 : gI c2 (150 + a) = nI (tpd m1) := by rw [cI0, if_pos rfl]
      have cL : ∀ k, gL c2 k = if k = 100 + a then 0 else gL c k := fun k => by rw [cL0]; rfl
      have cA' : ∀ k, k ≠ 100 + a → gA c2 k = gA c k := fun k hk => by rw [cA k hk]; rfl
      have cM' : gM c2 = gM c := by rw [cM]; rfl
      -- the reference's
      obtain ⟨m2, e3, mA, m36, m37, m37', mI, mL, mM⟩ := rules_eq hB.wT ha
      have e2a : (2 * nI a) = nI (2 * a) := by rw [show (2 : Int32) = nI 2 from rfl, nI_mul]
      have g16 : vp_in (nI (2 * a)) 16 := vin_nI (by omega) (by decide)
      have g16' : vp_in (nI (2 * a + 1)) 16 := vin_nI (by omega) (by decide)
      rw [bT, bT, if_neg n8, if_neg n8, gd_pos g, xa, e2, e3]
      simp only [Option.bind_some, gd_pos g, bd_eq, e2a, nI_lit1, gd_pos g16, gd_pos g16', ix_nI (show 2 * a < 2 ^ 31 by omega), ix_nI (show 2 * a + 1 < 2 ^ 31 by omega)]
      have r35 : ∀ i, gA (pA (pA (pA (pA (pM (pA m2 35 a 1) 2 a 0) 38 a 1) 39 a 1) 40 (2 * a) 0) 40 (2 * a + 1) 0) 35 i = if i = a then 1 else gA m 35 i := fun i => by
        rw [gA_pA_ne (by decide), gA_pA_ne (by decide), gA_pA_ne (by decide), gA_pA_ne (by decide), gA_pM, gA_pA_at, mA 35 (by decide) (by decide), o1.1 35 (by decide)]
      have r38 : ∀ i, gA (pA (pA (pA (pA (pM (pA m2 35 a 1) 2 a 0) 38 a 1) 39 a 1) 40 (2 * a) 0) 40 (2 * a + 1) 0) 38 i = if i = a then 1 else gA m 38 i := fun i => by
        rw [gA_pA_ne (by decide), gA_pA_ne (by decide), gA_pA_ne (by decide), gA_pA_at, gA_pM, gA_pA_ne (by decide), mA 38 (by decide) (by decide), o1.1 38 (by decide)]
      have r39 : ∀ i, gA (pA (pA (pA (pA (pM (pA m2 35 a 1) 2 a 0) 38 a 1) 39 a 1) 40 (2 * a) 0) 40 (2 * a + 1) 0) 39 i = if i = a then 1 else gA m 39 i := fun i => by
        rw [gA_pA_ne (by decide), gA_pA_ne (by decide), gA_pA_at, gA_pA_ne (by decide), gA_pM, gA_pA_ne (by decide), mA 39 (by decide) (by decide), o1.1 39 (by decide)]
      have r40 : ∀ i, gA (pA (pA (pA (pA (pM (pA m2 35 a 1) 2 a 0) 38 a 1) 39 a 1) 40 (2 * a) 0) 40 (2 * a + 1) 0) 40 i = if i = 2 * a + 1 then 0 else if i = 2 * a then 0 else gA m 40 i := fun i => by
        rw [gA_pA_at, gA_pA_at, gA_pA_ne (by decide), gA_pA_ne (by decide), gA_pM, gA_pA_ne (by decide), mA 40 (by decide) (by decide), o1.1 40 (by decide)]
      have r36 : ∀ i, gA (pA (pA (pA (pA (pM (pA m2 35 a 1) 2 a 0) 38 a 1) 39 a 1) 40 (2 * a) 0) 40 (2 * a + 1) 0) 36 i = if i = a then nI (tpd m1) else gA m 36 i := fun i => by
        rw [gA_pA_ne (by decide), gA_pA_ne (by decide), gA_pA_ne (by decide), gA_pA_ne (by decide), gA_pM, gA_pA_ne (by decide), m36, o1.1 36 (by decide)]
      have r37 : gA (pA (pA (pA (pA (pM (pA m2 35 a 1) 2 a 0) 38 a 1) 39 a 1) 40 (2 * a) 0) 40 (2 * a + 1) 0) 37 = gA m2 37 := by
        rw [gA_pA_ne (by decide), gA_pA_ne (by decide), gA_pA_ne (by decide), gA_pA_ne (by decide), gA_pM, gA_pA_ne (by decide)]
      have rA : ∀ k, k < 35 ∨ 40 < k ∧ k ≠ 45 → gA (pA (pA (pA (pA (pM (pA m2 35 a 1) 2 a 0) 38 a 1) 39 a 1) 40 (2 * a) 0) 40 (2 * a + 1) 0) k = gA m k := fun k hk => by
        rw [gA_pA_ne (by omega), gA_pA_ne (by omega), gA_pA_ne (by omega), gA_pA_ne (by omega), gA_pM, gA_pA_ne (by omega), mA k (by omega) (by omega), o1.1 k (by omega)]
      have rI : ∀ k, k ≠ 55 → gI (pA (pA (pA (pA (pM (pA m2 35 a 1) 2 a 0) 38 a 1) 39 a 1) 40 (2 * a) 0) 40 (2 * a + 1) 0) k = gI m k := fun k hk => by
        show gI m2 k = _; rw [mI, o1.2.1 k hk]
      have rM : ∀ i, gM (pA (pA (pA (pA (pM (pA m2 35 a 1) 2 a 0) 38 a 1) 39 a 1) 40 (2 * a) 0) 40 (2 * a + 1) 0) 2 i = if i = a then 0 else gM m 2 i := fun i => by
        rw [gM_pA, gM_pA, gM_pA, gM_pA, gM_pM_at, gM_pA, mM, o1.2.2.2]
      generalize pA (pA (pA (pA (pM (pA m2 35 a 1) 2 a 0) 38 a 1) 39 a 1) 40 (2 * a) 0) 40 (2 * a + 1) 0 = m3 at r35 r36 r37 r38 r39 r40 rA rI rM
      have iA3 : ∀ b, iA m3 b = if b = a then true else iA m b := fun b => by
        unfold iA; rw [r35]; split <;> rfl
      obtain ⟨hB0, hD0, hA0, hJ0, hM0⟩ := h
      have b3 : Ba c2 m3 := hB0.al (fun k hk => cA' k (by omega)) (cA' 108 (by omega)) (cI 158 (by omega) (by omega) (by omega) (by omega) (by omega) (by omega)) (fun k hk => by rw [cL, if_neg (by omega)]) (fun k hk => rA k (Or.inl hk)) (rI 52 (by decide))
      have a3 : RAl c2 m3 := fun b hb => by
        rw [iA3]
        by_cases z : b = a
        · subst z
          rw [if_pos rfl, c100]
          refine ⟨rfl, fun _ => ⟨⟨tch m1, tpd m1, ⟨(wTxt_n hB.wT).1, c150, ck, wTxt_ok hB.wT⟩, by rw [r36, if_pos rfl], by rw [r37]; exact m37, by rw [et, ec]; exact u'.1, fun p hp e => ?_⟩, ?_, ⟨1, by omega, c110, by rw [r38, if_pos rfl]; rfl⟩, ?_, ?_, ?_⟩⟩
          · rw [et] at hp
            rw [ec] at e ⊢
            obtain ⟨v1, v2, v3⟩ := u'.2 p hp e
            rw [iA3, if_neg (by omega)]
            exact ⟨v2, v3⟩
          · rw [cL, if_pos rfl, rM, if_pos rfl]
          · rw [c120, r39, if_pos rfl]; rfl
          · rw [c130, r40, if_pos rfl]
          · rw [c140, r40, if_neg (by omega), if_pos rfl]
        · rw [if_neg z, cI _ (by omega) (by omega) (by omega) (by omega) (by omega) (by omega)]
          refine ⟨(hA0 b hb).1, fun hAb => ?_⟩
          obtain ⟨⟨ch, n, w1, w2, w3, w4, w5⟩, d1, ⟨f, d2, d2', d2''⟩, d3, d4, d5⟩ := (hA0 b hb).2 hAb
          refine ⟨⟨ch, n, ⟨w1.1, by rw [cI _ (by omega) (by omega) (by omega) (by omega) (by omega) (by omega)]; exact w1.2.1, fun k hk => by rw [cA' _ (by omega)]; exact w1.2.2.1 k hk, w1.2.2.2⟩, by rw [r36, if_neg z]; exact w2, fun k hk => ?_, w4, fun p hp e => ?_⟩, ?_, ⟨f, d2, ?_, ?_⟩, ?_, ?_, ?_⟩
          · have := w1.1
            rw [r37, m37' _ (by omega), o1.1 37 (by decide)]; exact w3 k hk
          · obtain ⟨v1, v2⟩ := w5 p hp e
            refine ⟨v1, ?_⟩
            rw [iA3]; split
            · rfl
            · exact v2
          · rw [cL, if_neg (by omega), rM, if_neg z]; exact d1
          · rw [cI _ (by omega) (by omega) (by omega) (by omega) (by omega) (by omega)]; exact d2'
          · rw [r38, if_neg z]; exact d2''
          · rw [cI _ (by omega) (by omega) (by omega) (by omega) (by omega) (by omega), r39, if_neg z]; exact d3
          · rw [cI _ (by omega) (by omega) (by omega) (by omega) (by omega) (by omega), r40, if_neg (by omega), if_neg (by omega)]; exact d4
          · rw [cI _ (by omega) (by omega) (by omega) (by omega) (by omega) (by omega), r40, if_neg (by omega), if_neg (by omega)]; exact d5
      have j3 : RJ c2 m3 := hJ0.on (cI 49 (by omega) (by omega) (by omega) (by omega) (by omega) (by omega)) (cI 50 (by omega) (by omega) (by omega) (by omega) (by omega) (by omega)) (rI 53 (by decide)) (cA' 20 (by omega)) (cA' 21 (by omega)) (cA' 22 (by omega)) (rA 41 (Or.inr ⟨by decide, by decide⟩))
      obtain ⟨c', m', p1, p2, i1, i2, i3, i4⟩ := fin_settle (c := c2) (m := m3) ⟨b3, a3, j3⟩ (FrM.rf _) (FrC.rf _)
      rw [p1, p2]
      refine ⟨c', m', rfl, rfl, i1, fun w => i3.2.2.2.2.2 ⟨fun b hb8 hAb => ?_, by unfold Dg; rw [rA 24 (Or.inl (by decide))]; exact w.2.1, by unfold Op; rw [rA 28 (Or.inl (by decide))]; exact w.2.2⟩, fun k hk => (i4.1 k (by omega)).trans (rA k (Or.inl hk)), i4.2.trans (rI 52 (by decide)), fun i => by rw [i4.1 35 (by decide), r35], fun i => by rw [i4.1 36 (by decide), r36, et], fun k hk => by rw [i4.1 37 (by decide), r37, m37 k (by rw [et]; exact hk), ec], fun i hi => by rw [i4.1 37 (by decide), r37, m37' i hi, o1.1 37 (by decide)], fun i => by rw [i4.1 38 (by decide), r38], fun i => by rw [i4.1 39 (by decide), r39]⟩
      rw [iA3] at hAb
      rw [r40, r40, rM]
      by_cases z : b = a
      · rw [if_pos (by omega), if_neg (by omega), if_pos (by omega), if_pos z]
        show (0 : Int32) - 0 = nI (fb_ct (hb 0) 40)
        decide +kernel
      · rw [if_neg z] at hAb
        rw [if_neg (by omega), if_neg (by omega), if_neg (by omega), if_neg (by omega), if_neg z]
        exact w.1 b hb8 hAb
