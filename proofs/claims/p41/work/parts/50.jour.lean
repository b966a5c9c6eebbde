/-! ===== the journal: a ring here, a shift there ===== -/
def row (lt i : Nat) : Nat := (lt + 24 - i) % 24
/-- both journals tell the same, the latest first -/
def RJ (c m : Sx) : Prop := ∃ e lt, e ≤ 24 ∧ lt < 24 ∧ gI c 49 = nI e ∧ gI m 53 = nI e ∧ gI c 50 = nI lt ∧ ∀ i, i < e → gA c 20 (row lt i) = gA m 41 (3 * i) ∧ gA c 21 (row lt i) = gA m 41 (3 * i + 1) ∧ gA c 22 (row lt i) = gA m 41 (3 * i + 2) ∧ gz (gA m 41 (3 * i + 2))
theorem lat_tab : ∀ lt, lt < 24 → ((nI lt + 1) - (nI lt + 1) / 24 * 24) = nI ((lt + 1) % 24) := by decide +kernel
theorem note_eq {c : Sx} {e lt a f : Nat} {j : Bool} (he : e ≤ 24) (hl : lt < 24) (e49 : gI c 49 = nI e) (e50 : gI c 50 = nI lt) : ∃ c', f_X3_note c (nI a) (nI f) (b2 j) = some c' ∧ (∀ k, k ≠ 49 → k ≠ 50 → gI c' k = gI c k) ∧ gL c' = gL c ∧ gM c' = gM c ∧ (∀ k, k ≠ 20 → k ≠ 21 → k ≠ 22 → gA c' k = gA c k) ∧ gI c' 49 = nI (if e < 24 then e + 1 else 24) ∧ gI c' 50 = nI ((lt + 1) % 24) ∧ ∀ i, gA c' 20 i = (if i = (lt + 1) % 24 then nI a else gA c 20 i) ∧ gA c' 21 i = (if i = (lt + 1) % 24 then nI f else gA c 21 i) ∧ gA c' 22 i = (if i = (lt + 1) % 24 then b2 j else gA c 22 i) := by
  have hm : (lt + 1) % 24 < 24 := Nat.mod_lt _ (by decide)
  have g24 : vp_in (nI ((lt + 1) % 24)) 24 := vin_nI hm (by decide)
  have hix : ix (nI ((lt + 1) % 24)) = (lt + 1) % 24 := ix_nI (by omega)
  unfold f_X3_note
  rw [gd_pos (by decide), bd_eq, e50, lat_tab lt hl]
  simp only [bd_eq, gI_pA, gI_pI, if_true, show ¬ (49 : Nat) = 50 by decide, if_false]
  rw [gd_pos g24, gd_pos g24, gd_pos (gz_b2 j), gd_pos g24, hix, e49, nI_lit1]
  refine ⟨_, rfl, ?_, ?_, ?_, ?_, ?_, ?_, ?_⟩
  · intro k h1 h2
    rw [gI_pI, if_neg h1, gI_pA, gI_pA, gI_pA, gI_pI, if_neg h2]
  · rfl
  · rfl
  · intro k h1 h2 h3
    rw [gA_pI, gA_pA_ne h3, gA_pA_ne h2, gA_pA_ne h1, gA_pI]
  · rw [gI_pI, if_pos rfl]
    have := lt_lit (N := 24) (k := e + 1) (x := 24) rfl (by decide) (by omega)
    by_cases q : e < 24
    · rw [if_neg (by rw [this]; omega), if_pos q]
    · rw [if_pos (by rw [this]; omega), if_neg q]; rfl
  · rw [gI_pI, if_neg (by decide), gI_pA, gI_pA, gI_pA, gI_pI, if_pos rfl]
  · intro i
    refine ⟨?_, ?_, ?_⟩
    · rw [gA_pI, gA_pA_ne (by decide), gA_pA_ne (by decide), gA_pA_at, gA_pI]
    · rw [gA_pI, gA_pA_ne (by decide), gA_pA_at, gA_pA_ne (by decide), gA_pI]
    · rw [gA_pI, gA_pA_at, gA_pA_ne (by decide), gA_pA_ne (by decide), gA_pI]
theorem m1_lt {k : Nat} (hk : k < 2000) : (nI k + (-1) < 0) ↔ k = 0 := by
  by_cases q : k = 0
  · subst q; exact ⟨fun _ => rfl, fun _ => by decide⟩
  · rw [nI_sub1 (by omega)]
    exact ⟨fun w => absurd w (nI_pos (by omega)), fun w => absurd w q⟩
theorem L_notes {m : Sx} (b1 b2 b3 b4 : Int32) {la : Nat} (hla : la ≤ 23) (kont : Int32 → Sx → Option Sx) : ∀ (k fu : Nat) (y : Sx), k ≤ 3 * la → k < fu → OnA 41 m y → (∀ i, gA y 41 i = if k + 3 ≤ i ∧ i < 3 * la + 3 then gA m 41 (i - 3) else gA m 41 i) → ∃ y', L_X9_notes_28 b1 b2 b3 b4 kont fu (nI k + (-1)) y = kont (-1) y' ∧ OnA 41 m y' ∧ ∀ i, gA y' 41 i = if 3 ≤ i ∧ i < 3 * la + 3 then gA m 41 (i - 3) else gA m 41 i := by
  intro k
  induction k with
  | zero =>
    intro fu y hk hfu ho hy
    obtain ⟨fu, rfl⟩ : ∃ r, fu = r + 1 := ⟨fu - 1, by omega⟩
    exact ⟨y, by rw [L_X9_notes_28, if_pos (by decide)]; rfl, ho, fun i => by rw [hy i, Nat.zero_add]⟩
  | succ k ih =>
    intro fu y hk hfu ho hy
    obtain ⟨fu, rfl⟩ : ∃ r, fu = r + 1 := ⟨fu - 1, by omega⟩
    rw [L_X9_notes_28, if_neg (fun w => by have := (m1_lt (by omega)).mp w; omega), nI_sub1 (by omega), Nat.add_sub_cancel, show nI k + 3 = nI (k + 3) by rw [show (3 : Int32) = nI 3 from rfl, nI_add], gd_pos (vin_nI (by omega) (by decide)), gd_pos (vin_nI (by omega) (by decide)), ix_nI (by omega), ix_nI (by omega), bd_eq]
    refine ih fu _ (by omega) (by omega) (ho.pA _ _) (fun i => ?_)
    have hyk : gA y 41 k = gA m 41 k := by rw [hy k, if_neg (by omega)]
    rw [gA_pA_at, hyk]
    by_cases q : i = k + 3
    · rw [if_pos q, if_pos ⟨by omega, by omega⟩, q, Nat.add_sub_cancel]
    · rw [if_neg q, hy i]
      by_cases q2 : k + 1 + 3 ≤ i ∧ i < 3 * la + 3
      · rw [if_pos q2, if_pos ⟨by omega, q2.2⟩]
      · rw [if_neg q2, if_neg (by omega)]
theorem notes_eq {m : Sx} {e a f : Nat} {j : Bool} (he : e ≤ 24) (ha : a < 8) (e53 : gI m 53 = nI e) : ∃ m', f_X9_notes m (nI a) (nI f) (b2 j) = some m' ∧ (∀ k, k ≠ 53 → gI m' k = gI m k) ∧ gL m' = gL m ∧ gM m' = gM m ∧ (∀ k, k ≠ 40 → k ≠ 41 → gA m' k = gA m k) ∧ gI m' 53 = nI (if e < 24 then e + 1 else 24) ∧ (∀ i, gA m' 40 i = if i = 2 * a + (if j = true then 1 else 0) then gA m 40 i + 1 else gA m 40 i) ∧ ∀ i, gA m' 41 i = if i = 0 then nI a else if i = 1 then nI f else if i = 2 then b2 j else if i < 3 * (if e < 24 then e else 23) + 3 then gA m 41 (i - 3) else gA m 41 i := by
  have eb : b2 j = nI (if j = true then 1 else 0) := by cases j <;> rfl
  have hmv : (2 * nI a) + b2 j = nI (2 * a + (if j = true then 1 else 0)) := by
    rw [eb, show (2 : Int32) = nI 2 from rfl, nI_mul, nI_add]
  have hj : (if j = true then 1 else 0) < 2 := by cases j <;> decide
  have hi : ix (nI (2 * a + (if j = true then 1 else 0))) = 2 * a + (if j = true then 1 else 0) := ix_nI (by omega)
  have g16 : vp_in (nI (2 * a + (if j = true then 1 else 0))) 16 := vin_nI (by omega) (by decide)
  have g0 : vp_in 0 72 := vin_nI (n := 0) (by decide) (by decide)
  have g1 : vp_in 1 72 := vin_nI (n := 1) (by decide) (by decide)
  have g2 : vp_in 2 72 := vin_nI (n := 2) (by decide) (by decide)
  have fin : ∀ (la : Nat) (y : Sx), OnA 41 m y → (∀ i, gA y 41 i = if 3 ≤ i ∧ i < 3 * la + 3 then gA m 41 (i - 3) else gA m 41 i) → ∀ v : Int32, (∀ k, k ≠ 53 → gI (pA (pI (pA (pA (pA y 41 0 (nI a)) 41 1 (nI f)) 41 2 (b2 j)) 53 v) 40 (2 * a + (if j = true then 1 else 0)) (gA m 40 (2 * a + (if j = true then 1 else 0)) + 1)) k = gI m k) ∧ gL (pA (pI (pA (pA (pA y 41 0 (nI a)) 41 1 (nI f)) 41 2 (b2 j)) 53 v) 40 (2 * a + (if j = true then 1 else 0)) (gA m 40 (2 * a + (if j = true then 1 else 0)) + 1)) = gL m ∧ gM (pA (pI (pA (pA (pA y 41 0 (nI a)) 41 1 (nI f)) 41 2 (b2 j)) 53 v) 40 (2 * a + (if j = true then 1 else 0)) (gA m 40 (2 * a + (if j = true then 1 else 0)) + 1)) = gM m ∧ (∀ k, k ≠ 40 → k ≠ 41 → gA (pA (pI (pA (pA (pA y 41 0 (nI a)) 41 1 (nI f)) 41 2 (b2 j)) 53 v) 40 (2 * a + (if j = true then 1 else 0)) (gA m 40 (2 * a + (if j = true then 1 else 0)) + 1)) k = gA m k) ∧ gI (pA (pI (pA (pA (pA y 41 0 (nI a)) 41 1 (nI f)) 41 2 (b2 j)) 53 v) 40 (2 * a + (if j = true then 1 else 0)) (gA m 40 (2 * a + (if j = true then 1 else 0)) + 1)) 53 = v ∧ (∀ i, gA (pA (pI (pA (pA (pA y 41 0 (nI a)) 41 1 (nI f)) 41 2 (b2 j)) 53 v) 40 (2 * a + (if j = true then 1 else 0)) (gA m 40 (2 * a + (if j = true then 1 else 0)) + 1)) 40 i = if i = 2 * a + (if j = true then 1 else 0) then gA m 40 i + 1 else gA m 40 i) ∧ ∀ i, gA (pA (pI (pA (pA (pA y 41 0 (nI a)) 41 1 (nI f)) 41 2 (b2 j)) 53 v) 40 (2 * a + (if j = true then 1 else 0)) (gA m 40 (2 * a + (if j = true then 1 else 0)) + 1)) 41 i = if i = 0 then nI a else if i = 1 then nI f else if i = 2 then b2 j else if i < 3 * la + 3 then gA m 41 (i - 3) else gA m 41 i := by
    intro la y ho hy v
    refine ⟨fun k hk => ?_, ?_, ?_, fun k h1 h2 => ?_, ?_, fun i => ?_, fun i => ?_⟩
    · rw [gI_pA, gI_pI, if_neg hk, gI_pA, gI_pA, gI_pA, ho.2.1]
    · show gL y = gL m; exact ho.2.2.1
    · show gM y = gM m; exact ho.2.2.2
    · rw [gA_pA_ne h1, gA_pI, gA_pA_ne h2, gA_pA_ne h2, gA_pA_ne h2, ho.1 k h2]
    · rw [gI_pA, gI_pI, if_pos rfl]
    · rw [gA_pA_at, gA_pI, gA_pA_ne (by decide), gA_pA_ne (by decide), gA_pA_ne (by decide), ho.1 40 (by decide)]
      by_cases q : i = 2 * a + (if j = true then 1 else 0)
      · rw [if_pos q, if_pos q, q]
      · rw [if_neg q, if_neg q]
    · rw [gA_pA_ne (by decide), gA_pI, gA_pA_at, gA_pA_at, gA_pA_at, hy i]
      by_cases q0 : i = 0
      · subst q0; rfl
      · by_cases q1 : i = 1
        · subst q1; rfl
        · by_cases q2 : i = 2
          · subst q2; rfl
          · rw [if_neg q2, if_neg q1, if_neg q0, if_neg q0, if_neg q1, if_neg q2]
            by_cases q3 : i < 3 * la + 3
            · rw [if_pos ⟨by omega, q3⟩, if_pos q3]
            · rw [if_neg (fun w => q3 w.2), if_neg q3]
  have run : ∀ (la : Nat) (bb v : Int32), la ≤ 23 → ∃ y, OnA 41 m y ∧ (∀ i, gA y 41 i = if 3 ≤ i ∧ i < 3 * la + 3 then gA m 41 (i - 3) else gA m 41 i) ∧ L_X9_notes_28 (nI a) (nI f) (b2 j) bb (fun z2 t3 => gd (vp_in 0 72) (bd (pA t3 41 (ix 0) (nI a)) fun t4 => gd (vp_in 1 72) (bd (pA t4 41 (ix 1) (nI f)) fun t5 => gd (vp_in 2 72) (bd (pA t5 41 (ix 2) (b2 j)) fun t6 => bd (pI t6 53 v) fun t7 => gd (vp_in ((2 * nI a) + b2 j) 16) (gd (vp_in ((2 * nI a) + b2 j) 16) (bd (pA t7 40 (ix ((2 * nI a) + b2 j)) ((gA t7 40 (ix ((2 * nI a) + b2 j))) + 1)) fun t8 => some t8)))))) FU (nI (3 * la) + (-1)) m = some (pA (pI (pA (pA (pA y 41 0 (nI a)) 41 1 (nI f)) 41 2 (b2 j)) 53 v) 40 (2 * a + (if j = true then 1 else 0)) (gA m 40 (2 * a + (if j = true then 1 else 0)) + 1)) := by
    intro la bb v hla
    obtain ⟨y, e1, h1, h2⟩ := L_notes (m := m) (nI a) (nI f) (b2 j) bb hla (fun z2 t3 => gd (vp_in 0 72) (bd (pA t3 41 (ix 0) (nI a)) fun t4 => gd (vp_in 1 72) (bd (pA t4 41 (ix 1) (nI f)) fun t5 => gd (vp_in 2 72) (bd (pA t5 41 (ix 2) (b2 j)) fun t6 => bd (pI t6 53 v) fun t7 => gd (vp_in ((2 * nI a) + b2 j) 16) (gd (vp_in ((2 * nI a) + b2 j) 16) (bd (pA t7 40 (ix ((2 * nI a) + b2 j)) ((gA t7 40 (ix ((2 * nI a) + b2 j))) + 1)) fun t8 => some t8)))))) (3 * la) FU m (Nat.le_refl _) (by rw [FU_eq]; omega) (OnA.rf _ _) (fun i => by rw [if_neg (by omega)])
    refine ⟨y, h1, h2, ?_⟩
    rw [e1]
    simp only [bd_eq]
    rw [gd_pos g0, gd_pos g1, gd_pos g2, hmv, gd_pos g16, gd_pos g16, hi]
    rw [gA_pI, gA_pA_ne (by decide), gA_pA_ne (by decide), gA_pA_ne (by decide), h1.1 40 (by decide)]
    rfl
  unfold f_X9_notes
  rw [e53]
  by_cases q : e < 24
  · rw [if_neg (ngo (x := 24) (N := 24) rfl q (by decide)), show (3 * nI e) - 1 = nI (3 * e) + (-1) by rw [show (3 : Int32) = nI 3 from rfl, nI_mul, Int32.sub_eq_add_neg], nI_lit1, if_pos q, if_pos q]
    obtain ⟨y, h1, h2, e1⟩ := run e (nI e) (nI (e + 1)) (by omega)
    rw [e1]
    obtain ⟨f1, f2, f3, f4, f5, f6, f7⟩ := fin e y h1 h2 (nI (e + 1))
    exact ⟨_, rfl, f1, f2, f3, f4, f5, f6, f7⟩
  · obtain rfl : e = 24 := by omega
    rw [if_pos (by decide), show ((3 : Int32) * 23) - 1 = nI (3 * 23) + (-1) by decide, show (23 : Int32) + 1 = nI 24 by decide, if_neg q, if_neg q]
    obtain ⟨y, h1, h2, e1⟩ := run 23 23 (nI 24) (by omega)
    rw [e1]
    obtain ⟨f1, f2, f3, f4, f5, f6, f7⟩ := fin 23 y h1 h2 (nI 24)
    exact ⟨_, rfl, f1, f2, f3, f4, f5, f6, f7⟩
/-- an entry on both sides -/
theorem note_pair {c m : Sx} {a f : Nat} {j : Bool} (ha : a < 8) (h : RJ c m) : ∃ c' m', f_X3_note c (nI a) (nI f) (b2 j) = some c' ∧ f_X9_notes m (nI a) (nI f) (b2 j) = some m' ∧ RJ c' m' ∧ (∀ k, k ≠ 49 → k ≠ 50 → gI c' k = gI c k) ∧ gL c' = gL c ∧ gM c' = gM c ∧ (∀ k, k ≠ 20 → k ≠ 21 → k ≠ 22 → gA c' k = gA c k) ∧ (∀ k, k ≠ 53 → gI m' k = gI m k) ∧ gL m' = gL m ∧ gM m' = gM m ∧ (∀ k, k ≠ 40 → k ≠ 41 → gA m' k = gA m k) ∧ (∀ i, gA m' 40 i = if i = 2 * a + (if j = true then 1 else 0) then gA m 40 i + 1 else gA m 40 i) := by
  obtain ⟨e, lt, he, hl, e49, e53, e50, hr⟩ := h
  obtain ⟨c', c0, c1, c2, c3, c4, c5, c6, c7⟩ := note_eq (a := a) (f := f) (j := j) he hl e49 e50
  obtain ⟨m', m0, m1, m2, m3, m4, m5, m6, m7⟩ := notes_eq (a := a) (f := f) (j := j) he ha e53
  refine ⟨c', m', c0, m0, ⟨if e < 24 then e + 1 else 24, (lt + 1) % 24, by split <;> omega, Nat.mod_lt _ (by decide), c5, m5, c6, fun i hi => ?_⟩, c1, c2, c3, c4, m1, m2, m3, m4, m6⟩
  have hi24 : i < 24 := by revert hi; split <;> omega
  cases i with
  | zero =>
    have r0 : row ((lt + 1) % 24) 0 = (lt + 1) % 24 := by unfold row; omega
    rw [r0, (c7 _).1, (c7 _).2.1, (c7 _).2.2, if_pos rfl, if_pos rfl, if_pos rfl, m7, m7, m7]
    exact ⟨rfl, rfl, rfl, gz_b2 j⟩
  | succ i =>
    have r1 : row ((lt + 1) % 24) (i + 1) = row lt i := by unfold row; omega
    have r2 : row lt i ≠ (lt + 1) % 24 := by unfold row; omega
    have hie : i < e := by revert hi; split <;> omega
    obtain ⟨h1, h2, h3, h4⟩ := hr i hie
    rw [r1, (c7 _).1, (c7 _).2.1, (c7 _).2.2, if_neg r2, if_neg r2, if_neg r2, m7, m7, m7]
    have hb : 3 * (i + 1) + 2 < 3 * (if e < 24 then e else 23) + 3 := by revert hi; split <;> omega
    rw [if_neg (by omega), if_neg (by omega), if_neg (by omega), if_pos (by omega), if_neg (by omega), if_neg (by omega), if_neg (by omega), if_pos (by omega), if_neg (by omega), if_neg (by omega), if_neg (by omega), if_pos hb]
    rw [show 3 * (i + 1) - 3 = 3 * i by omega, show 3 * (i + 1) + 1 - 3 = 3 * i + 1 by omega, show 3 * (i + 1) + 2 - 3 = 3 * i + 2 by omega]
    exact ⟨h1, h2, h3, h4⟩
