/-! ===== albums: the relation, and settling as a pair ===== -/
/-- two loops side by side -/
theorem loopUp2 {σ τ Rs Rt : Type} (L1 : Nat → Int32 → σ → Rs) (E1 : σ → Rs) (L2 : Nat → Int32 → τ → Rt) (E2 : τ → Rt) (N : Nat) (I : Nat → σ → τ → Prop)
    (h1 : ∀ n y z, I N y z → L1 (n + 1) (nI N) y = E1 y) (h2 : ∀ n y z, I N y z → L2 (n + 1) (nI N) z = E2 z)
    (hstep : ∀ k y z, k < N → I k y z → ∃ y' z', I (k + 1) y' z' ∧ (∀ n, L1 (n + 1) (nI k) y = L1 n (nI (k + 1)) y') ∧ ∀ n, L2 (n + 1) (nI k) z = L2 n (nI (k + 1)) z') :
    ∀ (d k n n' : Nat) (y : σ) (z : τ), k + d = N → d < n → d < n' → I k y z → ∃ y' z', I N y' z' ∧ L1 n (nI k) y = E1 y' ∧ L2 n' (nI k) z = E2 z' := by
  intro d
  induction d with
  | zero =>
    intro k n n' y z hk hn hn' hI
    obtain ⟨n, rfl⟩ : ∃ q, n = q + 1 := ⟨n - 1, by omega⟩
    obtain ⟨n', rfl⟩ : ∃ q, n' = q + 1 := ⟨n' - 1, by omega⟩
    obtain rfl : k = N := by omega
    exact ⟨y, z, hI, h1 n y z hI, h2 n' y z hI⟩
  | succ d ih =>
    intro k n n' y z hk hn hn' hI
    obtain ⟨n, rfl⟩ : ∃ q, n = q + 1 := ⟨n - 1, by omega⟩
    obtain ⟨n', rfl⟩ : ∃ q, n' = q + 1 := ⟨n' - 1, by omega⟩
    obtain ⟨y', z', g1, g2, g3⟩ := hstep k y z (by omega) hI
    obtain ⟨y2, z2, g4, g5, g6⟩ := ih (k + 1) n n' y' z' (by omega) (by omega) (by omega) g1
    exact ⟨y2, z2, g4, by rw [g2, g5], by rw [g3, g6]⟩
theorem loop02 {σ τ Rs Rt : Type} {L1 : Nat → Int32 → σ → Rs} {E1 : σ → Rs} {L2 : Nat → Int32 → τ → Rt} {E2 : τ → Rt} {N : Nat} (hN : N < 2000) {y : σ} {z : τ} (I : Nat → σ → τ → Prop)
    (h1 : ∀ n y z, I N y z → L1 (n + 1) (nI N) y = E1 y) (h2 : ∀ n y z, I N y z → L2 (n + 1) (nI N) z = E2 z)
    (hstep : ∀ k y z, k < N → I k y z → ∃ y' z', I (k + 1) y' z' ∧ (∀ n, L1 (n + 1) (nI k) y = L1 n (nI (k + 1)) y') ∧ ∀ n, L2 (n + 1) (nI k) z = L2 n (nI (k + 1)) z') (h0 : I 0 y z) : ∃ y' z', I N y' z' ∧ L1 FU 0 y = E1 y' ∧ L2 FU 0 z = E2 z' := by
  rw [← nI_0]
  exact loopUp2 L1 E1 L2 E2 N I h1 h2 hstep N 0 FU FU y z (by omega) (by rw [FU_eq]; exact hN) (by rw [FU_eq]; exact hN) h0
/-- a loop from 0 whose value is of any kind -/
theorem loop0G {σ Rt : Type} {L : Nat → Int32 → σ → Rt} {E : σ → Rt} {N : Nat} (hN : N < 2000) {y : σ} (I : Nat → σ → Prop)
    (hexit : ∀ n y, I N y → L (n + 1) (nI N) y = E y)
    (hstep : ∀ k y, k < N → I k y → ∃ y', I (k + 1) y' ∧ ∀ n, L (n + 1) (nI k) y = L n (nI (k + 1)) y') (h0 : I 0 y) : ∃ y', I N y' ∧ L FU 0 y = E y' := by
  obtain ⟨y', -, h1, h2, -⟩ := loop02 (L1 := L) (E1 := E) (L2 := fun _ _ (_ : Unit) => ()) (E2 := fun _ => ()) hN (y := y) (z := ()) (fun k y _ => I k y) (fun n y _ h => hexit n y h) (fun _ _ _ _ => rfl) (fun k y _ hk h => by
    obtain ⟨y', g1, g2⟩ := hstep k y hk h
    exact ⟨y', (), g1, g2, fun _ => rfl⟩) h0
  exact ⟨y', h1, h2⟩
/-- what an album's change touches, here and there -/
def OnB (a : Nat) (c c' : Sx) : Prop := (∀ k, k ≠ 49 → k ≠ 50 → k ≠ 130 + a → k ≠ 140 + a → gI c' k = gI c k) ∧ (∀ k, k ≠ 100 + a → gL c' k = gL c k) ∧ gM c' = gM c ∧ ∀ k, k ≠ 20 → k ≠ 21 → k ≠ 22 → gA c' k = gA c k
def OnN (a : Nat) (m m' : Sx) : Prop := (∀ k, k ≠ 53 → gI m' k = gI m k) ∧ gL m' = gL m ∧ gM m' = gM m ∧ (∀ k, k ≠ 40 → k ≠ 41 → gA m' k = gA m k) ∧ ∀ i, i ≠ 2 * a → i ≠ 2 * a + 1 → gA m' 40 i = gA m 40 i
theorem OnB.rf (a : Nat) (c : Sx) : OnB a c c := ⟨fun _ _ _ _ _ => rfl, fun _ _ => rfl, rfl, fun _ _ _ _ => rfl⟩
theorem OnN.rf (a : Nat) (c : Sx) : OnN a c c := ⟨fun _ _ => rfl, rfl, rfl, fun _ _ _ => rfl, fun _ _ _ => rfl⟩
theorem hb_x (x y : Int64) (k : Nat) : hb (x ^^^ y) k = decide (hb x k ≠ hb y k) := by
  rw [hb_xor]
  cases hb x k <;> cases hb y k <;> rfl
theorem mv_0 (d x y : Int32) : d + (x - y) = d + ((x + 1) - (y + 1)) := by grind
theorem mv_1 (a b d x y : Int32) (h : a - b = d + (x - y)) : (a + 1) - b = d + ((x + 1) - y) := by grind
theorem mv_2 (a b d x y : Int32) (h : a - b = d + (x - y)) : a - (b + 1) = d + (x - (y + 1)) := by grind
theorem mv_z (d : Int32) : d = d + (nI 0 - nI 0) := by
  show d = d + (0 - 0)
  grind
theorem become_pair {c m : Sx} {a : Nat} {x : Int64} (ha : a < 8) (hA : iA m a = true) (h : RJ c m) (hM : gL c (100 + a) = gM m 2 a) (hj : gI c (130 + a) = gA m 40 (2 * a + 1)) (hl : gI c (140 + a) = gA m 40 (2 * a)) : ∃ c' m', f_X0_become c a x (nI a) = some c' ∧ (∀ kont : Int32 → Sx → Option Sx, L_X9_settles_78 (nI a) x kont FU 0 m = kont (nI 40) m') ∧ RJ c' m' ∧ OnB a c c' ∧ OnN a m m' ∧ gL c' (100 + a) = x ∧ gI c' (130 + a) = gA m' 40 (2 * a + 1) ∧ gI c' (140 + a) = gA m' 40 (2 * a) ∧ gA m' 40 (2 * a + 1) - gA m' 40 (2 * a) = gA m 40 (2 * a + 1) - gA m 40 (2 * a) + (nI (fb_ct (hb x) 40) - nI (fb_ct (hb (gM m 2 a)) 40)) := by
  unfold f_X0_become
  have hA' : ¬ gA m 35 a = 0 := by simpa [iA] using hA
  obtain ⟨y, z, ⟨i1, i2, i3, i4, i5, i6, i7⟩, e1, e2⟩ := loop02 (L1 := fun n i s => L_X0_become_11 a x (nI a) (gL c (100 + a) ^^^ x) (fun z10 t11 => bd (pL t11 (100 + a) x) fun t12 => some t12) n i s) (E1 := fun s => some (pL s (100 + a) x)) (L2 := fun n i s (kont : Int32 → Sx → Option Sx) => L_X9_settles_78 (nI a) x kont n i s) (E2 := fun s kont => kont (nI 40) s) (N := 40) (by decide) (y := c) (z := m)
    (fun k y z => RJ y z ∧ OnB a c y ∧ OnN a m z ∧ gL y = gL c ∧ gI y (130 + a) = gA z 40 (2 * a + 1) ∧ gI y (140 + a) = gA z 40 (2 * a) ∧ gA z 40 (2 * a + 1) - gA z 40 (2 * a) = gA m 40 (2 * a + 1) - gA m 40 (2 * a) + (nI (fb_ct (hb x) k) - nI (fb_ct (hb (gM m 2 a)) k)))
    (fun n y z _ => by
      show L_X0_become_11 _ _ _ _ _ _ _ _ = _
      rw [L_X0_become_11, if_pos (by decide)]; rfl)
    (fun n y z _ => by
      funext kont
      show L_X9_settles_78 _ _ _ _ _ _ = _
      rw [L_X9_settles_78, if_pos (by decide)])
    (fun k y z hk hI => by
      obtain ⟨i1, i2, i3, i4, i5, i6, i7⟩ := hI
      have s1 : ∀ n, L_X0_become_11 a x (nI a) (gL c (100 + a) ^^^ x) (fun z10 t11 => bd (pL t11 (100 + a) x) fun t12 => some t12) (n + 1) (nI k) y = if b2 (decide (hb (gL c (100 + a)) k ≠ hb x k)) = 0 then L_X0_become_11 a x (nI a) (gL c (100 + a) ^^^ x) (fun z10 t11 => bd (pL t11 (100 + a) x) fun t12 => some t12) n (nI (k + 1)) y else (f_X3_note y (nI a) (nI k) (b2 (hb x k))).bind fun r3 => L_X0_become_11 a x (nI a) (gL c (100 + a) ^^^ x) (fun z10 t11 => bd (pL t11 (100 + a) x) fun t12 => some t12) n (nI (k + 1)) (pI (pI r3 (130 + a) (gI r3 (130 + a) + if hb x k = true then 1 else 0)) (140 + a) (gI r3 (140 + a) + if hb x k = true then 0 else 1)) := fun n => by
        rw [L_X0_become_11, if_neg (ngo (x := 40) (N := 40) rfl hk (by decide)), holds_eq y _ (by omega), hb_x, Option.bind_some, nI_lit1]
        by_cases q : hb (gL c (100 + a)) k ≠ hb x k
        · rw [decide_eq_true q, if_neg (by decide), if_neg (by decide), holds_eq y _ (by omega), Option.bind_some]
          congr 1
          funext r3
          cases hb x k with
          | true => rw [b2_t]; simp only [bd_eq, gI_pI, if_neg (show ¬ (1 : Int32) = 0 by decide), if_neg (show ¬ (140 + a = 130 + a) by omega), if_true]
          | false => rw [b2_f]; simp only [bd_eq, gI_pI, if_true, if_neg (show ¬ (140 + a = 130 + a) by omega), Bool.false_eq_true, if_false]
        · rw [decide_eq_false q, if_pos b2_f, if_pos b2_f]
      have s2 : ∀ (kont : Int32 → Sx → Option Sx) n, L_X9_settles_78 (nI a) x kont (n + 1) (nI k) z = if b2 (hb x k) = b2 (hb (gM m 2 a) k) then L_X9_settles_78 (nI a) x kont n (nI (k + 1)) z else (f_X9_notes z (nI a) (nI k) (b2 (hb x k))).bind fun r6 => L_X9_settles_78 (nI a) x kont n (nI (k + 1)) r6 := fun kont n => by
        rw [L_X9_settles_78, if_neg (ngo (x := 40) (N := 40) rfl hk (by decide)), gd_pos (vin_nI ha (by decide)), gd_pos (vin_nI ha (by decide)), ix_nI (by omega), i3.2.2.2.1 35 (by decide) (by decide), if_neg hA', bd_eq, i3.2.2.1, s_bitI _ (by omega), s_bitI _ (by omega), nI_lit1]
      by_cases q : hb x k = hb (gM m 2 a) k
      · refine ⟨y, z, ⟨i1, i2, i3, i4, i5, i6, ?_⟩, fun n => ?_, fun n => ?_⟩
        · rw [i7, fb_ct_succ, fb_ct_succ, q]
          cases hb (gM m 2 a) k with
          | false => rfl
          | true =>
            simp only [if_true]
            rw [← nI_lit1, ← nI_lit1]
            exact mv_0 _ _ _
        · show L_X0_become_11 _ _ _ _ _ _ _ _ = _
          rw [s1, hM, q, decide_eq_false (fun w => w rfl), if_pos b2_f]
        · funext kont
          show L_X9_settles_78 _ _ _ _ _ _ = _
          rw [s2, q, if_pos rfl]
      · obtain ⟨y', z', n0, n1, n2, n3, n4, n5, n6, n7, n8, n9, n10, n11⟩ := note_pair (a := a) (f := k) (j := hb x k) ha i1
        have e130 : gI y' (130 + a) = gI y (130 + a) := n3 _ (by omega) (by omega)
        have e140 : gI y' (140 + a) = gI y (140 + a) := n3 _ (by omega) (by omega)
        refine ⟨pI (pI y' (130 + a) (gI y' (130 + a) + if hb x k = true then 1 else 0)) (140 + a) (gI y' (140 + a) + if hb x k = true then 0 else 1), z', ⟨?_, ?_, ?_, ?_, ?_, ?_, ?_⟩, fun n => ?_, fun n => ?_⟩
        · obtain ⟨e, lt, j1, j2, j3, j4, j5, j6⟩ := n2
          exact ⟨e, lt, j1, j2, by rw [gI_pI, if_neg (by omega), gI_pI, if_neg (by omega)]; exact j3, j4, by rw [gI_pI, if_neg (by omega), gI_pI, if_neg (by omega)]; exact j5, j6⟩
        · refine ⟨fun i h1 h2 h3 h4 => ?_, fun i hi => ?_, ?_, fun i h1 h2 h3 => ?_⟩
          · rw [gI_pI, if_neg h4, gI_pI, if_neg h3, n3 i h1 h2, i2.1 i h1 h2 h3 h4]
          · show gL y' i = _; rw [n4, i2.2.1 i hi]
          · show gM y' = _; rw [n5, i2.2.2.1]
          · show gA y' i = _; rw [n6 i h1 h2 h3, i2.2.2.2 i h1 h2 h3]
        · refine ⟨fun i h1 => ?_, ?_, ?_, fun i h1 h2 => ?_, fun i h1 h2 => ?_⟩
          · rw [n7 i h1, i3.1 i h1]
          · rw [n8, i3.2.1]
          · rw [n9, i3.2.2.1]
          · rw [n10 i h1 h2, i3.2.2.2.1 i h1 h2]
          · rw [n11, if_neg (by split <;> omega), i3.2.2.2.2 i h1 h2]
        · show gL y' = _; rw [n4, i4]
        · rw [gI_pI, if_neg (by omega), gI_pI, if_pos rfl, e130, i5, n11]
          cases hb x k with
          | true => rw [if_pos rfl, if_pos (by simp)]
          | false => rw [if_neg (by decide), if_neg (by simp), Int32.add_zero]
        · rw [gI_pI, if_pos rfl, e140, i6, n11]
          cases hb x k with
          | true => rw [if_pos rfl, if_neg (by simp), Int32.add_zero]
          | false => rw [if_neg (by decide), if_pos (by simp)]
        · rw [n11, n11, fb_ct_succ, fb_ct_succ]
          cases hx : hb x k with
          | true =>
            have hm : hb (gM m 2 a) k = false := by
              cases w : hb (gM m 2 a) k with
              | false => rfl
              | true => exact absurd (hx.trans w.symm) q
            rw [hm, if_pos (by simp), if_neg (by simp)]
            simp only [if_true, Bool.false_eq_true, if_false]
            rw [← nI_lit1]
            exact mv_1 _ _ _ _ _ i7
          | false =>
            have hm : hb (gM m 2 a) k = true := by
              cases w : hb (gM m 2 a) k with
              | true => rfl
              | false => exact absurd (hx.trans w.symm) q
            rw [hm, if_neg (by simp), if_pos (by simp)]
            simp only [if_true, Bool.false_eq_true, if_false]
            rw [← nI_lit1]
            exact mv_2 _ _ _ _ _ i7
        · show L_X0_become_11 _ _ _ _ _ _ _ _ = _
          rw [s1, hM, decide_eq_true (show hb (gM m 2 a) k ≠ hb x k from fun w => q w.symm), if_neg (by decide), n0, Option.bind_some]
        · funext kont
          show L_X9_settles_78 _ _ _ _ _ _ = _
          rw [s2, if_neg (fun w => q (b2_inj.mp w)), n1, Option.bind_some])
    ⟨h, OnB.rf _ _, OnN.rf _ _, rfl, hj, hl, by show _ = _ + (nI (fb_ct (hb x) 0) - nI (fb_ct (hb (gM m 2 a)) 0)); exact mv_z _⟩
  refine ⟨_, z, e1, fun kont => congrFun e2 kont, ?_, ?_, i3, ?_, ?_, ?_, i7⟩
  · exact i1
  · exact ⟨i2.1, fun k hk => by rw [gL_pL, if_neg hk]; exact i2.2.1 k hk, i2.2.2.1, i2.2.2.2⟩
  · rw [gL_pL, if_pos rfl]
  · exact i5
  · exact i6
