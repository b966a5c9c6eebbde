/-! ===== stacks: who is in, covers ===== -/
def RStk (c m : Sx) : Prop := (∀ f, f < 40 → gA c 18 f = gA m 29 f) ∧ (∀ s, s < 10 → gA c 15 s = gA m 30 s) ∧ (∀ s, s < 10 → ∀ k, k < mn m s → gA c 14 (8 * s + k) = gA m 31 (8 * s + k)) ∧ (∀ s, s < 10 → 0 < mn m s → gA c 16 s = gA m 32 s ∧ gA c 17 s = b2 (decide (gA m 33 s ≠ 0))) ∧ (∀ k, k < 64 → (hb (gL c 11) k = true ↔ k < 40 ∧ gA m 29 k ≠ -1))
theorem wStk_mn {m : Sx} (h : WStk m) {s : Nat} (hs : s < 10) : gA m 30 s = nI (mn m s) ∧ mn m s ≤ 8 ∧ mn m s ≠ 1 := by
  obtain ⟨n, hn, e, h1⟩ := h.2.1 s hs
  have : mn m s = n := by unfold mn; rw [e, ix_nI (by omega)]
  rw [this]
  exact ⟨e, hn, h1⟩
/-- the file at a place of a stack -/
def fl (m : Sx) (s k : Nat) : Nat := ix (gA m 31 (8 * s + k))
theorem wStk_fl {m : Sx} (h : WStk m) {s k : Nat} (hs : s < 10) (hk : k < mn m s) : gA m 31 (8 * s + k) = nI (fl m s k) ∧ fl m s k < 40 ∧ gA m 29 (fl m s k) = nI s := by
  obtain ⟨f, hf, e, e2⟩ := h.2.2.1 s hs k hk
  have : fl m s k = f := by unfold fl; rw [e, ix_nI (by omega)]
  rw [this]
  exact ⟨e, hf, e2⟩
theorem wStk_in {m : Sx} (h : WStk m) {f s : Nat} (hf : f < 40) (e : gA m 29 f = nI s) (hs : s < 10) : iF m f = true ∧ ∃ k, k < mn m s ∧ fl m s k = f := by
  rcases h.1 f hf with q | ⟨s', hs', e', hp, k, hk, ek⟩
  · rw [q] at e
    exact absurd e.symm (nI_ne_m1 (by omega))
  · have : s = s' := by rw [e] at e'; exact (nI_eq_iff (by omega) (by omega)).mp e'
    subst this
    exact ⟨hp, k, hk, by unfold fl; rw [ek, ix_nI (by omega)]⟩
theorem wStk_fl_inj {m : Sx} (h : WStk m) {s j k : Nat} (hs : s < 10) (hj : j < mn m s) (hk : k < mn m s) (e : fl m s j = fl m s k) : j = k := by
  rcases Nat.lt_trichotomy j k with q | q | q
  · have := h.2.2.2.1 s hs j k q hk
    rw [(wStk_fl h hs hj).1, (wStk_fl h hs hk).1, e] at this
    exact absurd rfl this
  · exact q
  · have := h.2.2.2.1 s hs k j q hj
    rw [(wStk_fl h hs hj).1, (wStk_fl h hs hk).1, e] at this
    exact absurd rfl this
/-- the best of the places 0 .. k -/
def bst (m : Sx) (s : Nat) : Nat → Nat
  | 0 => fl m s 0
  | k + 1 => if rt m (fl m s (k + 1)) ≤ rt m (bst m s k) then bst m s k else fl m s (k + 1)
def cov (m : Sx) (s : Nat) : Nat := if gA m 32 s = -1 then bst m s (mn m s - 1) else ix (gA m 32 s)
theorem bst_in (m : Sx) (s : Nat) : ∀ k, ∃ j, j ≤ k ∧ bst m s k = fl m s j
  | 0 => ⟨0, Nat.le_refl _, rfl⟩
  | k + 1 => by
    rw [bst]
    by_cases q : rt m (fl m s (k + 1)) ≤ rt m (bst m s k)
    · rw [if_pos q]
      obtain ⟨j, hj, e⟩ := bst_in m s k
      exact ⟨j, by omega, e⟩
    · rw [if_neg q]
      exact ⟨k + 1, Nat.le_refl _, rfl⟩
theorem bst_ok {m : Sx} (h : WStk m) {s k : Nat} (hs : s < 10) (hk : k < mn m s) : bst m s k < 40 ∧ gA m 29 (bst m s k) = nI s := by
  obtain ⟨j, hj, e⟩ := bst_in m s k
  rw [e]
  exact (wStk_fl h hs (by omega)).2
theorem cov_ok {m : Sx} (h : WStk m) {s : Nat} (hs : s < 10) (hn : 0 < mn m s) : cov m s < 40 ∧ gA m 29 (cov m s) = nI s := by
  unfold cov
  by_cases q : gA m 32 s = -1
  · rw [if_pos q]; exact bst_ok h hs (by omega)
  · rw [if_neg q]
    rcases h.2.2.2.2 s hs hn with e | ⟨f, hf, e, e2⟩
    · exact absurd e q
    · rw [e, ix_nI (by omega)]; exact ⟨hf, e2⟩
theorem i8 (s k : Nat) : (8 * nI s) + nI k = nI (8 * s + k) := by
  rw [show (8 : Int32) = nI 8 from rfl, nI_mul, nI_add]
theorem i80 (s : Nat) : (8 * nI s) = nI (8 * s) := by
  rw [show (8 : Int32) = nI 8 from rfl, nI_mul]
theorem i8c (s k : Nat) : (nI s * 8) + nI k = nI (8 * s + k) := by
  rw [show (8 : Int32) = nI 8 from rfl, nI_mul, nI_add, Nat.mul_comm]
theorem spot_eq (c : Sx) (s k : Nat) : f_X6_spot c (nI s) (nI k) = some (nI (8 * s + k)) := by
  unfold f_X6_spot; rw [i8c]
theorem loopUp1 {σ Rt : Type} {L : Nat → Int32 → σ → Option Rt} {E : σ → Option Rt} {N k0 : Nat} (hN : N < 1000) (hk : k0 ≤ N) {y : σ} (I : Nat → σ → Prop)
    (hexit : ∀ n y, I N y → L (n + 1) (nI N) y = E y)
    (hstep : ∀ k y, k < N → I k y → ∃ y', I (k + 1) y' ∧ ∀ n, L (n + 1) (nI k) y = L n (nI (k + 1)) y') (h0 : I k0 y) : ∃ y', I N y' ∧ L FU (nI k0) y = E y' :=
  loopUp L E N I hexit hstep (N - k0) k0 FU y (by omega) (by rw [FU_eq]; omega) h0
theorem cover_eq {m : Sx} (hO : WOrd m) (hV : WVal m) (h : WStk m) {s : Nat} (hs : s < 10) (hn : 0 < mn m s) : f_X9_cover m (nI s) = some (nI (cov m s)) := by
  obtain ⟨en, hn8, -⟩ := wStk_mn h hs
  unfold f_X9_cover cov
  rw [gd_pos (vin_nI hs (by decide)), ix_nI (by omega), gd_pos (vin_nI hs (by decide))]
  rcases h.2.2.2.2 s hs hn with e | ⟨f, hf, e, e2⟩
  · rw [if_pos (by rw [e]; decide), if_pos e, i80, gd_pos (vin_nI (by omega) (by decide)), ix_nI (by omega), show gA m 31 (8 * s) = nI (fl m s 0) from (wStk_fl h hs hn).1, show (1 : Int32) = nI 1 from rfl]
    obtain ⟨y, hy, ee⟩ := loopUp1 (L := fun n i st => L_X9_cover_28 m (nI s) (fun z3 z4 => some z3) n st i) (E := fun st => some st) (N := mn m s) (k0 := 1) (by omega) (by omega) (y := nI (fl m s 0))
      (fun k st => 0 < k ∧ st = nI (bst m s (k - 1)))
      (fun n y hy => by show L_X9_cover_28 _ _ _ _ _ _ = _; rw [L_X9_cover_28, gd_pos (vin_nI hs (by decide)), ix_nI (by omega), en, if_pos (nI_le (Nat.le_refl _) (by omega))])
      (fun k y hk hy => by
        obtain ⟨hk0, rfl⟩ := hy
        obtain ⟨b1, b2'⟩ := bst_ok h hs (k := k - 1) (by omega)
        obtain ⟨g1, g2, g3⟩ := wStk_fl h hs hk
        have p4 : (vOr m (fl m s k) 1 (-1) ≤ vOr m (bst m s (k - 1)) 1 (-1)) ↔ rt m (fl m s k) ≤ rt m (bst m s (k - 1)) := i_le _ _
        have eb : bst m s k = if rt m (fl m s k) ≤ rt m (bst m s (k - 1)) then bst m s (k - 1) else fl m s k := by
          obtain ⟨q, rfl⟩ : ∃ q, k = q + 1 := ⟨k - 1, by omega⟩
          rw [bst]; rfl
        refine ⟨nI (bst m s k), ⟨by omega, rfl⟩, fun n => ?_⟩
        show L_X9_cover_28 _ _ _ _ _ _ = L_X9_cover_28 _ _ _ _ _ _
        rw [L_X9_cover_28, gd_pos (vin_nI hs (by decide)), ix_nI (by omega), en, if_neg (by rw [nI_le_iff (by omega) (by omega)]; omega), i8, gd_pos (vin_nI (by omega) (by decide)), ix_nI (by omega), g1, valueOr1 hO g2, Option.bind_some, valueOr1 hO b1, Option.bind_some, nI_lit1, eb]
        by_cases q : rt m (fl m s k) ≤ rt m (bst m s (k - 1))
        · rw [if_pos (p4.mpr q), if_pos q]
        · rw [if_neg (fun w => q (p4.mp w)), if_neg q])
      ⟨by omega, rfl⟩
    rw [ee, hy.2]
  · rw [e, if_neg (nI_pos (by omega)), if_neg (nI_ne_m1 (by omega)), ix_nI (by omega)]
theorem coverC_eq {c m : Sx} (hO : WOrd m) (hV : WVal m) (h : WStk m) (rS : RStk c m) (dV : DVal c m) {s : Nat} (hs : s < 10) (hn : 0 < mn m s) : f_X6_cover c (nI s) = some (nI (cov m s)) := by
  obtain ⟨en, hn8, -⟩ := wStk_mn h hs
  have rat : ∀ f, f < 40 → gA m 29 f = nI s → f_X1_settledValue c (nI f) 1 = some (vOr m f 1 (-1)) := fun f hf e => by
    rw [settledValue1 c hf, (dV f hf (wStk_in h hf e hs).1).1 1 (by decide)]
  unfold f_X6_cover cov
  rw [gd_pos (vin_nI hs (by decide)), ix_nI (by omega), gd_pos (vin_nI hs (by decide)), (rS.2.2.2.1 s hs hn).1]
  rcases h.2.2.2.2 s hs hn with e | ⟨f, hf, e, e2⟩
  · rw [if_pos e, if_pos e, show (0 : Int32) = nI 0 from rfl, spot_eq, Option.bind_some, gd_pos (vin_nI (by omega) (by decide)), ix_nI (by omega), rS.2.2.1 s hs 0 hn, (wStk_fl h hs hn).1, show (1 : Int32) = nI 1 from rfl]
    obtain ⟨y, hy, ee⟩ := loopUp1 (L := fun n i st => L_X6_cover_30 c (nI s) (fun z5 z6 => some z5) n st i) (E := fun st => some st) (N := mn m s) (k0 := 1) (by omega) (by omega) (y := nI (fl m s 0))
      (fun k st => 0 < k ∧ st = nI (bst m s (k - 1)))
      (fun n y hy => by show L_X6_cover_30 _ _ _ _ _ _ = _; rw [L_X6_cover_30, gd_pos (vin_nI hs (by decide)), ix_nI (by omega), rS.2.1 s hs, en, if_pos (nI_le (Nat.le_refl _) (by omega))])
      (fun k y hk hy => by
        obtain ⟨hk0, rfl⟩ := hy
        obtain ⟨b1, b2'⟩ := bst_ok h hs (k := k - 1) (by omega)
        obtain ⟨g1, g2, g3⟩ := wStk_fl h hs hk
        have p4 : (vOr m (fl m s k) 1 (-1) ≤ vOr m (bst m s (k - 1)) 1 (-1)) ↔ rt m (fl m s k) ≤ rt m (bst m s (k - 1)) := i_le _ _
        have eb : bst m s k = if rt m (fl m s k) ≤ rt m (bst m s (k - 1)) then bst m s (k - 1) else fl m s k := by
          obtain ⟨q, rfl⟩ : ∃ q, k = q + 1 := ⟨k - 1, by omega⟩
          rw [bst]; rfl
        refine ⟨nI (bst m s k), ⟨by omega, rfl⟩, fun n => ?_⟩
        show L_X6_cover_30 _ _ _ _ _ _ = L_X6_cover_30 _ _ _ _ _ _
        rw [L_X6_cover_30, gd_pos (vin_nI hs (by decide)), ix_nI (by omega), rS.2.1 s hs, en, if_neg (by rw [nI_le_iff (by omega) (by omega)]; omega), spot_eq, Option.bind_some, gd_pos (vin_nI (by omega) (by decide)), ix_nI (by omega), rS.2.2.1 s hs k hk, g1, rat _ g2 g3, Option.bind_some, rat _ b1 b2', Option.bind_some, nI_lit1, eb]
        by_cases q : rt m (fl m s k) ≤ rt m (bst m s (k - 1))
        · rw [if_pos (p4.mpr q), if_pos q]
        · rw [if_neg (fun w => q (p4.mp w)), if_neg q])
      ⟨by omega, rfl⟩
    rw [ee, hy.2]
  · rw [e, if_neg (nI_ne_m1 (by omega)), if_neg (nI_ne_m1 (by omega)), ix_nI (by omega)]
def isS (m : Sx) (s : Nat) : Bool := decide (0 < mn m s)
/-- a stack's number -/
def stn (m : Sx) (x : Int32) : Bool := inr x 0 9 && isS m (ix x)
theorem stn_nI {m : Sx} {s : Nat} (hs : s < 10) : stn m (nI s) = isS m s := by
  unfold stn
  rw [show (9 : Int32) = nI 9 from rfl, inr_nI (by omega) (by decide), ix_nI (by omega), decide_eq_true (by omega)]
  rfl
theorem stn_out {m : Sx} {x : Int32} (h : stn m x = true) : ∃ s, s < 10 ∧ x = nI s ∧ 0 < mn m s := by
  unfold stn at h
  rw [Bool.and_eq_true] at h
  obtain ⟨k, hk, rfl⟩ := inr_out (n := 9) (by decide) h.1
  refine ⟨k, by omega, rfl, ?_⟩
  rw [ix_nI (by omega)] at h
  exact of_decide_eq_true h.2
theorem isStack_eq {m : Sx} (h : WStk m) (x : Int32) : f_X9_isStack m x = some (b2 (stn m x)) := by
  unfold f_X9_isStack stn
  rw [in_eq, Option.bind_some]
  cases e : inr x 0 9 with
  | false => rfl
  | true =>
    obtain ⟨k, hk, rfl⟩ := inr_out (n := 9) (by decide) e
    obtain ⟨en, hn8, -⟩ := wStk_mn h (s := k) (by omega)
    rw [bT, gd_pos (vin_nI (by omega) (by decide)), ix_nI (by omega), en, show (0 : Int32) = nI 0 from rfl, Bool.true_and, isS]
    by_cases q : 0 < mn m k
    · rw [if_neg (by rw [nI_le_iff (by omega) (by decide)]; omega), decide_eq_true q]; rfl
    · rw [if_pos (nI_le (by omega) (by decide)), decide_eq_false q]; rfl
theorem hasS_eq {c m : Sx} (h : WStk m) (rS : RStk c m) (x : Int32) : f_X6_has c x = some (b2 (stn m x)) := by
  unfold f_X6_has stn
  rw [isWithin_eq, Option.bind_some]
  cases e : inr x 0 9 with
  | false => rfl
  | true =>
    obtain ⟨k, hk, rfl⟩ := inr_out (n := 9) (by decide) e
    obtain ⟨en, hn8, -⟩ := wStk_mn h (s := k) (by omega)
    rw [bT, gd_pos (vin_nI (by omega) (by decide)), ix_nI (by omega), rS.2.1 k (by omega), en, show (0 : Int32) = nI 0 from rfl, Bool.true_and, isS]
    by_cases q : 0 < mn m k
    · rw [if_neg (by rw [nI_le_iff (by omega) (by decide)]; omega), decide_eq_true q]; rfl
    · rw [if_pos (nI_le (by omega) (by decide)), decide_eq_false q]; rfl
def DCov (c m : Sx) : Prop := ∀ k, k < 64 → (hb (gL c 12) k = true ↔ ∃ s, s < 10 ∧ 0 < mn m s ∧ cov m s = k)
def OnV (c c' : Sx) : Prop := gA c' = gA c ∧ gI c' = gI c ∧ gM c' = gM c ∧ ∀ k, k ≠ 12 → gL c' k = gL c k
theorem findCovers_eq {c m : Sx} (hO : WOrd m) (hV : WVal m) (h : WStk m) (rS : RStk c m) (dV : DVal c m) : ∃ c', f_X6_findCovers c = some c' ∧ OnV c c' ∧ DCov c' m := by
  unfold f_X6_findCovers
  rw [bd_eq]
  obtain ⟨y, ⟨hy, hk⟩, e⟩ := loop0 (L := fun n i s => L_X6_findCovers_7 (fun z6 t7 => some t7) n i s) (E := fun s => some s) (N := 10) (by decide) (y := pL c 12 0)
    (fun k y => OnV c y ∧ ∀ j, j < 64 → (hb (gL y 12) j = true ↔ ∃ s, s < k ∧ 0 < mn m s ∧ cov m s = j))
    (fun n y hy => by show L_X6_findCovers_7 _ _ _ _ = _; rw [L_X6_findCovers_7, if_pos (by decide)])
    (fun k y hk hy => by
      obtain ⟨hy, hj⟩ := hy
      have rS' : RStk y m := ⟨fun f hf => by rw [hy.1]; exact rS.1 f hf, fun s hs => by rw [hy.1]; exact rS.2.1 s hs, fun s hs k hk => by rw [hy.1]; exact rS.2.2.1 s hs k hk, fun s hs hn => by rw [hy.1]; exact rS.2.2.2.1 s hs hn, fun k hk => by rw [hy.2.2.2 11 (by decide)]; exact rS.2.2.2.2 k hk⟩
      have dV' : DVal y m := fun f hf hp => by rw [hy.1]; exact dV f hf hp
      by_cases q : 0 < mn m k
      · obtain ⟨c1, c2⟩ := cov_ok h hk q
        refine ⟨pL y 12 (gL y 12 ||| shlL 1 (nI (cov m k))), ⟨⟨hy.1, hy.2.1, hy.2.2.1, fun i hi => by rw [gL_pL, if_neg hi, hy.2.2.2 i hi]⟩, fun j hj2 => ?_⟩, fun n => ?_⟩
        · rw [gL_pL, if_pos rfl, hb_or, Bool.or_eq_true, hj j hj2, hb_only (by omega) hj2, decide_eq_true_eq]
          constructor
          · intro w
            rcases w with ⟨s, h1, h2, h3⟩ | w
            · exact ⟨s, by omega, h2, h3⟩
            · exact ⟨k, by omega, q, w.symm⟩
          · intro ⟨s, h1, h2, h3⟩
            by_cases hsk : s = k
            · subst hsk; exact Or.inr h3.symm
            · exact Or.inl ⟨s, by omega, h2, h3⟩
        · show L_X6_findCovers_7 _ _ _ _ = L_X6_findCovers_7 _ _ _ _
          rw [L_X6_findCovers_7, if_neg (ngo (x := 10) (N := 10) rfl (by omega) (by decide)), hasS_eq h rS', Option.bind_some, stn_nI hk, isS, decide_eq_true q, bT, coverC_eq hO hV h rS' dV' hk q, Option.bind_some]
          unfold f_X8_only
          rw [Option.bind_some, bd_eq, nI_lit1]
      · refine ⟨y, ⟨hy, fun j hj2 => ?_⟩, fun n => ?_⟩
        · rw [hj j hj2]
          refine ⟨fun ⟨s, h1, h2, h3⟩ => ⟨s, by omega, h2, h3⟩, fun ⟨s, h1, h2, h3⟩ => ⟨s, ?_, h2, h3⟩⟩
          rcases Nat.eq_or_lt_of_le (Nat.lt_succ_iff.mp h1) with w | w
          · subst w; exact absurd h2 q
          · exact w
        · show L_X6_findCovers_7 _ _ _ _ = L_X6_findCovers_7 _ _ _ _
          rw [L_X6_findCovers_7, if_neg (ngo (x := 10) (N := 10) rfl (by omega) (by decide)), hasS_eq h rS', Option.bind_some, stn_nI hk, isS, decide_eq_false q, bF, nI_lit1])
    (by
      refine ⟨⟨rfl, rfl, rfl, fun k hk => by rw [gL_pL, if_neg hk]⟩, fun j hj => ?_⟩
      rw [gL_pL, if_pos rfl, hb_0]
      exact ⟨fun h => Bool.noConfusion h, fun ⟨s, hs, _⟩ => by omega⟩)
  exact ⟨y, e, hy, hk⟩
