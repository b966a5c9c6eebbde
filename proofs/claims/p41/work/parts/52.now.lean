/-! ===== settling, both sides ===== -/
def OnR (m m' : Sx) : Prop := (∀ a, a ≠ 45 → gA m' a = gA m a) ∧ (∀ k, k ≠ 55 → gI m' k = gI m k) ∧ gL m' = gL m ∧ gM m' = gM m
theorem i80a (a k : Nat) : (80 * nI a) + nI k = nI (80 * a + k) := by
  rw [show (80 : Int32) = nI 80 from rfl, nI_mul, nI_add]
theorem takesAlbum_eq {m : Sx} {a n : Nat} {ch : Nat → Nat} (ha : a < 8) (hn : n ≤ 80) (h36 : gA m 36 a = nI n) (h37 : ∀ k, k < n → gA m 37 (80 * a + k) = nI (ch k)) (hok : okc ch n) : ∃ m', f_X9_takesAlbum m (nI a) = some m' ∧ OnR m m' ∧ Rx m' ch n := by
  unfold f_X9_takesAlbum
  rw [gd_pos (vin_nI ha (by decide)), bd_eq, ix_nI (by omega), h36]
  obtain ⟨y, ⟨hy, e⟩, r⟩ := loop0 (L := fun i x s => L_X9_takesAlbum_12 (nI a) (fun z3 t4 => some t4) i x s) (E := fun s => some s) (N := n) (by omega) (y := pI m 55 (nI n))
    (fun k s => OnA 45 (pI m 55 (nI n)) s ∧ ∀ j, j < k → gA s 45 j = nI (ch j))
    (fun i s h => by
      show L_X9_takesAlbum_12 _ _ _ _ _ = _
      rw [L_X9_takesAlbum_12, h.1.2.1, gI_pI, if_pos rfl, if_pos (nI_le (Nat.le_refl _) (by omega))])
    (fun k s hk h => by
      have e37 : gA s 37 (80 * a + k) = nI (ch k) := by rw [h.1.1 37 (by decide), gA_pI]; exact h37 k hk
      refine ⟨pA s 45 k (nI (ch k)), ⟨h.1.pA _ _, fun j hj => ?_⟩, fun i => ?_⟩
      · rw [gA_pA_at]
        by_cases q : j = k
        · rw [if_pos q, q]
        · rw [if_neg q]; exact h.2 j (by omega)
      · show L_X9_takesAlbum_12 _ _ _ _ _ = _
        have c1 := hok k hk
        rw [L_X9_takesAlbum_12, h.1.2.1, gI_pI, if_pos rfl, if_neg (by rw [nI_le_iff (by omega) (by omega)]; omega), i80a, gd_pos (vin_nI (by omega) (by decide)), ix_nI (by omega), e37, gd_pos (gch_nI (by omega)), gd_pos (vin_nI (by omega) (by decide)), ix_nI (by omega), bd_eq, nI_lit1])
    ⟨OnA.rf _ _, fun j hj => absurd hj (by omega)⟩
  refine ⟨y, r, ⟨fun i hi => by rw [hy.1 i hi, gA_pI], fun k hk => by rw [hy.2.1, gI_pI, if_neg hk], by rw [hy.2.2.1]; rfl, by rw [hy.2.2.2]; rfl⟩, hn, by rw [hy.2.1, gI_pI, if_pos rfl], e⟩
theorem cg_sat {m y : Sx} (h : SameD m y) : sat y = sat m := by funext ch n f; unfold sat; rw [cg_cnd h]
theorem cg_nmd {m y : Sx} (h : SameD m y) {ch : Nat → Nat} {n : Nat} (w : nmd m ch n) : nmd y ch n := fun p hp e => by rw [cg_iA h]; exact w p hp e
theorem hb_orx (x : Int64) {k f : Nat} (hk : k < 64) (hf : f < 64) : hb (x ||| shlL 1 (nI k)) f = (hb x f || decide (f = k)) := by rw [hb_or, hb_only hk hf]
/-- the reference's members of an album -/
theorem now_eq {m : Sx} (hO : WOrd m) (hV : WVal m) (wS : WStk m) {ch : Nat → Nat} {n a : Nat} (hX : Rx m ch n) (hR : Rul ch n) (hN : nmd m ch n) (ha : a < 8) (hA : iA m a = true) : ∃ x y, (∀ kont : Int64 → Int32 → Sx → Option Sx, L_X9_settles_27 (nI a) kont FU 0 0 m = kont x (nI 40) y) ∧ OnE m y ∧ ∀ f, f < 64 → hb x f = ((decide (f < 40) && iF m f) && sat m ch n f) := by
  have hA' : ¬ gA m 35 a = 0 := by simpa [iA] using hA
  obtain ⟨s, ⟨hE, hs⟩, r⟩ := loop0G (L := fun i x (s : Int64 × Sx) (kont : Int64 → Int32 → Sx → Option Sx) => L_X9_settles_27 (nI a) kont i s.1 x s.2) (E := fun s kont => kont s.1 (nI 40) s.2) (N := 40) (by decide) (y := ((0 : Int64), m))
    (fun k s => OnE m s.2 ∧ ∀ f, f < 64 → hb s.1 f = ((decide (f < k) && iF m f) && sat m ch n f))
    (fun i s h => by
      funext kont
      show L_X9_settles_27 _ _ _ _ _ _ = _
      rw [L_X9_settles_27, if_pos (by decide)])
    (fun k s hk h => by
      obtain ⟨h1, h2⟩ := h
      have sd := h1.sd
      have step : ∀ (kont : Int64 → Int32 → Sx → Option Sx) i, L_X9_settles_27 (nI a) kont (i + 1) s.1 (nI k) s.2 = if gA m 23 k = 0 then L_X9_settles_27 (nI a) kont i s.1 (nI (k + 1)) s.2 else (f_X9_isRight s.2 (nI k)).bind fun r1 => if r1.1 = 0 then L_X9_settles_27 (nI a) kont i s.1 (nI (k + 1)) r1.2 else L_X9_settles_27 (nI a) kont i (s.1 ||| shlL 1 (nI k)) (nI (k + 1)) r1.2 := fun kont i => by
        rw [L_X9_settles_27, if_neg (ngo (x := 40) (N := 40) rfl hk (by decide)), gd_pos (vin_nI ha (by decide)), ix_nI (by omega), sd.1 35 (by decide), if_neg hA', gd_pos (vin_nI hk (by decide)), ix_nI (by omega), sd.1 23 (by decide), nI_lit1]
      cases hp : iF m k with
      | false =>
        refine ⟨s, ⟨h1, fun f hf => ?_⟩, fun i => ?_⟩
        · rw [h2 f hf]
          by_cases q : f = k
          · subst q; rw [hp, Bool.and_false, Bool.and_false]
          · rw [decide_eq_decide.mpr (show f < k ↔ f < k + 1 by omega)]
        · funext kont
          show L_X9_settles_27 _ _ _ _ _ _ = _
          rw [step, if_pos (iF_dec.mpr hp)]
      | true =>
        obtain ⟨y', e, hE⟩ := isRight_eq (cg_WOrd sd hO) (cg_WVal sd hV) (cg_WStk sd wS) (hX.on h1) hR (cg_nmd sd hN) hk (by rw [cg_iF sd]; exact hp)
        have e0 : ¬ gA m 23 k = 0 := fun w => by rw [iF_dec.mp w] at hp; cases hp
        rw [cg_sat sd] at e
        refine ⟨(if sat m ch n k = true then s.1 ||| shlL 1 (nI k) else s.1, y'), ⟨h1.tr hE, fun f hf => ?_⟩, fun i => ?_⟩
        · dsimp only
          by_cases q : f = k
          · subst q
            rw [hp]
            cases hs : sat m ch n f with
            | true => rw [if_pos rfl, hb_orx _ hf hf, decide_eq_true rfl, Bool.or_true, decide_eq_true (by omega)]; rfl
            | false => rw [if_neg (by decide), h2 f hf, hs, Bool.and_false, Bool.and_false]
          · rw [decide_eq_decide.mpr (show f < k + 1 ↔ f < k by omega), ← h2 f hf]
            split
            · rw [hb_orx _ (by omega) hf, decide_eq_false q, Bool.or_false]
            · rfl
        · funext kont
          show L_X9_settles_27 _ _ _ _ _ _ = L_X9_settles_27 _ _ _ _ _ _
          rw [step, if_neg e0, e, Option.bind_some]
          cases hs : sat m ch n k with
          | true => rw [if_pos rfl]; exact if_neg (show ¬ (1 : Int32) = 0 by decide)
          | false => rw [if_pos b2_f, if_neg (by decide)])
    ⟨OnE.rf m, fun f hf => by rw [hb_0, decide_eq_false (by omega)]; rfl⟩
  exact ⟨s.1, s.2, fun kont => congrFun r kont, hE, hs⟩
/-- where there is no album -/
theorem now_none {m : Sx} {a : Nat} (ha : a < 8) (hA : iA m a = false) (kont : Int64 → Int32 → Sx → Option Sx) : L_X9_settles_27 (nI a) kont FU 0 0 m = kont 0 (nI 40) m := by
  have hA' : gA m 35 a = 0 := by simpa [iA] using hA
  obtain ⟨s, hs, r⟩ := loop0 (L := fun i x (s : Int64 × Sx) => L_X9_settles_27 (nI a) kont i s.1 x s.2) (E := fun s => kont s.1 (nI 40) s.2) (N := 40) (by decide) (y := ((0 : Int64), m))
    (fun k s => s = (0, m))
    (fun i s h => by
      show L_X9_settles_27 _ _ _ _ _ _ = _
      rw [L_X9_settles_27, if_pos (by decide)])
    (fun k s hk h => by
      subst h
      refine ⟨_, rfl, fun i => ?_⟩
      show L_X9_settles_27 _ _ _ _ _ _ = _
      rw [L_X9_settles_27, if_neg (ngo (x := 40) (N := 40) rfl hk (by decide)), gd_pos (vin_nI ha (by decide)), ix_nI (by omega), hA', if_pos rfl, nI_lit1]) rfl
  subst hs
  exact r
theorem notes_none {m : Sx} {a : Nat} (ha : a < 8) (hA : iA m a = false) (x : Int64) (kont : Int32 → Sx → Option Sx) : L_X9_settles_78 (nI a) x kont FU 0 m = kont 0 m := by
  have hA' : gA m 35 a = 0 := by simpa [iA] using hA
  obtain ⟨fu, e⟩ := FU_ge (n := 1) (by decide)
  rw [e, L_X9_settles_78, if_neg (by decide), gd_pos (vin_nI ha (by decide)), ix_nI (by omega), hA', if_pos rfl]
/-- the base and what follows of it, but for the albums -/
def WTg (m : Sx) : Prop := (∀ f, f < 40 → ∀ s, s < 3 → iT m (18 * f + 6 * s + 5) = true → ∃ v, v ≤ 1023 ∧ gA m 27 (18 * f + 6 * s + 5) = nI v) ∧ ∀ i, i < 720 → i % 6 = 1 → iT m i = true → ∃ v, v ≤ 5 ∧ gA m 27 i = nI v
def Ba (c m : Sx) : Prop := WOrd m ∧ WVal m ∧ WStk m ∧ WTxt m ∧ RPres c m ∧ RDig c m ∧ RVal c m ∧ ROrd c m ∧ RStk c m ∧ RTxt c m ∧ WTg m
def De (c m : Sx) : Prop := DVal c m ∧ DKee c m ∧ DCov c m
theorem Ba.onC {c c' m : Sx} (h : Ba c m) (hA : ∀ a, a < 19 → a ≠ 12 → gA c' a = gA c a) (h108 : gA c' 108 = gA c 108) (h8 : gL c' 8 = gL c 8) (h11 : gL c' 11 = gL c 11) (hI : gI c' 158 = gI c 158) : Ba c' m := by
  obtain ⟨h1, h2, h3, h4, h5, h6, h7, h8', h9, h10, h11'⟩ := h
  refine ⟨h1, h2, h3, h4, h5.on h8, fun f hf hp => ?_, h7.on (hA 11 (by decide) (by decide)), h8'.on (hA 13 (by decide) (by decide)), ?_, ?_, h11'⟩
  · rw [hA 9 (by decide) (by decide), hA 10 (by decide) (by decide)]; exact h6 f hf hp
  · obtain ⟨a1, a2, a3, a4, a5⟩ := h9
    refine ⟨fun f hf => ?_, fun s hs => ?_, fun s hs k hk => ?_, fun s hs hn => ?_, fun k hk => ?_⟩
    · rw [hA 18 (by decide) (by decide)]; exact a1 f hf
    · rw [hA 15 (by decide) (by decide)]; exact a2 s hs
    · rw [hA 14 (by decide) (by decide)]; exact a3 s hs k hk
    · rw [hA 16 (by decide) (by decide), hA 17 (by decide) (by decide)]; exact a4 s hs hn
    · rw [h11]; exact a5 k hk
  · exact ⟨by rw [hI]; exact h10.1, fun k hk => by rw [h108]; exact h10.2 k hk⟩
theorem De.onC {c c' m : Sx} (h : De c m) (h12 : gA c' 12 = gA c 12) (hL : ∀ k, k = 9 ∨ k = 10 ∨ k = 12 → gL c' k = gL c k) : De c' m := by
  obtain ⟨h1, h2, h3⟩ := h
  refine ⟨fun f hf hp => ?_, fun k hk => ?_, fun k hk => ?_⟩
  · rw [h12]; exact h1 f hf hp
  · rw [hL 9 (by omega), hL 10 (by omega)]; exact h2 k hk
  · rw [hL 12 (by omega)]; exact h3 k hk
theorem Ba.onD {c m m' : Sx} (h : Ba c m) (s : SameD m m') (h52 : gI m' 52 = gI m 52) : Ba c m' := by
  obtain ⟨h1, h2, h3, h4, h5, h6, h7, h8, h9, h10, h11⟩ := h
  have et : tpd m' = tpd m := by unfold tpd; rw [h52]
  refine ⟨cg_WOrd s h1, cg_WVal s h2, cg_WStk s h3, ?_, fun k hk => ?_, fun f hf hp => ?_, fun f hf hp j hj => ?_, fun k hk => ?_, ?_, ?_, ?_⟩
  · unfold WTxt; rw [h52, s.1 34 (by decide)]; exact h4
  · rw [cg_iF s]; exact h5 k hk
  · rw [cg_iF s] at hp; rw [s.1 24 (by decide), s.1 25 (by decide)]; exact h6 f hf hp
  · rw [cg_iF s] at hp; rw [cg_iT s, s.1 27 (by decide)]; exact h7 f hf hp j hj
  · rw [s.1 28 (by decide)]; exact h8 k hk
  · unfold RStk; rw [cg_mn s, s.1 29 (by decide), s.1 30 (by decide), s.1 31 (by decide), s.1 32 (by decide), s.1 33 (by decide)]; exact h9
  · unfold RTxt; rw [h52, et, s.1 34 (by decide)]; exact h10
  · unfold WTg; rw [cg_iT s, s.1 27 (by decide)]; exact h11
theorem De.onD {c m m' : Sx} (h : De c m) (s : SameD m m') : De c m' := by
  obtain ⟨h1, h2, h3⟩ := h
  refine ⟨?_, ?_, ?_⟩
  · unfold DVal; rw [cg_iF s, cg_vOr s, cg_tgs s]; exact h1
  · unfold DKee; rw [cg_KP s, cg_iF s, cg_grp s]; exact h2
  · unfold DCov; rw [cg_mn s, cg_cov s]; exact h3
/-- the same numbers, but the members as they were -/
def mixM (m m' : Sx) : Sx := (m'.1, m'.2.1, m'.2.2.1, m.2.2.2)
theorem mix_bst (m m' : Sx) : ∀ k s, bst (mixM m m') s k = bst m' s k
  | 0, _ => rfl
  | k + 1, s => by rw [bst, bst, mix_bst m m' k s]; rfl
theorem mix_cov (m m' : Sx) : cov (mixM m m') = cov m' := by funext s; unfold cov; rw [mix_bst]; rfl
theorem Ba.onM {c m m' : Sx} (h : Ba c m) (s : ∀ a, a < 40 → gA m' a = gA m a) (h52 : gI m' 52 = gI m 52) : Ba c m' :=
  (show Ba c (mixM m m') from h.onD ⟨s, rfl⟩ h52)
theorem De.onM {c m m' : Sx} (h : De c m) (s : ∀ a, a < 40 → gA m' a = gA m a) : De c m' := by
  have g : De c (mixM m m') := h.onD ⟨s, rfl⟩
  refine ⟨g.1, g.2.1, ?_⟩
  have := g.2.2
  unfold DCov at this
  rw [mix_cov] at this
  exact this
