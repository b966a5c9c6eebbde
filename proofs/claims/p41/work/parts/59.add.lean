/-- a loop that looks for the first -/
theorem findUp {Rt : Type} {L : Nat → Int32 → Rt} {p : Nat → Bool} {N : Nat} {A : Rt} {B : Nat → Rt} (hexit : ∀ n, L (n + 1) (nI N) = A) (hstep : ∀ n k, k < N → L (n + 1) (nI k) = if p k = true then B k else L n (nI (k + 1))) : ∀ (d k n : Nat), k + d = N → d < n → L n (nI k) = match fst? p k d with
    | some k => B k
    | none => A := by
  intro d
  induction d with
  | zero =>
    intro k n hk hn
    obtain ⟨n, rfl⟩ : ∃ q, n = q + 1 := ⟨n - 1, by omega⟩
    obtain rfl : k = N := by omega
    exact hexit n
  | succ d ih =>
    intro k n hk hn
    obtain ⟨n, rfl⟩ : ∃ q, n = q + 1 := ⟨n - 1, by omega⟩
    rw [hstep n k (by omega), fst?]
    cases q : p k with
    | true => rw [if_pos rfl, if_pos rfl]
    | false => rw [if_neg (by decide), if_neg (by decide)]; exact ih (k + 1) n (by omega) (by omega)
theorem find0 {Rt : Type} {L : Nat → Int32 → Rt} {p : Nat → Bool} {N : Nat} (hN : N < 2000) {A : Rt} {B : Nat → Rt} (hexit : ∀ n, L (n + 1) (nI N) = A) (hstep : ∀ n k, k < N → L (n + 1) (nI k) = if p k = true then B k else L n (nI (k + 1))) : L FU 0 = match fst? p 0 N with
    | some k => B k
    | none => A := by
  rw [← nI_0]
  exact findUp hexit hstep N 0 FU (by omega) (by rw [FU_eq]; exact hN)
theorem freeNumber_eq {c m : Sx} (h : RPres c m) : f_X1_freeNumber c = match fst? (fun k => !iF m k) 0 40 with
    | some k => some (nI k)
    | none => some (-1) := by
  unfold f_X1_freeNumber
  exact find0 (L := fun n i => L_X1_freeNumber_2 c (fun z2 => some (-1)) n i) (p := fun k => !iF m k) (N := 40) (by decide) (fun n => by
    show L_X1_freeNumber_2 _ _ _ _ = _
    rw [L_X1_freeNumber_2, if_pos (by decide)]) (fun n k hk => by
    show L_X1_freeNumber_2 _ _ _ _ = _
    rw [L_X1_freeNumber_2, if_neg (ngo (x := 40) (N := 40) rfl hk (by decide)), holds_pres h hk, Option.bind_some, nI_lit1]
    cases iF m k <;> rfl)
theorem addM_eq (m : Sx) (b1 b2 : Int32) (kont : Int32 → Option (Int32 × Sx)) : L_X9_add_25 m b1 b2 kont FU 0 = match fst? (fun k => !iF m k) 0 40 with
    | some k => kont (nI k)
    | none => kont (nI 40) := by
  exact find0 (L := fun n i => L_X9_add_25 m b1 b2 kont n i) (p := fun k => !iF m k) (N := 40) (by decide) (fun n => by
    show L_X9_add_25 _ _ _ _ _ _ = _
    rw [L_X9_add_25, if_pos (by decide)]) (fun n k hk => by
    show L_X9_add_25 _ _ _ _ _ _ = _
    rw [L_X9_add_25, if_neg (ngo (x := 40) (N := 40) rfl hk (by decide)), gd_pos (vin_nI hk (by decide)), ix_nI (by omega), nI_lit1]
    cases q : iF m k with
    | false => rw [if_pos (iF_dec.mpr q)]; rfl
    | true => rw [if_neg (iF_ne q)]; rfl)
theorem fill_eq (c : Sx) {f : Nat} (hf : f < 40) : ∃ c', f_J7_fill_fda19 c (nI (18 * f)) (nI (18 * f + 18)) (-1) = some c' ∧ OnA 11 c c' ∧ ∀ j, gA c' 11 j = if 18 * f ≤ j ∧ j < 18 * f + 18 then -1 else gA c 11 j := by
  unfold f_J7_fill_fda19 f_J7_rangeCheck_23922
  rw [if_pos (nI_le (by omega) (by omega)), if_pos (nI_pos' (by omega)), if_pos (by rw [show (720 : Int32) = nI 720 from rfl]; exact nI_le (by omega) (by decide)), Option.bind_some]
  obtain ⟨y, ⟨-, h1, h2⟩, e⟩ := loopUp (L := fun n i s => L_J7_fill_fda19_10 (nI (18 * f)) (nI (18 * f + 18)) (-1) (fun z3 t4 => some t4) n i s) (E := fun s => some s) (N := 18 * f + 18)
    (fun k s => 18 * f ≤ k ∧ OnA 11 c s ∧ ∀ j, gA s 11 j = if 18 * f ≤ j ∧ j < k then -1 else gA c 11 j)
    (fun n s _ => by
      show L_J7_fill_fda19_10 _ _ _ _ _ _ _ = _
      rw [L_J7_fill_fda19_10, if_pos (nI_le (Nat.le_refl _) (by omega))])
    (fun k s hk h => by
      obtain ⟨q, h1, h2⟩ := h
      refine ⟨pA s 11 k (-1), ⟨by omega, h1.pA _ _, fun j => ?_⟩, fun n => ?_⟩
      · rw [gA_pA_at, h2 j]
        by_cases w : j = k
        · rw [if_pos w, if_pos (by omega)]
        · rw [if_neg w]
          by_cases w2 : 18 * f ≤ j ∧ j < k
          · rw [if_pos w2, if_pos (by omega)]
          · rw [if_neg w2, if_neg (by omega)]
      · show L_J7_fill_fda19_10 _ _ _ _ _ _ _ = _
        rw [L_J7_fill_fda19_10, if_neg (by rw [nI_le_iff (by omega) (by omega)]; omega), gd_pos (vin_nI (by omega) (by decide)), bd_eq, ix_nI (by omega), nI_lit1])
    18 (18 * f) FU c (by omega) (by rw [FU_eq]; decide) ⟨Nat.le_refl _, OnA.rf _ _, fun j => by rw [if_neg (by omega)]⟩
  exact ⟨y, e, h1, h2⟩
theorem i18a (f k : Nat) : (18 * nI f) + nI k = nI (18 * f + k) := by rw [show (18 : Int32) = nI 18 from rfl, nI_mul, nI_add]
theorem clearM_eq (m : Sx) (b1 b2 : Int32) {f : Nat} (hf : f < 40) (kont : Int32 → Sx → Option (Int32 × Sx)) : ∃ m', L_X9_add_86 b1 b2 (nI f) kont FU 0 m = kont (nI 18) m' ∧ OnA 26 m m' ∧ ∀ j, gA m' 26 j = if 18 * f ≤ j ∧ j < 18 * f + 18 then 0 else gA m 26 j := by
  obtain ⟨y, ⟨h1, h2⟩, e⟩ := loop0 (L := fun n i s => L_X9_add_86 b1 b2 (nI f) kont n i s) (E := fun s => kont (nI 18) s) (N := 18) (by decide) (y := m)
    (fun k s => OnA 26 m s ∧ ∀ j, gA s 26 j = if 18 * f ≤ j ∧ j < 18 * f + k then 0 else gA m 26 j)
    (fun n s _ => by
      show L_X9_add_86 _ _ _ _ _ _ _ = _
      rw [L_X9_add_86, if_pos (by decide)])
    (fun k s hk h => by
      obtain ⟨h1, h2⟩ := h
      refine ⟨pA s 26 (18 * f + k) 0, ⟨h1.pA _ _, fun j => ?_⟩, fun n => ?_⟩
      · rw [gA_pA_at, h2 j]
        by_cases w : j = 18 * f + k
        · rw [if_pos w, if_pos (by omega)]
        · rw [if_neg w]
          by_cases w2 : 18 * f ≤ j ∧ j < 18 * f + k
          · rw [if_pos w2, if_pos (by omega)]
          · rw [if_neg w2, if_neg (by omega)]
      · show L_X9_add_86 _ _ _ _ _ _ _ = _
        rw [L_X9_add_86, if_neg (ngo (x := 18) (N := 18) rfl hk (by decide)), i18a, gd_pos (vin_nI (by omega) (by decide)), bd_eq, ix_nI (by omega), nI_lit1])
    ⟨OnA.rf _ _, fun j => by rw [if_neg (by omega)]⟩
  exact ⟨y, e, h1, h2⟩
theorem enter_eq (c : Sx) {f : Nat} (hf : f < 40) (d z : Int32) : ∃ c', f_X1_enter c (nI f) d z = some c' ∧ FrM c c' ∧ (∀ k, k < 64 → hb (gL c' 8) k = (hb (gL c 8) k || decide (k = f))) ∧ (∀ k, k ≠ 8 → gL c' k = gL c k) ∧ (∀ a, a ≠ 9 → a ≠ 10 → a ≠ 11 → gA c' a = gA c a) ∧ gI c' = gI c ∧ (∀ k, gA c' 9 k = if k = f then d else gA c 9 k) ∧ (∀ k, gA c' 10 k = if k = f then z else gA c 10 k) ∧ ∀ j, gA c' 11 j = if 18 * f ≤ j ∧ j < 18 * f + 18 then -1 else gA c 11 j := by
  unfold f_X1_enter f_X8_only f_X1_slot
  have g : vp_in (nI f) 40 := vin_nI hf (by decide)
  have s0 : (((nI f * 3) + 0) * 6) + 0 = nI (18 * f) := i18c f 0 0
  have s1 : ((((nI f + 1) * 3) + 0) * 6) + 0 = nI (18 * f + 18) := by rw [nI_lit1]; have := i18c (f + 1) 0 0; rw [show 18 * (f + 1) + 6 * 0 + 0 = 18 * f + 18 by omega] at this; exact this
  simp only [Option.bind_some, bd_eq, gd_pos g, s0, s1]
  rw [ix_nI (by omega)]
  obtain ⟨c', e, o, hj⟩ := fill_eq (pA (pA (pL c 8 (gL c 8 ||| shlL 1 (nI f))) 9 f d) 10 f z) hf
  rw [e]
  refine ⟨c', rfl, ?_, ?_, ?_, ?_, ?_, ?_, ?_, ?_⟩
  · exact (FrM.pL).tr ((FrM.pA (by omega)).tr ((FrM.pA (by omega)).tr (o.frM (by omega))))
  · intro k hk
    rw [o.2.2.1, gL_pA, gL_pA, gL_pL, if_pos rfl, hb_orx _ (by omega) hk]
  · intro k hk
    rw [o.2.2.1, gL_pA, gL_pA, gL_pL, if_neg hk]
  · intro a h1 h2 h3
    rw [o.1 a h3, gA_pA_ne h2, gA_pA_ne h1, gA_pL]
  · rw [o.2.1]; rfl
  · intro k
    rw [o.1 9 (by decide), gA_pA_ne (by decide), gA_pA_at, gA_pL]
  · intro k
    rw [o.1 10 (by decide), gA_pA_at, gA_pA_ne (by decide), gA_pL]
  · intro j
    rw [hj, gA_pA_ne (by decide), gA_pA_ne (by decide), gA_pL]
theorem cal_add (a1 a2 : Int32) : Cal (-3) (fun t => f_X8_add t a1 a2) (fun t => f_X9_add t a1 a2) := fun c m h => by
  show ∃ r c' m', f_X8_add c a1 a2 = some (r, c') ∧ f_X9_add m a1 a2 = some (r, m') ∧ _
  unfold f_X8_add f_X9_add
  simp only [isWithin_eq, in_eq, Option.bind_some]
  cases q1 : inr a1 0 9999 with
  | false => exact h.err (-1) (by rw [bF]) (by rw [bF])
  | true =>
    rw [bT, bT]
    cases q2 : inr a2 1 100000 with
    | false => exact h.err (-1) (by rw [bF]) (by rw [bF])
    | true =>
      rw [bT, bT, freeNumber_eq h.1.rP, addM_eq]
      cases e : fst? (fun k => !iF m k) 0 40 with
      | none => exact h.err (-3) (by rfl) (by dsimp only; rw [if_pos (by decide)])
      | some f =>
        obtain ⟨-, hf, hnf, -⟩ := fst?_some e
        have hf : f < 40 := by omega
        have hp : iF m f = false := by simpa using hnf
        have g : vp_in (nI f) 40 := vin_nI hf (by decide)
        dsimp only
        rw [Option.bind_some, if_neg (nI_ne_m1 (by omega)), if_neg (by rw [show (40 : Int32) = nI 40 from rfl, nI_eq_iff (by omega) (by decide)]; omega)]
        simp only [gd_pos g, bd_eq]
        rw [ix_nI (by omega)]
        obtain ⟨c1, e1, fr1, l8, l, o, oI, k9, k10, k11⟩ := enter_eq c hf a1 a2
        obtain ⟨m1, e2, o2, k26⟩ := clearM_eq (pA (pA (pA (pA m 23 f 1) 24 f a1) 25 f a2) 29 f (-1)) a1 a2 hf (fun z9 t10 => (f_X9_settled t10 (nI f)).bind fun r11 => some (r11.1, r11.2))
        rw [e1, Option.bind_some, e2]
        obtain ⟨hB, hD, hA, hJ, hM⟩ := h
        have h29 : gA m 29 f = -1 := by
          rcases wStk_home hB.wS hf with w | ⟨s, _, _, _, w⟩
          · exact w
          · rw [hp] at w; cases w
        have m23 : ∀ k, gA m1 23 k = if k = f then 1 else gA m 23 k := fun k => by rw [o2.1 23 (by decide), gA_pA_ne (by decide), gA_pA_ne (by decide), gA_pA_ne (by decide), gA_pA_at]
        have m24 : ∀ k, gA m1 24 k = if k = f then a1 else gA m 24 k := fun k => by rw [o2.1 24 (by decide), gA_pA_ne (by decide), gA_pA_ne (by decide), gA_pA_at, gA_pA_ne (by decide)]
        have m25 : ∀ k, gA m1 25 k = if k = f then a2 else gA m 25 k := fun k => by rw [o2.1 25 (by decide), gA_pA_ne (by decide), gA_pA_at, gA_pA_ne (by decide), gA_pA_ne (by decide)]
        have m29 : gA m1 29 = gA m 29 := by
          funext k
          rw [o2.1 29 (by decide), gA_pA_at, gA_pA_ne (by decide), gA_pA_ne (by decide), gA_pA_ne (by decide)]
          split
          · rename_i w; rw [w, h29]
          · rfl
        have mA : ∀ a, a ≠ 23 → a ≠ 24 → a ≠ 25 → a ≠ 26 → a ≠ 29 → gA m1 a = gA m a := fun a w1 w2 w3 w4 w5 => by rw [o2.1 a w4, gA_pA_ne w5, gA_pA_ne w3, gA_pA_ne w2, gA_pA_ne w1]
        have mI : gI m1 = gI m := by rw [o2.2.1]; rfl
        have mM : gM m1 = gM m := by rw [o2.2.2.2]; rfl
        have m26 : ∀ j, gA m1 26 j = if 18 * f ≤ j ∧ j < 18 * f + 18 then 0 else gA m 26 j := fun j => by rw [k26, gA_pA_ne (by decide), gA_pA_ne (by decide), gA_pA_ne (by decide), gA_pA_ne (by decide)]
        have eF : ∀ k, iF m1 k = if k = f then true else iF m k := fun k => by
          unfold iF; rw [m23]; split <;> rfl
        have eT : ∀ j, iT m1 j = if 18 * f ≤ j ∧ j < 18 * f + 18 then false else iT m j := fun j => by
          unfold iT; rw [m26]; split <;> rfl
        have emn : mn m1 = mn m := mn_on (mA 30 (by decide) (by decide) (by decide) (by decide) (by decide))
        have p1 : Pre c1 m1 := by
          refine ⟨⟨hB.wO.on (mA 28 (by decide) (by decide) (by decide) (by decide) (by decide)), fun i hi ht => ?_, ?_, hB.wT.on (by rw [mI]) (mA 34 (by decide) (by decide) (by decide) (by decide) (by decide)), fun k hk => ?_, fun k hk hpk => ?_, fun k hk hpk j hj => ?_, (hB.rO.on (o 13 (by decide) (by decide) (by decide))).onM (mA 28 (by decide) (by decide) (by decide) (by decide) (by decide)), ?_, (hB.rT.onC (by rw [oI]) (o 108 (by decide) (by decide) (by decide))).onM (by rw [mI]) (mA 34 (by decide) (by decide) (by decide) (by decide) (by decide)), ⟨fun k hk s hs ht => ?_, fun i hi h6 ht => ?_⟩⟩, hA.on (fun k _ _ => by rw [oI]) (fun a ha _ => o a (by omega) (by omega) (by omega)) (fun k hk => l k (by omega)) (fun a ha _ => mA a (by omega) (by omega) (by omega) (by omega) (by omega)) (by rw [mM]), hJ.on (by rw [oI]) (by rw [oI]) (by rw [mI]) (o 20 (by decide) (by decide) (by decide)) (o 21 (by decide) (by decide) (by decide)) (o 22 (by decide) (by decide) (by decide)) (mA 41 (by decide) (by decide) (by decide) (by decide) (by decide))⟩
          · rw [eT] at ht
            rw [mA 27 (by decide) (by decide) (by decide) (by decide) (by decide)]
            by_cases w : 18 * f ≤ i ∧ i < 18 * f + 18
            · rw [if_pos w] at ht; cases ht
            · rw [if_neg w] at ht; exact hB.wV i hi ht
          · obtain ⟨s1, s2, s3, s4, s5⟩ := hB.wS
            unfold WStk
            rw [emn, m29, mA 30 (by decide) (by decide) (by decide) (by decide) (by decide), mA 31 (by decide) (by decide) (by decide) (by decide) (by decide), mA 32 (by decide) (by decide) (by decide) (by decide) (by decide)]
            refine ⟨fun k hk => ?_, s2, s3, s4, s5⟩
            rcases s1 k hk with w | ⟨s, w1, w2, w3, w4⟩
            · exact Or.inl w
            · exact Or.inr ⟨s, w1, w2, by rw [eF]; split; · rfl
                                          · exact w3, w4⟩
          · rw [l8 k hk, hB.rP k hk, eF]
            by_cases w : k = f
            · rw [if_pos w, decide_eq_true w, Bool.or_true, decide_eq_true (by omega)]; rfl
            · rw [if_neg w, decide_eq_false w, Bool.or_false]
          · rw [eF] at hpk
            rw [k9, k10, m24, m25]
            by_cases w : k = f
            · rw [if_pos w, if_pos w, if_pos w, if_pos w]; exact ⟨rfl, rfl⟩
            · rw [if_neg w] at hpk
              rw [if_neg w, if_neg w, if_neg w, if_neg w]; exact hB.rD k hk hpk
          · rw [eF] at hpk
            rw [k11, eT, mA 27 (by decide) (by decide) (by decide) (by decide) (by decide)]
            by_cases w : k = f
            · have w' : 18 * f ≤ 18 * k + j ∧ 18 * k + j < 18 * f + 18 := by omega
              rw [if_pos w', if_pos w']; rfl
            · rw [if_neg w] at hpk
              have w' : ¬ (18 * f ≤ 18 * k + j ∧ 18 * k + j < 18 * f + 18) := by omega
              rw [if_neg w', if_neg w']; exact hB.rV k hk hpk j hj
          · refine (hB.rS.onC (o 14 (by decide) (by decide) (by decide)) (o 15 (by decide) (by decide) (by decide)) (o 16 (by decide) (by decide) (by decide)) (o 17 (by decide) (by decide) (by decide)) (o 18 (by decide) (by decide) (by decide)) (l 11 (by decide))).onM m29 (mA 30 (by decide) (by decide) (by decide) (by decide) (by decide)) (mA 31 (by decide) (by decide) (by decide) (by decide) (by decide)) (mA 32 (by decide) (by decide) (by decide) (by decide) (by decide)) (mA 33 (by decide) (by decide) (by decide) (by decide) (by decide))
          · rw [eT] at ht
            rw [mA 27 (by decide) (by decide) (by decide) (by decide) (by decide)]
            by_cases w : 18 * f ≤ 18 * k + 6 * s + 5 ∧ 18 * k + 6 * s + 5 < 18 * f + 18
            · rw [if_pos w] at ht; cases ht
            · rw [if_neg w] at ht; exact hB.wG.1 k hk s hs ht
          · rw [eT] at ht
            rw [mA 27 (by decide) (by decide) (by decide) (by decide) (by decide)]
            by_cases w : 18 * f ≤ i ∧ i < 18 * f + 18
            · rw [if_pos w] at ht; cases ht
            · rw [if_neg w] at ht; exact hB.wG.2 i hi h6 ht
        have f2 : FrC m m1 := (FrC.pA (by omega)).tr ((frC_pA24 (inr_iff.mp q1).1).tr ((FrC.pA (by omega)).tr ((FrC.pA (by omega)).tr (FrC.ofM (fun a ha => o2.1 a (by omega)) (fun k _ => by rw [o2.2.1]) (fun k => by rw [o2.2.2.1]) o2.2.2.2))))
        obtain ⟨c', m', e3, e4, i1, i2, i3, -⟩ := fin_settle p1 fr1 f2
        rw [e3, e4]
        exact ⟨_, c', m', rfl, rfl, i1, i2, i3, fun _ => lo_nI (by decide) (by omega)⟩
