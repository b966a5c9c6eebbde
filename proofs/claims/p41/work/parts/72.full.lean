/-! ===== calls that go well, told in full ===== -/
theorem add_full {c m : Sx} (h : Inv c m) {a1 a2 : Int32} (g1 : inr a1 0 9999 = true) (g2 : inr a2 1 100000 = true) {f0 : Nat} (ef0 : fst? (fun k => !iF m k) 0 40 = some f0) : ∃ c' m', f_X8_add c a1 a2 = some (nI f0, c') ∧ f_X9_add m a1 a2 = some (nI f0, m') ∧ Inv c' m' ∧ FrC m m' ∧ ∀ k, iF m' k = if k = f0 then true else iF m k := by
  unfold f_X8_add f_X9_add
  simp only [isWithin_eq, in_eq, Option.bind_some]
  cases q1 : inr a1 0 9999 with
  | false => rw [g1] at q1; cases q1
  | true =>
    rw [bT, bT]
    cases q2 : inr a2 1 100000 with
    | false => rw [g2] at q2; cases q2
    | true =>
      rw [bT, bT, freeNumber_eq h.1.rP, addM_eq]
      cases e : fst? (fun k => !iF m k) 0 40 with
      | none => rw [ef0] at e; cases e
      | some f =>
        obtain rfl : f = f0 := Option.some.inj (e.symm.trans ef0)
        obtain ⟨-, hf, hnf, -⟩ := fst?_some e
        have hf : f < 40 := by omega
        have hp : iF m f = false := by simpa using hnf
        have g : vp_in (nI f) 40 := vin_nI hf (by decide)
        dsimp only
        rw [Option.bind_some, if_neg (nI_ne_m1 (by omega)), if_neg (by rw [show (40 : Int32) = nI 40 from rfl, nI_eq_iff (by omega) (by decide)]; omega)]
        simp only [gd_pos g, bd_eq]
        rw [ix_nI (by omega)]
        obtain ⟨c1, e1, fr1, l8, l, o, oI, k9, k10, k11⟩ := enter_eq c hf a1 a2
        obtain ⟨m1, e2, o2, k26⟩ := clearM_eq (pA (pA (pA (pA m 23 f 1) 24 f a1) 25 f a2) 29 f (-1)) a1 a2 hf (fun z9 t10 => (f_X9_settled t10 (nI f)).bind fun r11 => some (r11.1, r11.2))
        rw [e1, Option.bind_some, e2]
        obtain ⟨hB, hD, hA, hJ, hM⟩ := h
        have h29 : gA m 29 f = -1 := by
          rcases wStk_home hB.wS hf with w | ⟨s, _, _, _, w⟩
          · exact w
          · rw [hp] at w; cases w
        have m23 : ∀ k, gA m1 23 k = if k = f then 1 else gA m 23 k := fun k => by rw [o2.1 23 (by decide), gA_pA_ne (by decide), gA_pA_ne (by decide), gA_pA_ne (by decide), gA_pA_at]
        have m24 : ∀ k, gA m1 24 k = if k = f then a1 else gA m 24 k := fun k => by rw [o2.1 24 (by decide), gA_pA_ne (by decide), gA_pA_ne (by decide), gA_pA_at, gA_pA_ne (by decide)]
        have m25 : ∀ k, gA m1 25 k = if k = f then a2 else gA m 25 k := fun k => by rw [o2.1 25 (by decide), gA_pA_ne (by decide), gA_pA_at, gA_pA_ne (by decide), gA_pA_ne (by decide)]
        have m29 : gA m1 29 = gA m 29 := by
          funext k
          rw [o2.1 29 (by decide), gA_pA_at, gA_pA_ne (by decide), gA_pA_ne (by decide), gA_pA_ne (by decide)]
          split
          · rename_i w; rw [w, h29]
          · rfl
        have mA : ∀ a, a ≠ 23 → a ≠ 24 → a ≠ 25 → a ≠ 26 → a ≠ 29 → gA m1 a = gA m a := fun a w1 w2 w3 w4 w5 => by rw [o2.1 a w4, gA_pA_ne w5, gA_pA_ne w3, gA_pA_ne w2, gA_pA_ne w1]
        have mI : gI m1 = gI m := by rw [o2.2.1]; rfl
        have mM : gM m1 = gM m := by rw [o2.2.2.2]; rfl
        have m26 : ∀ j, gA m1 26 j = if 18 * f ≤ j ∧ j < 18 * f + 18 then 0 else gA m 26 j := fun j => by rw [k26, gA_pA_ne (by decide), gA_pA_ne (by decide), gA_pA_ne (by decide), gA_pA_ne (by decide)]
        have eF : ∀ k, iF m1 k = if k = f then true else iF m k := fun k => by
          unfold iF; rw [m23]; split <;> rfl
        have eT : ∀ j, iT m1 j = if 18 * f ≤ j ∧ j < 18 * f + 18 then false else iT m j := fun j => by
          unfold iT; rw [m26]; split <;> rfl
        have emn : mn m1 = mn m := mn_on (mA 30 (by decide) (by decide) (by decide) (by decide) (by decide))
        have p1 : Pre c1 m1 := by
          refine ⟨⟨hB.wO.on (mA 28 (by decide) (by decide) (by decide) (by decide) (by decide)), fun i hi ht => ?_, ?_, hB.wT.on (by rw [mI]) (mA 34 (by decide) (by decide) (by decide) (by decide) (by decide)), fun k hk => ?_, fun k hk hpk => ?_, fun k hk hpk j hj => ?_, (hB.rO.on (o 13 (by decide) (by decide) (by decide))).onM (mA 28 (by decide) (by decide) (by decide) (by decide) (by decide)), ?_, (hB.rT.onC (by rw [oI]) (o 108 (by decide) (by decide) (by decide))).onM (by rw [mI]) (mA 34 (by decide) (by decide) (by decide) (by decide) (by decide)), ⟨fun k hk s hs ht => ?_, fun i hi h6 ht => ?_⟩⟩, hA.on (fun k _ _ => by rw [oI]) (fun a ha _ => o a (by omega) (by omega) (by omega)) (fun k hk => l k (by omega)) (fun a ha _ => mA a (by omega) (by omega) (by omega) (by omega) (by omega)) (by rw [mM]), hJ.on (by rw [oI]) (by rw [oI]) (by rw [mI]) (o 20 (by decide) (by decide) (by decide)) (o 21 (by decide) (by decide) (by decide)) (o 22 (by decide) (by decide) (by decide)) (mA 41 (by decide) (by decide) (by decide) (by decide) (by decide))⟩
          · rw [eT] at ht
            rw [mA 27 (by decide) (by decide) (by decide) (by decide) (by decide)]
            by_cases w : 18 * f ≤ i ∧ i < 18 * f + 18
            · rw [if_pos w] at ht; cases ht
            · rw [if_neg w] at ht; exact hB.wV i hi ht
          · obtain ⟨s1, s2, s3, s4, s5⟩ := hB.wS
            unfold WStk
            rw [emn, m29, mA 30 (by decide) (by decide) (by decide) (by decide) (by decide), mA 31 (by decide) (by decide) (by decide) (by decide) (by decide), mA 32 (by decide) (by decide) (by decide) (by decide) (by decide)]
            refine ⟨fun k hk => ?_, s2, s3, s4, s5⟩
            rcases s1 k hk with w | ⟨s, w1, w2, w3, w4⟩
            · exact Or.inl w
            · exact Or.inr ⟨s, w1, w2, by rw [eF]; split; · rfl
                                          · exact w3, w4⟩
          · rw [l8 k hk, hB.rP k hk, eF]
            by_cases w : k = f
            · rw [if_pos w, decide_eq_true w, Bool.or_true, decide_eq_true (by omega)]; rfl
            · rw [if_neg w, decide_eq_false w, Bool.or_false]
          · rw [eF] at hpk
            rw [k9, k10, m24, m25]
            by_cases w : k = f
            · rw [if_pos w, if_pos w, if_pos w, if_pos w]; exact ⟨rfl, rfl⟩
            · rw [if_neg w] at hpk
              rw [if_neg w, if_neg w, if_neg w, if_neg w]; exact hB.rD k hk hpk
          · rw [eF] at hpk
            rw [k11, eT, mA 27 (by decide) (by decide) (by decide) (by decide) (by decide)]
            by_cases w : k = f
            · have w' : 18 * f ≤ 18 * k + j ∧ 18 * k + j < 18 * f + 18 := by omega
              rw [if_pos w', if_pos w']; rfl
            · rw [if_neg w] at hpk
              have w' : ¬ (18 * f ≤ 18 * k + j ∧ 18 * k + j < 18 * f + 18) := by omega
              rw [if_neg w', if_neg w']; exact hB.rV k hk hpk j hj
          · refine (hB.rS.onC (o 14 (by decide) (by decide) (by decide)) (o 15 (by decide) (by decide) (by decide)) (o 16 (by decide) (by decide) (by decide)) (o 17 (by decide) (by decide) (by decide)) (o 18 (by decide) (by decide) (by decide)) (l 11 (by decide))).onM m29 (mA 30 (by decide) (by decide) (by decide) (by decide) (by decide)) (mA 31 (by decide) (by decide) (by decide) (by decide) (by decide)) (mA 32 (by decide) (by decide) (by decide) (by decide) (by decide)) (mA 33 (by decide) (by decide) (by decide) (by decide) (by decide))
          · rw [eT] at ht
            rw [mA 27 (by decide) (by decide) (by decide) (by decide) (by decide)]
            by_cases w : 18 * f ≤ 18 * k + 6 * s + 5 ∧ 18 * k + 6 * s + 5 < 18 * f + 18
            · rw [if_pos w] at ht; cases ht
            · rw [if_neg w] at ht; exact hB.wG.1 k hk s hs ht
          · rw [eT] at ht
            rw [mA 27 (by decide) (by decide) (by decide) (by decide) (by decide)]
            by_cases w : 18 * f ≤ i ∧ i < 18 * f + 18
            · rw [if_pos w] at ht; cases ht
            · rw [if_neg w] at ht; exact hB.wG.2 i hi h6 ht
        have f2 : FrC m m1 := (FrC.pA (by omega)).tr ((frC_pA24 (inr_iff.mp q1).1).tr ((FrC.pA (by omega)).tr ((FrC.pA (by omega)).tr (FrC.ofM (fun a ha => o2.1 a (by omega)) (fun k _ => by rw [o2.2.1]) (fun k => by rw [o2.2.2.1]) o2.2.2.2))))
        obtain ⟨c', m', e3, e4, i1, i2, i3, i4⟩ := fin_settle p1 fr1 f2
        rw [e3, e4]
        exact ⟨c', m', rfl, rfl, i1, i3, fun k => by rw [iF_on (i4.1 23 (by decide)), eF]⟩
theorem rem_full {c m : Sx} (h : Inv c m) {f : Nat} (hf : f < 40) (hp : iF m f = true) : ∃ c' m', f_X8_remove c (nI f) = some (nI (fb_ct (iF m') 40), c') ∧ Inv c' m' ∧ FrC m m' ∧ ∀ k, iF m' k = if k = f then false else iF m k := by
  unfold f_X8_remove
  rw [hasC h.1, fil_nI hf, hp, Option.bind_some]
  obtain ⟨hB, hD, hA, hJ, hM⟩ := h
  obtain ⟨c1, m1, e1, e2, b1, a1, j1, f1, f2, eF, -⟩ := disc_pair hB hA hJ hf
  obtain ⟨c', m', e3, e4, i1, i2, i3, i4⟩ := fin_settle ⟨b1, a1, j1⟩ f1 f2
  rw [bT, e1]
  simp only [Option.bind_some, e3, howMany_eq i1.1.rP]
  exact ⟨c', m', rfl, i1, i3, fun k => by rw [iF_on (i4.1 23 (by decide)), eF]⟩
theorem ord_full {c m : Sx} (h : Inv c m) {a1 a2 a3 : Int32} (g1 : inr a1 0 2 = true) (g2 : inr a2 0 2 = true) (g3 : inr a3 0 2 = true) (u1 : ¬ a1 = a2) (u2 : ¬ a1 = a3) (u3 : ¬ a2 = a3) : ∃ r c' m', f_X8_setOrder c a1 a2 a3 = some (r, c') ∧ f_X9_setOrder m a1 a2 a3 = some (r, m') ∧ Inv c' m' ∧ FrC m m' ∧ (Xs m → 12 ≤ r) := by
  unfold f_X8_setOrder f_X9_setOrder
  simp only [isSource_eq, in_eq, Option.bind_some]
  cases q1 : inr a1 0 2 with
  | false => rw [g1] at q1; cases q1
  | true =>
    rw [bT, bT]
    cases q2 : inr a2 0 2 with
    | false => rw [g2] at q2; cases q2
    | true =>
      rw [bT, bT]
      cases q3 : inr a3 0 2 with
      | false => rw [g3] at q3; cases q3
      | true =>
        rw [bT, bT, if_neg (show ¬ (1 : Int32) = 0 by decide)]
        by_cases w1 : a1 = a2
        · exact absurd w1 u1
        · rw [if_neg w1, if_neg w1]
          by_cases w2 : a1 = a3
          · exact absurd w2 u2
          · rw [if_neg w2, if_neg w2]
            by_cases w3 : a2 = a3
            · exact absurd w3 u3
            · rw [if_neg w3, if_neg w3]
              obtain ⟨k1, h1, rfl⟩ := inr_out (n := 2) (by decide) q1
              obtain ⟨k2, h2, rfl⟩ := inr_out (n := 2) (by decide) q2
              obtain ⟨k3, h3, rfl⟩ := inr_out (n := 2) (by decide) q3
              obtain ⟨hB, hD, hA, hJ, hM⟩ := h
              have p1 : Pre (pA (pA (pA c 13 0 (nI k1)) 13 1 (nI k2)) 13 2 (nI k3)) (pA (pA (pA m 28 0 (nI k1)) 28 1 (nI k2)) 28 2 (nI k3)) := by
                refine ⟨⟨fun k hk => ?_, hB.wV.on rfl rfl, hB.wS.on rfl rfl rfl rfl rfl, hB.wT.on rfl rfl, (hB.rP.on (y := pA (pA (pA c 13 0 (nI k1)) 13 1 (nI k2)) 13 2 (nI k3)) rfl).onM rfl, (hB.rD.onC (c' := pA (pA (pA c 13 0 (nI k1)) 13 1 (nI k2)) 13 2 (nI k3)) rfl rfl).onM rfl rfl rfl, (hB.rV.on (y := pA (pA (pA c 13 0 (nI k1)) 13 1 (nI k2)) 13 2 (nI k3)) rfl).onM rfl rfl rfl, fun k hk => ?_, (hB.rS.onC (c' := pA (pA (pA c 13 0 (nI k1)) 13 1 (nI k2)) 13 2 (nI k3)) rfl rfl rfl rfl rfl rfl).onM rfl rfl rfl rfl rfl, (hB.rT.onC (c' := pA (pA (pA c 13 0 (nI k1)) 13 1 (nI k2)) 13 2 (nI k3)) rfl rfl).onM rfl rfl, hB.wG.on rfl rfl⟩, hA.on (fun _ _ _ => rfl) (fun a _ _ => by rw [gA_pA_ne (by omega), gA_pA_ne (by omega), gA_pA_ne (by omega)]) (fun _ _ => rfl) (fun a _ _ => by rw [gA_pA_ne (by omega), gA_pA_ne (by omega), gA_pA_ne (by omega)]) rfl, hJ.on rfl rfl rfl rfl rfl rfl rfl⟩
                · rw [gA_pA_at, gA_pA_at, gA_pA_at]
                  rcases (show k = 0 ∨ k = 1 ∨ k = 2 by omega) with rfl | rfl | rfl
                  · exact ⟨k1, by omega, rfl⟩
                  · exact ⟨k2, by omega, rfl⟩
                  · exact ⟨k3, by omega, rfl⟩
                · rw [gA_pA_at, gA_pA_at, gA_pA_at, gA_pA_at, gA_pA_at, gA_pA_at]
                  rcases (show k = 0 ∨ k = 1 ∨ k = 2 by omega) with rfl | rfl | rfl <;> rfl
              obtain ⟨c', m', e1, e2, i1, i2, i3, -⟩ := fin_settle (c := c) (m := m) p1 ((FrM.pA (by omega)).tr ((FrM.pA (by omega)).tr (FrM.pA (by omega)))) (frC_ord h1 h2 h3 w1 w2 w3)
              unfold f_X1_orderCode f_X1_reorder
              have g0 : vp_in 0 3 := vin_nI (n := 0) (by decide) (by decide)
              have g1 : vp_in 1 3 := vin_nI (n := 1) (by decide) (by decide)
              have g2 : vp_in 2 3 := vin_nI (n := 2) (by decide) (by decide)
              have x0 : ix 0 = 0 := rfl
              have x1 : ix 1 = 1 := rfl
              have x2 : ix 2 = 2 := rfl
              simp only [gd_pos g0, gd_pos g1, gd_pos g2, bd_eq, x0, x1, x2, Option.bind_some, e1, e2]
              rw [hB.rO 0 (by decide), hB.rO 1 (by decide), hB.rO 2 (by decide)]
              exact ⟨_, c', m', rfl, rfl, i1, i3, fun w => ord_12 w.2.2⟩
