/-! ===== rules as a whole: whether the text can be used ===== -/
theorem names_dig {ch : Nat → Nat} {n : Nat} (h : Rul ch n) {p : Nat} (hp : p < n) (e : ch p = 97) : p + 1 < n ∧ 48 ≤ ch (p + 1) ∧ ch (p + 1) ≤ 57 := by
  obtain ⟨sn, hv, -⟩ := h.2
  obtain ⟨s, o, e1, g1, g2, g3, g4⟩ := rn_at h.1 hv hp
  obtain ⟨-, w⟩ := lt_ok g1 (by omega) g2 g3 (by omega)
  have h7 : nx s (ch p) o = 7 := by
    rcases w with ⟨w, _⟩ | ⟨_, _, w⟩ | ⟨w, _, _⟩
    · rw [e] at w; exact absurd w (by decide)
    · exact w
    · omega
  rw [h7, if_neg (by omega), if_neg (by omega)] at g4
  obtain ⟨w1, w2, -⟩ := one_digit h g4 (by omega)
  obtain ⟨w3, w4⟩ := dgt_iff.mp w2
  exact ⟨w1, w3, w4⟩
def nmF (ch : Nat → Nat) (a k : Nat) : Bool := decide (ch k = 97) && decide (ch (k + 1) - 48 = a)
def nmB (ch : Nat → Nat) (n a : Nat) : Bool := (fst? (nmF ch a) 0 n).isSome
theorem nmB_iff {ch : Nat → Nat} {n a : Nat} : nmB ch n a = true ↔ ∃ p, p < n ∧ ch p = 97 ∧ ch (p + 1) - 48 = a := by
  unfold nmB
  cases e : fst? (nmF ch a) 0 n with
  | none =>
    refine ⟨fun w => (by cases w), fun ⟨p, h1, h2, h3⟩ => ?_⟩
    have := fst?_none e p (by omega) (by omega)
    unfold nmF at this
    rw [decide_eq_true h2, decide_eq_true h3] at this
    cases this
  | some k =>
    obtain ⟨-, h2, h3, -⟩ := fst?_some e
    obtain ⟨u1, u2⟩ := (Bool.and_eq_true _ _).mp h3
    exact ⟨fun _ => ⟨k, by omega, of_decide_eq_true u1, of_decide_eq_true u2⟩, fun _ => rfl⟩
theorem namesC_eq {c : Sx} {j : Nat} {ch : Nat → Nat} {n : Nat} (hT : Tx c j ch n) (hR : Rul ch n) {a : Nat} (ha : a < 10) : f_X5_names c j (nI a) = some (b2 (nmB ch n a)) := by
  have h80 := hT.1
  unfold f_X5_names
  have r := find0 (L := fun m i => L_X5_names_2 c j (nI a) (fun z3 => some 0) m i) (p := nmF ch a) (N := n) (A := some 0) (B := fun _ => some 1) (by omega) (fun m => by
    show L_X5_names_2 _ _ _ _ _ _ = _
    rw [L_X5_names_2, hT.2.1, if_pos (nI_le (Nat.le_refl _) (by omega))]) (fun m k hk => by
    show L_X5_names_2 _ _ _ _ _ _ = _
    obtain ⟨k1, k2⟩ := hT.2.2.2 k hk
    rw [L_X5_names_2, hT.2.1, if_neg (by rw [nI_le_iff (by omega) (by omega)]; omega), at_eq hT (by omega), if_pos hk, Option.bind_some, nI_lit1, show (97 : Int32) = nI 97 from rfl]
    unfold nmF
    by_cases q : ch k = 97
    · obtain ⟨d1, d2, d3⟩ := names_dig hR hk q
      rw [if_pos (by rw [q]), at_eq hT (by omega), if_pos d1, Option.bind_some, tbit_sub (dgt_iff.mpr ⟨d2, d3⟩), decide_eq_true q, Bool.true_and]
      by_cases w : ch (k + 1) - 48 = a
      · rw [if_pos (by rw [w]), if_pos (decide_eq_true w)]
      · rw [if_neg (by rw [nI_eq_iff (by omega) (by omega)]; exact w), if_neg (by rw [decide_eq_false w]; decide)]
    · rw [if_neg (by rw [nI_eq_iff (by omega) (by decide)]; exact q), decide_eq_false q, Bool.false_and, if_neg (by decide)])
  rw [r]
  unfold nmB
  cases fst? (nmF ch a) 0 n <;> rfl
/-- the text is a rule, and the albums that it names are there, below b -/
def usb (m : Sx) (b : Nat) : Prop := Rul (tch m) (tpd m) ∧ ∀ p, p < tpd m → tch m p = 97 → tch m (p + 1) - 48 < 8 ∧ tch m (p + 1) - 48 < b ∧ iA m (tch m (p + 1) - 48) = true
theorem tx_of {c m : Sx} (h : WTxt m) (r : RTxt c m) : Tx c 8 (tch m) (tpd m) := ⟨(wTxt_n h).1, by rw [show 150 + 8 = 158 from rfl, r.1]; exact (wTxt_n h).2, fun k hk => by rw [show 100 + 8 = 108 from rfl, r.2 k hk]; exact (wTxt_c h hk).2.2, wTxt_ok h⟩
theorem usable_eq {c m : Sx} (hB : Ba c m) (hA : RAl c m) {b : Nat} (hb : b ≤ 8) : f_X8_isTextUsable c (nI b) = some (b2 (pb (usb m b))) := by
  unfold f_X8_isTextUsable
  rcases faultC_eq hB.wT hB.rT with ⟨v, e⟩ | ⟨p, hp, fl, e⟩
  · have hR : Rul (tch m) (tpd m) := ⟨wTxt_ok hB.wT, v⟩
    have hT := tx_of hB.wT hB.rT
    rw [e, Option.bind_some, if_pos rfl]
    have r := find0 (L := fun k i => L_X8_isTextUsable_15 c (nI b) (fun z4 => some 1) k i) (p := fun a => nmB (tch m) (tpd m) a && !(decide (a < b) && alm m (nI a))) (N := 10) (A := some 1) (B := fun _ => some 0) (by omega) (fun k => by
      show L_X8_isTextUsable_15 _ _ _ _ _ = _
      rw [L_X8_isTextUsable_15, if_pos (by decide)]) (fun k a ha => by
      show L_X8_isTextUsable_15 _ _ _ _ _ = _
      rw [L_X8_isTextUsable_15, if_neg (by rw [show (9 : Int32) = nI 9 from rfl, nI_lt_iff (by decide) (by omega)]; omega), namesC_eq hT hR ha, Option.bind_some, nI_lit1]
      cases q : nmB (tch m) (tpd m) a with
      | false => rw [bF]; rfl
      | true =>
        rw [bT, Bool.true_and]
        by_cases w : a < b
        · rw [if_neg (by rw [nI_le_iff (by omega) (by omega)]; omega), hasAlbum_eq hA, Option.bind_some, decide_eq_true w, Bool.true_and]
          cases alm m (nI a) <;> rfl
        · rw [if_pos (nI_le (by omega) (by omega)), decide_eq_false w]; rfl)
    rw [r]
    cases ef : fst? (fun a => nmB (tch m) (tpd m) a && !(decide (a < b) && alm m (nI a))) 0 10 with
    | none =>
      rw [pb_iff.mpr]; · rfl
      refine ⟨hR, fun p hp e => ?_⟩
      obtain ⟨d1, d2, d3⟩ := names_dig hR hp e
      have := fst?_none ef (tch m (p + 1) - 48) (by omega) (by omega)
      rw [nmB_iff.mpr ⟨p, hp, e, rfl⟩, Bool.true_and] at this
      have u : (decide (tch m (p + 1) - 48 < b) && alm m (nI (tch m (p + 1) - 48))) = true := by
        cases z : (decide (tch m (p + 1) - 48 < b) && alm m (nI (tch m (p + 1) - 48))) with
        | true => rfl
        | false => rw [z] at this; cases this
      obtain ⟨u1, u2⟩ := (Bool.and_eq_true _ _).mp u
      obtain ⟨a, ha, ea, u3⟩ := alm_out u2
      rw [nI_eq_iff (by omega) (by omega)] at ea
      exact ⟨by omega, of_decide_eq_true u1, by rw [ea]; exact u3⟩
    | some a =>
      obtain ⟨-, h2, h3, -⟩ := fst?_some ef
      obtain ⟨u1, u2⟩ := (Bool.and_eq_true _ _).mp h3
      have : pb (usb m b) = false := by
        cases z : pb (usb m b) with
        | false => rfl
        | true =>
          obtain ⟨p, hp, e1, e2⟩ := nmB_iff.mp u1
          obtain ⟨w1, w2, w3⟩ := (pb_iff.mp z).2 p hp e1
          rw [e2] at w1 w2 w3
          rw [decide_eq_true w2, alm_nI w1, w3] at u2
          cases u2
      rw [this]; rfl
  · rw [e, Option.bind_some, if_neg (nI_ne_m1 (by omega))]
    have : pb (usb m b) = false := by
      cases z : pb (usb m b) with
      | false => rfl
      | true => exact absurd (pb_iff.mp z).1.2 (flt_vld fl)
    rw [this]; rfl
theorem takesText_eq {m : Sx} (h : WTxt m) : ∃ m', f_X9_takesText m = some m' ∧ OnR m m' ∧ Rx m' (tch m) (tpd m) := by
  unfold f_X9_takesText
  obtain ⟨n80, et⟩ := wTxt_n h
  rw [bd_eq, et]
  obtain ⟨y, ⟨hy, e⟩, r⟩ := loop0 (L := fun i x s => L_X9_takesText_10 (fun z3 t4 => some t4) i x s) (E := fun s => some s) (N := tpd m) (by omega) (y := pI m 55 (nI (tpd m)))
    (fun k s => OnA 45 (pI m 55 (nI (tpd m))) s ∧ ∀ j, j < k → gA s 45 j = nI (tch m j))
    (fun i s h => by
      show L_X9_takesText_10 _ _ _ _ = _
      rw [L_X9_takesText_10, h.1.2.1, gI_pI, if_neg (show ¬ (52 : Nat) = 55 by decide), et, if_pos (nI_le (Nat.le_refl _) (by omega))])
    (fun k s hk h2 => by
      obtain ⟨c1, c2, e34⟩ := wTxt_c h hk
      have e34' : gA s 34 k = nI (tch m k) := by rw [h2.1.1 34 (by decide), gA_pI]; exact e34
      refine ⟨pA s 45 k (nI (tch m k)), ⟨h2.1.pA _ _, fun j hj => ?_⟩, fun i => ?_⟩
      · rw [gA_pA_at]
        by_cases q : j = k
        · rw [if_pos q, q]
        · rw [if_neg q]; exact h2.2 j (by omega)
      · show L_X9_takesText_10 _ _ _ _ = _
        rw [L_X9_takesText_10, h2.1.2.1, gI_pI, if_neg (show ¬ (52 : Nat) = 55 by decide), et, if_neg (by rw [nI_le_iff (by omega) (by omega)]; omega), gd_pos (vin_nI (by omega) (by decide)), ix_nI (by omega), e34', gd_pos (gch_nI (by omega)), gd_pos (vin_nI (by omega) (by decide)), bd_eq, nI_lit1])
    ⟨OnA.rf _ _, fun j hj => absurd hj (by omega)⟩
  refine ⟨y, r, ⟨fun i hi => by rw [hy.1 i hi, gA_pI], fun k hk => by rw [hy.2.1, gI_pI, if_neg hk], by rw [hy.2.2.1]; rfl, by rw [hy.2.2.2]; rfl⟩, n80, by rw [hy.2.1, gI_pI, if_pos rfl], e⟩
theorem namesM_eq {m : Sx} {ch : Nat → Nat} {n : Nat} (hX : Rx m ch n) (hR : Rul ch n) {b : Nat} (hb : b ≤ 8) : f_X9_names m (nI b) = some (b2 (pb (∀ p, p < n → ch p = 97 → ch (p + 1) - 48 < 8 ∧ ch (p + 1) - 48 < b ∧ iA m (ch (p + 1) - 48) = true))) := by
  obtain ⟨h80, e55, e45⟩ := hX
  have hn : 0 < n := by
    obtain ⟨sn, hv, hs⟩ := hR.2
    rcases Nat.eq_zero_or_pos n with w | w
    · subst w; rw [rn] at hv; cases hv; omega
    · exact w
  unfold f_X9_names
  obtain ⟨x, hx, r⟩ := loop0 (L := fun k i (x : Int32) => L_X9_names_4 m (nI b) (fun z2 z3 => gd (gz z2) (some z2)) k x i) (E := fun x => gd (gz x) (some x)) (N := n - 1) (by omega) (y := (1 : Int32))
    (fun k x => (x = 1 ∧ ∀ p, p < k → ch p = 97 → ch (p + 1) - 48 < 8 ∧ ch (p + 1) - 48 < b ∧ iA m (ch (p + 1) - 48) = true) ∨ (x = 0 ∧ ¬ ∀ p, p < k → ch p = 97 → ch (p + 1) - 48 < 8 ∧ ch (p + 1) - 48 < b ∧ iA m (ch (p + 1) - 48) = true))
    (fun k x _ => by
      show L_X9_names_4 _ _ _ _ _ _ = _
      rw [L_X9_names_4, e55, nI_lit1, if_pos (nI_le (by omega) (by omega))])
    (fun k x hk h => by
      have st : ∀ i, L_X9_names_4 m (nI b) (fun z2 z3 => gd (gz z2) (some z2)) (i + 1) x (nI k) = if x = 0 then L_X9_names_4 m (nI b) (fun z2 z3 => gd (gz z2) (some z2)) i 0 (nI (k + 1)) else if nI (ch k) = 97 then if 8 ≤ nI (ch (k + 1)) - 48 then L_X9_names_4 m (nI b) (fun z2 z3 => gd (gz z2) (some z2)) i 0 (nI (k + 1)) else if nI b ≤ nI (ch (k + 1)) - 48 then L_X9_names_4 m (nI b) (fun z2 z3 => gd (gz z2) (some z2)) i 0 (nI (k + 1)) else gd (vp_in (nI (ch (k + 1)) - 48) 8) (if gA m 35 (ix (nI (ch (k + 1)) - 48)) = 0 then L_X9_names_4 m (nI b) (fun z2 z3 => gd (gz z2) (some z2)) i 0 (nI (k + 1)) else L_X9_names_4 m (nI b) (fun z2 z3 => gd (gz z2) (some z2)) i 1 (nI (k + 1))) else L_X9_names_4 m (nI b) (fun z2 z3 => gd (gz z2) (some z2)) i 1 (nI (k + 1)) := fun i => by
        rw [L_X9_names_4, e55, nI_lit1, if_neg (by rw [nI_le_iff (by omega) (by omega)]; omega), gd_pos (vin_nI (by omega) (by decide)), gd_pos (vin_nI (by omega) (by decide)), ix_nI (by omega), ix_nI (by omega), e45 k (by omega), e45 (k + 1) (by omega)]
        simp only [bd_eq]
      rcases h with ⟨rfl, hh⟩ | ⟨rfl, hh⟩
      · have up : (ch k = 97 → ch (k + 1) - 48 < 8 ∧ ch (k + 1) - 48 < b ∧ iA m (ch (k + 1) - 48) = true) → ∀ p, p < k + 1 → ch p = 97 → ch (p + 1) - 48 < 8 ∧ ch (p + 1) - 48 < b ∧ iA m (ch (p + 1) - 48) = true := fun u p hp e => by
          rcases Nat.eq_or_lt_of_le (Nat.lt_succ_iff.mp hp) with q | q
          · subst q; exact u e
          · exact hh p q e
        have n10 : ¬ (1 : Int32) = 0 := by decide
        by_cases q : ch k = 97
        · obtain ⟨d1, d2, d3⟩ := names_dig hR (show k < n by omega) q
          have sub : nI (ch (k + 1)) - 48 = nI (ch (k + 1) - 48) := tbit_sub (dgt_iff.mpr ⟨d2, d3⟩)
          by_cases w1 : ch (k + 1) - 48 < 8
          · by_cases w2 : ch (k + 1) - 48 < b
            · cases w3 : iA m (ch (k + 1) - 48) with
              | true =>
                refine ⟨1, Or.inl ⟨rfl, up fun _ => ⟨w1, w2, w3⟩⟩, fun i => ?_⟩
                show L_X9_names_4 _ _ _ _ _ _ = _
                rw [st, if_neg n10, if_pos (by rw [q]; rfl), sub, if_neg (by rw [show (8 : Int32) = nI 8 from rfl, nI_le_iff (by decide) (by omega)]; omega), if_neg (by rw [nI_le_iff (by omega) (by omega)]; omega), gd_pos (vin_nI w1 (by decide)), ix_nI (by omega), if_neg (by simpa [iA] using w3)]
              | false =>
                refine ⟨0, Or.inr ⟨rfl, fun u => by rw [(u k (by omega) q).2.2] at w3; cases w3⟩, fun i => ?_⟩
                show L_X9_names_4 _ _ _ _ _ _ = _
                rw [st, if_neg n10, if_pos (by rw [q]; rfl), sub, if_neg (by rw [show (8 : Int32) = nI 8 from rfl, nI_le_iff (by decide) (by omega)]; omega), if_neg (by rw [nI_le_iff (by omega) (by omega)]; omega), gd_pos (vin_nI w1 (by decide)), ix_nI (by omega), if_pos (by simpa [iA] using w3)]
            · refine ⟨0, Or.inr ⟨rfl, fun u => w2 (u k (by omega) q).2.1⟩, fun i => ?_⟩
              show L_X9_names_4 _ _ _ _ _ _ = _
              rw [st, if_neg n10, if_pos (by rw [q]; rfl), sub, if_neg (by rw [show (8 : Int32) = nI 8 from rfl, nI_le_iff (by decide) (by omega)]; omega), if_pos (nI_le (by omega) (by omega))]
          · refine ⟨0, Or.inr ⟨rfl, fun u => w1 (u k (by omega) q).1⟩, fun i => ?_⟩
            show L_X9_names_4 _ _ _ _ _ _ = _
            rw [st, if_neg n10, if_pos (by rw [q]; rfl), sub, if_pos (by rw [show (8 : Int32) = nI 8 from rfl]; exact nI_le (by omega) (by omega))]
        · refine ⟨1, Or.inl ⟨rfl, up fun w => absurd w q⟩, fun i => ?_⟩
          show L_X9_names_4 _ _ _ _ _ _ = _
          have := (hR.1 k (by omega)).2
          rw [st, if_neg n10, if_neg (by rw [show (97 : Int32) = nI 97 from rfl, nI_eq_iff (by omega) (by decide)]; exact q)]
      · refine ⟨0, Or.inr ⟨rfl, fun u => hh fun p hp e => u p (by omega) e⟩, fun i => ?_⟩
        show L_X9_names_4 _ _ _ _ _ _ = _
        rw [st, if_pos rfl])
    (Or.inl ⟨rfl, fun p hp => absurd hp (by omega)⟩)
  rw [r]
  have ext : (∀ p, p < n - 1 → ch p = 97 → ch (p + 1) - 48 < 8 ∧ ch (p + 1) - 48 < b ∧ iA m (ch (p + 1) - 48) = true) → ∀ p, p < n → ch p = 97 → ch (p + 1) - 48 < 8 ∧ ch (p + 1) - 48 < b ∧ iA m (ch (p + 1) - 48) = true := fun u p hp e => by
    have := (names_dig hR hp e).1
    exact u p (by omega) e
  rcases hx with ⟨rfl, hh⟩ | ⟨rfl, hh⟩
  · rw [gd_pos (show gz 1 from Or.inr rfl), pb_iff.mpr (ext hh)]; rfl
  · rw [gd_pos (show gz 0 from Or.inl rfl)]
    have : pb (∀ p, p < n → ch p = 97 → ch (p + 1) - 48 < 8 ∧ ch (p + 1) - 48 < b ∧ iA m (ch (p + 1) - 48) = true) = false := by
      cases z : pb (∀ p, p < n → ch p = 97 → ch (p + 1) - 48 < 8 ∧ ch (p + 1) - 48 < b ∧ iA m (ch (p + 1) - 48) = true) with
      | false => rfl
      | true => exact absurd (fun p hp e => pb_iff.mp z p (by omega) e) hh
    rw [this]; rfl
theorem isRule_eq {m : Sx} (h : WTxt m) {b : Nat} (hb : b ≤ 8) : ∃ m', f_X9_isRule m (nI b) = some (b2 (pb (usb m b)), m') ∧ OnR m m' ∧ (usb m b → Rx m' (tch m) (tpd m)) := by
  unfold f_X9_isRule
  rcases fault_eq h with ⟨v, e⟩ | ⟨p, hp, fl, e⟩
  · have hR : Rul (tch m) (tpd m) := ⟨wTxt_ok h, v⟩
    obtain ⟨m', e2, o, hX⟩ := takesText_eq h
    refine ⟨m', ?_, o, fun _ => hX⟩
    rw [e, Option.bind_some, if_pos rfl, e2, Option.bind_some, namesM_eq hX hR hb, Option.bind_some, gd_pos (gz_b2 _), iA_on (o.1 35 (by decide))]
    have : pb (usb m b) = pb (∀ p, p < tpd m → tch m p = 97 → tch m (p + 1) - 48 < 8 ∧ tch m (p + 1) - 48 < b ∧ iA m (tch m (p + 1) - 48) = true) := pb_eq ⟨fun u => (pb_iff.mp u).2, fun u => pb_iff.mpr ⟨hR, u⟩⟩
    rw [this]
  · refine ⟨m, ?_, ⟨fun _ _ => rfl, fun _ _ => rfl, rfl, rfl⟩, fun u => absurd u.1.2 (flt_vld fl)⟩
    rw [e, Option.bind_some, if_neg (by rw [show (-4 : Int32) = nI 4294967292 from rfl]; intro w; have := congrArg Int32.toBitVec w; have := congrArg BitVec.toNat this; change (BitVec.ofNat 32 p).toNat = (BitVec.ofNat 32 4294967292).toNat at this; rw [BitVec.toNat_ofNat, BitVec.toNat_ofNat] at this; omega)]
    have : pb (usb m b) = false := by
      cases z : pb (usb m b) with
      | false => rfl
      | true => exact absurd (pb_iff.mp z).1.2 (flt_vld fl)
    rw [this]; rfl
