/-- whether the rule of an album names another one -/
noncomputable def nam (m : Sx) (b a : Nat) : Bool := pb (∃ k, k + 1 < rl m b ∧ gA m 37 (80 * b + k) = 97 ∧ gA m 37 (80 * b + k + 1) - 48 = nI a)
theorem nam_eq {c m : Sx} {b a n : Nat} {ch : Nat → Nat} (h : AlW c m b ch n) (ha : a < 10) : nmB ch n a = nam m b a := by
  obtain ⟨hT, h36, h37, hR, -⟩ := h
  have h80 := hT.1
  have e : rl m b = n := by unfold rl; rw [h36, ix_nI (by omega)]
  refine pb_eq ⟨fun w => ?_, fun ⟨k, h1, h2, h3⟩ => ?_⟩
  · obtain ⟨p, hp, e1, e2⟩ := nmB_iff.mp w
    obtain ⟨d1, d2, d3⟩ := names_dig hR hp e1
    refine ⟨p, by rw [e]; exact d1, by rw [h37 p hp, e1]; rfl, ?_⟩
    rw [Nat.add_assoc, h37 (p + 1) d1, tbit_sub (dgt_iff.mpr ⟨d2, d3⟩), e2]
  · rw [e] at h1
    rw [h37 k (by omega), show (97 : Int32) = nI 97 from rfl, nI_eq_iff (by have := (hR.1 k (by omega)).2; omega) (by decide)] at h2
    obtain ⟨d1, d2, d3⟩ := names_dig hR (by omega) h2
    rw [Nat.add_assoc, h37 (k + 1) h1, tbit_sub (dgt_iff.mpr ⟨d2, d3⟩), nI_eq_iff (by omega) (by omega)] at h3
    exact nmB_iff.mpr ⟨k, by omega, h2, h3⟩
theorem isNamed_eq {c m : Sx} (h : RAl c m) {a : Nat} (ha : a < 8) : f_X8_isNamed c (nI a) = some (b2 (fst? (fun b => iA m b && nam m b a) 0 8).isSome) := by
  unfold f_X8_isNamed
  have r := find0 (L := fun n i => L_X8_isNamed_2 c (nI a) (fun z4 => some 0) n i) (p := fun b => iA m b && nam m b a) (N := 8) (A := some 0) (B := fun _ => some 1) (by decide) (fun n => by
    show L_X8_isNamed_2 _ _ _ _ _ = _
    rw [L_X8_isNamed_2, if_pos (by decide)]) (fun n b hb => by
    show L_X8_isNamed_2 _ _ _ _ _ = _
    rw [L_X8_isNamed_2, if_neg (ngo (x := 8) (N := 8) rfl hb (by decide)), hasAlbum_eq h, alm_nI hb, Option.bind_some, nI_lit1]
    cases q : iA m b with
    | false => rw [bF]; rfl
    | true =>
      obtain ⟨⟨ch, k, w⟩, -⟩ := (h b hb).2 q
      unfold f_X0_names
      rw [bT, gd_pos (vin_nI hb (by decide)), ix_nI (by omega), namesC_eq w.1 w.2.2.2.1 (by omega), Option.bind_some, gd_pos (gz_b2 _), Option.bind_some, nam_eq w (by omega), Bool.true_and]
      cases nam m b a <;> rfl)
  rw [r]
  cases fst? (fun b => iA m b && nam m b a) 0 8 <;> rfl
theorem removeIn_eq {c m : Sx} (h : RAl c m) {a b : Nat} (ha : a < 8) (hb : b < 8) (hA : iA m b = true) (w : Int32) (kont : Int32 → Option (Int32 × Sx)) : (nam m b a = true ∧ L_X9_removeAlbum_40 m (nI a) w (nI b) kont FU 0 = some (-2, m)) ∨ (nam m b a = false ∧ ∃ z, L_X9_removeAlbum_40 m (nI a) w (nI b) kont FU 0 = kont z) := by
  obtain ⟨⟨ch, n, hw⟩, -⟩ := (h b hb).2 hA
  have hw' := hw
  obtain ⟨hT, h36, h37, hR, -⟩ := hw
  have h80 := hT.1
  have hn : 0 < n := by
    obtain ⟨sn, hv, hs⟩ := hR.2
    rcases Nat.eq_zero_or_pos n with w | w
    · subst w; rw [rn] at hv; cases hv; omega
    · exact w
  have gb : vp_in (nI b) 8 := vin_nI hb (by decide)
  have xb : ix (nI b) = b := ix_nI (by omega)
  have r := find0 (L := fun k i => L_X9_removeAlbum_40 m (nI a) w (nI b) kont k i) (p := nmF ch a) (N := n - 1) (A := kont (nI (n - 1))) (B := fun _ => some (-2, m)) (by omega) (fun k => by
    show L_X9_removeAlbum_40 _ _ _ _ _ _ _ = _
    rw [L_X9_removeAlbum_40, gd_pos gb, xb, h36, nI_lit1, if_pos (nI_le (by omega) (by omega))]) (fun k i hi => by
    show L_X9_removeAlbum_40 _ _ _ _ _ _ _ = _
    have hc := (hR.1 i (by omega)).2
    rw [L_X9_removeAlbum_40, gd_pos gb, xb, h36, nI_lit1, if_neg (by rw [nI_le_iff (by omega) (by omega)]; omega), i80a, gd_pos (vin_nI (by omega) (by decide)), ix_nI (by omega), h37 i (by omega), nI_lit1, gd_pos (vin_nI (by omega) (by decide)), ix_nI (by omega), Nat.add_assoc, h37 (i + 1) (by omega), show (97 : Int32) = nI 97 from rfl]
    unfold nmF
    by_cases q : ch i = 97
    · obtain ⟨d1, d2, d3⟩ := names_dig hR (show i < n by omega) q
      rw [if_pos (by rw [q]), tbit_sub (dgt_iff.mpr ⟨d2, d3⟩), decide_eq_true q, Bool.true_and]
      by_cases v : ch (i + 1) - 48 = a
      · rw [if_pos (by rw [v]), if_pos (decide_eq_true v)]
      · rw [if_neg (by rw [nI_eq_iff (by omega) (by omega)]; exact v), if_neg (by rw [decide_eq_false v]; decide)]
    · rw [if_neg (by rw [nI_eq_iff (by omega) (by decide)]; exact q), decide_eq_false q, Bool.false_and, if_neg (by decide)])
  rw [r, ← nam_eq hw' (by omega)]
  cases e : fst? (nmF ch a) 0 (n - 1) with
  | some k =>
    obtain ⟨-, k1, k2, -⟩ := fst?_some e
    obtain ⟨u1, u2⟩ := (Bool.and_eq_true _ _).mp k2
    exact Or.inl ⟨nmB_iff.mpr ⟨k, by omega, of_decide_eq_true u1, of_decide_eq_true u2⟩, rfl⟩
  | none =>
    refine Or.inr ⟨?_, nI (n - 1), rfl⟩
    cases z : nmB ch n a with
    | false => rfl
    | true =>
      obtain ⟨p, hp, e1, e2⟩ := nmB_iff.mp z
      have := (names_dig hR hp e1).1
      have f := fst?_none e p (by omega) (by omega)
      unfold nmF at f
      rw [decide_eq_true e1, decide_eq_true e2] at f
      cases f
theorem nam_self {c m : Sx} (h : RAl c m) {a : Nat} (ha : a < 8) (hA : iA m a = true) : nam m a a = false := by
  obtain ⟨⟨ch, n, hw⟩, -⟩ := (h a ha).2 hA
  rw [← nam_eq hw (by omega)]
  cases z : nmB ch n a with
  | false => rfl
  | true =>
    obtain ⟨p, hp, e1, e2⟩ := nmB_iff.mp z
    have := (hw.2.2.2.2 p hp e1).1
    omega
/-- the reference's loop over the other albums -/
theorem removeM_eq {c m : Sx} (h : RAl c m) {a : Nat} (ha : a < 8) (kont : Int32 → Int32 → Option (Int32 × Sx)) : L_X9_removeAlbum_14 m (nI a) kont FU 0 0 = if (fst? (fun b => iA m b && nam m b a) 0 8).isSome = true then some (-2, m) else kont (nI (fb_ct (fun b => if b = a then false else iA m b) 8)) (nI 8) := by
  have st : ∀ k x b, b < 8 → L_X9_removeAlbum_14 m (nI a) kont (k + 1) x (nI b) = if b = a then L_X9_removeAlbum_14 m (nI a) kont k x (nI (b + 1)) else if gA m 35 b = 0 then L_X9_removeAlbum_14 m (nI a) kont k x (nI (b + 1)) else L_X9_removeAlbum_40 m (nI a) (x + 1) (nI b) (fun z2 => L_X9_removeAlbum_14 m (nI a) kont k (x + 1) (nI (b + 1))) FU 0 := fun k x b hb => by
    rw [L_X9_removeAlbum_14, if_neg (ngo (x := 8) (N := 8) rfl hb (by decide)), gd_pos (vin_nI hb (by decide)), ix_nI (by omega), nI_lit1]
    by_cases q : b = a
    · rw [if_pos q, if_pos (by rw [q])]
    · rw [if_neg q, if_neg (by rw [nI_eq_iff (by omega) (by omega)]; exact q)]
  have self : ∀ b, b = a → (iA m b && nam m b a) = false := fun b e => by
    subst e
    cases z : iA m b with
    | false => rfl
    | true => rw [nam_self h ha z]; rfl
  rcases loop0E (L := fun k i (x : Int32) => L_X9_removeAlbum_14 m (nI a) kont k x i) (E := fun x => kont x (nI 8)) (N := 8) (by decide) (y := (0 : Int32)) (fun k x => x = nI (fb_ct (fun b => if b = a then false else iA m b) k) ∧ ∀ b, b < k → (iA m b && nam m b a) = false) (fun k x r => (iA m k && nam m k a) = true ∧ r = some (-2, m))
    (fun k x _ => by
      show L_X9_removeAlbum_14 _ _ _ _ _ _ = _
      rw [L_X9_removeAlbum_14, if_pos (by decide)])
    (fun k x hk hI => by
      obtain ⟨h1, h2⟩ := hI
      have up : (iA m k && nam m k a) = false → ∀ b, b < k + 1 → (iA m b && nam m b a) = false := fun u b hb => by
        rcases Nat.eq_or_lt_of_le (Nat.lt_succ_iff.mp hb) with q | q
        · subst q; exact u
        · exact h2 b q
      by_cases q : k = a
      · refine Or.inl ⟨x, ⟨by rw [h1, fb_ct_succ, if_pos q]; rfl, up (self k q)⟩, fun n => ?_⟩
        show L_X9_removeAlbum_14 _ _ _ _ _ _ = _
        rw [st n x k hk, if_pos q]
      · cases z : iA m k with
        | false =>
          refine Or.inl ⟨x, ⟨by rw [h1, fb_ct_succ, if_neg q, z]; rfl, up (by rw [z]; rfl)⟩, fun n => ?_⟩
          show L_X9_removeAlbum_14 _ _ _ _ _ _ = _
          rw [st n x k hk, if_neg q, if_pos (by simpa [iA] using z)]
        | true =>
          have z' : ¬ gA m 35 k = 0 := by simpa [iA] using z
          cases v : nam m k a with
          | true =>
            refine Or.inr ⟨some (-2, m), ⟨rfl, rfl⟩, fun n => ?_⟩
            show L_X9_removeAlbum_14 _ _ _ _ _ _ = _
            rw [st n x k hk, if_neg q, if_neg z']
            rcases removeIn_eq h ha hk z (x + 1) (fun z2 => L_X9_removeAlbum_14 m (nI a) kont n (x + 1) (nI (k + 1))) with ⟨_, e⟩ | ⟨e, _⟩
            · exact e
            · rw [v] at e; cases e
          | false =>
            refine Or.inl ⟨x + 1, ⟨by rw [h1, fb_ct_succ, if_neg q, z, if_pos rfl, nI_lit1], up (by rw [z, v]; rfl)⟩, fun n => ?_⟩
            show L_X9_removeAlbum_14 _ _ _ _ _ _ = _
            rw [st n x k hk, if_neg q, if_neg z']
            rcases removeIn_eq h ha hk z (x + 1) (fun z2 => L_X9_removeAlbum_14 m (nI a) kont n (x + 1) (nI (k + 1))) with ⟨e, _⟩ | ⟨_, u, e⟩
            · rw [v] at e; cases e
            · exact e)
    ⟨rfl, fun b hb => absurd hb (by omega)⟩ with ⟨x, ⟨h1, h2⟩, e⟩ | ⟨k, x, r, hk, _, ⟨h1, rfl⟩, e⟩
  · rw [e, h1, if_neg]
    intro u
    cases f : fst? (fun b => iA m b && nam m b a) 0 8 with
    | none => rw [f] at u; cases u
    | some b =>
      obtain ⟨-, k1, k2, -⟩ := fst?_some f
      rw [h2 b (by omega)] at k2; cases k2
  · rw [e, if_pos]
    cases f : fst? (fun b => iA m b && nam m b a) 0 8 with
    | some b => rfl
    | none => rw [fst?_none f k (by omega) (by omega)] at h1; cases h1
theorem cal_removeAlbum (a1 : Int32) : Cal (fun t => f_X8_removeAlbum t a1) (fun t => f_X9_removeAlbum t a1) := fun c m h => by
  show ∃ r c' m', f_X8_removeAlbum c a1 = some (r, c') ∧ f_X9_removeAlbum m a1 = some (r, m') ∧ _
  unfold f_X8_removeAlbum f_X9_removeAlbum f_X0_end
  rw [hasAlbum_eq h.2.2.1, there8_eq]
  simp only [Option.bind_some]
  cases q : alm m a1 with
  | false => exact h.err (-1) (by rw [bF]) (by rw [bF])
  | true =>
    obtain ⟨a, ha, rfl, hA'⟩ := alm_out q
    have g : vp_in (nI a) 8 := vin_nI ha (by decide)
    have xa : ix (nI a) = a := ix_nI (by omega)
    rw [bT, bT, isNamed_eq h.2.2.1 ha, removeM_eq h.2.2.1 ha]
    simp only [Option.bind_some]
    cases f : (fst? (fun b => iA m b && nam m b a) 0 8).isSome with
    | true => exact h.err (-2) (by rw [bT]) (by rw [if_pos rfl])
    | false =>
      have hno : ∀ b, b < 8 → iA m b = true → nam m b a = false := fun b hb hAb => by
        cases e : fst? (fun b => iA m b && nam m b a) 0 8 with
        | some b => rw [e] at f; cases f
        | none =>
          have := fst?_none e b (by omega) (by omega)
          rw [hAb, Bool.true_and] at this
          exact this
      rw [bF, if_neg (by decide)]
      simp only [gd_pos g, xa, bd_eq, Option.bind_some]
      obtain ⟨hB, hD, hA, hJ, hM⟩ := h
      have r35 : ∀ i, gA (pM (pA m 35 a 0) 2 a 0) 35 i = if i = a then 0 else gA m 35 i := fun i => by rw [gA_pM, gA_pA_at]
      have rA : ∀ k, k ≠ 35 → gA (pM (pA m 35 a 0) 2 a 0) k = gA m k := fun k hk => by rw [gA_pM, gA_pA_ne hk]
      have rM : ∀ i, gM (pM (pA m 35 a 0) 2 a 0) 2 i = if i = a then 0 else gM m 2 i := fun i => by rw [gM_pM_at, gM_pA]
      have iAe : ∀ b, iA (pM (pA m 35 a 0) 2 a 0) b = if b = a then false else iA m b := fun b => by
        unfold iA; rw [r35]; split <;> rfl
      have cI : ∀ k, k ≠ 100 + a → gI (pI c (100 + a) 0) k = gI c k := fun k hk => by rw [gI_pI, if_neg hk]
      have a3 : RAl (pI c (100 + a) 0) (pM (pA m 35 a 0) 2 a 0) := fun b hb => by
        rw [iAe]
        by_cases z : b = a
        · rw [if_pos z, z, gI_pI, if_pos rfl]; exact ⟨rfl, fun w => absurd w (by decide)⟩
        · rw [if_neg z, cI _ (by omega)]
          refine ⟨(hA b hb).1, fun hAb => ?_⟩
          obtain ⟨⟨ch, n, w⟩, d1, ⟨f, d2, d2', d2''⟩, d3, d4, d5⟩ := (hA b hb).2 hAb
          have wn := nam_eq w (show a < 10 by omega)
          obtain ⟨w1, w2, w3, w4, w5⟩ := w
          refine ⟨⟨ch, n, ⟨w1.1, by rw [cI _ (by omega)]; exact w1.2.1, w1.2.2.1, w1.2.2.2⟩, w2, w3, w4, fun p hp e => ?_⟩, by rw [rM, if_neg z]; exact d1, ⟨f, d2, by rw [cI _ (by omega)]; exact d2', d2''⟩, by rw [cI _ (by omega)]; exact d3, by rw [cI _ (by omega)]; exact d4, by rw [cI _ (by omega)]; exact d5⟩
          obtain ⟨v1, v2⟩ := w5 p hp e
          refine ⟨v1, ?_⟩
          rw [iAe, if_neg]
          · exact v2
          · intro u
            have := nmB_iff.mpr ⟨p, hp, e, u⟩
            rw [wn, hno b hb hAb] at this
            cases this
      refine ⟨nI (fb_ct (fun b => if b = a then false else iA m b) 8), pI c (100 + a) 0, pM (pA m 35 a 0) 2 a 0, ?_, rfl, ⟨hB.al (fun k hk => rfl) rfl (cI _ (by omega)) (fun k _ => rfl) (fun k hk => rA k (by omega)) rfl, hD.gen rfl rfl rfl rfl rfl rfl rfl rfl rfl rfl rfl rfl, a3, hJ.on (cI _ (by omega)) (cI _ (by omega)) rfl rfl rfl rfl rfl, fun b hb hAb k hk hm => ?_⟩, FrM.pI (by omega), (FrC.pA (by omega)).tr FrC.pM⟩
      · rw [albumCount_eq a3, Option.bind_some, show iA (pM (pA m 35 a 0) 2 a 0) = fun b => if b = a then false else iA m b from funext iAe]
      · rw [iAe] at hAb
        by_cases z : b = a
        · rw [if_pos z] at hAb; cases hAb
        · rw [if_neg z] at hAb
          rw [rM, if_neg z] at hm
          exact hM b hb hAb k hk hm
