def OnT (m m1 : Sx) : Prop := (∀ a, a ≠ 26 → a ≠ 27 → gA m1 a = gA m a) ∧ gI m1 = gI m ∧ gL m1 = gL m ∧ gM m1 = gM m
theorem OnT.rf (m : Sx) : OnT m m := ⟨fun _ _ _ => rfl, rfl, rfl, rfl⟩
theorem OnT.tr {a b c : Sx} (h : OnT a b) (g : OnT b c) : OnT a c := ⟨fun i h1 h2 => (g.1 i h1 h2).trans (h.1 i h1 h2), g.2.1.trans h.2.1, g.2.2.1.trans h.2.2.1, g.2.2.2.trans h.2.2.2⟩
theorem OnT.p26 {m y : Sx} (h : OnT m y) (k : Nat) (v : Int32) : OnT m (pA y 26 k v) := ⟨fun a h1 h2 => by rw [gA_pA_ne h1, h.1 a h1 h2], h.2.1, h.2.2.1, h.2.2.2⟩
theorem OnT.p27 {m y : Sx} (h : OnT m y) (k : Nat) (v : Int32) : OnT m (pA y 27 k v) := ⟨fun a h1 h2 => by rw [gA_pA_ne h2, h.1 a h1 h2], h.2.1, h.2.2.1, h.2.2.2⟩
/-- what the keeper's place i is told behind it, b: the other's place -/
def gvv (m : Sx) (i b j : Nat) : Int32 := if iT m b = true then (if iT m i = false then gA m 27 b else if j % 6 = 5 then gA m 27 i ||| gA m 27 b else gA m 27 i) else gA m 27 i
theorem m6_tab : ∀ j, j < 18 → ((nI j - nI j / 6 * 6 = 5) ↔ j % 6 = 5) := by decide +kernel
theorem iT_ne {m : Sx} {k : Nat} (h : iT m k = true) : ¬ gA m 26 k = 0 := by simpa [iT] using h
theorem iT_e0 {m : Sx} {k : Nat} (h : iT m k = false) : gA m 26 k = 0 := by simpa [iT] using h
theorem gives_eq {m : Sx} {k g : Nat} (hk : k < 40) (hg : g < 40) (hne : k ≠ g) : ∃ m1, f_X9_gives m (nI g) (nI k) = some m1 ∧ OnT m m1 ∧ (∀ i, iT m1 i = if 18 * k ≤ i ∧ i < 18 * k + 18 then (iT m i || iT m (18 * g + (i - 18 * k))) else iT m i) ∧ ∀ i, gA m1 27 i = if 18 * k ≤ i ∧ i < 18 * k + 18 then gvv m i (18 * g + (i - 18 * k)) (i - 18 * k) else gA m 27 i := by
  unfold f_X9_gives
  obtain ⟨y, ⟨h1, h2, h3⟩, e⟩ := loop0 (L := fun n i y => L_X9_gives_2 (nI g) (nI k) (fun z8 t9 => some t9) n i y) (E := fun y => some y) (N := 18) (by decide) (y := m)
    (fun j y => OnT m y ∧ (∀ i, iT y i = if 18 * k ≤ i ∧ i < 18 * k + j then (iT m i || iT m (18 * g + (i - 18 * k))) else iT m i) ∧ ∀ i, gA y 27 i = if 18 * k ≤ i ∧ i < 18 * k + j then gvv m i (18 * g + (i - 18 * k)) (i - 18 * k) else gA m 27 i)
    (fun n y _ => by
      show L_X9_gives_2 _ _ _ _ _ _ = _
      rw [L_X9_gives_2, if_pos (by decide)])
    (fun j y hj h => by
      obtain ⟨h1, h2, h3⟩ := h
      have t1 : iT y (18 * g + j) = iT m (18 * g + j) := by rw [h2, if_neg (by omega)]
      have t2 : iT y (18 * k + j) = iT m (18 * k + j) := by rw [h2, if_neg (by omega)]
      have v1 : gA y 27 (18 * g + j) = gA m 27 (18 * g + j) := by rw [h3, if_neg (by omega)]
      have v2 : gA y 27 (18 * k + j) = gA m 27 (18 * k + j) := by rw [h3, if_neg (by omega)]
      have gg : vp_in (nI (18 * g + j)) 720 := vin_nI (by omega) (by decide)
      have gk : vp_in (nI (18 * k + j)) 720 := vin_nI (by omega) (by decide)
      have xg : ix (nI (18 * g + j)) = 18 * g + j := ix_nI (by omega)
      have xk : ix (nI (18 * k + j)) = 18 * k + j := ix_nI (by omega)
      have n6 : ¬ (6 : Int32) = 0 := by decide
      have step : ∀ n, L_X9_gives_2 (nI g) (nI k) (fun z8 t9 => some t9) (n + 1) (nI j) y = if gA y 26 (18 * g + j) = 0 then L_X9_gives_2 (nI g) (nI k) (fun z8 t9 => some t9) n (nI (j + 1)) y else if gA y 26 (18 * k + j) = 0 then L_X9_gives_2 (nI g) (nI k) (fun z8 t9 => some t9) n (nI (j + 1)) (pA (pA y 27 (18 * k + j) (gA m 27 (18 * g + j))) 26 (18 * k + j) 1) else if j % 6 = 5 then L_X9_gives_2 (nI g) (nI k) (fun z8 t9 => some t9) n (nI (j + 1)) (pA (pA y 27 (18 * k + j) (gA m 27 (18 * k + j) ||| gA m 27 (18 * g + j))) 26 (18 * k + j) 1) else L_X9_gives_2 (nI g) (nI k) (fun z8 t9 => some t9) n (nI (j + 1)) (pA (pA y 27 (18 * k + j) (gA m 27 (18 * k + j))) 26 (18 * k + j) 1) := fun n => by
        rw [L_X9_gives_2, if_neg (ngo (x := 18) (N := 18) rfl hj (by decide))]
        simp only [i18a, gd_pos gg, gd_pos gk, gd_pos n6, xg, xk, bd_eq, v1, v2, nI_lit1]
        rw [if_congr (m6_tab j hj) rfl rfl]
      -- what it comes to for this cell
      have fin : ∀ v : Int32, iT m (18 * g + j) = true → v = gvv m (18 * k + j) (18 * g + j) j → OnT m (pA (pA y 27 (18 * k + j) v) 26 (18 * k + j) 1) ∧ (∀ i, iT (pA (pA y 27 (18 * k + j) v) 26 (18 * k + j) 1) i = if 18 * k ≤ i ∧ i < 18 * k + (j + 1) then (iT m i || iT m (18 * g + (i - 18 * k))) else iT m i) ∧ ∀ i, gA (pA (pA y 27 (18 * k + j) v) 26 (18 * k + j) 1) 27 i = if 18 * k ≤ i ∧ i < 18 * k + (j + 1) then gvv m i (18 * g + (i - 18 * k)) (i - 18 * k) else gA m 27 i := fun v hT hv => by
        refine ⟨(h1.p27 _ _).p26 _ _, fun i => ?_, fun i => ?_⟩
        · rw [iT_put']
          by_cases z : i = 18 * k + j
          · rw [if_pos z, if_pos (by omega), z, show 18 * k + j - 18 * k = j by omega, hT, Bool.or_true]; rfl
          · rw [if_neg z, show iT (pA y 27 (18 * k + j) v) i = iT y i from by unfold iT; rw [gA_pA_ne (by decide)], h2]
            by_cases u : 18 * k ≤ i ∧ i < 18 * k + j
            · rw [if_pos u, if_pos (by omega)]
            · rw [if_neg u, if_neg (by omega)]
        · rw [gA_pA_ne (by decide), gA_pA_at]
          by_cases z : i = 18 * k + j
          · rw [if_pos z, if_pos (by omega), z, show 18 * k + j - 18 * k = j by omega, hv]
          · rw [if_neg z, h3]
            by_cases u : 18 * k ≤ i ∧ i < 18 * k + j
            · rw [if_pos u, if_pos (by omega)]
            · rw [if_neg u, if_neg (by omega)]
      cases hg1 : iT m (18 * g + j) with
      | false =>
        refine ⟨y, ⟨h1, fun i => ?_, fun i => ?_⟩, fun n => ?_⟩
        · by_cases z : i = 18 * k + j
          · rw [h2, if_neg (by omega), if_pos (by omega), z, show 18 * k + j - 18 * k = j by omega, hg1, Bool.or_false]
          · rw [h2]
            by_cases u : 18 * k ≤ i ∧ i < 18 * k + j
            · rw [if_pos u, if_pos (by omega)]
            · rw [if_neg u, if_neg (by omega)]
        · by_cases z : i = 18 * k + j
          · rw [h3, if_neg (by omega), if_pos (by omega), z, show 18 * k + j - 18 * k = j by omega, gvv, hg1, if_neg (by decide)]
          · rw [h3]
            by_cases u : 18 * k ≤ i ∧ i < 18 * k + j
            · rw [if_pos u, if_pos (by omega)]
            · rw [if_neg u, if_neg (by omega)]
        · show L_X9_gives_2 _ _ _ _ _ _ = _
          rw [step, if_pos (iT_e0 (by rw [t1, hg1]))]
      | true =>
        have z1 := iT_ne (t1.trans hg1)
        cases hk1 : iT m (18 * k + j) with
        | false =>
          exact ⟨_, fin (gA m 27 (18 * g + j)) hg1 (by rw [gvv, hg1, if_pos rfl, if_pos hk1]), fun n => by
            show L_X9_gives_2 _ _ _ _ _ _ = _
            rw [step, if_neg z1, if_pos (iT_e0 (by rw [t2, hk1]))]⟩
        | true =>
          have z2 := iT_ne (t2.trans hk1)
          by_cases w : j % 6 = 5
          · exact ⟨_, fin (gA m 27 (18 * k + j) ||| gA m 27 (18 * g + j)) hg1 (by rw [gvv, hg1, if_pos rfl, hk1, if_neg (by decide), if_pos w]), fun n => by
              show L_X9_gives_2 _ _ _ _ _ _ = _
              rw [step, if_neg z1, if_neg z2, if_pos w]⟩
          · exact ⟨_, fin (gA m 27 (18 * k + j)) hg1 (by rw [gvv, hg1, if_pos rfl, hk1, if_neg (by decide), if_neg w]), fun n => by
              show L_X9_gives_2 _ _ _ _ _ _ = _
              rw [step, if_neg z1, if_neg z2, if_neg w]⟩)
    ⟨OnT.rf m, fun i => by rw [if_neg (by omega)], fun i => by rw [if_neg (by omega)]⟩
  exact ⟨y, e, h1, h2, h3⟩
theorem giv_pair {c m : Sx} (hB : Ba c m) {k g : Nat} (hk : k < 40) (hg : g < 40) (hne : k ≠ g) (pk : iF m k = true) (pg : iF m g = true) : ∃ c1 m1, f_X1_absorbOne c (nI k) (nI g) = some c1 ∧ f_X9_gives m (nI g) (nI k) = some m1 ∧ OnA 11 c c1 ∧ OnT m m1 ∧ Ba c1 m1 := by
  obtain ⟨c1, e1, o1, j1⟩ := absorbOne_eq (c := c) hk hg hne
  obtain ⟨m1, e2, o2, t2, v2⟩ := gives_eq (m := m) hk hg hne
  have mA : ∀ a, a ≠ 26 → a ≠ 27 → gA m1 a = gA m a := o2.1
  have m23 := mA 23 (by decide) (by decide)
  refine ⟨c1, m1, e1, e2, o1, o2, hB.wO.on (mA 28 (by decide) (by decide)), fun i hi ht => ?_, hB.wS.on m23 (mA 29 (by decide) (by decide)) (mA 30 (by decide) (by decide)) (mA 31 (by decide) (by decide)) (mA 32 (by decide) (by decide)), hB.wT.on (by rw [o2.2.1]) (mA 34 (by decide) (by decide)), (hB.rP.on (by rw [o1.2.2.1])).onM m23, (hB.rD.onC (o1.1 9 (by decide)) (o1.1 10 (by decide))).onM m23 (mA 24 (by decide) (by decide)) (mA 25 (by decide) (by decide)), fun f hf hp j hj => ?_, (hB.rO.on (o1.1 13 (by decide))).onM (mA 28 (by decide) (by decide)), (hB.rS.onC (o1.1 14 (by decide)) (o1.1 15 (by decide)) (o1.1 16 (by decide)) (o1.1 17 (by decide)) (o1.1 18 (by decide)) (by rw [o1.2.2.1])).onM (mA 29 (by decide) (by decide)) (mA 30 (by decide) (by decide)) (mA 31 (by decide) (by decide)) (mA 32 (by decide) (by decide)) (mA 33 (by decide) (by decide)), (hB.rT.onC (by rw [o1.2.1]) (o1.1 108 (by decide))).onM (by rw [o2.2.1]) (mA 34 (by decide) (by decide)), fun f hf s hs ht => ?_⟩
  · rw [t2] at ht
    rw [v2]
    by_cases w : 18 * k ≤ i ∧ i < 18 * k + 18
    · rw [if_pos w] at ht ⊢
      rw [gvv]
      cases hb : iT m (18 * g + (i - 18 * k)) with
      | false => rw [hb, Bool.or_false] at ht; rw [if_neg (by decide)]; exact hB.wV i hi ht
      | true =>
        rw [if_pos rfl]
        cases ha : iT m i with
        | false => rw [if_pos rfl]; exact hB.wV _ (by omega) hb
        | true =>
          rw [if_neg (by decide)]
          by_cases z : (i - 18 * k) % 6 = 5
          · rw [if_pos z]
            obtain ⟨s, hs, es⟩ : ∃ s, s < 3 ∧ i = 18 * k + 6 * s + 5 := ⟨(i - 18 * k) / 6, by omega, by omega⟩
            have e2 : 18 * g + (i - 18 * k) = 18 * g + 6 * s + 5 := by omega
            rw [e2] at hb ⊢
            rw [es] at ha ⊢
            obtain ⟨a, a1, a2⟩ := hB.wG k hk s hs ha
            obtain ⟨b, b1, b2'⟩ := hB.wG g hg s hs hb
            rw [a2, b2', nI_or]
            have := Nat.or_lt_two_pow (n := 10) (x := a) (y := b) (by omega) (by omega)
            exact ⟨_, by omega, rfl⟩
          · rw [if_neg z]; exact hB.wV i hi ha
    · rw [if_neg w] at ht ⊢; exact hB.wV i hi ht
  · rw [iF_on m23] at hp
    rw [j1, t2, v2]
    by_cases w : 18 * k ≤ 18 * f + j ∧ 18 * f + j < 18 * k + 18
    · rw [if_pos w, if_pos w, if_pos w]
      obtain rfl : f = k := by omega
      have ej : 18 * f + j - 18 * f = j := by omega
      rw [ej, hB.rV f hf hp j hj, hB.rV g hg pg j hj, mgj, gvv]
      cases ha : iT m (18 * f + j) with
      | false =>
        rw [if_neg (show ¬ false = true by decide)]
        cases hb : iT m (18 * g + j) with
        | false =>
          rw [if_neg (show ¬ false = true by decide)]
          unfold mgt mgv
          split <;> rfl
        | true =>
          rw [if_pos rfl]
          unfold mgt mgv
          split <;> rfl
      | true =>
        obtain ⟨a, a1, a2⟩ := hB.wV _ (by omega) ha
        rw [if_pos rfl]
        cases hb : iT m (18 * g + j) with
        | false =>
          rw [a2]
          unfold mgt mgv
          rw [if_neg (nI_ne_m1 (by omega)), if_neg (nI_ne_m1 (by omega))]
          split <;> rfl
        | true =>
          obtain ⟨b, b1, b2'⟩ := hB.wV _ (by omega) hb
          rw [a2]
          unfold mgt mgv
          rw [if_neg (nI_ne_m1 (by omega)), if_neg (nI_ne_m1 (by omega)), if_pos rfl, b2', if_neg (nI_ne_m1 (by omega))]
          by_cases z : j % 6 = 5
          · rw [if_pos z]
            show _ = if (true || true) = true then if true = true then if true = false then _ else if j % 6 = 5 then _ else _ else _ else _
            rw [if_pos z]; rfl
          · rw [if_neg z]
            show _ = if (true || true) = true then if true = true then if true = false then _ else if j % 6 = 5 then _ else _ else _ else _
            rw [if_neg z]; rfl
    · rw [if_neg w, if_neg w, if_neg w]; exact hB.rV f hf hp j hj
  · rw [t2] at ht
    rw [v2]
    by_cases w : 18 * k ≤ 18 * f + 6 * s + 5 ∧ 18 * f + 6 * s + 5 < 18 * k + 18
    · rw [if_pos w] at ht ⊢
      obtain rfl : f = k := by omega
      have ej : 18 * f + 6 * s + 5 - 18 * f = 6 * s + 5 := by omega
      rw [ej] at ht ⊢
      rw [gvv]
      have eg : 18 * g + (6 * s + 5) = 18 * g + 6 * s + 5 := by omega
      rw [eg] at ht ⊢
      cases hb : iT m (18 * g + 6 * s + 5) with
      | false => rw [hb, Bool.or_false] at ht; rw [if_neg (by decide)]; exact hB.wG f hf s hs ht
      | true =>
        rw [if_pos rfl]
        cases ha : iT m (18 * f + 6 * s + 5) with
        | false => rw [if_pos rfl]; exact hB.wG g hg s hs hb
        | true =>
          rw [if_neg (by decide), if_pos (by omega)]
          obtain ⟨a, a1, a2⟩ := hB.wG f hk s hs ha
          obtain ⟨b, b1, b2'⟩ := hB.wG g hg s hs hb
          rw [a2, b2', nI_or]
          have := Nat.or_lt_two_pow (n := 10) (x := a) (y := b) (by omega) (by omega)
          exact ⟨_, by omega, rfl⟩
    · rw [if_neg w] at ht ⊢; exact hB.wG f hf s hs ht
