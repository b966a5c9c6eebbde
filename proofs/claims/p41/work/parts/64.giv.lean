def OnT (m m1 : Sx) : Prop := (∀ a, a ≠ 26 → a ≠ 27 → gA m1 a = gA m a) ∧ gI m1 = gI m ∧ gL m1 = gL m ∧ gM m1 = gM m
theorem OnT.rf (m : Sx) : OnT m m := ⟨fun _ _ _ => rfl, rfl, rfl, rfl⟩
theorem OnT.tr {a b c : Sx} (h : OnT a b) (g : OnT b c) : OnT a c := ⟨fun i h1 h2 => (g.1 i h1 h2).trans (h.1 i h1 h2), g.2.1.trans h.2.1, g.2.2.1.trans h.2.2.1, g.2.2.2.trans h.2.2.2⟩
theorem OnT.p26 {m y : Sx} (h : OnT m y) (k : Nat) (v : Int32) : OnT m (pA y 26 k v) := ⟨fun a h1 h2 => by rw [gA_pA_ne h1, h.1 a h1 h2], h.2.1, h.2.2.1, h.2.2.2⟩
theorem OnT.p27 {m y : Sx} (h : OnT m y) (k : Nat) (v : Int32) : OnT m (pA y 27 k v) := ⟨fun a h1 h2 => by rw [gA_pA_ne h2, h.1 a h1 h2], h.2.1, h.2.2.1, h.2.2.2⟩
/-- what the keeper's place i is told behind it, b: the other's place -/
def gvv (m : Sx) (i b j : Nat) : Int32 := if iT m b = true then (if iT m i = false then gA m 27 b else if j % 6 = 5 then gA m 27 i ||| gA m 27 b else gA m 27 i) else gA m 27 i
theorem m6_tab : ∀ j, j < 18 → ((nI j - nI j / 6 * 6 = 5) ↔ j % 6 = 5) := by decide +kernel
theorem iT_ne {m : Sx} {k : Nat} (h : iT m k = true) : ¬ gA m 26 k = 0 := by simpa [iT] using h
theorem iT_e0 {m : Sx} {k : Nat} (h : iT m k = false) : gA m 26 k = 0 := by simpa [iT] using h
theorem gives_eq {m : Sx} {k g : Nat} (hk : k < 40) (hg : g < 40) (hne : k ≠ g) : ∃ m1, f_X9_gives m (nI g) (nI k) = some m1 ∧ OnT m m1 ∧ (∀ i, iT m1 i = if 18 * k ≤ i ∧ i < 18 * k + 18 then (iT m i || iT m (18 * g + (i - 18 * k))) else iT m i) ∧ ∀ i, gA m1 27 i = if 18 * k ≤ i ∧ i < 18 * k + 18 then gvv m i (18 * g + (i - 18 * k)) (i - 18 * k) else gA m 27 i := by
  unfold f_X9_gives
  obtain ⟨y, ⟨h1, h2, h3⟩, e⟩ := loop0 (L := fun n i y => L_X9_gives_2 (nI g) (nI k) (fun z8 t9 => some t9) n i y) (E := fun y => some y) (N := 18) (by decide) (y := m)
    (fun j y => OnT m y ∧ (∀ i, iT y i = if 18 * k ≤ i ∧ i < 18 * k + j then (iT m i || iT m (18 * g + (i - 18 * k))) else iT m i) ∧ ∀ i, gA y 27 i = if 18 * k ≤ i ∧ i < 18 * k + j then gvv m i (18 * g + (i - 18 * k)) (i - 18 * k) else gA m 27 i)
    (fun n y _ => by
      show L_X9_gives_2 _ _ _ _ _ _ = _
      rw [L_X9_gives_2, if_pos (by decide)])
    (fun j y hj h => by
      obtain ⟨h1, h2, h3⟩ := h
      have t1 : iT y (18 * g + j) = iT m (18 * g + j) := by rw [h2, if_neg (by omega)]
      have t2 : iT y (18 * k + j) = iT m (18 * k + j) := by rw [h2, if_neg (by omega)]
      have v1 : gA y 27 (18 * g + j) = gA m 27 (18 * g + j) := by rw [h3, if_neg (by omega)]
      have v2 : gA y 27 (18 * k + j) = gA m 27 (18 * k + j) := by rw [h3, if_neg (by omega)]
      have gg : vp_in (nI (18 * g + j)) 720 := vin_nI (by omega) (by decide)
      have gk : vp_in (nI (18 * k + j)) 720 := vin_nI (by omega) (by decide)
      have xg : ix (nI (18 * g + j)) = 18 * g + j := ix_nI (by omega)
      have xk : ix (nI (18 * k + j)) = 18 * k + j := ix_nI (by omega)
      have n6 : ¬ (6 : Int32) = 0 := by decide
      have step : ∀ n, L_X9_gives_2 (nI g) (nI k) (fun z8 t9 => some t9) (n + 1) (nI j) y = if gA y 26 (18 * g + j) = 0 then L_X9_gives_2 (nI g) (nI k) (fun z8 t9 => some t9) n (nI (j + 1)) y else if gA y 26 (18 * k + j) = 0 then L_X9_gives_2 (nI g) (nI k) (fun z8 t9 => some t9) n (nI (j + 1)) (pA (pA y 27 (18 * k + j) (gA m 27 (18 * g + j))) 26 (18 * k + j) 1) else if j % 6 = 5 then L_X9_gives_2 (nI g) (nI k) (fun z8 t9 => some t9) n (nI (j + 1)) (pA (pA y 27 (18 * k + j) (gA m 27 (18 * k + j) ||| gA m 27 (18 * g + j))) 26 (18 * k + j) 1) else L_X9_gives_2 (nI g) (nI k) (fun z8 t9 => some t9) n (nI (j + 1)) (pA (pA y 27 (18 * k + j) (gA m 27 (18 * k + j))) 26 (18 * k + j) 1) := fun n => by
        rw [L_X9_gives_2, if_neg (ngo (x := 18) (N := 18) rfl hj (by decide))]
        simp only [i18a, gd_pos gg, gd_pos gk, gd_pos n6, xg, xk, bd_eq, v1, v2, nI_lit1]
        by_cases w : j % 6 = 5
        · simp only [if_pos w, if_pos ((m6_tab j hj).mpr w)]
        · simp only [if_neg w, if_neg (fun u => w ((m6_tab j hj).mp u))]
      -- what it comes to for this cell
      have fin : ∀ v : Int32, iT m (18 * g + j) = true → v = gvv m (18 * k + j) (18 * g + j) j → OnT m (pA (pA y 27 (18 * k + j) v) 26 (18 * k + j) 1) ∧ (∀ i, iT (pA (pA y 27 (18 * k + j) v) 26 (18 * k + j) 1) i = if 18 * k ≤ i ∧ i < 18 * k + (j + 1) then (iT m i || iT m (18 * g + (i - 18 * k))) else iT m i) ∧ ∀ i, gA (pA (pA y 27 (18 * k + j) v) 26 (18 * k + j) 1) 27 i = if 18 * k ≤ i ∧ i < 18 * k + (j + 1) then gvv m i (18 * g + (i - 18 * k)) (i - 18 * k) else gA m 27 i := fun v hT hv => by
        refine ⟨(h1.p27 _ _).p26 _ _, fun i => ?_, fun i => ?_⟩
        · rw [iT_put']
          by_cases z : i = 18 * k + j
          · rw [if_pos z, if_pos (by omega), z, show 18 * k + j - 18 * k = j by omega, hT, Bool.or_true]; rfl
          · rw [if_neg z, show iT (pA y 27 (18 * k + j) v) i = iT y i from by unfold iT; rw [gA_pA_ne (by decide)], h2]
            by_cases u : 18 * k ≤ i ∧ i < 18 * k + j
            · rw [if_pos u, if_pos (by omega)]
            · rw [if_neg u, if_neg (by omega)]
        · rw [gA_pA_ne (by decide), gA_pA_at]
          by_cases z : i = 18 * k + j
          · rw [if_pos z, if_pos (by omega), z, show 18 * k + j - 18 * k = j by omega, hv]
          · rw [if_neg z, h3]
            by_cases u : 18 * k ≤ i ∧ i < 18 * k + j
            · rw [if_pos u, if_pos (by omega)]
            · rw [if_neg u, if_neg (by omega)]
      cases hg1 : iT m (18 * g + j) with
      | false =>
        refine ⟨y, ⟨h1, fun i => ?_, fun i => ?_⟩, fun n => ?_⟩
        · by_cases z : i = 18 * k + j
          · rw [h2, if_neg (by omega), if_pos (by omega), z, show 18 * k + j - 18 * k = j by omega, hg1, Bool.or_false]
          · rw [h2]
            by_cases u : 18 * k ≤ i ∧ i < 18 * k + j
            · rw [if_pos u, if_pos (by omega)]
            · rw [if_neg u, if_neg (by omega)]
        · by_cases z : i = 18 * k + j
          · rw [h3, if_neg (by omega), if_pos (by omega), z, show 18 * k + j - 18 * k = j by omega, gvv, hg1, if_neg (by decide)]
          · rw [h3]
            by_cases u : 18 * k ≤ i ∧ i < 18 * k + j
            · rw [if_pos u, if_pos (by omega)]
            · rw [if_neg u, if_neg (by omega)]
        · show L_X9_gives_2 _ _ _ _ _ _ = _
          rw [step, if_pos (iT_e0 (by rw [t1, hg1]))]
      | true =>
        have z1 := iT_ne (t1.trans hg1)
        cases hk1 : iT m (18 * k + j) with
        | false =>
          exact ⟨_, fin (gA m 27 (18 * g + j)) hg1 (by rw [gvv, hg1, if_pos rfl, if_pos hk1]), fun n => by
            show L_X9_gives_2 _ _ _ _ _ _ = _
            rw [step, if_neg z1, if_pos (iT_e0 (by rw [t2, hk1]))]⟩
        | true =>
          have z2 := iT_ne (t2.trans hk1)
          by_cases w : j % 6 = 5
          · exact ⟨_, fin (gA m 27 (18 * k + j) ||| gA m 27 (18 * g + j)) hg1 (by rw [gvv, hg1, if_pos rfl, hk1, if_neg (by decide), if_pos w]), fun n => by
              show L_X9_gives_2 _ _ _ _ _ _ = _
              rw [step, if_neg z1, if_neg z2, if_pos w]⟩
          · exact ⟨_, fin (gA m 27 (18 * k + j)) hg1 (by rw [gvv, hg1, if_pos rfl, hk1, if_neg (by decide), if_neg w]), fun n => by
              show L_X9_gives_2 _ _ _ _ _ _ = _
              rw [step, if_neg z1, if_neg z2, if_neg w]⟩)
    ⟨OnT.rf m, fun i => by rw [if_neg (by omega)], fun i => by rw [if_neg (by omega)]⟩
  exact ⟨y, e, h1, h2, h3⟩
theorem giv_pair {c m : Sx} (hB : Ba c m) {k g : Nat} (hk : k < 40) (hg : g < 40) (hne : k ≠ g) (pk : iF m k = true) (pg : iF m g = true) : ∃ c1 m1, f_X1_absorbOne c (nI k) (nI g) = some c1 ∧ f_X9_gives m (nI g) (nI k) = some m1 ∧ OnA 11 c c1 ∧ OnT m m1 ∧ Ba c1 m1 := by
  obtain ⟨c1, e1, o1, j1⟩ := absorbOne_eq (c := c) hk hg hne
  obtain ⟨m1, e2, o2, t2, v2⟩ := gives_eq (m := m) hk hg hne
  have mA : ∀ a, a ≠ 26 → a ≠ 27 → gA m1 a = gA m a := o2.1
  have m23 := mA 23 (by decide) (by decide)
  refine ⟨c1, m1, e1, e2, o1, o2, hB.wO.on (mA 28 (by decide) (by decide)), fun i hi ht => ?_, hB.wS.on m23 (mA 29 (by decide) (by decide)) (mA 30 (by decide) (by decide)) (mA 31 (by decide) (by decide)) (mA 32 (by decide) (by decide)), hB.wT.on (by rw [o2.2.1]) (mA 34 (by decide) (by decide)), (hB.rP.on (by rw [o1.2.2.1])).onM m23, (hB.rD.onC (o1.1 9 (by decide)) (o1.1 10 (by decide))).onM m23 (mA 24 (by decide) (by decide)) (mA 25 (by decide) (by decide)), fun f hf hp j hj => ?_, (hB.rO.on (o1.1 13 (by decide))).onM (mA 28 (by decide) (by decide)), (hB.rS.onC (o1.1 14 (by decide)) (o1.1 15 (by decide)) (o1.1 16 (by decide)) (o1.1 17 (by decide)) (o1.1 18 (by decide)) (by rw [o1.2.2.1])).onM (mA 29 (by decide) (by decide)) (mA 30 (by decide) (by decide)) (mA 31 (by decide) (by decide)) (mA 32 (by decide) (by decide)) (mA 33 (by decide) (by decide)), (hB.rT.onC (by rw [o1.2.1]) (o1.1 108 (by decide))).onM (by rw [o2.2.1]) (mA 34 (by decide) (by decide)), ⟨fun f hf s hs ht => ?_, fun i hi h6 ht => ?_⟩⟩
  · rw [t2] at ht
    rw [v2]
    by_cases w : 18 * k ≤ i ∧ i < 18 * k + 18
    · rw [if_pos w] at ht ⊢
      rw [gvv]
      cases hb : iT m (18 * g + (i - 18 * k)) with
      | false => rw [hb, Bool.or_false] at ht; rw [if_neg (by decide)]; exact hB.wV i hi ht
      | true =>
        rw [if_pos rfl]
        cases ha : iT m i with
        | false => rw [if_pos rfl]; exact hB.wV _ (by omega) hb
        | true =>
          rw [if_neg (by decide)]
          by_cases z : (i - 18 * k) % 6 = 5
          · rw [if_pos z]
            obtain ⟨s, hs, es⟩ : ∃ s, s < 3 ∧ i = 18 * k + 6 * s + 5 := ⟨(i - 18 * k) / 6, by omega, by omega⟩
            have e2 : 18 * g + (i - 18 * k) = 18 * g + 6 * s + 5 := by omega
            rw [e2] at hb ⊢
            rw [es] at ha ⊢
            obtain ⟨a, a1, a2⟩ := hB.wG.1 k hk s hs ha
            obtain ⟨b, b1, b2'⟩ := hB.wG.1 g hg s hs hb
            rw [a2, b2', nI_or]
            have := Nat.or_lt_two_pow (n := 10) (x := a) (y := b) (by omega) (by omega)
            exact ⟨_, by omega, rfl⟩
          · rw [if_neg z]; exact hB.wV i hi ha
    · rw [if_neg w] at ht ⊢; exact hB.wV i hi ht
  · rw [iF_on m23] at hp
    rw [j1, t2, v2]
    by_cases w : 18 * k ≤ 18 * f + j ∧ 18 * f + j < 18 * k + 18
    · rw [if_pos w, if_pos w, if_pos w]
      obtain rfl : f = k := by omega
      have ej : 18 * f + j - 18 * f = j := by omega
      rw [ej, hB.rV f hf hp j hj, hB.rV g hg pg j hj, mgj, gvv]
      cases ha : iT m (18 * f + j) with
      | false =>
        rw [if_neg (show ¬ false = true by decide)]
        cases hb : iT m (18 * g + j) with
        | false =>
          rw [if_neg (show ¬ false = true by decide)]
          unfold mgt mgv
          split <;> rfl
        | true =>
          rw [if_pos rfl]
          unfold mgt mgv
          split <;> rfl
      | true =>
        obtain ⟨a, a1, a2⟩ := hB.wV _ (by omega) ha
        rw [if_pos rfl]
        cases hb : iT m (18 * g + j) with
        | false =>
          rw [a2]
          unfold mgt mgv
          rw [if_neg (nI_ne_m1 (by omega)), if_neg (nI_ne_m1 (by omega))]
          split <;> rfl
        | true =>
          obtain ⟨b, b1, b2'⟩ := hB.wV _ (by omega) hb
          rw [a2]
          unfold mgt mgv
          rw [if_neg (nI_ne_m1 (by omega)), if_neg (nI_ne_m1 (by omega)), if_pos rfl, b2', if_neg (nI_ne_m1 (by omega))]
          by_cases z : j % 6 = 5
          · rw [if_pos z]; rfl
          · rw [if_neg z]; rfl
    · rw [if_neg w, if_neg w, if_neg w]; exact hB.rV f hf hp j hj
  · rw [t2] at ht
    rw [v2]
    by_cases w : 18 * k ≤ 18 * f + 6 * s + 5 ∧ 18 * f + 6 * s + 5 < 18 * k + 18
    · rw [if_pos w] at ht ⊢
      obtain rfl : f = k := by omega
      have ej : 18 * f + 6 * s + 5 - 18 * f = 6 * s + 5 := by omega
      rw [ej] at ht ⊢
      rw [gvv]
      have eg : 18 * g + (6 * s + 5) = 18 * g + 6 * s + 5 := by omega
      rw [eg] at ht ⊢
      cases hb : iT m (18 * g + 6 * s + 5) with
      | false => rw [hb, Bool.or_false] at ht; rw [if_neg (by decide)]; exact hB.wG.1 f hf s hs ht
      | true =>
        rw [if_pos rfl]
        cases ha : iT m (18 * f + 6 * s + 5) with
        | false => rw [if_pos rfl]; exact hB.wG.1 g hg s hs hb
        | true =>
          rw [if_neg (by decide), if_pos (by omega)]
          obtain ⟨a, a1, a2⟩ := hB.wG.1 f hk s hs ha
          obtain ⟨b, b1, b2'⟩ := hB.wG.1 g hg s hs hb
          rw [a2, b2', nI_or]
          have := Nat.or_lt_two_pow (n := 10) (x := a) (y := b) (by omega) (by omega)
          exact ⟨_, by omega, rfl⟩
    · rw [if_neg w] at ht ⊢; exact hB.wG.1 f hf s hs ht
  · rw [t2] at ht
    rw [v2]
    by_cases w : 18 * k ≤ i ∧ i < 18 * k + 18
    · rw [if_pos w] at ht ⊢
      rw [gvv]
      cases hb : iT m (18 * g + (i - 18 * k)) with
      | false => rw [hb, Bool.or_false] at ht; rw [if_neg (by decide)]; exact hB.wG.2 i hi h6 ht
      | true =>
        rw [if_pos rfl]
        cases ha : iT m i with
        | false => rw [if_pos rfl]; exact hB.wG.2 _ (by omega) (by omega) hb
        | true => rw [if_neg (by decide), if_neg (by omega)]; exact hB.wG.2 i hi h6 ha
    · rw [if_neg w] at ht ⊢; exact hB.wG.2 i hi h6 ht
theorem L_only (c : Sx) (f : Nat) : f_X8_only c (nI f) = some (shlL 1 (nI f)) := rfl
theorem cal_merge (a1 : Int32) : Cal (-2) (fun t => f_X8_merge t a1) (fun t => f_X9_merge t a1) := fun c m h => by
  show ∃ r c' m', f_X8_merge c a1 = some (r, c') ∧ f_X9_merge m a1 = some (r, m') ∧ _
  unfold f_X8_merge f_X9_merge
  rw [hasC h.1, there_eq, Option.bind_some, Option.bind_some]
  cases q : fil (iF m) a1 with
  | false => exact h.err (-1) (by rw [bF]) (by rw [bF])
  | true =>
    obtain ⟨f, hf, rfl, hp⟩ := fil_out q
    obtain ⟨k, ek1, hk⟩ := keeperC h.1 h.2.1.1 hf hp
    obtain ⟨k', ek2, hk'⟩ := keeper_eq h.1.wO h.1.wV hf hp
    obtain rfl := KP_one hk hk'
    obtain ⟨x, ex, hx⟩ := alike_eq h.1.rP h.1.rD hf hp
    obtain ⟨pk, ek24⟩ := grp_iff.mp hk.2.1
    rw [bT, bT, ek1, Option.bind_some, ex, Option.bind_some, L_only, Option.bind_some, group_eq hf, Option.bind_some, ek2, Option.bind_some]
    -- the others
    have hk40 := hk.1
    have ho : ∀ j, j < 64 → hb (x &&& (shlL 1 (nI k) ^^^ -1)) j = (decide (j < 40) && (if j = k then false else grp m f j)) := fun j hj => by
      rw [hb_cut _ (by omega) hj, hx j hj]
      by_cases w : j = k
      · rw [if_pos w, decide_eq_true w]; simp
      · rw [if_neg w, decide_eq_false w]; simp
    have hct := fb_ct_upd (grp m f) false (i := k) (n := 40) hk40
    rw [hk.2.1, if_pos rfl, if_neg (by decide), Nat.add_zero] at hct
    have hle := fb_ct_le (grp m f) 40
    by_cases w1 : fb_ct (grp m f) 40 = 1
    · have z : fb_ct (fun j => if j = k then false else grp m f j) 40 = 0 := by omega
      have z2 : x &&& (shlL 1 (nI k) ^^^ -1) = 0 := hb_ext fun j hj => by
        rw [ho j hj, hb_0]
        by_cases u : j < 40
        · rw [show (if j = k then false else grp m f j) = false from fb_ct_zero.mp z j u, Bool.and_false]
        · rw [decide_eq_false u, Bool.false_and]
      rw [if_pos (by rw [lg_cmp_eq]; exact z2), if_pos (by rw [w1]; rfl)]
      exact h.err (-2) rfl rfl
    · have z2 : ¬ x &&& (shlL 1 (nI k) ^^^ -1) = 0 := fun z => by
        have : fb_ct (fun j => if j = k then false else grp m f j) 40 = 0 := fb_ct_zero.mpr fun j hj => by
          have e := ho j (by omega)
          rw [z, hb_0, decide_eq_true hj, Bool.true_and] at e
          exact e.symm
        omega
      rw [if_neg (by rw [lg_cmp_eq]; exact z2), if_neg (by rw [show (1 : Int32) = nI 1 from rfl, nI_eq_iff (by omega) (by decide)]; exact w1)]
      obtain ⟨hB, hD, hA, hJ, hM⟩ := h
      -- what the reference asks of a file is whether it is one of the others
      have oth : ∀ j, j < 40 → (if j = k then false else grp m f j) = true → iF m j = true ∧ j ≠ k ∧ gA m 24 j = gA m 24 k := fun j hj u => by
        by_cases w : j = k
        · rw [if_pos w] at u; cases u
        · rw [if_neg w] at u
          obtain ⟨u1, u2⟩ := grp_iff.mp u
          exact ⟨u1, w, by rw [u2, ek24]⟩
      have noth : ∀ j, j < 40 → (if j = k then false else grp m f j) = false → ¬ (iF m j = true ∧ j ≠ k ∧ gA m 24 j = gA m 24 k) := fun j hj u w => by
        rw [if_neg w.2.1] at u
        rw [grp_iff.mpr ⟨w.1, by rw [w.2.2, ek24]⟩] at u
        cases u
      have gk : vp_in (nI k) 40 := vin_nI hk40 (by decide)
      have xk : ix (nI k) = k := ix_nI (by omega)
      unfold f_X1_absorb
      -- giving
      obtain ⟨y1, z1, ⟨i1, i2, i3⟩, e1, e2⟩ := loop02 (L1 := fun n i s => L_X1_absorb_3 (nI k) (x &&& (shlL 1 (nI k) ^^^ -1)) (fun z3 t4 => some t4) n i s) (E1 := fun s => some s) (L2 := fun n i s (kont : Int32 → Sx → Option (Int32 × Sx)) => L_X9_merge_33 (nI f) (nI (fb_ct (grp m f) 40)) (nI k) kont n i s) (E2 := fun s kont => kont (nI 40) s) (N := 40) (by decide) (y := c) (z := m)
        (fun _ y z => Ba y z ∧ OnA 11 c y ∧ OnT m z)
        (fun n y z _ => by
          show L_X1_absorb_3 _ _ _ _ _ _ = _
          rw [L_X1_absorb_3, if_pos (by decide)])
        (fun n y z _ => by
          funext kont
          show L_X9_merge_33 _ _ _ _ _ _ _ = _
          rw [L_X9_merge_33, if_pos (by decide)])
        (fun j y z hj hI => by
          obtain ⟨i1, i2, i3⟩ := hI
          have gj : vp_in (nI j) 40 := vin_nI hj (by decide)
          have s1 : ∀ n, L_X1_absorb_3 (nI k) (x &&& (shlL 1 (nI k) ^^^ -1)) (fun z3 t4 => some t4) (n + 1) (nI j) y = if b2 (if j = k then false else grp m f j) = 0 then L_X1_absorb_3 (nI k) (x &&& (shlL 1 (nI k) ^^^ -1)) (fun z3 t4 => some t4) n (nI (j + 1)) y else (f_X1_absorbOne y (nI k) (nI j)).bind fun r2 => L_X1_absorb_3 (nI k) (x &&& (shlL 1 (nI k) ^^^ -1)) (fun z3 t4 => some t4) n (nI (j + 1)) r2 := fun n => by
            rw [L_X1_absorb_3, if_neg (ngo (x := 40) (N := 40) rfl hj (by decide)), holds_eq _ _ (by omega), ho j (by omega), decide_eq_true hj, Bool.true_and, Option.bind_some, nI_lit1]
          have s2 : ∀ (kont : Int32 → Sx → Option (Int32 × Sx)) n, L_X9_merge_33 (nI f) (nI (fb_ct (grp m f) 40)) (nI k) kont (n + 1) (nI j) z = if gA m 23 j = 0 then L_X9_merge_33 (nI f) (nI (fb_ct (grp m f) 40)) (nI k) kont n (nI (j + 1)) z else if nI j = nI k then L_X9_merge_33 (nI f) (nI (fb_ct (grp m f) 40)) (nI k) kont n (nI (j + 1)) z else if gA m 24 j = gA m 24 k then (f_X9_gives z (nI j) (nI k)).bind fun r4 => L_X9_merge_33 (nI f) (nI (fb_ct (grp m f) 40)) (nI k) kont n (nI (j + 1)) r4 else L_X9_merge_33 (nI f) (nI (fb_ct (grp m f) 40)) (nI k) kont n (nI (j + 1)) z := fun kont n => by
            rw [L_X9_merge_33, if_neg (ngo (x := 40) (N := 40) rfl hj (by decide)), gd_pos gj, gd_pos gj, gd_pos gk, ix_nI (by omega), xk, i3.1 23 (by decide) (by decide), i3.1 24 (by decide) (by decide), nI_lit1]
          cases u : (if j = k then false else grp m f j) with
          | true =>
            obtain ⟨u1, u2, u3⟩ := oth j hj u
            obtain ⟨y', z', p1, p2, o1, o2, b⟩ := giv_pair i1 hk40 hj (fun w => u2 w.symm) (by rw [iF_on (i3.1 23 (by decide) (by decide))]; exact pk) (by rw [iF_on (i3.1 23 (by decide) (by decide))]; exact u1)
            refine ⟨y', z', ⟨b, ⟨fun a ha => (o1.1 a ha).trans (i2.1 a ha), o1.2.1.trans i2.2.1, o1.2.2.1.trans i2.2.2.1, o1.2.2.2.trans i2.2.2.2⟩, i3.tr o2⟩, fun n => ?_, fun n => ?_⟩
            · show L_X1_absorb_3 _ _ _ _ _ _ = _
              rw [s1, u, if_neg (by decide), p1, Option.bind_some]
            · funext kont
              show L_X9_merge_33 _ _ _ _ _ _ _ = _
              rw [s2, if_neg (iF_ne u1), if_neg (by rw [nI_eq_iff (by omega) (by omega)]; exact u2), if_pos u3, p2, Option.bind_some]
          | false =>
            refine ⟨y, z, ⟨i1, i2, i3⟩, fun n => ?_, fun n => ?_⟩
            · show L_X1_absorb_3 _ _ _ _ _ _ = _
              rw [s1, u, if_pos b2_f]
            · funext kont
              show L_X9_merge_33 _ _ _ _ _ _ _ = _
              rw [s2]
              by_cases w1 : gA m 23 j = 0
              · rw [if_pos w1]
              · rw [if_neg w1]
                by_cases w2 : j = k
                · rw [if_pos (by rw [w2])]
                · rw [if_neg (by rw [nI_eq_iff (by omega) (by omega)]; exact w2), if_neg (fun w3 => noth j hj u ⟨by simpa [iF] using w1, w2, w3⟩)])
        ⟨hB, OnA.rf _ _, OnT.rf _⟩
      rw [e1, Option.bind_some]
      have e2' := congrFun e2 (fun z5 t6 => L_X9_merge_88 (nI f) (nI (fb_ct (grp m f) 40)) (nI k) (fun z8 t9 => (f_X9_settled t9 (nI (fb_ct (grp m f) 40) - 1)).bind fun r10 => some (r10.1, r10.2)) FU 0 t6)
      dsimp only at e2'
      rw [e2']
      have a1' : RAl y1 z1 := hA.on (fun i _ _ => by rw [i2.2.1]) (fun a _ _ => i2.1 a (by omega)) (fun i _ => by rw [i2.2.2.1]) (fun a _ _ => i3.1 a (by omega) (by omega)) (by rw [i3.2.2.2])
      have j1' : RJ y1 z1 := hJ.on (by rw [i2.2.1]) (by rw [i2.2.1]) (by rw [i3.2.1]) (i2.1 20 (by decide)) (i2.1 21 (by decide)) (i2.1 22 (by decide)) (i3.1 41 (by decide) (by decide))
      have f1' : FrM c y1 := i2.frM (by omega)
      have f2' : FrC m z1 := FrC.ofM (fun a _ => i3.1 a (by omega) (by omega)) (fun i _ => by rw [i3.2.1]) (fun i => by rw [i3.2.2.1]) i3.2.2.2
      -- going
      obtain ⟨y2, z2', ⟨g1, g2, g3, g4, g5, -, -⟩, e3, e4⟩ := loop02 (L1 := fun n i s (kont : Int32 → Sx → Option (Int32 × Sx)) => L_X8_merge_61 (nI f) (nI k) (x &&& (shlL 1 (nI k) ^^^ -1)) kont n i s) (E1 := fun s kont => kont (nI 40) s) (L2 := fun n i s (kont : Int32 → Sx → Option (Int32 × Sx)) => L_X9_merge_88 (nI f) (nI (fb_ct (grp m f) 40)) (nI k) kont n i s) (E2 := fun s kont => kont (nI 40) s) (N := 40) (by decide) (y := y1) (z := z1)
        (fun l y z => Ba y z ∧ RAl y z ∧ RJ y z ∧ FrM c y ∧ FrC m z ∧ (∀ i, l ≤ i → iF z i = iF m i) ∧ gA z 24 = gA m 24)
        (fun n y z _ => by
          funext kont
          show L_X8_merge_61 _ _ _ _ _ _ _ = _
          rw [L_X8_merge_61, if_pos (by decide)])
        (fun n y z _ => by
          funext kont
          show L_X9_merge_88 _ _ _ _ _ _ _ = _
          rw [L_X9_merge_88, if_pos (by decide)])
        (fun j y z hj hI => by
          obtain ⟨h1, h2, h3, h4, h5, h6, h7⟩ := hI
          have gj : vp_in (nI j) 40 := vin_nI hj (by decide)
          have s1 : ∀ (kont : Int32 → Sx → Option (Int32 × Sx)) n, L_X8_merge_61 (nI f) (nI k) (x &&& (shlL 1 (nI k) ^^^ -1)) kont (n + 1) (nI j) y = if b2 (if j = k then false else grp m f j) = 0 then L_X8_merge_61 (nI f) (nI k) (x &&& (shlL 1 (nI k) ^^^ -1)) kont n (nI (j + 1)) y else (f_X8_discard y (nI j)).bind fun r7 => L_X8_merge_61 (nI f) (nI k) (x &&& (shlL 1 (nI k) ^^^ -1)) kont n (nI (j + 1)) r7 := fun kont n => by
            rw [L_X8_merge_61, if_neg (ngo (x := 40) (N := 40) rfl hj (by decide)), holds_eq _ _ (by omega), ho j (by omega), decide_eq_true hj, Bool.true_and, Option.bind_some, nI_lit1]
          have e23 : (gA z 23 j = 0) ↔ gA m 23 j = 0 := by rw [iF_dec, iF_dec, h6 j (Nat.le_refl _)]
          have s2 : ∀ (kont : Int32 → Sx → Option (Int32 × Sx)) n, L_X9_merge_88 (nI f) (nI (fb_ct (grp m f) 40)) (nI k) kont (n + 1) (nI j) z = if gA z 23 j = 0 then L_X9_merge_88 (nI f) (nI (fb_ct (grp m f) 40)) (nI k) kont n (nI (j + 1)) z else if nI j = nI k then L_X9_merge_88 (nI f) (nI (fb_ct (grp m f) 40)) (nI k) kont n (nI (j + 1)) z else if gA m 24 j = gA m 24 k then (f_X9_goes z (nI j)).bind fun r7 => L_X9_merge_88 (nI f) (nI (fb_ct (grp m f) 40)) (nI k) kont n (nI (j + 1)) r7 else L_X9_merge_88 (nI f) (nI (fb_ct (grp m f) 40)) (nI k) kont n (nI (j + 1)) z := fun kont n => by
            rw [L_X9_merge_88, if_neg (ngo (x := 40) (N := 40) rfl hj (by decide)), gd_pos gj, gd_pos gj, gd_pos gk, ix_nI (by omega), xk, h7, nI_lit1]
          cases u : (if j = k then false else grp m f j) with
          | true =>
            obtain ⟨u1, u2, u3⟩ := oth j hj u
            obtain ⟨y', z', p1, p2, b, a, jj, fr1, fr2, eF, e24⟩ := disc_pair h1 h2 h3 hj
            refine ⟨y', z', ⟨b, a, jj, h4.tr fr1, h5.tr fr2, fun i hi => ?_, e24.trans h7⟩, fun n => ?_, fun n => ?_⟩
            · rw [eF, if_neg (by omega)]; exact h6 i (by omega)
            · funext kont
              show L_X8_merge_61 _ _ _ _ _ _ _ = _
              rw [s1, u, if_neg (by decide), p1, Option.bind_some]
            · funext kont
              show L_X9_merge_88 _ _ _ _ _ _ _ = _
              rw [s2, if_neg (fun w => iF_ne u1 (e23.mp w)), if_neg (by rw [nI_eq_iff (by omega) (by omega)]; exact u2), if_pos u3, p2, Option.bind_some]
          | false =>
            refine ⟨y, z, ⟨h1, h2, h3, h4, h5, fun i hi => h6 i (by omega), h7⟩, fun n => ?_, fun n => ?_⟩
            · funext kont
              show L_X8_merge_61 _ _ _ _ _ _ _ = _
              rw [s1, u, if_pos b2_f]
            · funext kont
              show L_X9_merge_88 _ _ _ _ _ _ _ = _
              rw [s2]
              by_cases w1 : gA z 23 j = 0
              · rw [if_pos w1]
              · rw [if_neg w1]
                by_cases w2 : j = k
                · rw [if_pos (by rw [w2])]
                · have w1' : ¬ gA m 23 j = 0 := fun w => w1 (e23.mpr w)
                  rw [if_neg (by rw [nI_eq_iff (by omega) (by omega)]; exact w2), if_neg (fun w3 => noth j hj u ⟨by simpa [iF] using w1', w2, w3⟩)])
        ⟨i1, a1', j1', f1', f2', fun i _ => by rw [iF_on (i3.1 23 (by decide) (by decide))], i3.1 24 (by decide) (by decide)⟩
      obtain ⟨c', m', p1, p2, q1, q2, q3, -⟩ := fin_settle ⟨g1, g2, g3⟩ g4 g5
      have e3' := congrFun e3 (fun z8 t9 => (f_X8_settle t9).bind fun r10 => (f_J13_bitCount_95d88 r10 (x &&& (shlL 1 (nI k) ^^^ -1))).bind fun r11 => some (r11, r10))
      have e4' := congrFun e4 (fun z8 t9 => (f_X9_settled t9 (nI (fb_ct (grp m f) 40) - 1)).bind fun r10 => some (r10.1, r10.2))
      dsimp only at e3' e4'
      rw [e3', e4', p1, p2, Option.bind_some, bitCount_eq, cnt40 ho, nI_subOne (by omega), show fb_ct (grp m f) 40 - 1 = fb_ct (fun j => if j = k then false else grp m f j) 40 by omega]
      exact ⟨_, c', m', rfl, rfl, q1, q2, q3, fun _ => lo_nI (by decide) (by have := fb_ct_le (fun j => if j = k then false else grp m f j) 40; omega)⟩
