/-! ===== groups and keepers ===== -/
theorem vOr_cases {m : Sx} (hO : WOrd m) (hV : WVal m) {f fld : Nat} (hf : f < 40) (hl : fld < 6) : (src m f fld = none ∧ ∀ non, vOr m f fld non = non) ∨ ∃ v, v ≤ 9999 ∧ (src m f fld).isSome = true ∧ ∀ non, vOr m f fld non = nI v := by
  cases hs : src m f fld with
  | none => exact Or.inl ⟨rfl, fun non => by simp [vOr, hs]⟩
  | some j =>
    obtain ⟨-, hj, hT, -⟩ := fst?_some hs
    obtain ⟨e, ho⟩ := wOrd_at hO (k := j) (by omega)
    obtain ⟨v, hv, ev⟩ := hV _ (by omega) hT
    exact Or.inr ⟨v, hv, rfl, fun non => by simp [vOr, hs, ev]⟩
def rt (m : Sx) (f : Nat) : Int := (vOr m f 1 (-1)).toInt
def yr (m : Sx) (f : Nat) : Int := (vOr m f 2 9999).toInt
theorem rt_rng {m : Sx} (hO : WOrd m) (hV : WVal m) {f : Nat} (hf : f < 40) : -1 ≤ rt m f ∧ rt m f ≤ 9999 := by
  unfold rt
  rcases vOr_cases hO hV hf (show 1 < 6 by decide) with ⟨-, h⟩ | ⟨v, hv, -, h⟩
  · rw [h, show (-1 : Int32).toInt = -1 by decide]; omega
  · rw [h, nI_toInt (by omega)]; omega
theorem yr_rng {m : Sx} (hO : WOrd m) (hV : WVal m) {f : Nat} (hf : f < 40) : 0 ≤ yr m f ∧ yr m f ≤ 9999 := by
  unfold yr
  rcases vOr_cases hO hV hf (show 2 < 6 by decide) with ⟨-, h⟩ | ⟨v, hv, -, h⟩
  · rw [h, show (9999 : Int32).toInt = 9999 by decide]; omega
  · rw [h, nI_toInt (by omega)]; omega
def pref (m : Sx) (f g : Nat) : Bool := decide (rt m g < rt m f ∨ (rt m f = rt m g ∧ (yr m f < yr m g ∨ (yr m f = yr m g ∧ f < g))))
theorem pref_trans {m : Sx} {f g h : Nat} (a : pref m f g = true) (b : pref m g h = true) : pref m f h = true := by
  simp only [pref, decide_eq_true_eq] at *
  omega
theorem pref_total {m : Sx} {f g : Nat} (hne : f ≠ g) (a : pref m f g = false) : pref m g f = true := by
  simp only [pref, decide_eq_true_eq, decide_eq_false_iff_not] at *
  omega
theorem pref_asymm {m : Sx} {f g : Nat} (a : pref m f g = true) : pref m g f = false := by
  simp only [pref, decide_eq_true_eq, decide_eq_false_iff_not] at *
  omega
theorem isub {x y : Int32} (h1 : -2147483648 ≤ x.toInt - y.toInt) (h2 : x.toInt - y.toInt < 2147483648) : (x - y).toInt = x.toInt - y.toInt := by
  rw [Int32.toInt_sub]
  exact Int.bmod_eq_of_le (by omega) (by omega)
theorem ite_b2' {P : Prop} [Decidable P] {b : Bool} (h : P ↔ b = true) : (if P then some (1 : Int32) else some 0) = some (b2 b) := by
  by_cases q : P
  · rw [if_pos q, h.mp q]; rfl
  · rw [if_neg q]
    cases b with
    | false => rfl
    | true => exact absurd (h.mpr rfl) q
theorem isPreferred_eq {m : Sx} (hO : WOrd m) (hV : WVal m) {f g : Nat} (hf : f < 40) (hg : g < 40) : f_X9_isPreferred m (nI f) (nI g) = some (b2 (pref m f g)) := by
  unfold f_X9_isPreferred
  rw [valueOr1 hO hf, valueOr1 hO hg, valueOr2 hO hf, valueOr2 hO hg]
  simp only [Option.bind_some]
  have a1 := rt_rng hO hV hf; have a2 := rt_rng hO hV hg; have a3 := yr_rng hO hV hf; have a4 := yr_rng hO hV hg
  have s1 : (vOr m f 1 (-1) - vOr m g 1 (-1)).toInt = rt m f - rt m g := isub (by unfold rt at *; omega) (by unfold rt at *; omega)
  have s2 : (vOr m f 2 9999 - vOr m g 2 9999).toInt = yr m f - yr m g := isub (by unfold yr at *; omega) (by unfold yr at *; omega)
  have z : (0 : Int32).toInt = 0 := by decide
  have p1 : (vOr m f 1 (-1) - vOr m g 1 (-1) = 0) ↔ rt m f = rt m g := by rw [i_eq, s1, z]; omega
  have p2 : (vOr m f 2 9999 - vOr m g 2 9999 = 0) ↔ yr m f = yr m g := by rw [i_eq, s2, z]; omega
  have p3 : (0 ≤ vOr m f 2 9999 - vOr m g 2 9999) ↔ yr m g ≤ yr m f := by rw [i_le, s2, z]; omega
  have p4 : (vOr m f 1 (-1) - vOr m g 1 (-1) ≤ 0) ↔ rt m f ≤ rt m g := by rw [i_le, s1, z]; omega
  have p5 : (nI g ≤ nI f) ↔ g ≤ f := nI_le_iff (by omega) (by omega)
  by_cases c1 : rt m f = rt m g
  · rw [if_pos (p1.mpr c1)]
    by_cases c2 : yr m f = yr m g
    · rw [if_pos (p2.mpr c2)]
      by_cases c3 : g ≤ f
      · rw [if_pos (p5.mpr c3), show pref m f g = false by simp only [pref, decide_eq_false_iff_not]; omega]; rfl
      · rw [if_neg (fun h => c3 (p5.mp h)), show pref m f g = true by simp only [pref, decide_eq_true_eq]; omega]; rfl
    · rw [if_neg (fun h => c2 (p2.mp h))]
      by_cases c3 : yr m g ≤ yr m f
      · rw [if_pos (p3.mpr c3), show pref m f g = false by simp only [pref, decide_eq_false_iff_not]; omega]; rfl
      · rw [if_neg (fun h => c3 (p3.mp h)), show pref m f g = true by simp only [pref, decide_eq_true_eq]; omega]; rfl
  · rw [if_neg (fun h => c1 (p1.mp h))]
    by_cases c3 : rt m f ≤ rt m g
    · rw [if_pos (p4.mpr c3), show pref m f g = false by simp only [pref, decide_eq_false_iff_not]; omega]; rfl
    · rw [if_neg (fun h => c3 (p4.mp h)), show pref m f g = true by simp only [pref, decide_eq_true_eq]; omega]; rfl
theorem yearOf_eq {c m : Sx} (hO : WOrd m) (hV : WVal m) (dV : DVal c m) {f : Nat} (hf : f < 40) (hp : iF m f = true) : f_X2_yearOf c (nI f) = some (vOr m f 2 9999) := by
  unfold f_X2_yearOf
  rw [settledValue2 c hf, Option.bind_some, (dV f hf hp).1 2 (by decide)]
  rcases vOr_cases hO hV hf (show 2 < 6 by decide) with ⟨-, h⟩ | ⟨v, hv, -, h⟩
  · rw [h, h, if_pos rfl]
  · rw [h, h, if_neg (nI_ne_m1 (by omega))]
theorem beats_eq {c m : Sx} (hO : WOrd m) (hV : WVal m) (dV : DVal c m) {f g : Nat} (hf : f < 40) (hpf : iF m f = true) (hg : g < f) (hpg : iF m g = true) : f_X2_beats c (nI f) (nI g) = some (b2 (pref m f g)) := by
  unfold f_X2_beats
  have hg4 : g < 40 := by omega
  rw [settledValue1 c hf, settledValue1 c hg4, yearOf_eq hO hV dV hf hpf, yearOf_eq hO hV dV hg4 hpg, (dV f hf hpf).1 1 (by decide), (dV g hg4 hpg).1 1 (by decide)]
  simp only [Option.bind_some]
  have p1 : (vOr m f 1 (-1) = vOr m g 1 (-1)) ↔ rt m f = rt m g := i_eq _ _
  have p3 : (vOr m g 2 9999 ≤ vOr m f 2 9999) ↔ yr m g ≤ yr m f := i_le _ _
  have p4 : (vOr m f 1 (-1) ≤ vOr m g 1 (-1)) ↔ rt m f ≤ rt m g := i_le _ _
  by_cases c1 : rt m f = rt m g
  · rw [if_pos (p1.mpr c1)]
    by_cases c3 : yr m g ≤ yr m f
    · rw [if_pos (p3.mpr c3), show pref m f g = false by simp only [pref, decide_eq_false_iff_not]; omega]; rfl
    · rw [if_neg (fun h => c3 (p3.mp h)), show pref m f g = true by simp only [pref, decide_eq_true_eq]; omega]; rfl
  · rw [if_neg (fun h => c1 (p1.mp h))]
    by_cases c3 : rt m f ≤ rt m g
    · rw [if_pos (p4.mpr c3), show pref m f g = false by simp only [pref, decide_eq_false_iff_not]; omega]; rfl
    · rw [if_neg (fun h => c3 (p4.mp h)), show pref m f g = true by simp only [pref, decide_eq_true_eq]; omega]; rfl
def grp (m : Sx) (f g : Nat) : Bool := iF m g && decide (gA m 24 g = gA m 24 f)
theorem grp_iff {m : Sx} {f g : Nat} : grp m f g = true ↔ iF m g = true ∧ gA m 24 g = gA m 24 f := by simp [grp]
def KP (m : Sx) (f k : Nat) : Prop := k < 40 ∧ grp m f k = true ∧ ∀ g, g < 40 → grp m f g = true → g ≠ k → pref m k g = true
theorem KP_one {m : Sx} {f k j : Nat} (h : KP m f k) (g : KP m f j) : k = j := by
  apply Classical.byContradiction
  intro hne
  have a := h.2.2 j g.1 g.2.1 (fun e => hne e.symm)
  have b := g.2.2 k h.1 h.2.1 hne
  rw [pref_asymm a] at b
  cases b
theorem grp_same {m : Sx} {i k : Nat} (h : grp m i k = true) : grp m k = grp m i := by
  funext j
  unfold grp
  rw [(grp_iff.mp h).2]
theorem KP_same {m : Sx} {i k j : Nat} (h : grp m i k = true) : KP m k j ↔ KP m i j := by
  unfold KP
  rw [grp_same h]
theorem iF_dec {m : Sx} {k : Nat} : (gA m 23 k = 0) ↔ iF m k = false := by simp [iF]
theorem keeper_eq {m : Sx} (hO : WOrd m) (hV : WVal m) {f : Nat} (hf : f < 40) (hp : iF m f = true) : ∃ k, f_X9_keeper m (nI f) = some (nI k) ∧ KP m f k := by
  unfold f_X9_keeper
  obtain ⟨y, ⟨b, hb, rfl, hbg, hbp⟩, e⟩ := loop0 (L := fun n i s => L_X9_keeper_4 m (nI f) (fun z2 z3 => some z2) n s i) (E := fun s => some s) (N := 40) (by decide) (y := nI f)
    (fun k s => ∃ b, b < 40 ∧ s = nI b ∧ grp m f b = true ∧ ∀ g, g < 40 → grp m f g = true → (g < k ∨ g = f) → g ≠ b → pref m b g = true)
    (fun n y h => by show L_X9_keeper_4 _ _ _ _ _ _ = _; rw [L_X9_keeper_4, if_pos (by decide)])
    (fun k y hk h => by
      obtain ⟨b, hb, rfl, hbg, hbp⟩ := h
      have hst : ∀ n, L_X9_keeper_4 m (nI f) (fun z2 z3 => some z2) (n + 1) (nI b) (nI k) = if iF m k = false then L_X9_keeper_4 m (nI f) (fun z2 z3 => some z2) n (nI b) (nI (k + 1)) else if gA m 24 k = gA m 24 f then if b2 (pref m k b) = 0 then L_X9_keeper_4 m (nI f) (fun z2 z3 => some z2) n (nI b) (nI (k + 1)) else L_X9_keeper_4 m (nI f) (fun z2 z3 => some z2) n (nI k) (nI (k + 1)) else L_X9_keeper_4 m (nI f) (fun z2 z3 => some z2) n (nI b) (nI (k + 1)) := fun n => by
        rw [L_X9_keeper_4, if_neg (ngo (x := 40) (N := 40) rfl (by omega) (by decide)), gd_pos (vin_nI hk (by decide)), ix_nI (by omega), nI_lit1]
        simp only [iF_dec]
        rw [gd_pos (vin_nI hk (by decide)), gd_pos (vin_nI hf (by decide)), ix_nI (by omega), isPreferred_eq hO hV hk hb, Option.bind_some]
      by_cases q1 : iF m k = false
      · exact ⟨nI b, ⟨b, hb, rfl, hbg, fun g hg hgg hlt hne => hbp g hg hgg (by
          rcases hlt with h | h
          · rcases Nat.eq_or_lt_of_le (Nat.lt_succ_iff.mp h) with q | q
            · subst q; rw [(grp_iff.mp hgg).1] at q1; cases q1
            · exact Or.inl q
          · exact Or.inr h) hne⟩, fun n => by show L_X9_keeper_4 _ _ _ _ _ _ = _; rw [hst, if_pos q1]⟩
      · by_cases q2 : gA m 24 k = gA m 24 f
        · have hkg : grp m f k = true := grp_iff.mpr ⟨by simpa using q1, q2⟩
          cases q3 : pref m k b with
          | true =>
            exact ⟨nI k, ⟨k, hk, rfl, hkg, fun g hg hgg hlt hne => by
              by_cases q4 : g = b
              · subst q4; exact q3
              · exact pref_trans q3 (hbp g hg hgg (by omega) q4)⟩, fun n => by show L_X9_keeper_4 _ _ _ _ _ _ = _; rw [hst, if_neg q1, if_pos q2, q3, bT]⟩
          | false =>
            exact ⟨nI b, ⟨b, hb, rfl, hbg, fun g hg hgg hlt hne => by
              by_cases q4 : g = k
              · subst q4; exact pref_total hne q3
              · exact hbp g hg hgg (by omega) hne⟩, fun n => by show L_X9_keeper_4 _ _ _ _ _ _ = _; rw [hst, if_neg q1, if_pos q2, q3, bF]⟩
        · exact ⟨nI b, ⟨b, hb, rfl, hbg, fun g hg hgg hlt hne => hbp g hg hgg (by
            rcases hlt with h | h
            · rcases Nat.eq_or_lt_of_le (Nat.lt_succ_iff.mp h) with q | q
              · subst q; exact absurd (grp_iff.mp hgg).2 q2
              · exact Or.inl q
            · exact Or.inr h) hne⟩, fun n => by show L_X9_keeper_4 _ _ _ _ _ _ = _; rw [hst, if_neg q1, if_neg q2]⟩)
    ⟨f, hf, rfl, grp_iff.mpr ⟨hp, rfl⟩, fun g hg hgg hlt hne => by omega⟩
  exact ⟨b, e, hb, hbg, fun g hg hgg hne => hbp g hg hgg (Or.inl hg) hne⟩
theorem group_eq {m : Sx} {f : Nat} (hf : f < 40) : f_X9_group m (nI f) = some (nI (fb_ct (grp m f) 40)) := by
  unfold f_X9_group
  obtain ⟨y, hy, e⟩ := loop0 (L := fun n i s => L_X9_group_4 m (nI f) (fun z1 z2 => some z1) n s i) (E := fun s => some s) (N := 40) (by decide) (y := (0 : Int32))
    (fun k s => s = nI (fb_ct (grp m f) k))
    (fun n y h => by show L_X9_group_4 _ _ _ _ _ _ = _; rw [L_X9_group_4, if_pos (by decide)])
    (fun k y hk h => ⟨_, rfl, fun n => by
      show L_X9_group_4 _ _ _ _ _ _ = L_X9_group_4 _ _ _ _ _ _
      rw [L_X9_group_4, if_neg (ngo (x := 40) (N := 40) rfl (by omega) (by decide)), gd_pos (vin_nI hk (by decide)), ix_nI (by omega), nI_lit1, h, fb_ct_succ]
      simp only [iF_dec]
      rw [gd_pos (vin_nI hk (by decide)), gd_pos (vin_nI hf (by decide)), ix_nI (by omega)]
      by_cases q1 : iF m k = false
      · rw [if_pos q1, if_neg (by simp [grp, q1]), show (0 : Int32) = nI 0 from rfl, nI_add]
      · rw [if_neg q1]
        by_cases q2 : gA m 24 k = gA m 24 f
        · rw [if_pos q2, if_pos (grp_iff.mpr ⟨by simpa using q1, q2⟩), nI_lit1]
        · rw [if_neg q2, if_neg (by simp [grp, q2]), show (0 : Int32) = nI 0 from rfl, nI_add]⟩) rfl
  rw [e, hy]
def RDig (c m : Sx) : Prop := ∀ f, f < 40 → iF m f = true → gA c 9 f = gA m 24 f ∧ gA c 10 f = gA m 25 f
theorem alike_eq {c m : Sx} (rP : RPres c m) (rD : RDig c m) {f : Nat} (hf : f < 40) (hp : iF m f = true) : ∃ x, f_X1_alike c (nI f) = some x ∧ ∀ k, k < 64 → hb x k = (decide (k < 40) && grp m f k) := by
  unfold f_X1_alike
  obtain ⟨y, hy, e⟩ := loop0 (L := fun n i s => L_X1_alike_5 c (nI f) (fun z3 z4 => some z3) n s i) (E := fun s => some s) (N := 40) (by decide) (y := (0 : Int64))
    (fun k s => ∀ j, j < 64 → hb s j = (decide (j < k) && grp m f j))
    (fun n y h => by show L_X1_alike_5 _ _ _ _ _ _ = _; rw [L_X1_alike_5, if_pos (by decide)])
    (fun k y hk h => by
      have hst : ∀ n, L_X1_alike_5 c (nI f) (fun z3 z4 => some z3) (n + 1) y (nI k) = if grp m f k = true then L_X1_alike_5 c (nI f) (fun z3 z4 => some z3) n (y ||| shlL 1 (nI k)) (nI (k + 1)) else L_X1_alike_5 c (nI f) (fun z3 z4 => some z3) n y (nI (k + 1)) := fun n => by
        rw [L_X1_alike_5, if_neg (ngo (x := 40) (N := 40) rfl (by omega) (by decide)), holds_pres rP hk, Option.bind_some, nI_lit1]
        cases q1 : iF m k with
        | false => rw [bF, if_neg (by simp [grp, q1])]
        | true =>
          rw [bT, gd_pos (vin_nI hk (by decide)), gd_pos (vin_nI hf (by decide)), ix_nI (by omega), ix_nI (by omega), (rD k hk q1).1, (rD f hf hp).1]
          unfold f_X8_only
          rw [Option.bind_some]
          by_cases q2 : gA m 24 k = gA m 24 f
          · rw [if_pos q2, if_pos (grp_iff.mpr ⟨q1, q2⟩)]
          · rw [if_neg q2, if_neg (by simp [grp, q2])]
      by_cases q : grp m f k = true
      · refine ⟨y ||| shlL 1 (nI k), fun j hj => ?_, fun n => by show L_X1_alike_5 _ _ _ _ _ _ = _; rw [hst, if_pos q]⟩
        rw [hb_or, h j hj, hb_only (by omega) hj]
        by_cases q2 : j = k
        · subst q2; simp [q]
        · by_cases q3 : j < k
          · simp [q2, q3, show j < k + 1 by omega]
          · simp [q2, q3, show ¬ j < k + 1 by omega]
      · refine ⟨y, fun j hj => ?_, fun n => by show L_X1_alike_5 _ _ _ _ _ _ = _; rw [hst, if_neg q]⟩
        rw [h j hj]
        by_cases q2 : j = k
        · subst q2; simp [q]
        · by_cases q3 : j < k
          · simp [q3, show j < k + 1 by omega]
          · simp [q3, show ¬ j < k + 1 by omega])
    (fun j hj => by rw [hb_0]; simp)
  exact ⟨y, e, hy⟩
theorem preferred_eq {c m : Sx} (hO : WOrd m) (hV : WVal m) (dV : DVal c m) {f : Nat} (hf : f < 40) (hp : iF m f = true) {x : Int64} (hx : ∀ k, k < 64 → hb x k = (decide (k < 40) && grp m f k)) : ∃ k, f_X2_preferred c x = some (nI k) ∧ KP m f k := by
  unfold f_X2_preferred
  obtain ⟨y, hy, e⟩ := loop0 (L := fun n i s => L_X2_preferred_5 c x (fun z3 z4 => some z3) n s i) (E := fun s => some s) (N := 40) (by decide) (y := (-1 : Int32))
    (fun k s => (s = -1 ∧ ∀ g, g < k → grp m f g = false) ∨ ∃ b, b < k ∧ s = nI b ∧ grp m f b = true ∧ ∀ g, g < k → grp m f g = true → g ≠ b → pref m b g = true)
    (fun n y h => by show L_X2_preferred_5 _ _ _ _ _ _ = _; rw [L_X2_preferred_5, if_pos (by decide)])
    (fun k y hk h => by
      have hst : ∀ n, L_X2_preferred_5 c x (fun z3 z4 => some z3) (n + 1) y (nI k) = if b2 (grp m f k) = 0 then L_X2_preferred_5 c x (fun z3 z4 => some z3) n y (nI (k + 1)) else if y = -1 then L_X2_preferred_5 c x (fun z3 z4 => some z3) n (nI k) (nI (k + 1)) else (f_X2_beats c (nI k) y).bind fun r2 => if r2 = 0 then L_X2_preferred_5 c x (fun z3 z4 => some z3) n y (nI (k + 1)) else L_X2_preferred_5 c x (fun z3 z4 => some z3) n (nI k) (nI (k + 1)) := fun n => by
        rw [L_X2_preferred_5, if_neg (ngo (x := 40) (N := 40) rfl (by omega) (by decide)), holds_eq c x (by omega), hx k (by omega), decide_eq_true hk, Bool.true_and, Option.bind_some, nI_lit1]
      cases q : grp m f k with
      | false =>
        refine ⟨y, ?_, fun n => by show L_X2_preferred_5 _ _ _ _ _ _ = _; rw [hst, q, bF]⟩
        rcases h with ⟨h1, h2⟩ | ⟨b, hb, rfl, hbg, hbp⟩
        · refine Or.inl ⟨h1, fun g hg => ?_⟩
          rcases Nat.eq_or_lt_of_le (Nat.lt_succ_iff.mp hg) with w | w
          · subst w; exact q
          · exact h2 g w
        · refine Or.inr ⟨b, by omega, rfl, hbg, fun g hg hgg hne => hbp g ?_ hgg hne⟩
          rcases Nat.eq_or_lt_of_le (Nat.lt_succ_iff.mp hg) with w | w
          · subst w; rw [q] at hgg; cases hgg
          · exact w
      | true =>
        rcases h with ⟨h1, h2⟩ | ⟨b, hb, rfl, hbg, hbp⟩
        · refine ⟨nI k, Or.inr ⟨k, by omega, rfl, q, fun g hg hgg hne => ?_⟩, fun n => by show L_X2_preferred_5 _ _ _ _ _ _ = _; rw [hst, q, bT, if_pos h1]⟩
          rw [h2 g (by omega)] at hgg
          cases hgg
        · have hbt := beats_eq hO hV dV hk (grp_iff.mp q).1 hb (grp_iff.mp hbg).1
          cases q3 : pref m k b with
          | true =>
            refine ⟨nI k, Or.inr ⟨k, by omega, rfl, q, fun g hg hgg hne => ?_⟩, fun n => by show L_X2_preferred_5 _ _ _ _ _ _ = _; rw [hst, q, bT, if_neg (nI_ne_m1 (by omega)), hbt, q3]; rfl⟩
            by_cases q4 : g = b
            · subst q4; exact q3
            · exact pref_trans q3 (hbp g (by omega) hgg q4)
          | false =>
            refine ⟨nI b, Or.inr ⟨b, by omega, rfl, hbg, fun g hg hgg hne => ?_⟩, fun n => by show L_X2_preferred_5 _ _ _ _ _ _ = _; rw [hst, q, bT, if_neg (nI_ne_m1 (by omega)), hbt, q3]; rfl⟩
            by_cases q4 : g = k
            · subst q4; exact pref_total hne q3
            · exact hbp g (by omega) hgg hne)
    (Or.inl ⟨rfl, fun g hg => by omega⟩)
  rcases hy with ⟨h1, h2⟩ | ⟨b, hb, rfl, hbg, hbp⟩
  · have := h2 f hf
    rw [grp_iff.mpr ⟨hp, rfl⟩] at this
    cases this
  · exact ⟨b, e, hb, hbg, hbp⟩
theorem cnt40 {x : Int64} {p : Nat → Bool} (hx : ∀ k, k < 64 → hb x k = (decide (k < 40) && p k)) : fb_ct (hb x) 64 = fb_ct p 40 := by
  rw [show (64 : Nat) = 40 + 24 from rfl, fb_ct_split, (fb_ct_zero (p := fun k => hb x (40 + k)) (n := 24)).mpr (fun k hk => by rw [hx _ (by omega), decide_eq_false (by omega)]; rfl), Nat.add_zero]
  exact fb_ct_cong (fun k hk => by rw [hx k (by omega), decide_eq_true hk, Bool.true_and])
/-- keepers and duplicates, as sets -/
def DKee (c m : Sx) : Prop := ∀ k, k < 64 → (hb (gL c 9) k = true ↔ KP m k k) ∧ (hb (gL c 10) k = true ↔ k < 40 ∧ iF m k = true ∧ 1 < fb_ct (grp m k) 40)
def OnK (c c' : Sx) : Prop := gA c' = gA c ∧ gI c' = gI c ∧ gM c' = gM c ∧ ∀ k, k ≠ 9 → k ≠ 10 → gL c' k = gL c k
theorem regroup_eq {c m : Sx} (hO : WOrd m) (hV : WVal m) (rP : RPres c m) (rD : RDig c m) (dV : DVal c m) : ∃ c', f_X2_regroup c = some c' ∧ OnK c c' ∧ DKee c' m := by
  unfold f_X2_regroup f_X1_all
  simp only [bd_eq, Option.bind_some]
  obtain ⟨⟨w, y⟩, ⟨hw, hy, hk9, hk10⟩, e⟩ := loop0 (L := fun n i (s : Int64 × Sx) => L_X2_regroup_20 (fun z11 z12 t13 => some t13) n s.1 i s.2) (E := fun s => some s.2) (N := 40) (by decide) (y := (gL (pL (pL c 9 0) 10 0) 8, pL (pL c 9 0) 10 0))
    (fun k s => (∀ j, j < 64 → (hb s.1 j = true ↔ j < 40 ∧ iF m j = true ∧ ¬ ∃ i, i < k ∧ iF m i = true ∧ grp m i j = true)) ∧ OnK c s.2 ∧ (∀ j, j < 64 → (hb (gL s.2 9) j = true ↔ ∃ i, i < k ∧ iF m i = true ∧ KP m i j)) ∧ ∀ j, j < 64 → (hb (gL s.2 10) j = true ↔ j < 40 ∧ ∃ i, i < k ∧ iF m i = true ∧ grp m i j = true ∧ 1 < fb_ct (grp m i) 40))
    (fun n s h => by show L_X2_regroup_20 _ _ _ _ _ = _; rw [L_X2_regroup_20, if_pos (by decide)])
    (fun k s hk h => by
      obtain ⟨w, y⟩ := s
      obtain ⟨hw, hy, hk9, hk10⟩ := h
      dsimp only at hw hy hk9 hk10
      have rP' : RPres y m := rP.on (hy.2.2.2 8 (by decide) (by decide))
      have rD' : RDig y m := fun f hf hp => by rw [hy.1]; exact rD f hf hp
      have dV' : DVal y m := fun f hf hp => by rw [hy.1]; exact dV f hf hp
      have hst : ∀ n, L_X2_regroup_20 (fun z11 z12 t13 => some t13) (n + 1) w (nI k) y = if b2 (hb w k) = 0 then L_X2_regroup_20 (fun z11 z12 t13 => some t13) n w (nI (k + 1)) y else (f_X1_alike y (nI k)).bind fun r5 => (f_X2_preferred y (r5)).bind fun r6 => (f_X8_only y (r6)).bind fun r7 => bd (pL y 9 ((gL y 9) ||| r7)) fun t8 => (f_J13_bitCount_95d88 t8 (r5)).bind fun r9 => if r9 ≤ 1 then L_X2_regroup_20 (fun z11 z12 t13 => some t13) n ((w &&& (r5 ^^^ -1))) (nI (k + 1)) (t8) else bd (pL t8 10 ((gL t8 10) ||| r5)) fun t10 => L_X2_regroup_20 (fun z11 z12 t13 => some t13) n ((w &&& (r5 ^^^ -1))) (nI (k + 1)) (t10) := fun n => by
        rw [L_X2_regroup_20, if_neg (ngo (x := 40) (N := 40) rfl (by omega) (by decide)), holds_eq y w (by omega), Option.bind_some, nI_lit1]
      cases q : hb w k with
      | false =>
        have hq : iF m k = true → ∃ i, i < k ∧ iF m i = true ∧ grp m i k = true := fun hp => Classical.byContradiction fun hn => by
          have := (hw k (by omega)).mpr ⟨hk, hp, hn⟩
          rw [q] at this
          cases this
        refine ⟨(w, y), ⟨fun j hj => ?_, hy, fun j hj => ?_, fun j hj => ?_⟩, fun n => by show L_X2_regroup_20 _ _ _ _ _ = _; rw [hst, q, bF]⟩
        · rw [hw j hj]
          refine and_congr_right fun _ => and_congr_right fun _ => not_congr ⟨fun ⟨i, h1, h2, h3⟩ => ⟨i, by omega, h2, h3⟩, fun ⟨i, h1, h2, h3⟩ => ?_⟩
          by_cases hik : i = k
          · subst hik
            obtain ⟨i', g1, g2, g3⟩ := hq h2
            exact ⟨i', g1, g2, by rw [← grp_same g3]; exact h3⟩
          · exact ⟨i, by omega, h2, h3⟩
        · rw [hk9 j hj]
          refine ⟨fun ⟨i, h1, h2, h3⟩ => ⟨i, by omega, h2, h3⟩, fun ⟨i, h1, h2, h3⟩ => ?_⟩
          by_cases hik : i = k
          · subst hik
            obtain ⟨i', g1, g2, g3⟩ := hq h2
            exact ⟨i', g1, g2, (KP_same g3).mp h3⟩
          · exact ⟨i, by omega, h2, h3⟩
        · rw [hk10 j hj]
          refine and_congr_right fun _ => ⟨fun ⟨i, h1, h2, h3⟩ => ⟨i, by omega, h2, h3⟩, fun ⟨i, h1, h2, h3⟩ => ?_⟩
          by_cases hik : i = k
          · subst hik
            obtain ⟨i', g1, g2, g3⟩ := hq h2
            exact ⟨i', g1, g2, by rw [← grp_same g3]; exact h3⟩
          · exact ⟨i, by omega, h2, h3⟩
      | true =>
        obtain ⟨-, hp, hns⟩ := (hw k (by omega)).mp q
        obtain ⟨x, ex, hx⟩ := alike_eq rP' rD' hk hp
        obtain ⟨p, ep, hkp⟩ := preferred_eq hO hV dV' hk hp hx
        have hst2 : ∀ n, L_X2_regroup_20 (fun z11 z12 t13 => some t13) (n + 1) w (nI k) y = if 1 < fb_ct (grp m k) 40 then L_X2_regroup_20 (fun z11 z12 t13 => some t13) n (w &&& (x ^^^ -1)) (nI (k + 1)) (pL (pL y 9 (gL y 9 ||| shlL 1 (nI p))) 10 (gL y 10 ||| x)) else L_X2_regroup_20 (fun z11 z12 t13 => some t13) n (w &&& (x ^^^ -1)) (nI (k + 1)) (pL y 9 (gL y 9 ||| shlL 1 (nI p))) := fun n => by
          rw [hst, q, bT, ex, Option.bind_some, ep, Option.bind_some]
          unfold f_X8_only
          rw [Option.bind_some, bd_eq, bitCount_eq, Option.bind_some, cnt40 hx, bd_eq]
          have hle := fb_ct_le (grp m k) 40
          have := nle_lit (N := 1) (k := fb_ct (grp m k) 40) (x := 1) rfl (by decide) (by omega)
          by_cases q5 : 1 < fb_ct (grp m k) 40
          · rw [if_neg (by rw [this]; omega), if_pos q5, gL_pL, if_neg (by decide)]
          · rw [if_pos (by rw [this]; omega), if_neg q5]
        have w' : ∀ j, j < 64 → (hb (w &&& (x ^^^ -1)) j = true ↔ j < 40 ∧ iF m j = true ∧ ¬ ∃ i, i < k + 1 ∧ iF m i = true ∧ grp m i j = true) := fun j hj => by
          rw [hb_and, hb_not x hj, hx j hj, Bool.and_eq_true, hw j hj]
          constructor
          · intro ⟨⟨h1, h2, h3⟩, h4⟩
            refine ⟨h1, h2, fun ⟨i, g1, g2, g3⟩ => ?_⟩
            by_cases hik : i = k
            · subst hik
              rw [decide_eq_true h1, g3] at h4
              cases h4
            · exact h3 ⟨i, by omega, g2, g3⟩
          · intro ⟨h1, h2, h3⟩
            refine ⟨⟨h1, h2, fun ⟨i, g1, g2, g3⟩ => h3 ⟨i, by omega, g2, g3⟩⟩, ?_⟩
            rw [decide_eq_true h1, Bool.true_and]
            cases q6 : grp m k j with
            | false => rfl
            | true => exact absurd ⟨k, by omega, hp, q6⟩ h3
        have k9' : ∀ j, j < 64 → (hb (gL y 9 ||| shlL 1 (nI p)) j = true ↔ ∃ i, i < k + 1 ∧ iF m i = true ∧ KP m i j) := fun j hj => by
          rw [hb_or, hb_only (by have := hkp.1; omega) hj, Bool.or_eq_true, hk9 j hj, decide_eq_true_eq]
          constructor
          · intro h
            rcases h with ⟨i, g1, g2, g3⟩ | h
            · exact ⟨i, by omega, g2, g3⟩
            · subst h; exact ⟨k, by omega, hp, hkp⟩
          · intro ⟨i, g1, g2, g3⟩
            by_cases hik : i = k
            · subst hik; exact Or.inr (KP_one g3 hkp)
            · exact Or.inl ⟨i, by omega, g2, g3⟩
        by_cases q5 : 1 < fb_ct (grp m k) 40
        · refine ⟨(w &&& (x ^^^ -1), pL (pL y 9 (gL y 9 ||| shlL 1 (nI p))) 10 (gL y 10 ||| x)), ⟨w', ⟨hy.1, hy.2.1, hy.2.2.1, fun j h1 h2 => ?_⟩, fun j hj => ?_, fun j hj => ?_⟩, fun n => by show L_X2_regroup_20 _ _ _ _ _ = _; rw [hst2, if_pos q5]⟩
          · rw [gL_pL, if_neg h2, gL_pL, if_neg h1, hy.2.2.2 j h1 h2]
          · rw [gL_pL, if_neg (by decide), gL_pL, if_pos rfl]
            exact k9' j hj
          · rw [gL_pL, if_pos rfl, hb_or, Bool.or_eq_true, hk10 j hj, hx j hj]
            constructor
            · intro h
              rcases h with ⟨h0, i, g1, g2, g3⟩ | h
              · exact ⟨h0, i, by omega, g2, g3⟩
              · rw [Bool.and_eq_true, decide_eq_true_eq] at h
                exact ⟨h.1, k, by omega, hp, h.2, q5⟩
            · intro ⟨h0, i, g1, g2, g3, g4⟩
              by_cases hik : i = k
              · subst hik; exact Or.inr (by rw [decide_eq_true h0, g3]; rfl)
              · exact Or.inl ⟨h0, i, by omega, g2, g3, g4⟩
        · refine ⟨(w &&& (x ^^^ -1), pL y 9 (gL y 9 ||| shlL 1 (nI p))), ⟨w', ⟨hy.1, hy.2.1, hy.2.2.1, fun j h1 h2 => ?_⟩, fun j hj => ?_, fun j hj => ?_⟩, fun n => by show L_X2_regroup_20 _ _ _ _ _ = _; rw [hst2, if_neg q5]⟩
          · rw [gL_pL, if_neg h1, hy.2.2.2 j h1 h2]
          · rw [gL_pL, if_pos rfl]
            exact k9' j hj
          · rw [gL_pL, if_neg (by decide), hk10 j hj]
            refine and_congr_right fun _ => ⟨fun ⟨i, g1, g2, g3⟩ => ⟨i, by omega, g2, g3⟩, fun ⟨i, g1, g2, g3, g4⟩ => ?_⟩
            by_cases hik : i = k
            · subst hik; exact absurd g4 q5
            · exact ⟨i, by omega, g2, g3, g4⟩)
    (by
      refine ⟨fun j hj => ?_, ⟨rfl, rfl, rfl, fun j h1 h2 => by rw [gL_pL, if_neg h2, gL_pL, if_neg h1]⟩, fun j hj => ?_, fun j hj => ?_⟩
      · show hb (gL (pL (pL c 9 0) 10 0) 8) j = true ↔ _
        rw [gL_pL, if_neg (by decide), gL_pL, if_neg (by decide), rP j hj, Bool.and_eq_true, decide_eq_true_eq]
        exact ⟨fun h => ⟨h.1, h.2, fun ⟨i, hi, _⟩ => by omega⟩, fun h => ⟨h.1, h.2.1⟩⟩
      · show hb (gL (pL (pL c 9 0) 10 0) 9) j = true ↔ _
        rw [gL_pL, if_neg (by decide), gL_pL, if_pos rfl, hb_0]
        exact ⟨fun h => Bool.noConfusion h, fun ⟨i, hi, _⟩ => by omega⟩
      · show hb (gL (pL (pL c 9 0) 10 0) 10) j = true ↔ _
        rw [gL_pL, if_pos rfl, hb_0]
        exact ⟨fun h => Bool.noConfusion h, fun ⟨_, i, hi, _⟩ => by omega⟩)
  refine ⟨y, e, hy, fun k hk => ⟨?_, ?_⟩⟩
  · rw [hk9 k hk]
    constructor
    · intro ⟨i, h1, h2, h3⟩
      exact (KP_same h3.2.1).mpr h3
    · intro h
      exact ⟨k, h.1, (grp_iff.mp h.2.1).1, h⟩
  · rw [hk10 k hk]
    constructor
    · intro ⟨h0, i, h1, h2, h3, h4⟩
      exact ⟨h0, (grp_iff.mp h3).1, by rw [grp_same h3]; exact h4⟩
    · intro ⟨h0, h1, h2⟩
      exact ⟨h0, k, h0, h1, grp_iff.mpr ⟨h1, rfl⟩, h2⟩
