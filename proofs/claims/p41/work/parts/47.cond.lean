/-! ===== rules: conditions; what follows a letter in a rule ===== -/
theorem rn_at {ch : Nat → Nat} {n : Nat} (ho : okc ch n) {sn on : Nat} (hv : rn ch n = some (sn, on)) {p : Nat} (hp : p < n) : ∃ s o, rn ch p = some (s, o) ∧ s < 9 ∧ o < 11 ∧ nx s (ch p) o ≠ 99 ∧ rn ch (p + 1) = some (nx s (ch p) o, if ch p = 40 then o + 1 else if ch p = 41 then o - 1 else o) := by
  cases e : rn ch p with
  | none => rw [rn_le (show p ≤ n by omega) e] at hv; cases hv
  | some w =>
    obtain ⟨s, o⟩ := w
    obtain ⟨g1, g2⟩ := rn_ok ho p (by omega) s o e
    have hq : nx s (ch p) o ≠ 99 := fun q => by
      have : rn ch (p + 1) = none := by rw [rn, e]; dsimp only; rw [if_pos q]
      rw [rn_le (show p + 1 ≤ n by omega) this] at hv
      cases hv
    exact ⟨s, o, rfl, g1, g2, hq, by rw [rn, e]; dsimp only; rw [if_neg hq]⟩
/-- a whole rule of n characters -/
def Rul (ch : Nat → Nat) (n : Nat) : Prop := okc ch n ∧ vld ch n
theorem rul_at {ch : Nat → Nat} {n : Nat} (h : Rul ch n) {p s o : Nat} (hp : p ≤ n) (e : rn ch p = some (s, o)) (hs : s = 0 ∨ s = 1 ∨ s = 2 ∨ s = 7) : p < n := by
  rcases Nat.eq_or_lt_of_le hp with q | q
  · obtain ⟨s', e', w⟩ := h.2
    rw [← q, e] at e'
    cases e'
    omega
  · exact q
theorem lt_tab : ((List.range 9).all fun s => (List.range 127).all fun ch => (List.range 11).all fun op => nx s ch op == 99 || (!(decide (97 ≤ ch) && decide (ch ≤ 122))) || (s == 0 && ((fldc ch && nx s ch op == 1) || ((ch == 116 || ch == 97) && !(fldc ch) && nx s ch op == 7) || ((ch == 115 || ch == 118 || ch == 117 || ch == 98) && !(fldc ch) && nx s ch op == 8)))) = true := by decide +kernel
theorem lt_ok {s ch op : Nat} (hs : s < 9) (hc : ch < 127) (ho : op < 11) (h : nx s ch op ≠ 99) (hl : 97 ≤ ch ∧ ch ≤ 122) : s = 0 ∧ ((fldc ch = true ∧ nx s ch op = 1) ∨ ((ch = 116 ∨ ch = 97) ∧ fldc ch = false ∧ nx s ch op = 7) ∨ ((ch = 115 ∨ ch = 118 ∨ ch = 117 ∨ ch = 98) ∧ fldc ch = false ∧ nx s ch op = 8)) := by
  have h1 := List.all_eq_true.mp lt_tab s (List.mem_range.mpr hs)
  have h2 := List.all_eq_true.mp h1 ch (List.mem_range.mpr hc)
  have h3 := List.all_eq_true.mp h2 op (List.mem_range.mpr ho)
  simp only [Bool.or_eq_true, Bool.and_eq_true, beq_iff_eq, Bool.not_eq_true', Bool.and_eq_false_iff, decide_eq_false_iff_not] at h3
  rcases h3 with (h3 | h3) | h3
  · exact absurd h3 h
  · omega
  · refine ⟨h3.1, ?_⟩
    rcases h3.2 with (q | q) | q
    · exact Or.inl q
    · exact Or.inr (Or.inl ⟨q.1.1, q.1.2, q.2⟩)
    · exact Or.inr (Or.inr ⟨by omega, q.1.2, q.2⟩)
theorem nx1 {ch op : Nat} (h : nx 1 ch op ≠ 99) : ((ch = 60 ∨ ch = 61 ∨ ch = 62) ∧ nx 1 ch op = 2) ∨ (ch = 63 ∧ nx 1 ch op = 8) := by
  unfold nx at *
  simp only [show ¬ (1 : Nat) = 0 by decide, if_false, if_true] at *
  by_cases q : ch = 60 ∨ ch = 61 ∨ ch = 62
  · rw [if_pos q]; exact Or.inl ⟨q, rfl⟩
  · rw [if_neg q] at *
    by_cases q2 : ch = 63
    · rw [if_pos q2]; exact Or.inr ⟨q2, rfl⟩
    · rw [if_neg q2] at h; exact absurd rfl h
theorem nx2 {ch op : Nat} (h : nx 2 ch op ≠ 99) : dgt ch = true ∧ nx 2 ch op = 3 := by
  unfold nx at *
  simp only [show ¬ (2 : Nat) = 0 by decide, show ¬ (2 : Nat) = 1 by decide, if_false, if_true] at *
  by_cases q : dgt ch = true
  · rw [if_pos q]; exact ⟨q, rfl⟩
  · rw [if_neg q] at h; exact absurd rfl h
theorem nx7 {ch op : Nat} (h : nx 7 ch op ≠ 99) : dgt ch = true ∧ nx 7 ch op = 8 := by
  unfold nx at *
  simp only [show ¬ (7 : Nat) = 0 by decide, show ¬ (7 : Nat) = 1 by decide, show ¬ (7 : Nat) = 2 by decide, if_false, if_true] at *
  by_cases q : dgt ch = true
  · rw [if_pos q]; exact ⟨q, rfl⟩
  · rw [if_neg q] at h; exact absurd rfl h
theorem dgt_iff {ch : Nat} : dgt ch = true ↔ 48 ≤ ch ∧ ch ≤ 57 := by simp [dgt]
/-- behind some digits -/
def aft (s : Nat) : Prop := s = 8 ∨ (3 ≤ s ∧ s ≤ 6)
theorem nxA {s ch op : Nat} (hs : aft s) (hd : dgt ch = true) : nx s ch op = if s = 8 then 99 else if s = 6 then 8 else s + 1 := by
  have hd2 := dgt_iff.mp hd
  unfold nx
  rcases hs with rfl | ⟨a, b⟩
  · simp only [show ¬ (8 : Nat) = 0 by decide, show ¬ (8 : Nat) = 1 by decide, show ¬ (8 : Nat) = 2 by decide, show ¬ (8 : Nat) = 7 by decide, show ¬ (8 : Nat) < 8 by decide, false_and, if_false, if_true]
    rw [if_neg (by omega), if_neg (by omega)]
  · rw [if_neg (by omega), if_neg (by omega), if_neg (by omega), if_neg (by omega), if_pos ⟨by omega, hd⟩, if_neg (show ¬ s = 8 by omega)]
def nmb (ch : Nat → Nat) (n : Nat) : Nat → Nat → Nat → Nat
  | 0, _, a => a
  | k + 1, p, a => if p < n ∧ dgt (ch p) = true then nmb ch n k (p + 1) (10 * a + (ch p - 48)) else a
def nend (ch : Nat → Nat) (n : Nat) : Nat → Nat → Nat
  | 0, p => p
  | k + 1, p => if p < n ∧ dgt (ch p) = true then nend ch n k (p + 1) else p
theorem nend_ge (ch : Nat → Nat) (n : Nat) : ∀ k p, p ≤ nend ch n k p ∧ ∀ i, p ≤ i → i < nend ch n k p → dgt (ch i) = true
  | 0, p => ⟨Nat.le_refl _, fun i h1 h2 => by rw [nend] at h2; omega⟩
  | k + 1, p => by
    rw [nend]
    by_cases q : p < n ∧ dgt (ch p) = true
    · rw [if_pos q]
      obtain ⟨a, b⟩ := nend_ge ch n k (p + 1)
      refine ⟨by omega, fun i h1 h2 => ?_⟩
      rcases Nat.eq_or_lt_of_le h1 with w | w
      · rw [← w]; exact q.2
      · exact b i w h2
    · rw [if_neg q]
      exact ⟨Nat.le_refl _, fun i h1 h2 => by omega⟩
theorem nstop {ch : Nat → Nat} {n : Nat} : ∀ (k p a j : Nat), ¬ (nend ch n k p < n ∧ dgt (ch (nend ch n k p)) = true) → nmb ch n (k + j) p a = nmb ch n k p a ∧ nend ch n (k + j) p = nend ch n k p
  | 0, p, a, j, h => by
    rw [nend] at h
    cases j with
    | zero => exact ⟨rfl, rfl⟩
    | succ j =>
      have h1 : nmb ch n (j + 1) p a = a := by rw [nmb, if_neg h]
      have h2 : nend ch n (j + 1) p = p := by rw [nend, if_neg h]
      rw [Nat.zero_add]
      exact ⟨h1, h2⟩
  | k + 1, p, a, j, h => by
    rw [nend] at h
    rw [show k + 1 + j = (k + j) + 1 by omega, nmb, nmb, nend, nend]
    by_cases q : p < n ∧ dgt (ch p) = true
    · rw [if_pos q] at h
      rw [if_pos q, if_pos q, if_pos q, if_pos q]
      exact nstop k (p + 1) _ j h
    · rw [if_neg q, if_neg q, if_neg q, if_neg q]
      exact ⟨rfl, rfl⟩
/-- digits behind a state: where they end the rule stands well -/
theorem dend {ch : Nat → Nat} {n : Nat} (h : Rul ch n) : ∀ (k q s o : Nat), rn ch q = some (s, o) → aft s → (if s = 8 then 0 else 7 - s) ≤ k → q ≤ n → ∃ s', rn ch (nend ch n k q) = some (s', o) ∧ aft s' ∧ nend ch n k q ≤ n ∧ ¬ (nend ch n k q < n ∧ dgt (ch (nend ch n k q)) = true)
  | k, q, s, o, e, hs, hk, hq => by
    by_cases w : q < n ∧ dgt (ch q) = true
    · obtain ⟨sn, hv, -⟩ := h.2
      obtain ⟨s1, o1, e1, g1, g2, g3, g4⟩ := rn_at h.1 hv w.1
      rw [e] at e1
      cases e1
      rw [nxA hs w.2] at g3 g4
      have hd := dgt_iff.mp w.2
      by_cases q8 : s = 8
      · rw [if_pos q8] at g3; exact absurd rfl g3
      · rw [if_neg q8] at g3 g4 hk
        obtain ⟨k, rfl⟩ : ∃ r, k = r + 1 := ⟨k - 1, by rcases hs with a | a <;> omega⟩
        rw [nend, if_pos w]
        rw [if_neg (show ¬ ch q = 40 by omega), if_neg (show ¬ ch q = 41 by omega)] at g4
        refine dend h k (q + 1) _ o g4 ?_ ?_ (by omega)
        · by_cases q6 : s = 6
          · rw [if_pos q6]; exact Or.inl rfl
          · rw [if_neg q6]
            rcases hs with a | a
            · exact absurd a q8
            · exact Or.inr ⟨by omega, by omega⟩
        · by_cases q6 : s = 6
          · rw [if_pos q6, if_pos rfl]; omega
          · rw [if_neg q6]
            rcases hs with a | a
            · exact absurd a q8
            · rw [if_neg (by omega)]; omega
    · have : nend ch n k q = q := by
        cases k with
        | zero => rfl
        | succ k => rw [nend, if_neg w]
      rw [this]
      exact ⟨s, e, hs, hq, w⟩
noncomputable def pb (P : Prop) : Bool := @decide P (Classical.propDecidable P)
theorem pb_iff {P : Prop} : pb P = true ↔ P := by unfold pb; exact @decide_eq_true_iff P (Classical.propDecidable P)
theorem pb_eq {P : Prop} {b : Bool} (h : b = true ↔ P) : b = pb P := by
  cases e : pb P with
  | true => exact h.mpr (pb_iff.mp e)
  | false =>
    cases b with
    | false => rfl
    | true => rw [pb_iff.mpr (h.mp rfl)] at e; cases e
def fix (ch : Nat) : Nat := if ch = 107 then 0 else if ch = 114 then 1 else if ch = 121 then 2 else if ch = 99 then 3 else 4
theorem fix_lt (ch : Nat) : fix ch < 5 := by unfold fix; split <;> (try split) <;> (try split) <;> (try split) <;> omega
def cmpv (sg : Nat) (v : Int32) (q : Nat) : Bool := if sg = 60 then decide (v < nI q) else if sg = 61 then decide (v = nI q) else if sg = 62 then decide (nI q < v) else true
def tbit (m : Sx) (f d : Nat) : Bool := decide ((tgs m f >>> (nI d &&& 31)) &&& 1 = 1)
/-- whether a file satisfies the condition at p -/
noncomputable def cnd (m : Sx) (ch : Nat → Nat) (n f p : Nat) : Bool :=
  if fldc (ch p) = true then (src m f (fix (ch p))).isSome && cmpv (ch (p + 1)) (vOr m f (fix (ch p)) 0) (nmb ch n 5 (p + 2) 0)
  else if ch p = 116 then tbit m f (ch (p + 1) - 48)
  else if ch p = 97 then hb (gM m 2 (ch (p + 1) - 48)) f
  else if ch p = 115 then decide (gA m 29 f ≠ -1)
  else if ch p = 118 then decide (gA m 29 f ≠ -1) && decide (cov m (ix (gA m 29 f)) = f)
  else if ch p = 117 then decide (1 < fb_ct (grp m f) 40)
  else pb (KP m f f)
/-- the rule names only albums that there are -/
def nmd (m : Sx) (ch : Nat → Nat) (n : Nat) : Prop := ∀ p, p < n → ch p = 97 → ch (p + 1) - 48 < 8 ∧ iA m (ch (p + 1) - 48) = true
-- the class's reading of numbers
theorem isDigit_eq (t : Sx) {v : Nat} (h : v < 2000) : f_X5_isDigit t (nI v) = some (b2 (dgt v)) := by
  unfold f_X5_isDigit dgt
  have a : (nI v < 48) ↔ v < 48 := by rw [show (48 : Int32) = nI 48 from rfl]; exact nI_lt_iff (by omega) (by decide)
  have b : (57 < nI v) ↔ 57 < v := by rw [show (57 : Int32) = nI 57 from rfl]; exact nI_lt_iff (by decide) (by omega)
  by_cases q : v < 48
  · rw [if_pos (a.mpr q), decide_eq_false (by omega)]; rfl
  · rw [if_neg (fun w => q (a.mp w)), decide_eq_true (by omega)]
    by_cases q2 : 57 < v
    · rw [if_pos (b.mpr q2), decide_eq_false (by omega)]; rfl
    · rw [if_neg (fun w => q2 (b.mp w)), decide_eq_true (by omega)]; rfl
theorem isDigitM_eq (t : Sx) {v : Nat} (h : v < 2000) : f_X9_isDigit t (nI v) = some (b2 (dgt v)) := isDigit_eq t h
theorem num_add {a v : Nat} (hd : dgt v = true) : (10 * nI a) + (nI v - 48) = nI (10 * a + (v - 48)) := by
  obtain ⟨h1, h2⟩ := dgt_iff.mp hd
  obtain ⟨w, rfl⟩ : ∃ w, v = w + 48 := ⟨v - 48, by omega⟩
  rw [← nI_add w 48, show (48 : Int32) = nI 48 from rfl, show (10 : Int32) = nI 10 from rfl, nI_mul, Int32.add_sub_cancel, nI_add, Nat.add_sub_cancel]
theorem num_add' {a v : Nat} (hd : dgt v = true) : ((10 * nI a) + nI v) - 48 = nI (10 * a + (v - 48)) := by
  rw [← num_add hd, Int32.sub_eq_add_neg, Int32.sub_eq_add_neg, Int32.add_assoc]
theorem L_number {c : Sx} {j : Nat} {ch : Nat → Nat} {n : Nat} (hT : Tx c j ch n) {p : Nat} (hp : p < 100) (kont : Int32 → Int32 → Option Int32) : ∀ (k a q fu : Nat), q + k = p + 5 → k < fu → ∃ z, L_X5_numberAt_4 c j (nI p) kont fu (nI a) (nI q) = kont (nI (nmb ch n k q a)) z := by
  intro k
  induction k with
  | zero =>
    intro a q fu hq hf
    obtain ⟨fu, rfl⟩ : ∃ r, fu = r + 1 := ⟨fu - 1, by omega⟩
    refine ⟨nI q, ?_⟩
    rw [L_X5_numberAt_4, show nI p + 5 = nI (p + 5) by rw [show (5 : Int32) = nI 5 from rfl, nI_add], if_pos (nI_le (by omega) (by omega))]
    rfl
  | succ k ih =>
    intro a q fu hq hf
    obtain ⟨fu, rfl⟩ : ∃ r, fu = r + 1 := ⟨fu - 1, by omega⟩
    rw [L_X5_numberAt_4, show nI p + 5 = nI (p + 5) by rw [show (5 : Int32) = nI 5 from rfl, nI_add], if_neg (by rw [nI_le_iff (by omega) (by omega)]; omega), at_eq hT (by omega), Option.bind_some, nmb]
    by_cases hl : q < n
    · obtain ⟨c1, c2⟩ := hT.2.2.2 q hl
      rw [if_pos hl, isDigit_eq c (by omega), Option.bind_some]
      cases hd : dgt (ch q) with
      | false =>
        rw [bF, if_neg (by simp)]
        exact ⟨nI q, rfl⟩
      | true =>
        rw [bT, Option.bind_some, num_add hd, nI_lit1, if_pos ⟨hl, rfl⟩]
        exact ih _ (q + 1) fu (by omega) (by omega)
    · rw [if_neg hl, show (0 : Int32) = nI 0 from rfl, isDigit_eq c (by decide), Option.bind_some, show dgt 0 = false from rfl]
      refine ⟨nI q, ?_⟩
      rw [if_pos (show b2 false = nI 0 from rfl), if_neg (fun w => hl w.1)]
theorem numberAt_eq {c : Sx} {j : Nat} {ch : Nat → Nat} {n : Nat} (hT : Tx c j ch n) {p : Nat} (hp : p < 100) : f_X5_numberAt c j (nI p) = some (nI (nmb ch n 5 p 0)) := by
  unfold f_X5_numberAt
  obtain ⟨z, e⟩ := L_number hT hp (fun z4 z5 => some z4) 5 0 p FU (by omega) (by rw [FU_eq]; decide)
  rw [← nI_0, e]
-- the class's conditions
theorem fieldNamed_eq (t : Sx) {v : Nat} (h : fldc v = true) : f_X5_fieldNamed t (nI v) = some (nI (fix v)) := by
  simp only [fldc, Bool.or_eq_true, beq_iff_eq] at h
  rcases h with (((h | h) | h) | h) | h <;> subst h <;> rfl
theorem agrees_eq (t : Sx) (v : Int32) {sg q : Nat} (hs : sg < 2000) : f_X4_agrees t v (nI sg) (nI q) = some (b2 (decide (v ≠ -1) && cmpv sg v q)) := by
  unfold f_X4_agrees cmpv
  have z : ∀ k, k < 2000 → ((nI sg = nI k) ↔ sg = k) := fun k hk => nI_eq_iff (by omega) (by omega)
  have z60 : (nI sg = 60) ↔ sg = 60 := z 60 (by decide)
  have z61 : (nI sg = 61) ↔ sg = 61 := z 61 (by decide)
  have z62 : (nI sg = 62) ↔ sg = 62 := z 62 (by decide)
  have nle : ∀ x y : Int32, ¬ x ≤ y ↔ y < x := fun x y => by rw [i_le, i_lt]; omega
  by_cases q0 : v = -1
  · rw [if_pos q0, decide_eq_false (fun w => w q0)]; rfl
  · rw [if_neg q0, decide_eq_true q0, Bool.true_and]
    by_cases q1 : sg = 60
    · rw [if_pos (z60.mpr q1), if_pos q1]
      by_cases w : nI q ≤ v
      · rw [if_pos w, decide_eq_false (fun u => (nle _ _).mpr u w)]; rfl
      · rw [if_neg w, decide_eq_true ((nle _ _).mp w)]; rfl
    · rw [if_neg (fun w => q1 (z60.mp w)), if_neg q1]
      by_cases q2 : sg = 61
      · rw [if_pos (z61.mpr q2), if_pos q2]
        by_cases w : v = nI q
        · rw [if_pos w, decide_eq_true w]; rfl
        · rw [if_neg w, decide_eq_false w]; rfl
      · rw [if_neg (fun w => q2 (z61.mp w)), if_neg q2]
        by_cases q3 : sg = 62
        · rw [if_pos (z62.mpr q3), if_pos q3]
          by_cases w : v ≤ nI q
          · rw [if_pos w, decide_eq_false (fun u => (nle _ _).mpr u w)]; rfl
          · rw [if_neg w, decide_eq_true ((nle _ _).mp w)]; rfl
        · rw [if_neg (fun w => q3 (z62.mp w)), if_neg q3]; rfl
theorem dval_has {c m : Sx} (hO : WOrd m) (hV : WVal m) (dV : DVal c m) {f fld : Nat} (hf : f < 40) (hp : iF m f = true) (hl : fld < 5) (sg q : Nat) : (decide (gA c 12 (6 * f + fld) ≠ -1) && cmpv sg (gA c 12 (6 * f + fld)) q) = ((src m f fld).isSome && cmpv sg (vOr m f fld 0) q) := by
  rw [(dV f hf hp).1 fld hl]
  rcases vOr_cases hO hV hf (show fld < 6 by omega) with ⟨h1, h⟩ | ⟨v, hv, h1, h⟩
  · rw [h, h1, decide_eq_false (fun w => w rfl)]; rfl
  · rw [h, h, h1, decide_eq_true (nI_ne_m1 (by omega))]
theorem comparing_eq {c m : Sx} (hO : WOrd m) (hV : WVal m) (rP : RPres c m) (dV : DVal c m) {j : Nat} {ch : Nat → Nat} {n : Nat} (hT : Tx c j ch n) {p : Nat} (hp : p + 1 < n) (hfl : fldc (ch p) = true) : ∃ x, f_X4_comparing c j (nI p) = some x ∧ ∀ f, f < 64 → (decide (f < 40) && iF m f) = true → hb x f = ((src m f (fix (ch p))).isSome && cmpv (ch (p + 1)) (vOr m f (fix (ch p)) 0) (nmb ch n 5 (p + 2) 0)) := by
  have hn := hT.1
  obtain ⟨c1, c2⟩ := hT.2.2.2 (p + 1) hp
  have hx := fix_lt (ch p)
  unfold f_X4_comparing
  rw [at_eq hT (by omega), if_pos (by omega), Option.bind_some, fieldNamed_eq c hfl, Option.bind_some, if_neg (nI_ne_m1 (by omega)), nI_lit1, at_eq hT (by omega), if_pos hp, Option.bind_some, show nI p + 2 = nI (p + 2) by rw [show (2 : Int32) = nI 2 from rfl, nI_add], numberAt_eq hT (by omega), Option.bind_some]
  generalize nmb ch n 5 (p + 2) 0 = q
  obtain ⟨y, hy, e⟩ := loop0 (L := fun n' i s => L_X4_comparing_40 c j (nI p) (nI (fix (ch p))) (nI (ch (p + 1))) (nI q) (fun z10 z11 => some z10) n' s i) (E := fun s => some s) (N := 40) (by decide) (y := (0 : Int64))
    (fun k s => ∀ f, f < 64 → hb s f = (decide (f < k) && iF m f && ((src m f (fix (ch p))).isSome && cmpv (ch (p + 1)) (vOr m f (fix (ch p)) 0) q)))
    (fun n' y h => by show L_X4_comparing_40 _ _ _ _ _ _ _ _ _ _ = _; rw [L_X4_comparing_40, if_pos (by decide)])
    (fun k y hk h => by
      have hst : ∀ n', L_X4_comparing_40 c j (nI p) (nI (fix (ch p))) (nI (ch (p + 1))) (nI q) (fun z10 z11 => some z10) (n' + 1) y (nI k) = if (iF m k && ((src m k (fix (ch p))).isSome && cmpv (ch (p + 1)) (vOr m k (fix (ch p)) 0) q)) = true then L_X4_comparing_40 c j (nI p) (nI (fix (ch p))) (nI (ch (p + 1))) (nI q) (fun z10 z11 => some z10) n' (y ||| shlL 1 (nI k)) (nI (k + 1)) else L_X4_comparing_40 c j (nI p) (nI (fix (ch p))) (nI (ch (p + 1))) (nI q) (fun z10 z11 => some z10) n' y (nI (k + 1)) := fun n' => by
        rw [L_X4_comparing_40, if_neg (ngo (x := 40) (N := 40) rfl (by omega) (by decide)), settledValue_eq c hk (by omega), Option.bind_some]
        unfold f_X1_all
        rw [Option.bind_some, holds_pres rP hk, Option.bind_some, nI_lit1]
        cases q1 : iF m k with
        | false => rw [bF, if_neg (by simp)]
        | true =>
          rw [bT, agrees_eq c _ (by omega), Option.bind_some, dval_has hO hV dV hk q1 hx, Bool.true_and]
          unfold f_X8_only
          rw [Option.bind_some]
          cases (src m k (fix (ch p))).isSome && cmpv (ch (p + 1)) (vOr m k (fix (ch p)) 0) q with
          | false => rw [bF, if_neg (by simp)]
          | true => rw [bT, if_pos rfl]
      cases w : (iF m k && ((src m k (fix (ch p))).isSome && cmpv (ch (p + 1)) (vOr m k (fix (ch p)) 0) q)) with
      | true =>
        refine ⟨y ||| shlL 1 (nI k), fun f hf => ?_, fun n' => by show L_X4_comparing_40 _ _ _ _ _ _ _ _ _ _ = _; rw [hst, if_pos w]⟩
        rw [hb_or, h f hf, hb_only (by omega) hf]
        by_cases q2 : f = k
        · subst q2; rw [Bool.and_assoc, Bool.and_assoc, w]; simp
        · by_cases q3 : f < k
          · simp [q2, q3, show f < k + 1 by omega]
          · simp [q2, q3, show ¬ f < k + 1 by omega]
      | false =>
        refine ⟨y, fun f hf => ?_, fun n' => by show L_X4_comparing_40 _ _ _ _ _ _ _ _ _ _ = _; rw [hst, if_neg (by rw [w]; decide)]⟩
        rw [h f hf]
        by_cases q2 : f = k
        · subst q2; rw [Bool.and_assoc, Bool.and_assoc, w]; simp
        · by_cases q3 : f < k
          · simp [q3, show f < k + 1 by omega]
          · simp [q3, show ¬ f < k + 1 by omega])
    (fun f hf => by rw [hb_0]; simp)
  refine ⟨y, e, fun f hf hp2 => ?_⟩
  rw [hy f hf, hp2, Bool.true_and]
theorem ushI_bit (x : Int32) : ∀ d, d < 10 → ((ushI x (nI d) &&& 1 = 1) ↔ ((x >>> (nI d &&& 31)) &&& 1 = 1)) := by
  intro d hd
  have key : ushI x (nI d) &&& 1 = (x >>> (nI d &&& 31)) &&& 1 := by
    apply Int32.toBitVec_inj.mp
    apply BitVec.eq_of_getLsbD_eq
    intro i hi
    have a1 : ∀ d, d < 10 → ((nI d &&& 31).toBitVec.smod 32).toNat = d := by decide +kernel
    have a2 : ∀ d, d < 10 → (((nI d).toUInt32 &&& Int32.toUInt32 31).toBitVec % 32).toNat = d := by decide +kernel
    have b1 : ∀ i, i < 32 → (1 : Int32).toBitVec.getLsbD i = decide (i = 0) := by decide +kernel
    rw [Int32.toBitVec_and, Int32.toBitVec_and, BitVec.getLsbD_and, BitVec.getLsbD_and, b1 i hi]
    by_cases q : i = 0
    · subst q
      congr 1
      unfold ushI
      rw [Int32.toBitVec_shiftRight, BitVec.sshiftRight_eq', a1 d hd, BitVec.getLsbD_sshiftRight]
      show ((x.toUInt32 >>> ((nI d).toUInt32 &&& Int32.toUInt32 31)).toBitVec).getLsbD 0 = _
      rw [UInt32.toBitVec_shiftRight, BitVec.ushiftRight_eq', a2 d hd, BitVec.getLsbD_ushiftRight]
      simp [show d < 32 by omega]
    · simp [q]
  rw [key]
theorem tagged_eq {c m : Sx} (rP : RPres c m) (dV : DVal c m) {d : Nat} (hd : d < 10) : ∃ x, f_X4_tagged c (nI d) = some x ∧ ∀ f, f < 64 → (decide (f < 40) && iF m f) = true → hb x f = tbit m f d := by
  unfold f_X4_tagged
  obtain ⟨y, hy, e⟩ := loop0 (L := fun n' i s => L_X4_tagged_5 c (nI d) (fun z5 z6 => some z5) n' s i) (E := fun s => some s) (N := 40) (by decide) (y := (0 : Int64))
    (fun k s => ∀ f, f < 64 → hb s f = (decide (f < k) && iF m f && tbit m f d))
    (fun n' y h => by show L_X4_tagged_5 _ _ _ _ _ _ = _; rw [L_X4_tagged_5, if_pos (by decide)])
    (fun k y hk h => by
      have hst : ∀ n', L_X4_tagged_5 c (nI d) (fun z5 z6 => some z5) (n' + 1) y (nI k) = if (iF m k && tbit m k d) = true then L_X4_tagged_5 c (nI d) (fun z5 z6 => some z5) n' (y ||| shlL 1 (nI k)) (nI (k + 1)) else L_X4_tagged_5 c (nI d) (fun z5 z6 => some z5) n' y (nI (k + 1)) := fun n' => by
        rw [L_X4_tagged_5, if_neg (ngo (x := 40) (N := 40) rfl (by omega) (by decide))]
        unfold f_X1_all
        rw [Option.bind_some, holds_pres rP hk, Option.bind_some, nI_lit1, show (5 : Int32) = nI 5 from rfl, settledValue_eq c hk (by decide), Option.bind_some]
        cases q1 : iF m k with
        | false => rw [bF, if_neg (by simp)]
        | true =>
          rw [bT, (dV k hk q1).2, Bool.true_and]
          unfold f_X8_only
          rw [Option.bind_some]
          by_cases w : (tgs m k >>> (nI d &&& 31)) &&& 1 = 1
          · rw [if_pos ((ushI_bit _ d hd).mpr w), if_pos (by unfold tbit; exact decide_eq_true w)]
          · rw [if_neg (fun u => w ((ushI_bit _ d hd).mp u)), if_neg (by unfold tbit; rw [decide_eq_false w]; decide)]
      cases w : (iF m k && tbit m k d) with
      | true =>
        refine ⟨y ||| shlL 1 (nI k), fun f hf => ?_, fun n' => by show L_X4_tagged_5 _ _ _ _ _ _ = _; rw [hst, if_pos w]⟩
        rw [hb_or, h f hf, hb_only (by omega) hf]
        by_cases q2 : f = k
        · subst q2; rw [Bool.and_assoc, Bool.and_assoc, w]; simp
        · by_cases q3 : f < k
          · simp [q2, q3, show f < k + 1 by omega]
          · simp [q2, q3, show ¬ f < k + 1 by omega]
      | false =>
        refine ⟨y, fun f hf => ?_, fun n' => by show L_X4_tagged_5 _ _ _ _ _ _ = _; rw [hst, if_neg (by rw [w]; decide)]⟩
        rw [h f hf]
        by_cases q2 : f = k
        · subst q2; rw [Bool.and_assoc, Bool.and_assoc, w]; simp
        · by_cases q3 : f < k
          · simp [q3, show f < k + 1 by omega]
          · simp [q3, show ¬ f < k + 1 by omega])
    (fun f hf => by rw [hb_0]; simp)
  refine ⟨y, e, fun f hf hp2 => ?_⟩
  rw [hy f hf, hp2, Bool.true_and]
def RMem (c m : Sx) : Prop := ∀ a, a < 8 → iA m a = true → gL c (100 + a) = gM m 2 a
theorem membersOf_eq {c m : Sx} (rM : RMem c m) {d : Nat} (hd : d < 8) (ha : iA m d = true) : f_X4_membersOf c (nI d) = some (gM m 2 d) := by
  unfold f_X4_membersOf
  rw [isWithin_eq, Option.bind_some, show (7 : Int32) = nI 7 from rfl, inr_nI (by omega) (by decide), decide_eq_true (by omega), bT, gd_pos (vin_nI hd (by decide)), ix_nI (by omega)]
  unfold f_X0_members
  rw [Option.bind_some, rM d hd ha]
/-- the class's facts that conditions rest on -/
def CF (c m : Sx) : Prop := RPres c m ∧ DVal c m ∧ DKee c m ∧ DCov c m ∧ (∀ k, k < 64 → (hb (gL c 11) k = true ↔ k < 40 ∧ gA m 29 k ≠ -1)) ∧ RMem c m
theorem CF.on {c y m : Sx} (h : CF c m) (o : OnJ c y) : CF y m := ⟨h.1.on (by rw [o.2.2.1]), fun f hf hp => by rw [o.1 12 (by decide)]; exact h.2.1 f hf hp, fun k hk => by rw [o.2.2.1]; exact h.2.2.1 k hk, fun k hk => by rw [o.2.2.1]; exact h.2.2.2.1 k hk, fun k hk => by rw [o.2.2.1]; exact h.2.2.2.2.1 k hk, fun a ha hA => by rw [o.2.2.1]; exact h.2.2.2.2.2 a ha hA⟩
theorem one_digit {ch : Nat → Nat} {n : Nat} (h : Rul ch n) {p o : Nat} (e : rn ch (p + 1) = some (7, o)) (hp : p + 1 ≤ n) : p + 1 < n ∧ dgt (ch (p + 1)) = true ∧ rn ch (p + 2) = some (8, o) ∧ nmb ch n 5 (p + 1) 0 = ch (p + 1) - 48 := by
  have hp1 := rul_at h hp e (by omega)
  obtain ⟨sn, hv, hs⟩ := h.2
  obtain ⟨s1, o1, e1, g1, g2, g3, g4⟩ := rn_at h.1 hv hp1
  rw [e] at e1
  cases e1
  obtain ⟨hd, h8⟩ := nx7 g3
  have hd2 := dgt_iff.mp hd
  rw [h8, if_neg (by omega), if_neg (by omega)] at g4
  refine ⟨hp1, hd, g4, ?_⟩
  rw [nmb, if_pos ⟨hp1, hd⟩, nmb, if_neg]
  · omega
  · intro ⟨w1, w2⟩
    obtain ⟨s1, o1, e1, g1, g2, g3, g4'⟩ := rn_at h.1 hv w1
    rw [g4] at e1
    cases e1
    rw [nxA (Or.inl rfl) w2, if_pos rfl] at g3
    exact g3 rfl
theorem condition_eq {c m : Sx} (hO : WOrd m) (hV : WVal m) (wS : WStk m) (hC : CF c m) {j : Nat} {ch : Nat → Nat} {n : Nat} (hT : Tx c j ch n) (hR : Rul ch n) (hN : nmd m ch n) {p : Nat} (hp : p < n) (hl : 97 ≤ ch p ∧ ch p ≤ 122) : ∃ x, f_X4_condition c j (nI p) = some x ∧ ∀ f, f < 64 → (decide (f < 40) && iF m f) = true → hb x f = cnd m ch n f p := by
  obtain ⟨rP, dV, dK, dC, rS, rM⟩ := hC
  have hn := hT.1
  obtain ⟨sn, hv, -⟩ := id hR.2
  obtain ⟨s, o, e, g1, g2, g3, g4⟩ := rn_at hR.1 hv hp
  obtain ⟨rfl, hk⟩ := lt_ok g1 (by omega) g2 g3 hl
  have z : ∀ k, k < 2000 → ((nI (ch p) = nI k) ↔ ch p = k) := fun k hk => nI_eq_iff (by omega) (by omega)
  have z97 : (nI (ch p) = 97) ↔ ch p = 97 := z 97 (by decide)
  have z98 : (nI (ch p) = 98) ↔ ch p = 98 := z 98 (by decide)
  have z115 : (nI (ch p) = 115) ↔ ch p = 115 := z 115 (by decide)
  have z116 : (nI (ch p) = 116) ↔ ch p = 116 := z 116 (by decide)
  have z117 : (nI (ch p) = 117) ↔ ch p = 117 := z 117 (by decide)
  have z118 : (nI (ch p) = 118) ↔ ch p = 118 := z 118 (by decide)
  have in40 : ∀ f, (decide (f < 40) && iF m f) = true → f < 40 ∧ iF m f = true := fun f h => by rw [Bool.and_eq_true, decide_eq_true_eq] at h; exact h
  unfold f_X4_condition
  rw [at_eq hT (by omega), if_pos hp, Option.bind_some]
  rcases hk with ⟨q1, q2⟩ | ⟨q0, q1, q2⟩ | ⟨q0, q1, q2⟩
  · have q9 : ch p = 107 ∨ ch p = 114 ∨ ch p = 121 ∨ ch p = 99 ∨ ch p = 100 := by
      simp only [fldc, Bool.or_eq_true, beq_iff_eq] at q1
      omega
    rw [if_neg (fun w => by have := z97.mp w; omega), if_neg (fun w => by have := z98.mp w; omega), if_neg (fun w => by have := z115.mp w; omega), if_neg (fun w => by have := z116.mp w; omega), if_neg (fun w => by have := z117.mp w; omega), if_neg (fun w => by have := z118.mp w; omega)]
    rw [q2] at g4
    have hp1 := rul_at hR (show p + 1 ≤ n by omega) g4 (by omega)
    obtain ⟨x, ex, hx⟩ := comparing_eq hO hV rP dV hT hp1 q1
    rw [ex]
    refine ⟨x, rfl, fun f hf hp2 => ?_⟩
    rw [hx f hf hp2, cnd, if_pos q1]
  · rw [q2, if_neg (by omega), if_neg (by omega)] at g4
    obtain ⟨hp1, hd, -, en⟩ := one_digit hR g4 (by omega)
    have hd2 := dgt_iff.mp hd
    rcases q0 with q | q
    · rw [if_neg (fun w => by have := z97.mp w; omega), if_neg (fun w => by have := z98.mp w; omega), if_neg (fun w => by have := z115.mp w; omega), if_pos (z116.mpr q), nI_lit1, numberAt_eq hT (by omega), Option.bind_some, en]
      obtain ⟨x, ex, hx⟩ := tagged_eq (c := c) (m := m) rP dV (d := ch (p + 1) - 48) (by omega)
      rw [ex]
      refine ⟨x, rfl, fun f hf hp2 => ?_⟩
      rw [hx f hf hp2, cnd, if_neg (by rw [q1]; decide), if_pos q]
    · obtain ⟨w1, w2⟩ := hN p hp q
      rw [if_pos (z97.mpr q), nI_lit1, numberAt_eq hT (by omega), Option.bind_some, en, membersOf_eq rM w1 w2]
      refine ⟨_, rfl, fun f hf hp2 => ?_⟩
      rw [cnd, if_neg (by rw [q1]; decide), if_neg (by omega), if_pos q]
  · rcases q0 with q | q | q | q
    · rw [if_neg (fun w => by have := z97.mp w; omega), if_neg (fun w => by have := z98.mp w; omega), if_pos (z115.mpr q)]
      unfold f_X6_stacked
      refine ⟨_, rfl, fun f hf hp2 => ?_⟩
      rw [cnd, if_neg (by rw [q1]; decide), if_neg (by omega), if_neg (by omega), if_pos q]
      have := rS f hf
      by_cases w : gA m 29 f = -1
      · rw [decide_eq_false (fun u => u w)]
        cases hh : hb (gL c 11) f with
        | false => rfl
        | true => exact absurd w (this.mp hh).2
      · rw [decide_eq_true w, this.mpr ⟨(in40 f hp2).1, w⟩]
    · rw [if_neg (fun w => by have := z97.mp w; omega), if_neg (fun w => by have := z98.mp w; omega), if_neg (fun w => by have := z115.mp w; omega), if_neg (fun w => by have := z116.mp w; omega), if_neg (fun w => by have := z117.mp w; omega), if_pos (z118.mpr q)]
      unfold f_X6_covers
      refine ⟨_, rfl, fun f hf hp2 => ?_⟩
      rw [cnd, if_neg (by rw [q1]; decide), if_neg (by omega), if_neg (by omega), if_neg (by omega), if_pos q]
      have h1 := dC f hf
      have hf40 := (in40 f hp2).1
      by_cases w : gA m 29 f = -1
      · rw [decide_eq_false (fun u => u w), Bool.false_and]
        cases hh : hb (gL c 12) f with
        | false => rfl
        | true =>
          obtain ⟨s, hs, hn2, ec⟩ := h1.mp hh
          have := (cov_ok wS hs hn2).2
          rw [ec, w] at this
          exact absurd this.symm (nI_ne_m1 (by omega))
      · rw [decide_eq_true w, Bool.true_and]
        rcases wS.1 f hf40 with u | ⟨s, hs, es, hpf, k, hk, ek⟩
        · exact absurd u w
        · rw [es, ix_nI (by omega)]
          by_cases v : cov m s = f
          · rw [decide_eq_true v, h1.mpr ⟨s, hs, by omega, v⟩]
          · rw [decide_eq_false v]
            cases hh : hb (gL c 12) f with
            | false => rfl
            | true =>
              obtain ⟨s', hs', hn2, ec⟩ := h1.mp hh
              have := (cov_ok wS hs' hn2).2
              rw [ec, es] at this
              have := (nI_eq_iff (show s < 2 ^ 31 by omega) (show s' < 2 ^ 31 by omega)).mp this
              subst this
              exact absurd ec v
    · rw [if_neg (fun w => by have := z97.mp w; omega), if_neg (fun w => by have := z98.mp w; omega), if_neg (fun w => by have := z115.mp w; omega), if_neg (fun w => by have := z116.mp w; omega), if_pos (z117.mpr q)]
      unfold f_X2_duplicates
      refine ⟨_, rfl, fun f hf hp2 => ?_⟩
      rw [cnd, if_neg (by rw [q1]; decide), if_neg (by omega), if_neg (by omega), if_neg (by omega), if_neg (by omega), if_pos q]
      have h1 := (dK f hf).2
      by_cases w : 1 < fb_ct (grp m f) 40
      · rw [decide_eq_true w, h1.mpr ⟨(in40 f hp2).1, (in40 f hp2).2, w⟩]
      · rw [decide_eq_false w]
        cases hh : hb (gL c 10) f with
        | false => rfl
        | true => exact absurd (h1.mp hh).2.2 w
    · rw [if_neg (fun w => by have := z97.mp w; omega), if_pos (z98.mpr q)]
      unfold f_X2_keepers
      refine ⟨_, rfl, fun f hf hp2 => ?_⟩
      rw [cnd, if_neg (by rw [q1]; decide), if_neg (by omega), if_neg (by omega), if_neg (by omega), if_neg (by omega), if_neg (by omega)]
      exact pb_eq (dK f hf).1
