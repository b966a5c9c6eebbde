/-! ===== p41: the rules' texts ===== -/
def tx (a : Nat) : List Nat := if a = 0 then [114, 62, 50, 124, 116, 49] else if a = 1 then [118, 124, 98, 38, 115] else if a = 2 then [33, 117, 38, 114, 63] else if a = 3 then [97, 48, 38, 33, 97, 49] else [33, 97, 50]
def lc (a k : Nat) : Nat := (tx a).getD k 0
/-- only the text and what is worked with has changed -/
def SameU (m m' : Sx) : Prop := (∀ a, a < 42 → a ≠ 34 → gA m' a = gA m a) ∧ gM m' 2 = gM m 2
theorem SameU.rf (m : Sx) : SameU m m := ⟨fun _ _ _ => rfl, rfl⟩
theorem SameU.tr {a b c : Sx} (h : SameU a b) (g : SameU b c) : SameU a c := ⟨fun i h1 h2 => (g.1 i h1 h2).trans (h.1 i h1 h2), g.2.trans h.2⟩
theorem SameU.xs {m m' : Sx} (s : SameU m m') (h : Xs m) : Xs m' := h.on (s.1 24 (by decide) (by decide)) (s.1 28 (by decide) (by decide)) (s.1 35 (by decide) (by decide)) (s.1 40 (by decide) (by decide)) s.2
theorem SameU.g {m m' : Sx} (s : SameU m m') : SameG m m' := fun a _ h2 => s.1 a (by omega) (by omega)
theorem typeM {m : Sx} {n ch : Nat} (et : gI m 52 = nI n) (hn : n < 80) (h1 : 33 ≤ ch) (h2 : ch ≤ 126) : f_X9_type m (nI ch) = some (nI (n + 1), pI (pA m 34 n (nI ch)) 52 (nI (n + 1))) := by
  have w' : ¬ nI n = 80 := by rw [show (80 : Int32) = nI 80 from rfl, nI_eq_iff (by omega) (by decide)]; omega
  have q : inr (nI ch) 33 126 = true := inr_iff.mpr ⟨nI_le (a := 33) h1 (by omega), nI_le (b := 126) h2 (by decide)⟩
  have g : vp_in (nI n) 80 := vin_nI (by omega) (by decide)
  unfold f_X9_type
  rw [in_eq, q, Option.bind_some, bT, et, if_neg w', i2c_tab ch (by omega), gd_pos (gch_nI (by omega)), gd_pos g, ix_nI (by omega)]
  simp only [bd_eq, gI_pI, gI_pA, if_true, et, nI_lit1]
def encB : Int64 → List Nat → Bool
  | x, [] => decide (lg_cmp x 0 ≤ 0)
  | x, ch :: L => decide (¬ lg_cmp x 0 ≤ 0) && (decide (Int64.toInt32 (x &&& 127) = nI ch) && (decide (33 ≤ ch) && (decide (ch ≤ 126) && encB (shrL x 8) L)))
theorem ty_list : ∀ (L : List Nat) (x : Int64) (n : Nat) (c m : Sx), encB x L = true → n + L.length ≤ 80 → Inv c m → gI m 52 = nI n → ∃ c' m' xe, Inv c' m' ∧ SameU m m' ∧ gI m' 52 = nI (n + L.length) ∧ (∀ k, k < n → gA m' 34 k = gA m 34 k) ∧ (∀ k, k < L.length → gA m' 34 (n + k) = nI (L.getD k 0)) ∧ ∀ (b : Int64) (kont : Int32 → Int64 → Sx → Option (Int32 × Sx)) (fu : Nat), L.length < fu → L_L_types_10 b kont fu 1 x c = kont 1 xe c'
  | [], x, n, c, m, h, _, hi, e => ⟨c, m, x, hi, SameU.rf m, e, fun _ _ => rfl, fun k hk => absurd hk (Nat.not_lt_zero k), fun b kont fu hfu => by
      obtain ⟨fu, rfl⟩ : ∃ q, fu = q + 1 := ⟨fu - 1, by have : 0 < fu := hfu; omega⟩
      rw [encB] at h
      rw [L_L_types_10, if_pos (of_decide_eq_true h)]⟩
  | ch :: L, x, n, c, m, h, hn, hi, e => by
      rw [encB] at h
      simp only [Bool.and_eq_true, decide_eq_true_eq] at h
      obtain ⟨h1, h2, h3, h4, h5⟩ := h
      have hn : n + (L.length + 1) ≤ 80 := hn
      obtain ⟨r, c1, m1, e1, e2, i1, -, -, -⟩ := cal_type (nI ch) c m hi
      have e1' : f_X8_type c (nI ch) = some (r, c1) := e1
      have e2' : f_X9_type m (nI ch) = some (r, m1) := e2
      rw [typeM e (by omega) h3 h4] at e2'
      have z := Option.some.inj e2'
      obtain ⟨z1, z2⟩ := Prod.mk.inj z
      subst z1
      subst z2
      obtain ⟨c', m', xe, j1, j2, j3, j4, j5, j6⟩ := ty_list L (shrL x 8) (n + 1) c1 _ h5 (by omega) i1 (by rw [gI_pI, if_pos rfl])
      refine ⟨c', m', xe, j1, SameU.tr (b := pI (pA m 34 n (nI ch)) 52 (nI (n + 1))) ⟨fun a ha h34 => by rw [gA_pI, gA_pA_ne h34], rfl⟩ j2, by rw [j3]; congr 1; show n + 1 + L.length = n + (L.length + 1); omega, fun k hk => by rw [j4 k (by omega), gA_pI, gA_pA_at, if_neg (by omega)], fun k hk => ?_, fun b kont fu hfu => ?_⟩
      · cases k with
        | zero => rw [Nat.add_zero, j4 n (by omega), gA_pI, gA_pA_at, if_pos rfl]; rfl
        | succ k =>
          have hk : k + 1 < L.length + 1 := hk
          rw [show n + (k + 1) = n + 1 + k by omega, j5 k (by omega)]; rfl
      · have hfu : L.length + 1 < fu := hfu
        obtain ⟨fu, rfl⟩ : ∃ q, fu = q + 1 := ⟨fu - 1, by omega⟩
        have np : ¬ nI (n + 1) ≤ 0 := by rw [show (0 : Int32) = nI 0 from rfl, nI_le_iff (by omega) (by decide)]; omega
        rw [L_L_types_10, if_neg h1, if_neg (by decide), h2, e1', Option.bind_some]
        show (if nI (n + 1) ≤ 0 then _ else _) = _
        rw [if_neg np]
        exact j6 b kont fu (by omega)
theorem types_ok {c m : Sx} (hi : Inv c m) {x : Int64} {L : List Nat} (h : encB x L = true) (hL : L.length ≤ 80) : ∃ c' m', f_L_types c x = some (1, c') ∧ Inv c' m' ∧ SameU m m' ∧ gI m' 52 = nI L.length ∧ ∀ k, k < L.length → gA m' 34 k = nI (L.getD k 0) := by
  obtain ⟨r, c1, m1, e1, e2, i1, -⟩ := cal_clearRule c m hi
  have e1' : f_X8_clearRule c = some (r, c1) := e1
  have e2' : f_X9_clearRule m = some (r, m1) := e2
  unfold f_X9_clearRule at e2'
  rw [bd_eq] at e2'
  obtain ⟨z1, z2⟩ := Prod.mk.inj (Option.some.inj e2')
  subst z2
  obtain ⟨c', m', xe, j1, j2, j3, j4, j5, j6⟩ := ty_list L x 0 c1 (pI m 52 0) h (by omega) i1 (by rw [gI_pI, if_pos rfl]; rfl)
  refine ⟨c', m', ?_, j1, SameU.tr (b := pI m 52 0) ⟨fun _ _ _ => rfl, rfl⟩ j2, by rw [j3, Nat.zero_add], fun k hk => by have := j5 k hk; rwa [Nat.zero_add] at this⟩
  unfold f_L_types
  rw [e1', Option.bind_some]
  show L_L_types_10 _ _ FU 1 x c1 = _
  rw [j6 _ _ FU (by rw [FU_eq]; omega), gd_pos (show gz 1 from Or.inr rfl)]
theorem enc0 : encB 54376369634930 (tx 0) = true := by decide +kernel
theorem enc1 : encB 494565227638 (tx 1) = true := by decide +kernel
theorem enc2 : encB 272498062625 (tx 2) = true := by decide +kernel
theorem enc3 : encB 54293237739617 (tx 3) = true := by decide +kernel
theorem enc4 : encB 3301665 (tx 4) = true := by decide +kernel
theorem text_ok (t : Sx) {a : Nat} (ha : a < 5) : ∃ x, f_L_text t (nI a) = some x ∧ encB x (tx a) = true := by
  unfold f_L_text
  rcases (show a = 0 ∨ a = 1 ∨ a = 2 ∨ a = 3 ∨ a = 4 by omega) with rfl | rfl | rfl | rfl | rfl
  · exact ⟨_, if_pos (by decide), enc0⟩
  · exact ⟨_, by rw [if_neg (by decide), if_pos (by decide)], enc1⟩
  · exact ⟨_, by rw [if_neg (by decide), if_neg (by decide), if_pos (by decide)], enc2⟩
  · exact ⟨_, by rw [if_neg (by decide), if_neg (by decide), if_neg (by decide), if_pos (by decide)], enc3⟩
  · exact ⟨_, by rw [if_neg (by decide), if_neg (by decide), if_neg (by decide), if_neg (by decide)], enc4⟩
theorem tx_len (a : Nat) : (tx a).length ≤ 6 ∧ 0 < (tx a).length := by
  unfold tx
  repeat' split
  all_goals exact ⟨by decide, by decide⟩
theorem rn_cong {ch ch' : Nat → Nat} : ∀ {n : Nat}, (∀ k, k < n → ch k = ch' k) → rn ch n = rn ch' n
  | 0, _ => rfl
  | n + 1, h => by rw [rn, rn, rn_cong (fun k hk => h k (by omega)), h n (by omega)]
def txT : Bool := (List.range 5).all fun a => (List.range 6).all fun p => !(decide (p < (tx a).length)) || ((decide (33 ≤ lc a p) && decide (lc a p ≤ 126)) && ((!(decide (lc a p = 97)) || (decide (p + 1 < (tx a).length) && decide (lc a (p + 1) - 48 < a))) && (!(decide (p + 1 = (tx a).length)) || !(fldc (lc a p) || (decide (lc a p = 116) || decide (lc a p = 97))))))
theorem txT_ok : txT = true := by decide +kernel
theorem tx_at {a p : Nat} (ha : a < 5) (hp : p < (tx a).length) : (33 ≤ lc a p ∧ lc a p ≤ 126) ∧ (lc a p = 97 → p + 1 < (tx a).length ∧ lc a (p + 1) - 48 < a) ∧ (p + 1 = (tx a).length → ¬ (fldc (lc a p) = true ∨ lc a p = 116 ∨ lc a p = 97)) := by
  have h1 := List.all_eq_true.mp (List.all_eq_true.mp txT_ok a (List.mem_range.mpr ha)) p (List.mem_range.mpr (by have := (tx_len a).1; omega))
  simp only [Bool.or_eq_true, Bool.and_eq_true, Bool.not_eq_true', decide_eq_true_eq, decide_eq_false_iff_not, Bool.or_eq_false_iff] at h1
  rcases h1 with h1 | ⟨h1, h2, h3⟩
  · exact absurd hp h1
  · refine ⟨h1, fun e => ?_, fun e w => ?_⟩
    · rcases h2 with h2 | h2
      · exact absurd e h2
      · exact h2
    · rcases h3 with h3 | ⟨h3, h4, h5⟩
      · exact absurd e h3
      · rcases w with w | w | w
        · rw [h3] at w; cases w
        · exact absurd w h4
        · exact absurd w h5
theorem tx_rn {a : Nat} (ha : a < 5) : rn (lc a) (tx a).length = some (8, 0) := by
  rcases (show a = 0 ∨ a = 1 ∨ a = 2 ∨ a = 3 ∨ a = 4 by omega) with rfl | rfl | rfl | rfl | rfl <;> decide +kernel
/-- the text typed is the a-th rule -/
def TxtIs (m : Sx) (a : Nat) : Prop := gI m 52 = nI (tx a).length ∧ ∀ k, k < (tx a).length → gA m 34 k = nI (lc a k)
theorem txtIs_tpd {m : Sx} {a : Nat} (h : TxtIs m a) : tpd m = (tx a).length := by
  have := (tx_len a).1
  unfold tpd
  rw [h.1, ix_nI (by omega)]
theorem txtIs_tch {m : Sx} {a : Nat} (ha : a < 5) (h : TxtIs m a) {k : Nat} (hk : k < (tx a).length) : tch m k = lc a k := by
  have := (tx_at ha hk).1.2
  unfold tch
  rw [h.2 k hk, ix_nI (by omega)]
theorem txtIs_usb {m : Sx} {a b : Nat} (ha : a < 5) (h : TxtIs m a) (hb : b ≤ 8) (hA : ∀ x, x < a → x < b ∧ iA m x = true) : usb m b := by
  unfold usb
  rw [txtIs_tpd h]
  have e : ∀ k, k < (tx a).length → tch m k = lc a k := fun k hk => txtIs_tch ha h hk
  refine ⟨⟨fun k hk => by rw [e k hk]; exact (tx_at ha hk).1, 8, ?_, Or.inl rfl⟩, fun p hp e1 => ?_⟩
  · rw [rn_cong e]; exact tx_rn ha
  · rw [e p hp] at e1
    obtain ⟨h1, h2⟩ := (tx_at ha hp).2.1 e1
    rw [e (p + 1) h1]
    obtain ⟨h3, h4⟩ := hA _ h2
    exact ⟨by omega, h3, h4⟩
theorem nmb_cong {ch ch' : Nat → Nat} {n : Nat} (h : ∀ k, k < n → ch k = ch' k) : ∀ k p a, nmb ch n k p a = nmb ch' n k p a
  | 0, _, _ => rfl
  | k + 1, p, a => by
    rw [nmb, nmb]
    by_cases q : p < n
    · rw [h p q, nmb_cong h k]
    · rw [if_neg (fun w => q w.1), if_neg (fun w => q w.1)]
theorem eRun_cong2 {cn cn' : Nat → Bool} {ch ch' : Nat → Nat} : ∀ {n : Nat}, (∀ p, p < n → ch p = ch' p ∧ cn p = cn' p) → eRun cn ch n = eRun cn' ch' n
  | 0, _ => rfl
  | n + 1, h => by
    rw [eRun, eRun, eRun_cong2 (fun p hp => h p (by omega))]
    unfold eStep
    rw [(h n (by omega)).1, (h n (by omega)).2]
theorem sat_ch {m : Sx} {ch ch' : Nat → Nat} {n f : Nat} (h : ∀ k, k < n → ch k = ch' k) (hl : ∀ p, p + 1 = n → ¬ (fldc (ch p) = true ∨ ch p = 116 ∨ ch p = 97)) : sat m ch n f = sat m ch' n f := by
  unfold sat eVal
  rw [eRun_cong2 (cn := cnd m ch n f) (cn' := cnd m ch' n f) (ch := ch) (ch' := ch') (fun p hp => ⟨h p hp, ?_⟩)]
  unfold cnd
  rw [← h p hp]
  by_cases q : p + 1 < n
  · rw [h (p + 1) q, nmb_cong h]
  · have z := hl p (by omega)
    rw [if_neg (fun w => z (Or.inl w)), if_neg (fun w => z (Or.inr (Or.inl w))), if_neg (fun w => z (Or.inr (Or.inr w))), if_neg (fun w => z (Or.inl w)), if_neg (fun w => z (Or.inr (Or.inl w))), if_neg (fun w => z (Or.inr (Or.inr w)))]
/-- the albums 0, .., N - 1 are there, with the law's rules -/
def LAlb (m : Sx) (N : Nat) : Prop := (∀ a, a < N → iA m a = true ∧ gA m 36 a = nI (tx a).length ∧ (∀ k, k < (tx a).length → gA m 37 (80 * a + k) = nI (lc a k)) ∧ gA m 38 a = 1 ∧ gA m 39 a = 1) ∧ ∀ a, N ≤ a → a < 8 → iA m a = false
theorem LAlb.on {m m' : Sx} {N : Nat} (h : LAlb m N) (e : ∀ a, 35 ≤ a → a < 40 → gA m' a = gA m a) : LAlb m' N := by
  unfold LAlb
  rw [iA_on (e 35 (by decide) (by decide)), e 36 (by decide) (by decide), e 37 (by decide) (by decide), e 38 (by decide) (by decide), e 39 (by decide) (by decide)]
  exact h
def PI (c m : Sx) : Prop := Inv c m ∧ Xs m ∧ LAlb m 5
theorem PI.fr {c m c' m' : Sx} (h : PI c m) (i : Inv c' m') (f : FrC m m') : PI c' m' := ⟨i, f.2.2.2.2.2 h.2.1, h.2.2.on (fun a h1 h2 => f.1 a (Or.inr ⟨h1, h2⟩))⟩
theorem PI.su {c m c' m' : Sx} (h : PI c m) (i : Inv c' m') (s : SameU m m') : PI c' m' := ⟨i, s.xs h.2.1, h.2.2.on (fun a h1 h2 => s.1 a (by omega) (by omega))⟩
/-- the members of album a are what satisfies the text typed -/
theorem mem_sat {c m : Sx} (h : PI c m) {a f : Nat} (ha : a < 5) (ht : TxtIs m a) (hf : f < 40) : hb (gM m 2 a) f = (iF m f && sat m (tch m) (tpd m) f) := by
  obtain ⟨i, -, lA, -⟩ := h
  obtain ⟨l1, l2, l3, -, -⟩ := lA a ha
  have l6 := (tx_len a).1
  obtain ⟨ch, n, hok, hn, e36, e37, -, hm⟩ := i.2.2.2.2 a (by omega) l1
  have en : n = (tx a).length := by
    rw [l2] at e36
    rw [nI_eq_iff (by omega) (by omega)] at e36
    exact e36.symm
  subst en
  have ec : ∀ k, k < (tx a).length → ch k = lc a k := fun k hk => by
    have := e37 k hk
    rw [l3 k hk] at this
    have h1 := (tx_at ha hk).1.2
    have h2 := (hok k hk).2
    rw [nI_eq_iff (by omega) (by omega)] at this
    exact this.symm
  rw [hm f (by omega), decide_eq_true hf, Bool.true_and, txtIs_tpd ht]
  congr 1
  refine sat_ch (fun k hk => by rw [ec k hk, txtIs_tch ha ht hk]) (fun p hp => ?_)
  rw [ec p (by omega)]
  exact (tx_at ha (by omega)).2.2 hp
