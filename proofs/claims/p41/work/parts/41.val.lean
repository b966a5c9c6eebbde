/-! ===== the reference's state in words; values of fields ===== -/
theorem FU_ge {n : Nat} (h : n ≤ 2000) : ∃ k, FU = k + n := ⟨2000 - n, by rw [FU_eq]; omega⟩
/-- the first of k, .., k + d - 1 with p -/
def fst? (p : Nat → Bool) : Nat → Nat → Option Nat
  | _, 0 => none
  | k, d + 1 => if p k = true then some k else fst? p (k + 1) d
theorem fst?_cong {p q : Nat → Bool} : ∀ (d k : Nat), (∀ j, k ≤ j → j < k + d → p j = q j) → fst? p k d = fst? q k d
  | 0, k, _ => rfl
  | d + 1, k, h => by
    rw [fst?, fst?, h k (by omega) (by omega), fst?_cong d (k + 1) (fun j h1 h2 => h j (by omega) (by omega))]
theorem fst?_some {p : Nat → Bool} : ∀ {d k j : Nat}, fst? p k d = some j → k ≤ j ∧ j < k + d ∧ p j = true ∧ ∀ i, k ≤ i → i < j → p i = false
  | 0, k, j, h => by cases h
  | d + 1, k, j, h => by
    rw [fst?] at h
    by_cases e : p k = true
    · rw [if_pos e] at h
      cases h
      exact ⟨Nat.le_refl _, by omega, e, fun i h1 h2 => by omega⟩
    · rw [if_neg e] at h
      obtain ⟨h1, h2, h3, h4⟩ := fst?_some h
      refine ⟨by omega, by omega, h3, fun i g1 g2 => ?_⟩
      rcases Nat.eq_or_lt_of_le g1 with q | q
      · subst q; simpa using e
      · exact h4 i q g2
theorem fst?_none {p : Nat → Bool} : ∀ {d k : Nat}, fst? p k d = none → ∀ i, k ≤ i → i < k + d → p i = false
  | 0, k, h, i, h1, h2 => by omega
  | d + 1, k, h, i, h1, h2 => by
    rw [fst?] at h
    by_cases e : p k = true
    · rw [if_pos e] at h; cases h
    · rw [if_neg e] at h
      rcases Nat.eq_or_lt_of_le h1 with q | q
      · subst q; simpa using e
      · exact fst?_none h i q (by omega)
def iT (m : Sx) (c : Nat) : Bool := decide (gA m 26 c ≠ 0)
def od (m : Sx) (k : Nat) : Nat := ix (gA m 28 k)
def mn (m : Sx) (s : Nat) : Nat := ix (gA m 30 s)
def iA (m : Sx) (a : Nat) : Bool := decide (gA m 35 a ≠ 0)
def rl (m : Sx) (a : Nat) : Nat := ix (gA m 36 a)
def WOrd (m : Sx) : Prop := ∀ k, k < 3 → ∃ a, a < 3 ∧ gA m 28 k = nI a
def WVal (m : Sx) : Prop := ∀ c, c < 720 → iT m c = true → ∃ v, v ≤ 9999 ∧ gA m 27 c = nI v
def WStk (m : Sx) : Prop := (∀ f, f < 40 → gA m 29 f = -1 ∨ ∃ s, s < 10 ∧ gA m 29 f = nI s ∧ iF m f = true ∧ ∃ k, k < mn m s ∧ gA m 31 (8 * s + k) = nI f) ∧ (∀ s, s < 10 → ∃ n, n ≤ 8 ∧ gA m 30 s = nI n ∧ n ≠ 1) ∧ (∀ s, s < 10 → ∀ k, k < mn m s → ∃ f, f < 40 ∧ gA m 31 (8 * s + k) = nI f ∧ gA m 29 f = nI s) ∧ (∀ s, s < 10 → ∀ j k, j < k → k < mn m s → gA m 31 (8 * s + j) ≠ gA m 31 (8 * s + k)) ∧ (∀ s, s < 10 → 0 < mn m s → gA m 32 s = -1 ∨ ∃ f, f < 40 ∧ gA m 32 s = nI f ∧ gA m 29 f = nI s)
theorem wOrd_at {m : Sx} (h : WOrd m) {k : Nat} (hk : k < 3) : gA m 28 k = nI (od m k) ∧ od m k < 3 := by
  obtain ⟨a, ha, e⟩ := h k hk
  have : od m k = a := by unfold od; rw [e, ix_nI (by omega)]
  rw [this]
  exact ⟨e, ha⟩
/-- the place in the order of the first source that has a value -/
def src (m : Sx) (f fld : Nat) : Option Nat := fst? (fun k => iT m (18 * f + 6 * od m k + fld)) 0 3
def vOr (m : Sx) (f fld : Nat) (non : Int32) : Int32 := match src m f fld with
  | some j => gA m 27 (18 * f + 6 * od m j + fld)
  | none => non
theorem i18 (f s fld : Nat) : ((18 * nI f) + (6 * nI s)) + nI fld = nI (18 * f + 6 * s + fld) := by
  rw [show (18 : Int32) = nI 18 from rfl, show (6 : Int32) = nI 6 from rfl, nI_mul, nI_mul, nI_add, nI_add]
theorem L_source {m : Sx} (hO : WOrd m) {f fld : Nat} (hf : f < 40) (hl : fld < 6) (kont : Int32 → Option Int32) : ∀ (d k n : Nat), k + d = 3 → d < n → L_X9_source_2 m (nI f) (nI fld) kont n (nI k) = match fst? (fun k => iT m (18 * f + 6 * od m k + fld)) k d with
    | some j => some (gA m 28 j)
    | none => kont (nI 3) := by
  intro d
  induction d with
  | zero =>
    intro k n hk hn
    obtain ⟨n, rfl⟩ : ∃ q, n = q + 1 := ⟨n - 1, by omega⟩
    obtain rfl : k = 3 := by omega
    rw [L_X9_source_2, if_pos (by decide)]
    rfl
  | succ d ih =>
    intro k n hk hn
    obtain ⟨n, rfl⟩ : ∃ q, n = q + 1 := ⟨n - 1, by omega⟩
    obtain ⟨e, ho⟩ := wOrd_at hO (k := k) (by omega)
    rw [L_X9_source_2, if_neg (by rw [show (3 : Int32) = nI 3 from rfl, nI_le_iff (by decide) (by omega)]; omega), gd_pos (vin_nI (by omega) (by decide)), ix_nI (by omega)]
    rw [show gA m 28 k = nI (od m k) from e, i18, gd_pos (vin_nI (by omega) (by decide)), ix_nI (by omega), bd_eq, nI_lit1, fst?]
    by_cases h : gA m 26 (18 * f + 6 * od m k + fld) = 0
    · rw [if_pos h, if_neg (by simp [iT, h]), ih (k + 1) n (by omega) (by omega)]
    · rw [if_neg h, if_pos (by simp [iT, h]), gd_pos (vin_nI (by omega) (by decide)), ← e]
theorem source_eq {m : Sx} (hO : WOrd m) {f fld : Nat} (hf : f < 40) (hl : fld < 6) : f_X9_source m (nI f) (nI fld) = match src m f fld with
    | some j => some (gA m 28 j)
    | none => some (-4) := by
  unfold f_X9_source src
  obtain ⟨q, hq⟩ := FU_ge (n := 4) (by decide)
  rw [hq, ← nI_0, L_source hO hf hl _ 3 0 (q + 4) (by omega) (by omega)]
theorem valueOr_eq {m : Sx} (hO : WOrd m) {f fld : Nat} (hf : f < 40) (hl : fld < 6) (non : Int32) : f_X9_valueOr m (nI f) (nI fld) non = some (vOr m f fld non) := by
  unfold f_X9_valueOr vOr
  rw [source_eq hO hf hl]
  cases hs : src m f fld with
  | none => rfl
  | some j =>
    obtain ⟨-, hj, -, -⟩ := fst?_some hs
    obtain ⟨e, ho⟩ := wOrd_at hO (k := j) (by omega)
    simp only [Option.bind_some]
    rw [e, if_pos (nI_pos' (by omega)), i18, gd_pos (vin_nI (by omega) (by decide)), ix_nI (by omega)]
theorem valueOr1 {m : Sx} (hO : WOrd m) {f : Nat} (hf : f < 40) (non : Int32) : f_X9_valueOr m (nI f) 1 non = some (vOr m f 1 non) := valueOr_eq hO hf (fld := 1) (by decide) non
theorem valueOr2 {m : Sx} (hO : WOrd m) {f : Nat} (hf : f < 40) (non : Int32) : f_X9_valueOr m (nI f) 2 non = some (vOr m f 2 non) := valueOr_eq hO hf (fld := 2) (by decide) non
/-! ===== loops that count up ===== -/
theorem loopUp {σ Rt : Type} (L : Nat → Int32 → σ → Option Rt) (E : σ → Option Rt) (N : Nat) (I : Nat → σ → Prop)
    (hexit : ∀ n y, I N y → L (n + 1) (nI N) y = E y)
    (hstep : ∀ k y, k < N → I k y → ∃ y', I (k + 1) y' ∧ ∀ n, L (n + 1) (nI k) y = L n (nI (k + 1)) y') :
    ∀ (d k n : Nat) (y : σ), k + d = N → d < n → I k y → ∃ y', I N y' ∧ L n (nI k) y = E y' := by
  intro d
  induction d with
  | zero =>
    intro k n y hk hn hI
    obtain ⟨n, rfl⟩ : ∃ q, n = q + 1 := ⟨n - 1, by omega⟩
    obtain rfl : k = N := by omega
    exact ⟨y, hI, hexit n y hI⟩
  | succ d ih =>
    intro k n y hk hn hI
    obtain ⟨n, rfl⟩ : ∃ q, n = q + 1 := ⟨n - 1, by omega⟩
    obtain ⟨y', h1, h2⟩ := hstep k y (by omega) hI
    obtain ⟨z, h3, h4⟩ := ih (k + 1) n y' (by omega) (by omega) h1
    exact ⟨z, h3, by rw [h2, h4]⟩
theorem loopUpE {σ Rt : Type} (L : Nat → Int32 → σ → Option Rt) (E : σ → Option Rt) (N : Nat) (I : Nat → σ → Prop) (S : Nat → σ → Option Rt → Prop)
    (hexit : ∀ n y, I N y → L (n + 1) (nI N) y = E y)
    (hstep : ∀ k y, k < N → I k y → (∃ y', I (k + 1) y' ∧ ∀ n, L (n + 1) (nI k) y = L n (nI (k + 1)) y') ∨ ∃ r, S k y r ∧ ∀ n, L (n + 1) (nI k) y = r) :
    ∀ (d k n : Nat) (y : σ), k + d = N → d < n → I k y → (∃ y', I N y' ∧ L n (nI k) y = E y') ∨ ∃ k' y' r, k' < N ∧ I k' y' ∧ S k' y' r ∧ L n (nI k) y = r := by
  intro d
  induction d with
  | zero =>
    intro k n y hk hn hI
    obtain ⟨n, rfl⟩ : ∃ q, n = q + 1 := ⟨n - 1, by omega⟩
    obtain rfl : k = N := by omega
    exact Or.inl ⟨y, hI, hexit n y hI⟩
  | succ d ih =>
    intro k n y hk hn hI
    obtain ⟨n, rfl⟩ : ∃ q, n = q + 1 := ⟨n - 1, by omega⟩
    rcases hstep k y (by omega) hI with ⟨y', h1, h2⟩ | ⟨r, h1, h2⟩
    · rcases ih (k + 1) n y' (by omega) (by omega) h1 with ⟨z, h3, h4⟩ | ⟨k', z, r, h3, h4, h5, h6⟩
      · exact Or.inl ⟨z, h3, by rw [h2, h4]⟩
      · exact Or.inr ⟨k', z, r, h3, h4, h5, by rw [h2, h6]⟩
    · exact Or.inr ⟨k, y, r, by omega, hI, h1, h2 n⟩
/-- from 0 with the fuel of the functions -/
theorem loop0 {σ Rt : Type} {L : Nat → Int32 → σ → Option Rt} {E : σ → Option Rt} {N : Nat} (hN : N < 2000) {y : σ} (I : Nat → σ → Prop)
    (hexit : ∀ n y, I N y → L (n + 1) (nI N) y = E y)
    (hstep : ∀ k y, k < N → I k y → ∃ y', I (k + 1) y' ∧ ∀ n, L (n + 1) (nI k) y = L n (nI (k + 1)) y') (h0 : I 0 y) : ∃ y', I N y' ∧ L FU 0 y = E y' := by
  rw [← nI_0]
  exact loopUp L E N I hexit hstep N 0 FU y (by omega) (by rw [FU_eq]; exact hN) h0
theorem loop0E {σ Rt : Type} {L : Nat → Int32 → σ → Option Rt} {E : σ → Option Rt} {N : Nat} (hN : N < 2000) {y : σ} (I : Nat → σ → Prop) (S : Nat → σ → Option Rt → Prop)
    (hexit : ∀ n y, I N y → L (n + 1) (nI N) y = E y)
    (hstep : ∀ k y, k < N → I k y → (∃ y', I (k + 1) y' ∧ ∀ n, L (n + 1) (nI k) y = L n (nI (k + 1)) y') ∨ ∃ r, S k y r ∧ ∀ n, L (n + 1) (nI k) y = r) (h0 : I 0 y) : (∃ y', I N y' ∧ L FU 0 y = E y') ∨ ∃ k' y' r, k' < N ∧ I k' y' ∧ S k' y' r ∧ L FU 0 y = r := by
  rw [← nI_0]
  exact loopUpE L E N I S hexit hstep N 0 FU y (by omega) (by rw [FU_eq]; exact hN) h0
/-- the counter's test -/
theorem le_lit {N k : Nat} {x : Int32} (hx : x = nI N) (hN : N < 2 ^ 31) (hk : k < 2 ^ 31) : (x ≤ nI k) ↔ N ≤ k := by rw [hx]; exact nI_le_iff hN hk
theorem ngo {N k : Nat} {x : Int32} (hx : x = nI N) (h : k < N) (hN : N < 2 ^ 31) : ¬ x ≤ nI k := by rw [hx, nI_le_iff hN (by omega)]; omega
theorem ngt {N k : Nat} {x : Int32} (hx : x = nI N) (h : k ≤ N) (hN : N < 2 ^ 31) : ¬ x < nI k := by rw [hx, nI_lt_iff hN (by omega)]; omega
theorem lt_lit {N k : Nat} {x : Int32} (hx : x = nI N) (hN : N < 2 ^ 31) (hk : k < 2 ^ 31) : (x < nI k) ↔ N < k := by rw [hx]; exact nI_lt_iff hN hk
theorem nlt_lit {N k : Nat} {x : Int32} (hx : x = nI N) (hN : N < 2 ^ 31) (hk : k < 2 ^ 31) : (nI k < x) ↔ k < N := by rw [hx]; exact nI_lt_iff hk hN
theorem nle_lit {N k : Nat} {x : Int32} (hx : x = nI N) (hN : N < 2 ^ 31) (hk : k < 2 ^ 31) : (nI k ≤ x) ↔ k ≤ N := by rw [hx]; exact nI_le_iff hk hN
theorem nI_ne_m1 {k : Nat} (hk : k < 2 ^ 31) : ¬ nI k = -1 := by
  intro h
  have := congrArg Int32.toInt h
  rw [nI_toInt hk] at this
  have e : (-1 : Int32).toInt = -1 := by decide
  omega
/-! ===== reads and writes of the abstract state ===== -/
theorem gI_pI (t : Sx) (k j : Nat) (v : Int32) : gI (pI t k v) j = if j = k then v else gI t j := rfl
theorem gL_pI (t : Sx) (k j : Nat) (v : Int32) : gL (pI t k v) j = gL t j := rfl
theorem gA_pI (t : Sx) (k j : Nat) (v : Int32) : gA (pI t k v) j = gA t j := rfl
theorem gM_pI (t : Sx) (k j : Nat) (v : Int32) : gM (pI t k v) j = gM t j := rfl
theorem gI_pL (t : Sx) (k j : Nat) (v : Int64) : gI (pL t k v) j = gI t j := rfl
theorem gL_pL (t : Sx) (k j : Nat) (v : Int64) : gL (pL t k v) j = if j = k then v else gL t j := rfl
theorem gA_pL (t : Sx) (k j : Nat) (v : Int64) : gA (pL t k v) j = gA t j := rfl
theorem gM_pL (t : Sx) (k j : Nat) (v : Int64) : gM (pL t k v) j = gM t j := rfl
theorem gI_pA (t : Sx) (a k j : Nat) (v : Int32) : gI (pA t a k v) j = gI t j := rfl
theorem gL_pA (t : Sx) (a k j : Nat) (v : Int32) : gL (pA t a k v) j = gL t j := rfl
theorem gM_pA (t : Sx) (a k j : Nat) (v : Int32) : gM (pA t a k v) j = gM t j := rfl
theorem gA_pA (t : Sx) (a k b : Nat) (v : Int32) : gA (pA t a k v) b = if b = a then upd (gA t a) k v else gA t b := by
  show (upf t.2.2.1 a (upd (t.2.2.1 a) k v)) b = _
  unfold upf
  by_cases h : b = a <;> simp [h] <;> rfl
theorem gA_pA_ne {t : Sx} {a k b : Nat} {v : Int32} (h : b ≠ a) : gA (pA t a k v) b = gA t b := by rw [gA_pA, if_neg h]
theorem gA_pA_at (t : Sx) (a k j : Nat) (v : Int32) : gA (pA t a k v) a j = if j = k then v else gA t a j := by rw [gA_pA, if_pos rfl]; rfl
theorem gI_pM (t : Sx) (a k j : Nat) (v : Int64) : gI (pM t a k v) j = gI t j := rfl
theorem gL_pM (t : Sx) (a k j : Nat) (v : Int64) : gL (pM t a k v) j = gL t j := rfl
theorem gA_pM (t : Sx) (a k j : Nat) (v : Int64) : gA (pM t a k v) j = gA t j := rfl
theorem gM_pM (t : Sx) (a k b : Nat) (v : Int64) : gM (pM t a k v) b = if b = a then vp_updL (gM t a) k v else gM t b := by
  show (upf t.2.2.2 a (vp_updL (t.2.2.2 a) k v)) b = _
  unfold upf
  by_cases h : b = a <;> simp [h] <;> rfl
theorem gM_pM_ne {t : Sx} {a k b : Nat} {v : Int64} (h : b ≠ a) : gM (pM t a k v) b = gM t b := by rw [gM_pM, if_neg h]
theorem gM_pM_at (t : Sx) (a k j : Nat) (v : Int64) : gM (pM t a k v) a j = if j = k then v else gM t a j := by rw [gM_pM, if_pos rfl]; rfl
theorem gI_pW (t : Sx) (a j : Nat) (f : Nat → Int32) : gI (pW t a f) j = gI t j := rfl
theorem gL_pW (t : Sx) (a j : Nat) (f : Nat → Int32) : gL (pW t a f) j = gL t j := rfl
theorem gM_pW (t : Sx) (a j : Nat) (f : Nat → Int32) : gM (pW t a f) j = gM t j := rfl
theorem gA_pW (t : Sx) (a b : Nat) (f : Nat → Int32) : gA (pW t a f) b = if b = a then f else gA t b := by
  show (upf t.2.2.1 a f) b = _
  unfold upf
  by_cases h : b = a <;> simp [h] <;> rfl
/-- the class's part of the state, the reference's part -/
def FrM (c c' : Sx) : Prop := (∀ a, 23 ≤ a → a < 100 → gA c' a = gA c a) ∧ (∀ k, 52 ≤ k → k < 100 → gI c' k = gI c k) ∧ gM c' 2 = gM c 2
/-- what joined less what left is the size; digests are no less than 0; the order is one of the six -/
def MVs (m : Sx) : Prop := ∀ a, a < 8 → iA m a = true → gA m 40 (2 * a + 1) - gA m 40 (2 * a) = nI (fb_ct (hb (gM m 2 a)) 40)
def Dg (m : Sx) : Prop := ∀ f, f < 40 → 0 ≤ gA m 24 f
def Op (m : Sx) : Prop := ∃ x y z, x < 3 ∧ y < 3 ∧ z < 3 ∧ x ≠ y ∧ x ≠ z ∧ y ≠ z ∧ gA m 28 0 = nI x ∧ gA m 28 1 = nI y ∧ gA m 28 2 = nI z
def Xs (m : Sx) : Prop := MVs m ∧ Dg m ∧ Op m
theorem Xs.on {m m' : Sx} (h : Xs m) (e24 : gA m' 24 = gA m 24) (e28 : gA m' 28 = gA m 28) (e35 : gA m' 35 = gA m 35) (e40 : gA m' 40 = gA m 40) (eM : gM m' 2 = gM m 2) : Xs m' := by
  have ei : iA m' = iA m := by funext a; unfold iA; rw [e35]
  unfold Xs MVs Dg Op
  rw [e24, e28, e40, eM, ei]
  exact h
def FrC (m m' : Sx) : Prop := (∀ a, (a < 23 ∨ 100 ≤ a) ∨ (35 ≤ a ∧ a < 40) → gA m' a = gA m a) ∧ (∀ k, k < 52 ∨ 100 ≤ k → gI m' k = gI m k) ∧ (∀ k, gL m' k = gL m k) ∧ gM m' 0 = gM m 0 ∧ gM m' 1 = gM m 1 ∧ (Xs m → Xs m')
theorem FrC.ofM {m m' : Sx} (hA : ∀ a, (a < 23 ∨ 100 ≤ a) ∨ (35 ≤ a ∧ a < 41) ∨ a = 24 ∨ a = 28 → gA m' a = gA m a) (hI : ∀ k, k < 52 ∨ 100 ≤ k → gI m' k = gI m k) (hL : ∀ k, gL m' k = gL m k) (hM : gM m' = gM m) : FrC m m' :=
  ⟨fun a h => hA a (by omega), hI, hL, by rw [hM], by rw [hM], fun w => w.on (hA 24 (by omega)) (hA 28 (by omega)) (hA 35 (by omega)) (hA 40 (by omega)) (by rw [hM])⟩
theorem FrM.rf (c : Sx) : FrM c c := ⟨fun _ _ _ => rfl, fun _ _ _ => rfl, rfl⟩
theorem FrC.rf (c : Sx) : FrC c c := ⟨fun _ _ => rfl, fun _ _ => rfl, fun _ => rfl, rfl, rfl, fun w => w⟩
theorem FrM.tr {a b c : Sx} (h : FrM a b) (g : FrM b c) : FrM a c := ⟨fun i h1 h2 => (g.1 i h1 h2).trans (h.1 i h1 h2), fun i h1 h2 => (g.2.1 i h1 h2).trans (h.2.1 i h1 h2), g.2.2.trans h.2.2⟩
theorem FrC.tr {a b c : Sx} (h : FrC a b) (g : FrC b c) : FrC a c := ⟨fun i h1 => (g.1 i h1).trans (h.1 i h1), fun i h1 => (g.2.1 i h1).trans (h.2.1 i h1), fun k => (g.2.2.1 k).trans (h.2.2.1 k), g.2.2.2.1.trans h.2.2.2.1, g.2.2.2.2.1.trans h.2.2.2.2.1, fun w => g.2.2.2.2.2 (h.2.2.2.2.2 w)⟩
theorem FrM.pI {t : Sx} {k : Nat} {v : Int32} (h : k < 52 ∨ 100 ≤ k) : FrM t (pI t k v) := ⟨fun _ _ _ => rfl, fun j h1 h2 => by rw [gI_pI, if_neg (by omega)], rfl⟩
theorem FrM.pL {t : Sx} {k : Nat} {v : Int64} : FrM t (pL t k v) := ⟨fun _ _ _ => rfl, fun _ _ _ => rfl, rfl⟩
theorem FrM.pA {t : Sx} {a k : Nat} {v : Int32} (h : a < 23 ∨ 100 ≤ a) : FrM t (pA t a k v) := ⟨fun j h1 h2 => gA_pA_ne (by omega), fun _ _ _ => rfl, rfl⟩
theorem FrM.pW {t : Sx} {a : Nat} {f : Nat → Int32} (h : a < 23 ∨ 100 ≤ a) : FrM t (pW t a f) := ⟨fun j h1 h2 => by rw [gA_pW, if_neg (by omega)], fun _ _ _ => rfl, rfl⟩
theorem FrM.pM {t : Sx} {a k : Nat} {v : Int64} (h : a < 2) : FrM t (pM t a k v) := ⟨fun _ _ _ => rfl, fun _ _ _ => rfl, gM_pM_ne (by omega)⟩
theorem FrC.pI {t : Sx} {k : Nat} {v : Int32} (h : 52 ≤ k ∧ k < 100) : FrC t (pI t k v) := ⟨fun _ _ => rfl, fun j h1 => by rw [gI_pI, if_neg (by omega)], fun _ => rfl, rfl, rfl, fun w => w⟩
theorem FrC.pA {t : Sx} {a k : Nat} {v : Int32} (h : (23 ≤ a ∧ a < 35 ∧ a ≠ 24 ∧ a ≠ 28) ∨ (40 < a ∧ a < 100)) : FrC t (pA t a k v) := FrC.ofM (fun j h1 => gA_pA_ne (by omega)) (fun _ _ => rfl) (fun _ => rfl) rfl
theorem frC_pA24 {t : Sx} {k : Nat} {v : Int32} (hv : 0 ≤ v) : FrC t (pA t 24 k v) := ⟨fun j h1 => gA_pA_ne (by omega), fun _ _ => rfl, fun _ => rfl, rfl, rfl, fun w => ⟨w.1, fun f hf => by
  rw [gA_pA_at]
  split
  · exact hv
  · exact w.2.1 f hf, w.2.2⟩⟩
/-! ===== values: the class's side ===== -/
def RPres (c m : Sx) : Prop := ∀ k, k < 64 → hb (gL c 8) k = (decide (k < 40) && iF m k)
def RVal (c m : Sx) : Prop := ∀ f, f < 40 → iF m f = true → ∀ j, j < 18 → gA c 11 (18 * f + j) = if iT m (18 * f + j) = true then gA m 27 (18 * f + j) else -1
def ROrd (c m : Sx) : Prop := ∀ k, k < 3 → gA c 13 k = gA m 28 k
def OnA (a0 : Nat) (c c' : Sx) : Prop := (∀ a, a ≠ a0 → gA c' a = gA c a) ∧ gI c' = gI c ∧ gL c' = gL c ∧ gM c' = gM c
theorem OnA.rf (a0 : Nat) (c : Sx) : OnA a0 c c := ⟨fun _ _ => rfl, rfl, rfl, rfl⟩
theorem OnA.pA {a0 : Nat} {c y : Sx} (h : OnA a0 c y) (k : Nat) (v : Int32) : OnA a0 c (pA y a0 k v) := ⟨fun a ha => by rw [gA_pA_ne ha, h.1 a ha], h.2.1, h.2.2.1, h.2.2.2⟩
theorem OnA.frM {a0 : Nat} {c y : Sx} (h : OnA a0 c y) (ha : a0 < 23 ∨ 100 ≤ a0) : FrM c y := ⟨fun a h1 h2 => h.1 a (by omega), fun k _ _ => by rw [h.2.1], by rw [h.2.2.2]⟩
theorem i18c (f s fld : Nat) : (((nI f * 3) + nI s) * 6) + nI fld = nI (18 * f + 6 * s + fld) := by
  rw [show (3 : Int32) = nI 3 from rfl, show (6 : Int32) = nI 6 from rfl, nI_mul, nI_add, nI_mul, nI_add]
  congr 1
  omega
theorem i6 (f k : Nat) : (nI f * 6) + nI k = nI (6 * f + k) := by
  rw [show (6 : Int32) = nI 6 from rfl, nI_mul, nI_add, Nat.mul_comm]
theorem told_eq (c : Sx) {f s fld : Nat} (hf : f < 40) (hs : s < 3) (hl : fld < 6) : f_X1_told c (nI f) (nI s) (nI fld) = some (gA c 11 (18 * f + 6 * s + fld)) := by
  unfold f_X1_told f_X1_slot
  rw [Option.bind_some, i18c, gd_pos (vin_nI (by omega) (by decide)), ix_nI (by omega)]
theorem tell_eq (c : Sx) {f s fld : Nat} (hf : f < 40) (hs : s < 3) (hl : fld < 6) (v : Int32) : f_X1_tell c (nI f) (nI s) (nI fld) v = some (pA c 11 (18 * f + 6 * s + fld) v) := by
  unfold f_X1_tell f_X1_slot
  rw [Option.bind_some, i18c, gd_pos (vin_nI (by omega) (by decide)), ix_nI (by omega)]
  rfl
theorem settledValue_eq (c : Sx) {f fld : Nat} (hf : f < 40) (hl : fld < 6) : f_X1_settledValue c (nI f) (nI fld) = some (gA c 12 (6 * f + fld)) := by
  unfold f_X1_settledValue
  rw [i6, gd_pos (vin_nI (by omega) (by decide)), ix_nI (by omega)]
theorem holds_pres {c m : Sx} (h : RPres c m) {k : Nat} (hk : k < 40) : f_X8_holds c (gL c 8) (nI k) = some (b2 (iF m k)) := by
  rw [holds_eq c _ (by omega), h k (by omega), decide_eq_true hk, Bool.true_and]
theorem fil_pres {c m : Sx} (h : RPres c m) (x : Int32) : fil (hb (gL c 8)) x = fil (iF m) x := fil_cong (fun k hk => by rw [h k (by omega), decide_eq_true hk, Bool.true_and]) x
theorem L_firstTeller {c m : Sx} (hO : WOrd m) (hV : WVal m) (rO : ROrd c m) (rV : RVal c m) {f fld : Nat} (hf : f < 40) (hp : iF m f = true) (hl : fld < 6) (kont : Int32 → Option Int32) : ∀ (d k n : Nat), k + d = 3 → d < n → L_X1_firstTeller_2 c (nI f) (nI fld) kont n (nI k) = match fst? (fun k => iT m (18 * f + 6 * od m k + fld)) k d with
    | some j => some (gA m 28 j)
    | none => kont (nI 3) := by
  intro d
  induction d with
  | zero =>
    intro k n hk hn
    obtain ⟨n, rfl⟩ : ∃ q, n = q + 1 := ⟨n - 1, by omega⟩
    obtain rfl : k = 3 := by omega
    rw [L_X1_firstTeller_2, if_pos (by decide)]
    rfl
  | succ d ih =>
    intro k n hk hn
    obtain ⟨n, rfl⟩ : ∃ q, n = q + 1 := ⟨n - 1, by omega⟩
    obtain ⟨e, ho⟩ := wOrd_at hO (k := k) (by omega)
    rw [L_X1_firstTeller_2, if_neg (ngo (x := 3) (N := 3) rfl (by omega) (by decide)), gd_pos (vin_nI (by omega) (by decide)), ix_nI (by omega)]
    rw [rO k (by omega), e, told_eq c hf ho hl, Option.bind_some, nI_lit1, fst?]
    have hr := rV f hf hp (6 * od m k + fld) (by omega)
    rw [← Nat.add_assoc] at hr
    by_cases h : iT m (18 * f + 6 * od m k + fld) = true
    · rw [if_pos h] at hr
      obtain ⟨v, hv, ev⟩ := hV _ (by omega) h
      rw [if_pos h, hr, ev, if_neg (nI_ne_m1 (by omega)), gd_pos (vin_nI (by omega) (by decide)), ← e]
    · rw [if_neg h] at hr
      rw [if_neg h, hr, if_pos rfl, ih (k + 1) n (by omega) (by omega)]
theorem firstTeller_eq {c m : Sx} (hO : WOrd m) (hV : WVal m) (rO : ROrd c m) (rV : RVal c m) {f fld : Nat} (hf : f < 40) (hp : iF m f = true) (hl : fld < 6) : f_X1_firstTeller c (nI f) (nI fld) = match src m f fld with
    | some j => some (gA m 28 j)
    | none => some (-1) := by
  unfold f_X1_firstTeller src
  obtain ⟨q, hq⟩ := FU_ge (n := 4) (by decide)
  rw [hq, ← nI_0, L_firstTeller hO hV rO rV hf hp hl _ 3 0 (q + 4) (by omega) (by omega)]
/-- the tags of the sources ahead of k -/
def tgR (m : Sx) (f : Nat) : Nat → Int32
  | 0 => 0
  | k + 1 => tgR m f k ||| (if iT m (18 * f + 6 * k + 5) = true then gA m 27 (18 * f + 6 * k + 5) else 0)
def tgs (m : Sx) (f : Nat) : Int32 := tgR m f 3
theorem tags_eq {m : Sx} {f : Nat} (hf : f < 40) : f_X9_tags m (nI f) = some (tgs m f) := by
  unfold f_X9_tags
  obtain ⟨y, hy, e⟩ := loop0 (L := fun n i s => L_X9_tags_4 m (nI f) (fun z2 z3 => some z2) n s i) (E := fun s => some s) (N := 3) (by decide) (y := (0 : Int32)) (fun k s => s = tgR m f k)
    (fun n y h => by show L_X9_tags_4 _ _ _ _ _ _ = _; rw [L_X9_tags_4, if_pos (by decide)])
    (fun k y hk h => ⟨_, rfl, fun n => by
      show L_X9_tags_4 _ _ _ _ _ _ = L_X9_tags_4 _ _ _ _ _ _
      have i5 : ((18 * nI f) + (6 * nI k)) + 5 = nI (18 * f + 6 * k + 5) := i18 f k 5
      rw [L_X9_tags_4, if_neg (ngo (x := 3) (N := 3) rfl (by omega) (by decide)), i5, gd_pos (vin_nI (by omega) (by decide)), ix_nI (by omega), nI_lit1, h, tgR]
      by_cases q : gA m 26 (18 * f + 6 * k + 5) = 0
      · rw [if_pos q, if_neg (by simp [iT, q])]
      · rw [if_neg q, if_pos (by simp [iT, q]), gd_pos (vin_nI (by omega) (by decide)), bd_eq]⟩) rfl
  rw [e, hy]
  rfl
theorem tagsC {c m : Sx} (hV : WVal m) (rV : RVal c m) {f : Nat} (hf : f < 40) (hp : iF m f = true) (kont : Int32 → Int32 → Option Sx) : L_X1_settleFile_51 c (nI f) kont FU 0 0 = kont (tgs m f) (nI 3) := by
  obtain ⟨y, hy, e⟩ := loop0 (L := fun n i s => L_X1_settleFile_51 c (nI f) kont n s i) (E := fun s => kont s (nI 3)) (N := 3) (by decide) (y := (0 : Int32)) (fun k s => s = tgR m f k)
    (fun n y h => by show L_X1_settleFile_51 _ _ _ _ _ _ = _; rw [L_X1_settleFile_51, if_pos (by decide)])
    (fun k y hk h => ⟨_, rfl, fun n => by
      show L_X1_settleFile_51 _ _ _ _ _ _ = L_X1_settleFile_51 _ _ _ _ _ _
      have hr := rV f hf hp (6 * k + 5) (by omega)
      rw [← Nat.add_assoc] at hr
      rw [L_X1_settleFile_51, if_neg (ngo (x := 3) (N := 3) rfl (by omega) (by decide)), show (5 : Int32) = nI 5 from rfl, told_eq c hf hk (by decide), Option.bind_some, bd_eq, nI_lit1, h, hr, tgR]
      by_cases q : iT m (18 * f + 6 * k + 5) = true
      · obtain ⟨v, hv, ev⟩ := hV _ (by omega) q
        rw [if_pos q, ev, if_neg (nI_pos (by omega)), if_pos q]
      · rw [if_neg q, if_pos (by decide), if_neg q]⟩) rfl
  rw [e, hy]
  rfl
theorem RVal.on {c y m : Sx} (h : RVal c m) (e : gA y 11 = gA c 11) : RVal y m := fun f hf hp j hj => by rw [e]; exact h f hf hp j hj
theorem ROrd.on {c y m : Sx} (h : ROrd c m) (e : gA y 13 = gA c 13) : ROrd y m := fun k hk => by rw [e]; exact h k hk
theorem RPres.on {c y m : Sx} (h : RPres c m) (e : gL y 8 = gL c 8) : RPres y m := fun k hk => by rw [e]; exact h k hk
theorem settleFile_eq {c m : Sx} (hO : WOrd m) (hV : WVal m) (rO : ROrd c m) (rV : RVal c m) {f : Nat} (hf : f < 40) (hp : iF m f = true) : ∃ c', f_X1_settleFile c (nI f) = some c' ∧ OnA 12 c c' ∧ (∀ j, (j < 6 * f ∨ 6 * f + 6 ≤ j) → gA c' 12 j = gA c 12 j) ∧ (∀ fld, fld < 5 → gA c' 12 (6 * f + fld) = vOr m f fld (-1)) ∧ gA c' 12 (6 * f + 5) = tgs m f := by
  unfold f_X1_settleFile
  obtain ⟨y, ⟨hy1, hy2⟩, e⟩ := loop0 (L := fun n i s => L_X1_settleFile_2 (nI f) (fun z5 t6 => L_X1_settleFile_51 t6 (nI f) (fun z9 z10 => gd (vp_in ((nI f * 6) + 5) 240) (bd (pA t6 12 (ix ((nI f * 6) + 5)) z9) fun t11 => some t11)) FU (0) (0)) n i s) (E := fun s => some (pA s 12 (6 * f + 5) (tgs m f))) (N := 5) (by decide) (y := c)
    (fun k s => OnA 12 c s ∧ ∀ j, gA s 12 j = if 6 * f ≤ j ∧ j < 6 * f + k then vOr m f (j - 6 * f) (-1) else gA c 12 j)
    (fun n y h => by
      show L_X1_settleFile_2 _ _ _ _ _ = _
      rw [L_X1_settleFile_2, if_pos (by decide), tagsC hV (rV.on (h.1.1 11 (by decide))) hf hp, show (5 : Int32) = nI 5 from rfl, i6, gd_pos (vin_nI (by omega) (by decide)), ix_nI (by omega), bd_eq])
    (fun k y hk h => ⟨pA y 12 (6 * f + k) (vOr m f k (-1)), ⟨h.1.pA _ _, fun j => by
      rw [gA_pA_at, h.2 j]
      by_cases q : j = 6 * f + k
      · subst q
        rw [if_pos rfl, if_pos ⟨by omega, by omega⟩]
        congr 1
        omega
      · rw [if_neg q]
        by_cases q2 : 6 * f ≤ j ∧ j < 6 * f + k
        · rw [if_pos q2, if_pos ⟨q2.1, by omega⟩]
        · rw [if_neg q2, if_neg (by omega)]⟩, fun n => by
      show L_X1_settleFile_2 _ _ _ _ _ = L_X1_settleFile_2 _ _ _ _ _
      have rV' := rV.on (h.1.1 11 (by decide))
      have rO' := rO.on (h.1.1 13 (by decide))
      rw [L_X1_settleFile_2, if_neg (ngt (x := 4) (N := 4) rfl (by omega) (by decide)), firstTeller_eq hO hV rO' rV' hf hp (by omega), vOr]
      cases hs : src m f k with
      | none =>
        dsimp only
        rw [Option.bind_some, if_pos rfl, i6, gd_pos (vin_nI (by omega) (by decide)), ix_nI (by omega), bd_eq, nI_lit1]
      | some j =>
        obtain ⟨-, hj, hT, -⟩ := fst?_some hs
        obtain ⟨ee, ho⟩ := wOrd_at hO (k := j) (by omega)
        have hr := rV' f hf hp (6 * od m j + k) (by omega)
        rw [← Nat.add_assoc, if_pos hT] at hr
        dsimp only
        rw [Option.bind_some, ee, if_neg (nI_ne_m1 (by omega)), told_eq y hf ho (by omega), Option.bind_some, i6, gd_pos (vin_nI (by omega) (by decide)), ix_nI (by omega), bd_eq, nI_lit1, hr]⟩)
    ⟨OnA.rf _ _, fun j => by rw [if_neg (by omega)]⟩
  refine ⟨_, e, hy1.pA _ _, fun j hj => ?_, fun fld hfl => ?_, ?_⟩
  · rw [gA_pA_at, if_neg (by omega), hy2, if_neg (by omega)]
  · rw [gA_pA_at, if_neg (by omega), hy2, if_pos ⟨by omega, by omega⟩]
    congr 1
    omega
  · rw [gA_pA_at, if_pos rfl]
def DVal (c m : Sx) : Prop := ∀ f, f < 40 → iF m f = true → (∀ fld, fld < 5 → gA c 12 (6 * f + fld) = vOr m f fld (-1)) ∧ gA c 12 (6 * f + 5) = tgs m f
theorem settleValues_eq {c m : Sx} (hO : WOrd m) (hV : WVal m) (rP : RPres c m) (rO : ROrd c m) (rV : RVal c m) : ∃ c', f_X1_settleValues c = some c' ∧ OnA 12 c c' ∧ DVal c' m := by
  unfold f_X1_settleValues
  obtain ⟨y, ⟨hy1, hy2⟩, e⟩ := loop0 (L := fun n i s => L_X1_settleValues_2 (fun z3 t4 => some t4) n i s) (E := fun s => some s) (N := 40) (by decide) (y := c)
    (fun k s => OnA 12 c s ∧ ∀ f, f < k → iF m f = true → (∀ fld, fld < 5 → gA s 12 (6 * f + fld) = vOr m f fld (-1)) ∧ gA s 12 (6 * f + 5) = tgs m f)
    (fun n y h => by show L_X1_settleValues_2 _ _ _ _ = _; rw [L_X1_settleValues_2, if_pos (by decide)])
    (fun k y hk h => by
      have hst : ∀ n, L_X1_settleValues_2 (fun z3 t4 => some t4) (n + 1) (nI k) y = if b2 (iF m k) = 0 then L_X1_settleValues_2 (fun z3 t4 => some t4) n (nI (k + 1)) y else (f_X1_settleFile y (nI k)).bind fun r2 => L_X1_settleValues_2 (fun z3 t4 => some t4) n (nI (k + 1)) r2 := fun n => by
        rw [L_X1_settleValues_2, if_neg (ngo (x := 40) (N := 40) rfl (by omega) (by decide)), holds_pres (rP.on (by rw [h.1.2.2.1])) hk, Option.bind_some, nI_lit1]
      cases hk2 : iF m k with
      | false =>
        refine ⟨y, ⟨h.1, fun f hf hp => ?_⟩, fun n => by
          show L_X1_settleValues_2 _ _ _ _ = L_X1_settleValues_2 _ _ _ _
          rw [hst, hk2]; rfl⟩
        rcases Nat.eq_or_lt_of_le (Nat.lt_succ_iff.mp hf) with q | q
        · subst q; rw [hk2] at hp; cases hp
        · exact h.2 f q hp
      | true =>
        obtain ⟨y', e1, e2, e3, e4, e5⟩ := settleFile_eq hO hV (rO.on (h.1.1 13 (by decide))) (rV.on (h.1.1 11 (by decide))) hk hk2
        refine ⟨y', ⟨⟨fun a ha => (e2.1 a ha).trans (h.1.1 a ha), e2.2.1.trans h.1.2.1, e2.2.2.1.trans h.1.2.2.1, e2.2.2.2.trans h.1.2.2.2⟩, fun f hf hp => ?_⟩, fun n => by
          show L_X1_settleValues_2 _ _ _ _ = L_X1_settleValues_2 _ _ _ _
          rw [hst, hk2, if_neg (by decide), e1, Option.bind_some]⟩
        rcases Nat.eq_or_lt_of_le (Nat.lt_succ_iff.mp hf) with q | q
        · subst q; exact ⟨e4, e5⟩
        · obtain ⟨g1, g2⟩ := h.2 f q hp
          exact ⟨fun fld hfl => by rw [e3 _ (by omega), g1 fld hfl], by rw [e3 _ (by omega), g2]⟩)
    ⟨OnA.rf _ _, fun f hf => by omega⟩
  exact ⟨y, e, hy1, hy2⟩
theorem settledValue1 (c : Sx) {f : Nat} (hf : f < 40) : f_X1_settledValue c (nI f) 1 = some (gA c 12 (6 * f + 1)) := settledValue_eq c hf (fld := 1) (by decide)
theorem settledValue2 (c : Sx) {f : Nat} (hf : f < 40) : f_X1_settledValue c (nI f) 2 = some (gA c 12 (6 * f + 2)) := settledValue_eq c hf (fld := 2) (by decide)
