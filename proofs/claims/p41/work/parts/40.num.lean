/-! pasted of the kit: counts, bits (starting texts) -/
def fb_ct (p : Nat → Bool) : Nat → Nat
  | 0 => 0
  | n + 1 => fb_ct p n + (if p n then 1 else 0)
theorem fb_ct_succ (p : Nat → Bool) (n : Nat) : fb_ct p (n + 1) = fb_ct p n + (if p n then 1 else 0) := rfl
theorem fb_ct_le (p : Nat → Bool) : ∀ n, fb_ct p n ≤ n
  | 0 => Nat.le_refl _
  | n + 1 => by
    have h := fb_ct_le p n
    rw [fb_ct_succ]
    split <;> omega
theorem fb_ct_step (p : Nat → Bool) (m : Nat) : ∀ n, fb_ct p m ≤ fb_ct p (m + n)
  | 0 => Nat.le_refl _
  | n + 1 => by
    have h := fb_ct_step p m n
    show fb_ct p m ≤ fb_ct p (m + n + 1)
    rw [fb_ct_succ]
    omega
theorem fb_ct_mono (p : Nat → Bool) {m n : Nat} (h : m ≤ n) : fb_ct p m ≤ fb_ct p n := by
  have := fb_ct_step p m (n - m)
  rwa [Nat.add_sub_cancel' h] at this
theorem fb_ct_cong {p q : Nat → Bool} : ∀ {n : Nat}, (∀ k, k < n → p k = q k) → fb_ct p n = fb_ct q n
  | 0, _ => rfl
  | n + 1, h => by
    rw [fb_ct_succ, fb_ct_succ, fb_ct_cong (fun k hk => h k (by omega)), h n (by omega)]
/-- one place changed -/
theorem fb_ct_out (p : Nat → Bool) (b : Bool) {i n : Nat} (h : n ≤ i) : fb_ct (fun k => if k = i then b else p k) n = fb_ct p n :=
  fb_ct_cong fun k hk => if_neg (by omega)
theorem fb_ct_upd (p : Nat → Bool) (b : Bool) {i : Nat} : ∀ {n : Nat}, i < n → fb_ct (fun k => if k = i then b else p k) n + (if p i then 1 else 0) = fb_ct p n + (if b then 1 else 0)
  | 0, h => absurd h (Nat.not_lt_zero i)
  | n + 1, h => by
    rw [fb_ct_succ, fb_ct_succ]
    rcases Nat.lt_or_ge i n with q | q
    · have := fb_ct_upd p b q
      have e : (if n = i then b else p n) = p n := if_neg (by omega)
      rw [e]
      omega
    · have e : i = n := by omega
      subst e
      rw [fb_ct_out p b (Nat.le_refl _)]
      simp only [if_true]
      omega
theorem fb_ct_sub {p q : Nat → Bool} : ∀ {n : Nat}, (∀ k, k < n → p k = true → q k = true) → fb_ct p n ≤ fb_ct q n
  | 0, _ => Nat.le_refl _
  | n + 1, h => by
    have h1 := fb_ct_sub (n := n) (p := p) (q := q) (fun k hk => h k (by omega))
    have h2 := h n (by omega)
    rw [fb_ct_succ, fb_ct_succ]
    cases hp : p n <;> cases hq : q n <;> simp_all <;> omega
theorem fb_ct_or {p q : Nat → Bool} : ∀ {n : Nat}, (∀ k, k < n → ¬ (p k = true ∧ q k = true)) → fb_ct (fun k => p k || q k) n = fb_ct p n + fb_ct q n
  | 0, _ => rfl
  | n + 1, h => by
    have h1 := fb_ct_or (n := n) (p := p) (q := q) (fun k hk => h k (by omega))
    have h2 := h n (by omega)
    rw [fb_ct_succ, fb_ct_succ, fb_ct_succ, h1]
    cases hp : p n <;> cases hq : q n <;> simp_all <;> omega
theorem fb_ct_not (p : Nat → Bool) : ∀ n, fb_ct p n + fb_ct (fun k => !p k) n = n
  | 0 => rfl
  | n + 1 => by
    have h := fb_ct_not p n
    rw [fb_ct_succ, fb_ct_succ]
    cases p n <;> simp <;> omega
theorem fb_ct_split (p : Nat → Bool) (m : Nat) : ∀ n, fb_ct p (m + n) = fb_ct p m + fb_ct (fun k => p (m + k)) n
  | 0 => rfl
  | n + 1 => by
    have h := fb_ct_split p m n
    show fb_ct p (m + n + 1) = _
    rw [fb_ct_succ, fb_ct_succ, h, Nat.add_assoc]
theorem fb_ct_zero {p : Nat → Bool} : ∀ {n : Nat}, fb_ct p n = 0 ↔ ∀ k, k < n → p k = false
  | 0 => ⟨fun _ k hk => absurd hk (Nat.not_lt_zero k), fun _ => rfl⟩
  | n + 1 => by
    have h := fb_ct_zero (p := p) (n := n)
    rw [fb_ct_succ]
    constructor
    · intro e k hk
      have e1 : fb_ct p n = 0 := by omega
      rcases Nat.lt_or_ge k n with q | q
      · exact h.mp e1 k q
      · have ek : k = n := by omega
        subst ek
        cases hp : p k
        · rfl
        · simp [hp] at e
    · intro a
      rw [h.mpr (fun k hk => a k (by omega)), a n (by omega)]
      rfl
theorem fb_ct_pos {p : Nat → Bool} {n : Nat} : 0 < fb_ct p n ↔ ∃ k, k < n ∧ p k = true := by
  constructor
  · intro h
    refine Classical.byContradiction fun hx => ?_
    have := fb_ct_zero.mpr (fun k hk => by
      cases hp : p k
      · rfl
      · exact absurd ⟨k, hk, hp⟩ hx : ∀ k, k < n → p k = false)
    omega
  · rintro ⟨k, hk, hp⟩
    rcases Nat.eq_zero_or_pos (fb_ct p n) with e | e
    · have := fb_ct_zero.mp e k hk
      rw [this] at hp
      cases hp
    · exact e
theorem fb_ct_all {p : Nat → Bool} {n : Nat} : fb_ct p n = n ↔ ∀ k, k < n → p k = true := by
  have h := fb_ct_not p n
  constructor
  · intro e k hk
    have z : fb_ct (fun k => !p k) n = 0 := by omega
    have := fb_ct_zero.mp z k hk
    cases hp : p k
    · simp [hp] at this
    · rfl
  · intro a
    have z : fb_ct (fun k => !p k) n = 0 := fb_ct_zero.mpr (fun k hk => by simp [a k hk])
    omega
/-- the k-th place with the property -/
theorem fb_ct_kth {p : Nat → Bool} {k : Nat} : ∀ {n : Nat}, k < fb_ct p n → ∃ i, i < n ∧ p i = true ∧ fb_ct p i = k
  | 0, h => absurd h (Nat.not_lt_zero k)
  | n + 1, h => by
    rcases Nat.lt_or_ge k (fb_ct p n) with q | q
    · obtain ⟨i, h1, h2⟩ := fb_ct_kth q
      exact ⟨i, by omega, h2⟩
    · rw [fb_ct_succ] at h
      cases hp : p n
      · simp [hp] at h; omega
      · simp [hp] at h
        exact ⟨n, by omega, hp, by omega⟩
theorem fb_ct_kth_one {p : Nat → Bool} {i j : Nat} (hi : p i = true) (hj : p j = true) (e : fb_ct p i = fb_ct p j) : i = j := by
  have key : ∀ a b : Nat, a < b → p a = true → fb_ct p a < fb_ct p b := by
    intro a b hab ha
    have h := fb_ct_mono p (show a + 1 ≤ b from hab)
    rw [fb_ct_succ, ha] at h
    simp at h
    omega
  rcases Nat.lt_trichotomy i j with q | q | q
  · have := key i j q hi; omega
  · exact q
  · have := key j i q hj; omega
/-! ===== sums over a range: one place changed, parts, bounds ===== -/
/-! ===== bits of a long that isn't negative ===== -/
theorem fb_andL (a b : Nat) : lN a &&& lN b = lN (a &&& b) := by
  apply Int64.toBitVec_inj.1
  show BitVec.ofNat 64 a &&& BitVec.ofNat 64 b = BitVec.ofNat 64 (a &&& b)
  apply BitVec.eq_of_getLsbD_eq
  intro i hi
  simp [hi]
theorem fb_orL (a b : Nat) : lN a ||| lN b = lN (a ||| b) := by
  apply Int64.toBitVec_inj.1
  show BitVec.ofNat 64 a ||| BitVec.ofNat 64 b = BitVec.ofNat 64 (a ||| b)
  apply BitVec.eq_of_getLsbD_eq
  intro i hi
  simp [hi]
theorem fb_xorL (a b : Nat) : lN a ^^^ lN b = lN (a ^^^ b) := by
  apply Int64.toBitVec_inj.1
  show BitVec.ofNat 64 a ^^^ BitVec.ofNat 64 b = BitVec.ofNat 64 (a ^^^ b)
  apply BitVec.eq_of_getLsbD_eq
  intro i hi
  simp [hi]
theorem nx_and (a b : Nat) : nI a &&& nI b = nI (a &&& b) := by
  apply Int32.toBitVec_inj.1
  show BitVec.ofNat 32 a &&& BitVec.ofNat 32 b = BitVec.ofNat 32 (a &&& b)
  apply BitVec.eq_of_getLsbD_eq
  intro i hi
  simp [hi]
theorem wb_tb (n : Nat) : (lN n).toBitVec = BitVec.ofNat 64 n := rfl
theorem wb_inj {a b : Int64} (h : a.toBitVec = b.toBitVec) : a = b := Int64.toBitVec_inj.mp h
theorem wb_tn {n : Nat} (h : n < 2 ^ 64) : (lN n).toBitVec.toNat = n := by rw [wb_tb, BitVec.toNat_ofNat, Nat.mod_eq_of_lt h]
theorem wb_of (x : Int64) : ∃ n, n < 2 ^ 64 ∧ x = lN n := ⟨x.toBitVec.toNat, x.toBitVec.isLt, wb_inj (by rw [wb_tb]; simp)⟩
theorem wb_of32 (x : Int32) : ∃ n, n < 2 ^ 32 ∧ x = nI n := ⟨x.toBitVec.toNat, x.toBitVec.isLt, Int32.toBitVec_inj.mp (by show _ = BitVec.ofNat 32 _; simp)⟩
theorem wb_c : ∀ k, k < 64 → ((nI k).toInt64 &&& 63) = lN k := by decide +kernel
theorem wb_cu : ∀ k, k < 64 → ((nI k).toInt64.toUInt64 &&& Int64.toUInt64 63) = UInt64.ofNat k := by decide +kernel
theorem wb_sm : ∀ k, k < 64 → (BitVec.ofNat 64 k).smod 64 = BitVec.ofNat 64 k := by decide +kernel
theorem wb_pw {a b : Nat} (h : a ≤ b) : 2 ^ b = 2 ^ a * 2 ^ (b - a) := by rw [← Nat.pow_add]; congr 1; omega
theorem wb_lt2 {a b : Nat} (h : a < b) : 2 ^ a < 2 ^ b := Nat.pow_lt_pow_right (by decide) h
theorem wb_mod (n : Nat) : lN n = lN (n % 2 ^ 64) := wb_inj (by rw [wb_tb, wb_tb]; apply BitVec.eq_of_toNat_eq; rw [BitVec.toNat_ofNat, BitVec.toNat_ofNat, Nat.mod_mod])
theorem wb_shr {n k : Nat} (hn : n < 2 ^ 64) (hk : k < 64) : ((lN n).toUInt64 >>> ((nI k).toInt64.toUInt64 &&& Int64.toUInt64 63)).toInt64 = lN (n / 2 ^ k) := by
  rw [wb_cu k hk]
  apply wb_inj
  apply BitVec.eq_of_toNat_eq
  show ((lN n).toUInt64 >>> UInt64.ofNat k).toNat = (BitVec.ofNat 64 _).toNat
  have h1 : (UInt64.ofNat k).toNat = k := by
    show (BitVec.ofNat 64 k).toNat = k
    rw [BitVec.toNat_ofNat, Nat.mod_eq_of_lt (by omega)]
  have h2 : (lN n).toUInt64.toNat = n := wb_tn hn
  rw [UInt64.toNat_shiftRight, h1, h2, Nat.mod_eq_of_lt hk, Nat.shiftRight_eq_div_pow, BitVec.toNat_ofNat, Nat.mod_eq_of_lt (Nat.lt_of_le_of_lt (Nat.div_le_self _ _) hn)]
theorem wb_shl (n : Nat) {k : Nat} (hk : k < 64) : lN n <<< ((nI k).toInt64 &&& 63) = lN (n * 2 ^ k) := by
  rw [wb_c k hk]
  apply wb_inj
  rw [Int64.toBitVec_shiftLeft, wb_tb, wb_tb, wb_tb, wb_sm k hk]
  apply BitVec.eq_of_toNat_eq
  rw [BitVec.shiftLeft_eq', BitVec.toNat_shiftLeft, BitVec.toNat_ofNat, BitVec.toNat_ofNat, BitVec.toNat_ofNat, Nat.mod_eq_of_lt (show k < 2 ^ 64 by omega), Nat.shiftLeft_eq, Nat.mul_mod, Nat.mod_mod, ← Nat.mul_mod]
theorem wb_and {a b : Nat} (ha : a < 2 ^ 64) (hb : b < 2 ^ 64) : lN a &&& lN b = lN (a &&& b) := by
  apply wb_inj
  rw [Int64.toBitVec_and, wb_tb, wb_tb, wb_tb]
  apply BitVec.eq_of_toNat_eq
  rw [BitVec.toNat_and, BitVec.toNat_ofNat, BitVec.toNat_ofNat, BitVec.toNat_ofNat, Nat.mod_eq_of_lt ha, Nat.mod_eq_of_lt hb, Nat.mod_eq_of_lt (Nat.and_lt_two_pow _ hb)]
theorem wb_or {a b : Nat} (ha : a < 2 ^ 64) (hb : b < 2 ^ 64) : lN a ||| lN b = lN (a ||| b) := by
  apply wb_inj
  rw [Int64.toBitVec_or, wb_tb, wb_tb, wb_tb]
  apply BitVec.eq_of_toNat_eq
  rw [BitVec.toNat_or, BitVec.toNat_ofNat, BitVec.toNat_ofNat, BitVec.toNat_ofNat, Nat.mod_eq_of_lt ha, Nat.mod_eq_of_lt hb, Nat.mod_eq_of_lt (Nat.or_lt_two_pow ha hb)]
/-! ===== LAYER 2: numbers alone. Bits of a long, small numbers as ints ===== -/
def b2 (b : Bool) : Int32 := if b = true then 1 else 0
theorem b2_eq0 (b : Bool) : (b2 b = 0) ↔ b = false := by cases b <;> simp [b2]
theorem b2_eq1 (b : Bool) : (b2 b = 1) ↔ b = true := by cases b <;> simp [b2]
theorem b2_inj {a b : Bool} : (b2 a = b2 b) ↔ a = b := by cases a <;> cases b <;> simp [b2]
theorem b2_t : b2 true = 1 := rfl
theorem b2_f : b2 false = 0 := rfl
theorem bF {α : Type} {A B : α} : (if b2 false = 0 then A else B) = A := if_pos rfl
theorem bT {α : Type} {A B : α} : (if b2 true = 0 then A else B) = B := if_neg (by decide)
theorem gz_b2 (b : Bool) : gz (b2 b) := by cases b <;> simp [gz, b2]
theorem ite_b2 (b : Bool) : (if b = true then (1 : Int32) else 0) = b2 b := rfl
theorem bd_eq {α R : Type} (x : α) (k : α → Option R) : bd x k = k x := rfl
def hb (x : Int64) (i : Nat) : Bool := x.toBitVec.getLsbD i
theorem hb_ext {x y : Int64} (h : ∀ i, i < 64 → hb x i = hb y i) : x = y := Int64.toBitVec_inj.mp (BitVec.eq_of_getLsbD_eq (fun i hi => h i hi))
theorem hb_or (x y : Int64) (i : Nat) : hb (x ||| y) i = (hb x i || hb y i) := by unfold hb; rw [Int64.toBitVec_or, BitVec.getLsbD_or]
theorem hb_and (x y : Int64) (i : Nat) : hb (x &&& y) i = (hb x i && hb y i) := by unfold hb; rw [Int64.toBitVec_and, BitVec.getLsbD_and]
theorem hb_xor (x y : Int64) (i : Nat) : hb (x ^^^ y) i = (hb x i ^^ hb y i) := by unfold hb; rw [Int64.toBitVec_xor, BitVec.getLsbD_xor]
theorem hb_big {x : Int64} {i : Nat} (h : 64 ≤ i) : hb x i = false := BitVec.getLsbD_of_ge _ _ h
theorem hb_0 (i : Nat) : hb 0 i = false := BitVec.getLsbD_zero
theorem hb_m1 {i : Nat} (h : i < 64) : hb (-1) i = true := (by decide +kernel : ∀ i, i < 64 → hb (-1) i = true) i h
theorem hb_1 {i : Nat} (h : i < 64) : hb 1 i = decide (i = 0) := (by decide +kernel : ∀ i, i < 64 → hb 1 i = decide (i = 0)) i h
theorem hb_not (x : Int64) {i : Nat} (h : i < 64) : hb (x ^^^ (-1)) i = !hb x i := by rw [hb_xor, hb_m1 h, Bool.xor_true]
theorem hb_ne0 {x : Int64} (h : x ≠ 0) : ∃ i, i < 64 ∧ hb x i = true := Classical.byContradiction fun q => h (hb_ext fun i hi => by
  rw [hb_0]
  cases e : hb x i with
  | false => rfl
  | true => exact absurd ⟨i, hi, e⟩ q)
theorem nu_wc : ∀ k, k < 64 → ((nI k).toInt64 &&& 63) = lN k := by decide +kernel
theorem nu_wu : ∀ k, k < 64 → ((nI k).toInt64.toUInt64 &&& Int64.toUInt64 63) = UInt64.ofNat k := by decide +kernel
theorem nu_sm : ∀ k, k < 64 → ((lN k).toBitVec.smod 64).toNat = k := by decide +kernel
theorem hb_ushL (x : Int64) {k : Nat} (hk : k < 64) (i : Nat) : hb (ushL x (nI k)) i = hb x (k + i) := by
  unfold hb ushL
  rw [nu_wu k hk]
  have e : (x.toUInt64 >>> UInt64.ofNat k).toInt64.toBitVec = x.toBitVec >>> k := by
    apply BitVec.eq_of_toNat_eq
    show (x.toUInt64 >>> UInt64.ofNat k).toNat = _
    rw [UInt64.toNat_shiftRight, show (UInt64.ofNat k).toNat = k from Nat.mod_eq_of_lt (by omega), Nat.mod_eq_of_lt hk, BitVec.toNat_ushiftRight]
    rfl
  rw [e, BitVec.getLsbD_ushiftRight]
theorem hb_shrL0 (x : Int64) {k : Nat} (hk : k < 64) : hb (shrL x (nI k)) 0 = hb x k := by
  unfold hb shrL
  rw [nu_wc k hk, Int64.toBitVec_shiftRight, BitVec.sshiftRight_eq', nu_sm k hk, BitVec.getLsbD_sshiftRight]
  simp [hk]
theorem hb_shlL (x : Int64) {k : Nat} (hk : k < 64) {i : Nat} (hi : i < 64) : hb (shlL x (nI k)) i = (decide (k ≤ i) && hb x (i - k)) := by
  unfold hb shlL
  rw [nu_wc k hk, Int64.toBitVec_shiftLeft, BitVec.shiftLeft_eq', nu_sm k hk, BitVec.getLsbD_shiftLeft]
  by_cases h : k ≤ i
  · simp [h, hi]
  · simp [h]
theorem hb_only {k i : Nat} (hk : k < 64) (hi : i < 64) : hb (shlL 1 (nI k)) i = decide (i = k) := by
  rw [hb_shlL 1 hk hi, hb_1 (by omega)]
  by_cases h : i = k
  · subst h; simp
  · by_cases h2 : k ≤ i
    · simp [h, h2]; omega
    · simp [h, h2]
theorem l_and1 (x : Int64) : x &&& 1 = if hb x 0 = true then 1 else 0 := by
  apply hb_ext
  intro i hi
  rw [hb_and, hb_1 hi]
  by_cases h : i = 0
  · subst h
    cases hb x 0
    · simp [hb_0]
    · simp [hb_1 (show 0 < 64 by decide)]
  · cases hb x 0
    · simp [h, hb_0]
    · simp [h, hb_1 hi]
theorem u_bit (x : Int64) {k : Nat} (hk : k < 64) : (ushL x (nI k) &&& 1) = if hb x k = true then 1 else 0 := by
  rw [l_and1, hb_ushL x hk 0, Nat.add_zero]
theorem s_bit (x : Int64) {k : Nat} (hk : k < 64) : (shrL x (nI k) &&& 1) = if hb x k = true then 1 else 0 := by
  rw [l_and1, hb_shrL0 x hk]
theorem s_bitI (x : Int64) {k : Nat} (hk : k < 64) : Int64.toInt32 (shrL x (nI k) &&& 1) = b2 (hb x k) := by
  rw [s_bit x hk]
  cases hb x k <;> rfl
-- small numbers as ints
theorem nI_le_iff {a b : Nat} (ha : a < 2 ^ 31) (hb : b < 2 ^ 31) : (nI a ≤ nI b) ↔ a ≤ b := by
  constructor
  · intro h
    rcases Nat.lt_or_ge b a with q | q
    · exact absurd h (nI_ge q ha)
    · exact q
  · intro h; exact nI_le h hb
theorem nI_lt_iff {a b : Nat} (ha : a < 2 ^ 31) (hb : b < 2 ^ 31) : (nI a < nI b) ↔ a < b := by
  constructor
  · intro h
    rcases Nat.lt_or_ge a b with q | q
    · exact q
    · exact absurd h (nI_nlt q ha)
  · intro h; exact nI_lt h hb
theorem nI_eq_iff {a b : Nat} (ha : a < 2 ^ 31) (hb : b < 2 ^ 31) : (nI a = nI b) ↔ a = b := by
  constructor
  · intro h
    have := congrArg Int32.toNatClampNeg h
    rwa [nI_clamp ha, nI_clamp hb] at this
  · intro h; rw [h]
theorem ix_nI {n : Nat} (h : n < 2 ^ 31) : ix (nI n) = n := nI_clamp h
theorem vin_nI {n N : Nat} (h : n < N) (hN : N < 2 ^ 31) : vp_in (nI n) N := nI_in h hN
theorem nI_mul (a b : Nat) : nI a * nI b = nI (a * b) := by
  unfold nI; exact (Int32.ofNat_mul a b).symm
theorem nI_lit1 (a : Nat) : nI a + 1 = nI (a + 1) := (nI_succ a).symm
/-- an int from lo to hi, as a number -/
theorem nI_frm {x : Int32} {n : Nat} (h0 : 0 ≤ x) (h1 : x ≤ nI n) (hn : n < 2 ^ 31) : ∃ k, k ≤ n ∧ x = nI k := by
  have a : (0 : Int) ≤ x.toInt := by
    have := Int32.le_iff_toInt_le.mp h0
    simpa using this
  have b : x.toInt ≤ (n : Int) := by
    have := Int32.le_iff_toInt_le.mp h1
    rwa [nI_toInt hn] at this
  refine ⟨x.toInt.toNat, by omega, ?_⟩
  have e : ((x.toInt.toNat : Nat) : Int) = x.toInt := by omega
  have : nI x.toInt.toNat = Int32.ofInt ((x.toInt.toNat : Nat) : Int) := rfl
  rw [this, e, Int32.ofInt_toInt]
theorem i_lt (a b : Int32) : a < b ↔ a.toInt < b.toInt := Int32.lt_iff_toInt_lt
theorem i_le (a b : Int32) : a ≤ b ↔ a.toInt ≤ b.toInt := Int32.le_iff_toInt_le
theorem i_eq (a b : Int32) : a = b ↔ a.toInt = b.toInt := Int32.toInt_inj.symm
theorem i_rng (x : Int32) : -2147483648 ≤ x.toInt ∧ x.toInt < 2147483648 := ⟨by have := Int32.le_toInt x; omega, by have := Int32.toInt_lt x; omega⟩
-- the small functions of both sides
/-- lo to hi -/
def inr (x lo hi : Int32) : Bool := decide (lo ≤ x) && decide (x ≤ hi)
theorem inr_iff {x lo hi : Int32} : inr x lo hi = true ↔ lo ≤ x ∧ x ≤ hi := by simp [inr]
theorem isWithin_eq (t : Sx) (x lo hi : Int32) : f_X8_isWithin t x lo hi = some (b2 (inr x lo hi)) := by
  unfold f_X8_isWithin inr
  by_cases h1 : x < lo
  · have : ¬ lo ≤ x := by rw [i_le, ← Int.not_lt]; rw [i_lt] at h1; omega
    simp [h1, this, b2]
  · have g1 : lo ≤ x := by rw [i_lt] at h1; rw [i_le]; omega
    by_cases h2 : hi < x
    · have : ¬ x ≤ hi := by rw [i_lt] at h2; rw [i_le]; omega
      simp [h1, h2, this, b2]
    · have g2 : x ≤ hi := by rw [i_lt] at h2; rw [i_le]; omega
      simp [h1, h2, g1, g2, b2]
theorem in_eq (t : Sx) (x lo hi : Int32) : f_X9_in t x lo hi = some (b2 (inr x lo hi)) := isWithin_eq t x lo hi
theorem isSource_eq (t : Sx) (x : Int32) : f_X8_isSource t x = some (b2 (inr x 0 2)) := by
  unfold f_X8_isSource
  rw [isWithin_eq, Option.bind_some, gd_pos (gz_b2 _)]
theorem holds_eq (t : Sx) (x : Int64) {k : Nat} (hk : k < 64) : f_X8_holds t x (nI k) = some (b2 (hb x k)) := by
  unfold f_X8_holds
  rw [u_bit x hk]
  cases hb x k
  · rw [if_neg (by rw [lg_cmp_eq]; decide)]; rfl
  · rw [if_pos (by rw [lg_cmp_eq]; decide)]; rfl
theorem inr_nI {k n : Nat} (hk : k < 2 ^ 31) (hn : n < 2 ^ 31) : inr (nI k) 0 (nI n) = decide (k ≤ n) := by
  have a : (0 : Int32) ≤ nI k := nI_pos' hk
  by_cases h : k ≤ n
  · simp [inr, a, (nI_le_iff hk hn).mpr h, h]
  · have : ¬ nI k ≤ nI n := fun q => h ((nI_le_iff hk hn).mp q)
    simp [inr, this, h]
theorem inr_out {x : Int32} {n : Nat} (hn : n < 2 ^ 31) (h : inr x 0 (nI n) = true) : ∃ k, k ≤ n ∧ x = nI k := nI_frm (inr_iff.mp h).1 (inr_iff.mp h).2 hn
/-- a file's number: which place it names, if its bit is there -/
def fil (p : Nat → Bool) (x : Int32) : Bool := inr x 0 39 && p (ix x)
theorem fil_nI {p : Nat → Bool} {k : Nat} (hk : k < 40) : fil p (nI k) = p k := by
  unfold fil
  rw [show (39 : Int32) = nI 39 from rfl, inr_nI (by omega) (by decide), ix_nI (by omega), decide_eq_true (by omega)]
  rfl
theorem fil_out {p : Nat → Bool} {x : Int32} (h : fil p x = true) : ∃ k, k < 40 ∧ x = nI k ∧ p k = true := by
  unfold fil at h
  rw [Bool.and_eq_true] at h
  obtain ⟨k, hk, rfl⟩ := inr_out (n := 39) (by decide) h.1
  refine ⟨k, by omega, rfl, ?_⟩
  rw [ix_nI (by omega)] at h
  exact h.2
theorem fil_cong {p q : Nat → Bool} (h : ∀ k, k < 40 → p k = q k) (x : Int32) : fil p x = fil q x := by
  unfold fil
  cases e : inr x 0 39 with
  | false => rfl
  | true =>
    obtain ⟨k, hk, rfl⟩ := inr_out (n := 39) (by decide) e
    rw [ix_nI (by omega), h k (by omega)]
theorem has_eq (t : Sx) (x : Int32) : f_X1_has t x = some (b2 (fil (hb (gL t 8)) x)) := by
  unfold f_X1_has fil
  rw [isWithin_eq, Option.bind_some]
  cases e : inr x 0 39 with
  | false => rfl
  | true =>
    obtain ⟨k, hk, rfl⟩ := inr_out (n := 39) (by decide) e
    rw [if_neg (by decide), holds_eq t _ (by omega), Option.bind_some, ix_nI (by omega)]
    cases hb (gL t 8) k <;> rfl
def iF (t : Sx) (f : Nat) : Bool := decide (gA t 23 f ≠ 0)
theorem there_eq (t : Sx) (x : Int32) : f_X9_there t x = some (b2 (fil (iF t) x)) := by
  unfold f_X9_there fil
  rw [in_eq, Option.bind_some]
  cases e : inr x 0 39 with
  | false => rfl
  | true =>
    obtain ⟨k, hk, rfl⟩ := inr_out (n := 39) (by decide) e
    rw [if_neg (by decide), gd_pos (vin_nI (by omega) (by decide)), ix_nI (by omega)]
    unfold iF
    by_cases h : gA t 23 k = 0 <;> simp [h, b2]
/-! ===== Long.bitCount ===== -/
def vln (w : Nat) : (Nat → Nat) → Nat → Nat
  | _, 0 => 0
  | c, k + 1 => c 0 + 2 ^ w * vln w (fun j => c (j + 1)) k
theorem vln_cong (w : Nat) : ∀ (k : Nat) (c d : Nat → Nat), (∀ j, j < k → c j = d j) → vln w c k = vln w d k
  | 0, _, _, _ => rfl
  | k + 1, c, d, h => by
    rw [vln, vln, h 0 (by omega), vln_cong w k (fun j => c (j + 1)) (fun j => d (j + 1)) (fun j hj => h (j + 1) (by omega))]
theorem vln_add (w : Nat) : ∀ (k : Nat) (c d : Nat → Nat), vln w c k + vln w d k = vln w (fun j => c j + d j) k
  | 0, _, _ => rfl
  | k + 1, c, d => by
    rw [vln, vln, vln, ← vln_add w k, Nat.mul_add]
    omega
theorem vln_and {k a b p q : Nat} (ha : a < 2 ^ k) (hb : b < 2 ^ k) : (a + 2 ^ k * p) &&& (b + 2 ^ k * q) = (a &&& b) + 2 ^ k * (p &&& q) := by
  have hp : 0 < 2 ^ k := Nat.two_pow_pos k
  have h1 : ((a + 2 ^ k * p) &&& (b + 2 ^ k * q)) % 2 ^ k = a &&& b := by
    rw [Nat.and_mod_two_pow, Nat.add_mul_mod_self_left, Nat.add_mul_mod_self_left, Nat.mod_eq_of_lt ha, Nat.mod_eq_of_lt hb]
  have h2 : ((a + 2 ^ k * p) &&& (b + 2 ^ k * q)) / 2 ^ k = p &&& q := by
    rw [Nat.and_div_two_pow, Nat.add_mul_div_left _ _ hp, Nat.add_mul_div_left _ _ hp, Nat.div_eq_of_lt ha, Nat.div_eq_of_lt hb, Nat.zero_add, Nat.zero_add]
  have h3 := Nat.mod_add_div ((a + 2 ^ k * p) &&& (b + 2 ^ k * q)) (2 ^ k)
  rw [h1, h2] at h3
  exact h3.symm
theorem vln_low {w : Nat} : ∀ (k : Nat) (c : Nat → Nat), (∀ j, j < 2 * k → c j < 2 ^ w) → vln w c (2 * k) &&& vln (2 * w) (fun _ => 2 ^ w - 1) k = vln (2 * w) (fun j => c (2 * j)) k
  | 0, _, _ => by simp [vln]
  | k + 1, c, h => by
    have hp : 0 < 2 ^ w := Nat.two_pow_pos w
    have e2 : 2 ^ (2 * w) = 2 ^ w * 2 ^ w := by rw [← Nat.pow_add]; congr 1; omega
    have h0 := h 0 (by omega)
    have h1 := h 1 (by omega)
    rw [show 2 * (k + 1) = 2 * k + 1 + 1 by omega, vln, vln, vln, vln]
    have ih := vln_low (w := w) k (fun j => c (j + 1 + 1)) (fun j hj => h (j + 2) (by omega))
    rw [Nat.mul_add, ← Nat.mul_assoc, ← e2, ← Nat.add_assoc]
    have hlt : c 0 + 2 ^ w * c (0 + 1) < 2 ^ (2 * w) := by
      rw [e2]
      have : 2 ^ w * c 1 ≤ 2 ^ w * (2 ^ w - 1) := Nat.mul_le_mul_left _ (by omega)
      rw [Nat.mul_sub, Nat.mul_one] at this
      have : 2 ^ w ≤ 2 ^ w * 2 ^ w := Nat.le_mul_of_pos_left _ hp
      show c 0 + 2 ^ w * c 1 < _
      omega
    have hm : 2 ^ w - 1 < 2 ^ (2 * w) := by
      rw [e2]
      have : 2 ^ w ≤ 2 ^ w * 2 ^ w := Nat.le_mul_of_pos_left _ hp
      omega
    rw [vln_and hlt hm, Nat.and_two_pow_sub_one_eq_mod, Nat.add_mul_mod_self_left, Nat.mod_eq_of_lt h0, ih]
    rfl
theorem vln_div {w : Nat} : ∀ (k : Nat) (c : Nat → Nat), c 0 < 2 ^ w → vln w c (k + 1) / 2 ^ w = vln w (fun j => if j < k then c (j + 1) else 0) (k + 1) := by
  intro k c h
  have hp : 0 < 2 ^ w := Nat.two_pow_pos w
  rw [vln, Nat.add_mul_div_left _ _ hp, Nat.div_eq_of_lt h, Nat.zero_add]
  have : ∀ (k : Nat) (d : Nat → Nat), vln w d k = vln w (fun j => if j < k then d j else 0) (k + 1) := by
    intro k
    induction k with
    | zero => intro d; simp [vln]
    | succ k ih =>
      intro d
      rw [vln, vln, ih (fun j => d (j + 1))]
      simp only [Nat.zero_lt_succ, if_true, Nat.add_lt_add_iff_right]
  rw [this k]
theorem vln_high {w : Nat} (k : Nat) (c : Nat → Nat) (h : ∀ j, j < 2 * k → c j < 2 ^ w) (hk : 0 < k) : (vln w c (2 * k) / 2 ^ w) &&& vln (2 * w) (fun _ => 2 ^ w - 1) k = vln (2 * w) (fun j => c (2 * j + 1)) k := by
  obtain ⟨q, hq⟩ : ∃ q, 2 * k = q + 1 := ⟨2 * k - 1, by omega⟩
  rw [hq, vln_div q c (h 0 (by omega)), ← hq, vln_low k _ (fun j hj => ?_)]
  · exact vln_cong _ k _ _ (fun j hj => by rw [if_pos (by omega)])
  · by_cases e : j < q
    · rw [if_pos e]; exact h (j + 1) (by omega)
    · rw [if_neg e]; exact Nat.two_pow_pos w
theorem vln_bits : ∀ (k n : Nat), n % 2 ^ k = vln 1 (fun i => n / 2 ^ i % 2) k
  | 0, n => by simp [vln, Nat.mod_one]
  | k + 1, n => by
    rw [vln]
    have ih := vln_bits k (n / 2)
    have e : (fun j => n / 2 ^ (j + 1) % 2) = fun i => n / 2 / 2 ^ i % 2 := by
      funext j
      rw [Nat.div_div_eq_div_mul, Nat.pow_succ, Nat.mul_comm]
    rw [e, ← ih, Nat.pow_succ, Nat.mul_comm (2 ^ k) 2, Nat.mod_mul]
    simp
def bcA (n : Nat) : Nat := n - (n / 2 &&& 6148914691236517205)
def bcB (v : Nat) : Nat := (v &&& 3689348814741910323) + (v / 4 &&& 3689348814741910323)
def bcC (v : Nat) : Nat := (v + v / 16) &&& 1085102592571150095
theorem bc_sum (n : Nat) (hn : n < 2 ^ 64) : ∃ c : Nat → Nat, (∀ j, c j ≤ 8) ∧ bcC (bcB (bcA n)) = vln 8 c 8 ∧ c 0 + c 1 + c 2 + c 3 + c 4 + c 5 + c 6 + c 7 = fb_ct (fun i => n.testBit i) 64 ∧ bcA n < 2 ^ 64 ∧ bcB (bcA n) < 2 ^ 63 := by
  have hbit : ∀ i, n / 2 ^ i % 2 < 2 ^ 1 := fun i => Nat.mod_lt _ (by decide)
  have e1 : n = vln 1 (fun i => n / 2 ^ i % 2) 64 := by rw [← vln_bits, Nat.mod_eq_of_lt hn]
  generalize hb : (fun i => n / 2 ^ i % 2) = b at e1 hbit
  have hb1 : ∀ i, b i < 2 ^ 1 := fun i => by rw [← hb]; exact hbit i
  have m1 : (6148914691236517205 : Nat) = vln (2 * 1) (fun _ => 2 ^ 1 - 1) 32 := by decide +kernel
  have m2 : (3689348814741910323 : Nat) = vln (2 * 2) (fun _ => 2 ^ 2 - 1) 16 := by decide +kernel
  have m3 : (1085102592571150095 : Nat) = vln (2 * 4) (fun _ => 2 ^ 4 - 1) 8 := by decide +kernel
  have l1 := vln_low (w := 1) 32 b (fun j _ => hb1 j)
  have h1 := vln_high (w := 1) 32 b (fun j _ => hb1 j) (by decide)
  have a1 : bcA n = vln 2 (fun j => b (2 * j) + b (2 * j + 1)) 32 := by
    unfold bcA
    have hs : ∀ (k : Nat) (c : Nat → Nat), vln 1 c (2 * k) = vln 2 (fun j => c (2 * j)) k + 2 * vln 2 (fun j => c (2 * j + 1)) k := by
      intro k
      induction k with
      | zero => intro c; rfl
      | succ k ih =>
        intro c
        rw [show 2 * (k + 1) = 2 * k + 1 + 1 by omega, vln, vln, vln, vln, ih]
        simp only [Nat.mul_add, Nat.reducePow, Nat.mul_zero, Nat.zero_add, Nat.mul_one, show ∀ j, 2 * (j + 1) = 2 * j + 1 + 1 from fun j => by omega]
        omega
    have e2 := hs 32 b
    rw [m1, show n / 2 = vln 1 b (2 * 32) / 2 ^ 1 by rw [e1], h1, ← vln_add]
    have e3 : n = vln 1 b (2 * 32) := e1
    rw [e2] at e3
    show n - vln 2 (fun j => b (2 * j + 1)) 32 = _
    omega
  have hc2 : ∀ j, b (2 * j) + b (2 * j + 1) < 2 ^ 2 := fun j => by have := hb1 (2 * j); have := hb1 (2 * j + 1); omega
  generalize hd : (fun j => b (2 * j) + b (2 * j + 1)) = d at a1
  have hd2 : ∀ j, d j ≤ 2 := fun j => by rw [← hd]; have := hb1 (2 * j); have := hb1 (2 * j + 1); show b (2 * j) + b (2 * j + 1) ≤ 2; omega
  have l2 := vln_low (w := 2) 16 d (fun j _ => by have := hd2 j; omega)
  have h2 := vln_high (w := 2) 16 d (fun j _ => by have := hd2 j; omega) (by decide)
  have a2 : bcB (bcA n) = vln 4 (fun j => d (2 * j) + d (2 * j + 1)) 16 := by
    unfold bcB
    rw [m2, a1]
    show (vln 2 d (2 * 16) &&& _) + (vln 2 d (2 * 16) / 2 ^ 2 &&& _) = _
    rw [l2, h2, vln_add]
  generalize he : (fun j => d (2 * j) + d (2 * j + 1)) = f at a2
  have hf : ∀ j, f j ≤ 4 := fun j => by rw [← he]; have := hd2 (2 * j); have := hd2 (2 * j + 1); show d (2 * j) + d (2 * j + 1) ≤ 4; omega
  have a3 : bcC (bcB (bcA n)) = vln 8 (fun j => f (2 * j) + f (2 * j + 1)) 8 := by
    unfold bcC
    have hdv : vln 4 f 16 / 2 ^ 4 = vln 4 (fun j => if j < 15 then f (j + 1) else 0) 16 := vln_div 15 f (by have := hf 0; omega)
    have g : bcB (bcA n) + bcB (bcA n) / 16 = vln 4 (fun j => f j + if j < 15 then f (j + 1) else 0) (2 * 8) := by
      rw [a2, show (16 : Nat) = 2 ^ 4 by decide, hdv, vln_add]
    rw [g, m3, vln_low (w := 4) 8 _ (fun j _ => by
      have := hf j
      have := hf (j + 1)
      show (f j + if j < 15 then f (j + 1) else 0) < 2 ^ 4
      split <;> omega)]
    exact vln_cong _ 8 _ _ (fun j hj => by rw [if_pos (by omega)])
  have hlt : ∀ (w k : Nat) (c : Nat → Nat), (∀ j, c j < 2 ^ w) → vln w c k < 2 ^ (w * k) := by
    intro w k
    induction k with
    | zero => intro c _; simp [vln]
    | succ k ih =>
      intro c hc
      rw [vln, Nat.mul_add, Nat.mul_one, Nat.add_comm (w * k), Nat.pow_add]
      have i2 := ih (fun j => c (j + 1)) (fun j => hc (j + 1))
      have h7 := Nat.mul_le_mul_left (2 ^ w) (Nat.succ_le_of_lt i2)
      rw [Nat.mul_succ] at h7
      have := hc 0
      omega
  refine ⟨fun j => f (2 * j) + f (2 * j + 1), fun j => by have := hf (2 * j); have := hf (2 * j + 1); show f (2 * j) + f (2 * j + 1) ≤ 8; omega, a3, ?_, ?_, ?_⟩
  · have tb : ∀ i, (if n.testBit i = true then 1 else 0) = b i := fun i => by
      rw [← hb, Nat.testBit_eq_decide_div_mod_eq]
      have := Nat.mod_lt (n / 2 ^ i) (show 0 < 2 by decide)
      by_cases q : n / 2 ^ i % 2 = 1
      · simp [q]
      · simp [q]; omega
    simp only [fb_ct, tb, ← he, ← hd, Nat.reduceMul, Nat.reduceAdd, Nat.mul_zero, Nat.zero_add]
    omega
  · rw [a1]
    exact hlt 2 32 d (fun j => by have := hd2 j; omega)
  · rw [a2]
    have : vln 4 f 16 < 2 ^ 63 := by
      have h15 := hlt 4 15 f (fun j => by have := hf j; omega)
      have hs : ∀ (k : Nat) (c : Nat → Nat), vln 4 c (k + 1) = vln 4 c k + c k * 2 ^ (4 * k) := by
        intro k
        induction k with
        | zero => intro c; simp [vln]
        | succ k ih =>
          intro c
          rw [vln, ih, vln]
          rw [show 4 * (k + 1) = 4 + 4 * k by omega, Nat.pow_add, Nat.mul_add, Nat.mul_left_comm]
          omega
      rw [hs 15]
      have := hf 15
      omega
    exact this
theorem hb_lN {n : Nat} (i : Nat) (hi : i < 64) : hb (lN n) i = n.testBit i := by
  unfold hb
  show (BitVec.ofNat 64 n).getLsbD i = _
  rw [BitVec.getLsbD_ofNat]
  simp [hi]
theorem dv_lo {a b k : Nat} (h : a < k) : (a + k * b) / k = b := by
  rw [Nat.add_mul_div_left _ _ (by omega), Nat.div_eq_of_lt h, Nat.zero_add]
theorem bc_fin {v w y a b c d e f g h : Nat} (hv : v = a + 256 * (b + 256 * (c + 256 * (d + 256 * (e + 256 * (f + 256 * (g + 256 * h))))))) (hw : w = v + v / 2 ^ 8) (hy : y = w + w / 2 ^ 16) (ha : a ≤ 8) (hb : b ≤ 8) (hc : c ≤ 8) (hd : d ≤ 8) (he : e ≤ 8) (hf : f ≤ 8) (hg : g ≤ 8) (hh : h ≤ 8) : (y + y / 2 ^ 32) % 128 = a + b + c + d + e + f + g + h := by
  have d1 : v / 2 ^ 8 = b + 256 * (c + 256 * (d + 256 * (e + 256 * (f + 256 * (g + 256 * h))))) := by
    rw [hv]; exact dv_lo (by omega)
  have d2 : w = ((a + b) + 256 * (b + c)) + 65536 * ((c + d) + 256 * ((d + e) + 256 * ((e + f) + 256 * ((f + g) + 256 * ((g + h) + 256 * h))))) := by
    rw [hw, d1, hv]; clear hv hw hy d1; omega
  have d3 : w / 2 ^ 16 = (c + d) + 256 * ((d + e) + 256 * ((e + f) + 256 * ((f + g) + 256 * ((g + h) + 256 * h)))) := by
    rw [d2]; exact dv_lo (by clear hv hw hy d1 d2; omega)
  have d4 : y = ((a + b + c + d) + 256 * (b + c + d + e) + 65536 * (c + d + e + f) + 16777216 * (d + e + f + g)) + 4294967296 * ((e + f + g + h) + 256 * ((f + g + h) + 256 * ((g + h) + 256 * h))) := by
    rw [hy, d3, d2]; clear hv hw hy d1 d2 d3; omega
  have d5 : y / 2 ^ 32 = (e + f + g + h) + 256 * ((f + g + h) + 256 * ((g + h) + 256 * h)) := by
    rw [d4]; exact dv_lo (by clear hv hw hy d1 d2 d3 d4; omega)
  have d6 : y + y / 2 ^ 32 = (a + b + c + d + e + f + g + h) + 128 * (2 * ((b + c + d + e) + 256 * (c + d + e + f) + 65536 * (d + e + f + g)) + 33554432 * ((e + f + g + h) + 256 * ((f + g + h) + 256 * ((g + h) + 256 * h))) + 2 * ((f + g + h) + 256 * ((g + h) + 256 * h))) := by
    rw [d5, d4]; clear hv hw hy d1 d2 d3 d4 d5; omega
  rw [d6, Nat.add_mul_mod_self_left, Nat.mod_eq_of_lt (by clear hv hw hy d1 d2 d3 d4 d5 d6; omega)]
theorem bitCount_eq (t : Sx) (x : Int64) : f_J13_bitCount_95d88 t x = some (nI (fb_ct (hb x) 64)) := by
  obtain ⟨n, hn, rfl⟩ := wb_of x
  obtain ⟨c, hc, e1, e2, e3, e4⟩ := bc_sum n hn
  have hle : (n / 2 &&& 6148914691236517205) ≤ n := Nat.le_trans Nat.and_le_left (Nat.div_le_self _ _)
  unfold f_J13_bitCount_95d88 ushL
  simp only [bd_eq]
  have s1 := wb_shr (n := n) (k := 1) hn (by decide)
  have s2 := wb_shr (n := bcA n) (k := 2) e3 (by decide)
  have s3 := wb_shr (n := bcB (bcA n)) (k := 4) (by omega) (by decide)
  have A1 : lN n - (((lN n).toUInt64 >>> ((1 : Int32).toInt64.toUInt64 &&& Int64.toUInt64 63)).toInt64 &&& 6148914691236517205) = lN (bcA n) := by
    rw [show (1 : Int32) = nI 1 from rfl, s1, show (6148914691236517205 : Int64) = lN 6148914691236517205 from rfl, fb_andL, lN_sub hle]
    rfl
  rw [A1]
  have A2 : (lN (bcA n) &&& 3689348814741910323) + ((((lN (bcA n)).toUInt64 >>> ((2 : Int32).toInt64.toUInt64 &&& Int64.toUInt64 63)).toInt64) &&& 3689348814741910323) = lN (bcB (bcA n)) := by
    rw [show (2 : Int32) = nI 2 from rfl, s2, show (3689348814741910323 : Int64) = lN 3689348814741910323 from rfl, fb_andL, fb_andL, lN_add]
    rfl
  rw [A2]
  have A3 : (lN (bcB (bcA n)) + ((lN (bcB (bcA n))).toUInt64 >>> ((4 : Int32).toInt64.toUInt64 &&& Int64.toUInt64 63)).toInt64) &&& 1085102592571150095 = lN (vln 8 c 8) := by
    rw [show (4 : Int32) = nI 4 from rfl, s3, lN_add, show (1085102592571150095 : Int64) = lN 1085102592571150095 from rfl, fb_andL, ← e1]
    rfl
  rw [A3]
  generalize hv : vln 8 c 8 = v
  have hve : v = c 0 + 256 * (c 1 + 256 * (c 2 + 256 * (c 3 + 256 * (c 4 + 256 * (c 5 + 256 * (c 6 + 256 * c 7)))))) := by
    rw [← hv]
    simp only [vln, Nat.reducePow, Nat.mul_zero, Nat.add_zero, Nat.zero_add, Nat.reduceAdd]
  have k0 := hc 0; have k1 := hc 1; have k2 := hc 2; have k3 := hc 3; have k4 := hc 4; have k5 := hc 5; have k6 := hc 6; have k7 := hc 7
  have s4 := wb_shr (n := v) (k := 8) (by omega) (by decide)
  rw [show (8 : Int32) = nI 8 from rfl, s4, lN_add]
  generalize hw : v + v / 2 ^ 8 = w
  have hwb : w < 2 ^ 61 := by omega
  have s5 := wb_shr (n := w) (k := 16) (by omega) (by decide)
  rw [show (16 : Int32) = nI 16 from rfl, s5, lN_add]
  generalize hx : w + w / 2 ^ 16 = y
  have hyb : y < 2 ^ 62 := by omega
  have s6 := wb_shr (n := y) (k := 32) (by omega) (by decide)
  rw [show (32 : Int32) = nI 32 from rfl, s6, lN_add]
  have fin : ∀ z : Nat, Int64.toInt32 (lN z) &&& 127 = nI (z % 128) := by
    intro z
    have : Int64.toInt32 (lN z) = nI z := by
      show Int64.toInt32 (Int64.ofNat z) = Int32.ofNat z
      apply Int32.toBitVec_inj.mp
      rw [Int64.toBitVec_toInt32]
      show (BitVec.ofNat 64 z).signExtend 32 = BitVec.ofNat 32 z
      apply BitVec.eq_of_getLsbD_eq
      intro i hi
      rw [BitVec.getLsbD_signExtend, BitVec.getLsbD_ofNat, BitVec.getLsbD_ofNat]
      simp [hi, show i < 64 by omega]
    rw [this, show (127 : Int32) = nI (2 ^ 7 - 1) from rfl, nx_and, Nat.and_two_pow_sub_one_eq_mod]
  rw [fin]
  congr 2
  have : (y + y / 2 ^ 32) % 128 = c 0 + c 1 + c 2 + c 3 + c 4 + c 5 + c 6 + c 7 := bc_fin hve hw.symm hx.symm k0 k1 k2 k3 k4 k5 k6 k7
  rw [this, e2]
  exact fb_ct_cong (fun i hi => (hb_lN i hi).symm)
