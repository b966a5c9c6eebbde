/-! ===== the start: what the constructors leave ===== -/
def i13 : Nat → Int32 := upd (upd (upd (fun _ => 0) (Int32.toNatClampNeg 0) 0) (Int32.toNatClampNeg 1) 1) (Int32.toNatClampNeg 2) 2
def i28 : Nat → Int32 := upd (upd (fun _ => 0) (Int32.toNatClampNeg 1) 1) (Int32.toNatClampNeg 2) 2
def i40 : Nat → Int32 := upd (upd (upd (upd (upd (upd (upd (upd (upd (upd (upd (upd (upd (upd (upd (upd (upd (upd (upd (upd (upd (upd (upd (upd (upd (upd (upd (upd (upd (upd (upd (upd (upd (upd (upd (upd (upd (upd (upd (upd (fun _ => 0) (Int32.toNatClampNeg 0) (-1)) (Int32.toNatClampNeg 1) (-1)) (Int32.toNatClampNeg 2) (-1)) (Int32.toNatClampNeg 3) (-1)) (Int32.toNatClampNeg 4) (-1)) (Int32.toNatClampNeg 5) (-1)) (Int32.toNatClampNeg 6) (-1)) (Int32.toNatClampNeg 7) (-1)) (Int32.toNatClampNeg 8) (-1)) (Int32.toNatClampNeg 9) (-1)) (Int32.toNatClampNeg 10) (-1)) (Int32.toNatClampNeg 11) (-1)) (Int32.toNatClampNeg 12) (-1)) (Int32.toNatClampNeg 13) (-1)) (Int32.toNatClampNeg 14) (-1)) (Int32.toNatClampNeg 15) (-1)) (Int32.toNatClampNeg 16) (-1)) (Int32.toNatClampNeg 17) (-1)) (Int32.toNatClampNeg 18) (-1)) (Int32.toNatClampNeg 19) (-1)) (Int32.toNatClampNeg 20) (-1)) (Int32.toNatClampNeg 21) (-1)) (Int32.toNatClampNeg 22) (-1)) (Int32.toNatClampNeg 23) (-1)) (Int32.toNatClampNeg 24) (-1)) (Int32.toNatClampNeg 25) (-1)) (Int32.toNatClampNeg 26) (-1)) (Int32.toNatClampNeg 27) (-1)) (Int32.toNatClampNeg 28) (-1)) (Int32.toNatClampNeg 29) (-1)) (Int32.toNatClampNeg 30) (-1)) (Int32.toNatClampNeg 31) (-1)) (Int32.toNatClampNeg 32) (-1)) (Int32.toNatClampNeg 33) (-1)) (Int32.toNatClampNeg 34) (-1)) (Int32.toNatClampNeg 35) (-1)) (Int32.toNatClampNeg 36) (-1)) (Int32.toNatClampNeg 37) (-1)) (Int32.toNatClampNeg 38) (-1)) (Int32.toNatClampNeg 39) (-1)
def t_init : Sx := (fun _ => 0, fun _ => 0, fun a => if a = 13 then i13 else if a = 18 then i40 else if a = 28 then i28 else if a = 29 then i40 else fun _ => 0, fun _ _ => 0)
theorem i40_eq : ∀ k, k < 40 → i40 k = -1 := by decide +kernel
theorem i28_eq : ∀ k, k < 3 → i28 k = nI k := by decide +kernel
theorem i13_eq : ∀ k, k < 3 → i13 k = i28 k := by decide +kernel
theorem t_init_A {a : Nat} (h1 : a ≠ 13) (h2 : a ≠ 18) (h3 : a ≠ 28) (h4 : a ≠ 29) (k : Nat) : gA t_init a k = 0 := by
  show (if a = 13 then i13 else if a = 18 then i40 else if a = 28 then i28 else if a = 29 then i40 else fun _ => 0) k = 0
  rw [if_neg h1, if_neg h2, if_neg h3, if_neg h4]
theorem t_init_inv : Inv t_init t_init := by
  have e29 : ∀ k, k < 40 → gA t_init 29 k = -1 := i40_eq
  have e18 : ∀ k, k < 40 → gA t_init 18 k = -1 := i40_eq
  have nF : ∀ f, iF t_init f = false := fun f => by
    unfold iF; rw [t_init_A (by decide) (by decide) (by decide) (by decide)]; rfl
  have nT : ∀ f, iT t_init f = false := fun f => by
    unfold iT; rw [t_init_A (by decide) (by decide) (by decide) (by decide)]; rfl
  have nA : ∀ f, iA t_init f = false := fun f => by
    unfold iA; rw [t_init_A (by decide) (by decide) (by decide) (by decide)]; rfl
  have n0 : ∀ s, mn t_init s = 0 := fun s => by
    unfold mn; rw [t_init_A (by decide) (by decide) (by decide) (by decide)]; rfl
  have tp : tpd t_init = 0 := rfl
  have hb0 : ∀ j k, hb (gL t_init j) k = false := fun j k => hb_0 k
  have noF : ∀ {f : Nat} {P : Prop}, iF t_init f = true → P := fun {f} {P} h => by rw [nF] at h; cases h
  have noT : ∀ {f : Nat} {P : Prop}, iT t_init f = true → P := fun {f} {P} h => by rw [nT] at h; cases h
  have noA : ∀ {f : Nat} {P : Prop}, iA t_init f = true → P := fun {f} {P} h => by rw [nA] at h; cases h
  have noB : ∀ {j k : Nat} {P : Prop}, hb (gL t_init j) k = true → P := fun {j k} {P} h => by rw [hb0] at h; cases h
  refine ⟨⟨fun k hk => ⟨k, hk, i28_eq k hk⟩, fun k _ h => noT h, ⟨fun f hf => Or.inl (e29 f hf), fun s hs => ⟨0, by omega, t_init_A (by decide) (by decide) (by decide) (by decide) s, by decide⟩, fun s _ k hk => by rw [n0] at hk; omega, fun s _ j k _ hk => by rw [n0] at hk; omega, fun s _ hk => by rw [n0] at hk; omega⟩, ⟨0, by omega, rfl, fun k hk => absurd hk (by omega)⟩, fun k hk => by rw [hb0, nF, Bool.and_false], fun f _ h => noF h, fun f _ h => noF h, fun k hk => i13_eq k hk, ⟨fun f hf => by rw [e18 f hf, e29 f hf], fun s hs => by rw [t_init_A (by decide) (by decide) (by decide) (by decide), t_init_A (by decide) (by decide) (by decide) (by decide)], fun s _ k hk => by rw [n0] at hk; omega, fun s _ hk => by rw [n0] at hk; omega, fun k _ => ⟨fun h => noB h, fun h => absurd (e29 k h.1) h.2⟩⟩, ⟨rfl, fun k hk => by rw [tp] at hk; omega⟩, ⟨fun f _ s _ h => noT h, fun i _ _ h => noT h⟩⟩, ⟨fun f _ h => noF h, fun k _ => ⟨⟨fun h => noB h, fun h => noF (kp_iF h)⟩, ⟨fun h => noB h, fun h => noF h.2.1⟩⟩, fun k _ => ⟨fun h => noB h, fun ⟨s, _, h, _⟩ => by rw [n0] at h; omega⟩⟩, fun a ha => ⟨by rw [nA]; rfl, fun h => noA h⟩, ⟨0, 0, by omega, by omega, rfl, rfl, rfl, fun i hi => absurd hi (by omega)⟩, fun a _ h => noA h⟩
