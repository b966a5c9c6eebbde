/-! ===== p41: what is in order has places ===== -/
theorem ct_one {p : Nat → Bool} : ∀ {n : Nat}, (∀ i j, i < n → j < n → p i = true → p j = true → i = j) → fb_ct p n ≤ 1
  | 0, _ => by rw [fb_ct]; omega
  | n + 1, h => by
    rw [fb_ct_succ]
    have ih := ct_one (p := p) (n := n) (fun i j hi hj => h i j (by omega) (by omega))
    cases q : p n with
    | false => rw [if_neg (by decide)]; omega
    | true =>
      have z : fb_ct p n = 0 := fb_ct_zero.mpr (fun k hk => by
        cases w : p k with
        | false => rfl
        | true => have := h k n (by omega) (by omega) w q; omega)
      rw [z, if_pos rfl]
      omega
theorem ct_lt {p q : Nat → Bool} : ∀ {n : Nat}, (∀ k, k < n → p k = true → q k = true) → (∃ i, i < n ∧ p i = false ∧ q i = true) → fb_ct p n < fb_ct q n
  | 0, _, ⟨i, hi, _⟩ => by omega
  | n + 1, h, ⟨i, hi, h1, h2⟩ => by
    rw [fb_ct_succ, fb_ct_succ]
    have le := fb_ct_sub (p := p) (q := q) (n := n) (fun k hk => h k (by omega))
    by_cases e : i = n
    · subst e
      rw [h1, h2, if_neg (by decide), if_pos rfl]
      omega
    · have lt := ct_lt (p := p) (q := q) (n := n) (fun k hk => h k (by omega)) ⟨i, by omega, h1, h2⟩
      cases a : p n with
      | false =>
        rw [if_neg (by decide)]
        split <;> omega
      | true => rw [if_pos rfl, h n (by omega) a, if_pos rfl]; omega
section RANK
variable {S : Nat → Bool} {lt : Nat → Nat → Bool} {N : Nat}
def rkk (S : Nat → Bool) (lt : Nat → Nat → Bool) (N f : Nat) : Nat := fb_ct (fun g => S g && lt g f) N
theorem rk_lt (irr : ∀ f, lt f f = false) (tr : ∀ f g h, f < N → g < N → h < N → S f = true → S g = true → S h = true → lt f g = true → lt g h = true → lt f h = true) {f g : Nat} (hf : f < N) (hg : g < N) (sf : S f = true) (sg : S g = true) (h : lt f g = true) : rkk S lt N f < rkk S lt N g :=
  ct_lt (fun k hk w => by
    obtain ⟨w1, w2⟩ := (Bool.and_eq_true _ _).mp w
    rw [w1, tr k f g hk hf hg w1 sf sg w2 h]; rfl) ⟨f, hf, by rw [irr, Bool.and_false], by rw [sf, h]; rfl⟩
theorem rk_bound (irr : ∀ f, lt f f = false) {f : Nat} (hf : f < N) (sf : S f = true) : rkk S lt N f < fb_ct S N :=
  ct_lt (fun k hk w => ((Bool.and_eq_true _ _).mp w).1) ⟨f, hf, by rw [irr, Bool.and_false], sf⟩
theorem rk_inj (irr : ∀ f, lt f f = false) (tr : ∀ f g h, f < N → g < N → h < N → S f = true → S g = true → S h = true → lt f g = true → lt g h = true → lt f h = true) (tot : ∀ f g, f < N → g < N → S f = true → S g = true → f ≠ g → lt f g = true ∨ lt g f = true) {f g : Nat} (hf : f < N) (hg : g < N) (sf : S f = true) (sg : S g = true) (e : rkk S lt N f = rkk S lt N g) : f = g := by
  by_cases q : f = g
  · exact q
  · rcases tot f g hf hg sf sg q with w | w
    · have := rk_lt irr tr hf hg sf sg w; omega
    · have := rk_lt irr tr hg hf sg sf w; omega
theorem rk_sur (irr : ∀ f, lt f f = false) (tr : ∀ f g h, f < N → g < N → h < N → S f = true → S g = true → S h = true → lt f g = true → lt g h = true → lt f h = true) (tot : ∀ f g, f < N → g < N → S f = true → S g = true → f ≠ g → lt f g = true ∨ lt g f = true) {p : Nat} (hp : p < fb_ct S N) : ∃ f, f < N ∧ S f = true ∧ rkk S lt N f = p := by
  refine Classical.byContradiction fun no => ?_
  have nop : ∀ f, f < N → S f = true → rkk S lt N f ≠ p := fun f hf sf e => no ⟨f, hf, sf, e⟩
  have key : ∀ q, fb_ct (fun f => S f && decide (rkk S lt N f < q)) N + (if p < q then 1 else 0) ≤ q := by
    intro q
    induction q with
    | zero =>
      rw [if_neg (by omega), fb_ct_zero.mpr (fun k hk => by rw [decide_eq_false (by omega), Bool.and_false])]
      omega
    | succ q ih =>
      have e : fb_ct (fun f => S f && decide (rkk S lt N f < q + 1)) N = fb_ct (fun f => S f && decide (rkk S lt N f < q)) N + fb_ct (fun f => S f && decide (rkk S lt N f = q)) N := by
        rw [← fb_ct_or (fun k hk w => by
          have a1 := of_decide_eq_true ((Bool.and_eq_true _ _).mp w.1).2
          have a2 := of_decide_eq_true ((Bool.and_eq_true _ _).mp w.2).2
          omega)]
        refine fb_ct_cong (fun k hk => ?_)
        cases S k with
        | false => rfl
        | true =>
          rw [Bool.true_and, Bool.true_and, Bool.true_and]
          by_cases a1 : rkk S lt N k < q
          · rw [decide_eq_true a1, decide_eq_true (by omega)]; rfl
          · by_cases a2 : rkk S lt N k = q
            · rw [decide_eq_true a2, decide_eq_true (by omega), Bool.or_true]
            · rw [decide_eq_false a1, decide_eq_false a2, decide_eq_false (by omega)]; rfl
      rw [e]
      have one : fb_ct (fun f => S f && decide (rkk S lt N f = q)) N ≤ 1 := ct_one (fun i j hi hj wi wj => by
        obtain ⟨i1, i2⟩ := (Bool.and_eq_true _ _).mp wi
        obtain ⟨j1, j2⟩ := (Bool.and_eq_true _ _).mp wj
        exact rk_inj irr tr tot hi hj i1 j1 ((of_decide_eq_true i2).trans (of_decide_eq_true j2).symm))
      by_cases a : p < q
      · rw [if_pos a] at ih
        rw [if_pos (by omega)]
        omega
      · rw [if_neg a] at ih
        by_cases b : p = q
        · have z : fb_ct (fun f => S f && decide (rkk S lt N f = q)) N = 0 := fb_ct_zero.mpr (fun k hk => by
            cases s : S k with
            | false => rfl
            | true => rw [decide_eq_false (fun w => nop k hk s (by rw [w, b])), Bool.and_false])
          rw [z, if_pos (by omega)]
          omega
        · rw [if_neg (by omega)]
          omega
  have all : fb_ct (fun f => S f && decide (rkk S lt N f < fb_ct S N)) N = fb_ct S N := fb_ct_cong (fun k hk => by
    cases s : S k with
    | false => rfl
    | true => rw [decide_eq_true (rk_bound irr hk s)]; rfl)
  have := key (fb_ct S N)
  rw [all, if_pos hp] at this
  omega
end RANK
/-! ===== p41: the view of an album ===== -/
theorem cb_iff {m : Sx} (hO : WOrd m) (hV : WVal m) {f g : Nat} (hf : f < 40) (hg : g < 40) : cb m 1 true f g = true ↔ rt m g < rt m f ∨ (rt m f = rt m g ∧ f < g) := by
  have rf := rt_rng hO hV hf
  have rg := rt_rng hO hV hg
  have ei : ∀ x y : Int32, x = y ↔ x.toInt = y.toInt := fun x y => Int32.toInt_inj.symm
  have m1 : ((-1 : Int32)).toInt = -1 := rfl
  unfold cb
  by_cases e : vOr m f 1 (-1) = vOr m g 1 (-1)
  · have e' : rt m f = rt m g := by unfold rt; rw [e]
    rw [if_pos e, decide_eq_true_eq]
    omega
  · have e' : rt m f ≠ rt m g := fun w => e ((ei _ _).mpr w)
    rw [if_neg e]
    by_cases a : vOr m g 1 (-1) = -1
    · have a' : rt m g = -1 := by unfold rt; rw [a]; rfl
      rw [if_pos a]
      exact ⟨fun _ => Or.inl (by omega), fun _ => rfl⟩
    · have a' : rt m g ≠ -1 := fun w => a ((ei _ _).mpr (w.trans m1.symm))
      rw [if_neg a]
      by_cases b : vOr m f 1 (-1) = -1
      · have b' : rt m f = -1 := by unfold rt; rw [b]; rfl
        rw [if_pos b]
        exact ⟨fun w => (by cases w), fun w => (by omega)⟩
      · rw [if_neg b, if_pos rfl, decide_eq_true_eq, i_lt]
        show rt m g < rt m f ↔ _
        omega
/-- the place of a file in a view -/
def vrk (m : Sx) (a f : Nat) : Nat := rkk (shw m (hb (gM m 2 a))) (cb m 1 true) 40 f
section VIEW
variable {c m : Sx} {a : Nat}
theorem vw_irr (m : Sx) : ∀ f, cb m 1 true f f = false := fun f => cb_self m 1 true f
theorem vw_tr (h : Inv c m) (S : Nat → Bool) : ∀ f g k, f < 40 → g < 40 → k < 40 → S f = true → S g = true → S k = true → cb m 1 true f g = true → cb m 1 true g k = true → cb m 1 true f k = true := fun f g k hf hg hk _ _ _ h1 h2 => by
  rw [cb_iff h.1.wO h.1.wV hf hg] at h1
  rw [cb_iff h.1.wO h.1.wV hg hk] at h2
  rw [cb_iff h.1.wO h.1.wV hf hk]
  omega
theorem vw_tot (h : Inv c m) (S : Nat → Bool) : ∀ f g, f < 40 → g < 40 → S f = true → S g = true → f ≠ g → cb m 1 true f g = true ∨ cb m 1 true g f = true := fun f g hf hg _ _ ne => by
  rw [cb_iff h.1.wO h.1.wV hf hg, cb_iff h.1.wO h.1.wV hg hf]
  omega
theorem v_va (h : Inv c m) (ha : a < 8) (hA : iA m a = true) (e38 : gA m 38 a = 1) (e39 : gA m 39 a = 1) {p : Nat} (hp : p < fb_ct (shw m (hb (gM m 2 a))) 40) : ∃ f, f < 40 ∧ shw m (hb (gM m 2 a)) f = true ∧ vrk m a f = p ∧ f_X8_viewAt c (nI a) (nI p) = some (nI f) := by
  have hp40 := fb_ct_le (shw m (hb (gM m 2 a))) 40
  obtain ⟨f0, f1, f2, f3⟩ := rk_sur (S := shw m (hb (gM m 2 a))) (lt := cb m 1 true) (N := 40) (vw_irr m) (vw_tr h _) (vw_tot h _) hp
  obtain ⟨x, e, hx⟩ := shown_eq h ha hA
  obtain ⟨-, d1, ⟨fld, d2, d3, d3'⟩, d4, -, -⟩ := (h.2.2.1 a ha).2 hA
  have efl : fld = 1 := by
    rw [e38] at d3'
    have := d3'.symm
    rw [show (1 : Int32) = nI 1 from rfl, nI_eq_iff (by omega) (by decide)] at this
    exact this
  subst efl
  have e39' : decide (gA m 39 a ≠ 0) = true := by rw [e39]; decide
  rw [e39'] at d4
  have sh40 : ∀ f, f < 40 → hb x f = shw m (hb (gM m 2 a)) f := fun f hf => by rw [hx f (by omega), decide_eq_true hf, Bool.true_and]
  have shF : ∀ f, f < 40 → shw m (hb (gM m 2 a)) f = true → iF m f = true := fun f hf u => by
    unfold shw at u
    exact (Mp.out h.2.2.2.2 a ha hA f (by omega) ((Bool.and_eq_true _ _).mp u).1).2
  have plc : ∀ f, f < 40 → shw m (hb (gM m 2 a)) f = true → f_X7_placeOf c a x (nI f) = some (nI (vrk m a f)) := fun f hf pf => by
    unfold f_X7_placeOf
    exact cnt0 (L := fun n i s => L_X7_placeOf_6 c a x (nI f) (fun z3 z4 => some z3) n s i) (E := fun s => some s) (p := fun g => shw m (hb (gM m 2 a)) g && cb m 1 true g f) (N := 40) (by decide) (fun n s => by
      show L_X7_placeOf_6 _ _ _ _ _ _ _ _ = _
      rw [L_X7_placeOf_6, if_pos (by decide)]) (fun n g s hg => by
      show L_X7_placeOf_6 _ _ _ _ _ _ _ _ = L_X7_placeOf_6 _ _ _ _ _ _ _ _
      rw [L_X7_placeOf_6, if_neg (ngo (x := 40) (N := 40) rfl hg (by decide)), holds_eq _ _ (by omega), sh40 g hg, Option.bind_some, nI_lit1]
      cases pg : shw m (hb (gM m 2 a)) g with
      | false => rw [bF]; rfl
      | true =>
        rw [bT, comesBefore_eq h.2.1.1 d2 d3 d4 hg hf (shF g hg pg) (shF f hf pf), Option.bind_some, Bool.true_and]
        cases cb m 1 true g f with
        | false => rw [bF, if_neg (by decide)]
        | true => rw [bT, if_pos rfl])
  have r1 := find0 (L := fun n i => L_X7_fileAt_9 c a (nI p) x (fun z4 => some (-1)) n i) (p := fun f => shw m (hb (gM m 2 a)) f && decide (nI (vrk m a f) = nI p)) (N := 40) (A := some (-1)) (B := fun f => some (nI f)) (by decide) (fun n => by
    show L_X7_fileAt_9 _ _ _ _ _ _ _ = _
    rw [L_X7_fileAt_9, if_pos (by decide)]) (fun n f hf => by
    show L_X7_fileAt_9 _ _ _ _ _ _ _ = _
    rw [L_X7_fileAt_9, if_neg (ngo (x := 40) (N := 40) rfl hf (by decide)), holds_eq _ _ (by omega), sh40 f hf, Option.bind_some, nI_lit1]
    cases pf : shw m (hb (gM m 2 a)) f with
    | false => rw [bF]; rfl
    | true =>
      rw [bT, plc f hf pf, Option.bind_some, Bool.true_and]
      by_cases u : nI (vrk m a f) = nI p
      · rw [if_pos u, decide_eq_true u, if_pos rfl]
      · rw [if_neg u, decide_eq_false u, if_neg (by decide)])
  cases ef : fst? (fun f => shw m (hb (gM m 2 a)) f && decide (nI (vrk m a f) = nI p)) 0 40 with
  | none =>
    have := fst?_none ef f0 (by omega) (by omega)
    rw [f2, show vrk m a f0 = p from f3, decide_eq_true rfl] at this
    cases this
  | some f =>
    obtain ⟨-, hf, hs, -⟩ := fst?_some ef
    obtain ⟨hs1, hs2⟩ := (Bool.and_eq_true _ _).mp hs
    have hf : f < 40 := by omega
    have vb := rk_bound (S := shw m (hb (gM m 2 a))) (lt := cb m 1 true) (N := 40) (vw_irr m) hf hs1
    have er : vrk m a f = p := by
      have := of_decide_eq_true hs2
      have vb' : vrk m a f < fb_ct (shw m (hb (gM m 2 a))) 40 := vb
      rw [nI_eq_iff (by omega) (by omega)] at this
      exact this
    refine ⟨f, hf, hs1, er, ?_⟩
    unfold f_X8_viewAt f_X7_fileAt
    rw [hasAlbum_eq h.2.2.1, alm_nI ha, hA, Option.bind_some, bT, if_pos (nI_pos' (by omega)), gd_pos (vin_nI ha (by decide)), ix_nI (by omega), e, Option.bind_some, r1, ef]
    dsimp only
    rw [Option.bind_some, orNF, nI_not_m1 (by omega)]
    rfl
/-- what stands at a later place isn't rated higher -/
theorem vw_sort (h : Inv c m) {f g : Nat} (hf : f < 40) (hg : g < 40) (sf : shw m (hb (gM m 2 a)) f = true) (sg : shw m (hb (gM m 2 a)) g = true) (w : vrk m a f < vrk m a g) : rt m g ≤ rt m f := by
  refine Classical.byContradiction fun no => ?_
  have hc : cb m 1 true g f = true := (cb_iff h.1.wO h.1.wV hg hf).mpr (Or.inl (by omega))
  have := rk_lt (S := shw m (hb (gM m 2 a))) (vw_irr m) (vw_tr h _) hg hf sg sf hc
  have w' : rkk (shw m (hb (gM m 2 a))) (cb m 1 true) 40 f < rkk (shw m (hb (gM m 2 a))) (cb m 1 true) 40 g := w
  omega
/-- of a collapsed stack one file is shown -/
theorem vw_one {f g s : Nat} (hs : s < 10) (sf : shw m (hb (gM m 2 a)) f = true) (sg : shw m (hb (gM m 2 a)) g = true) (ef : gA m 29 f = nI s) (eg : gA m 29 g = nI s) (h33 : gA m 33 s ≠ 0) : f = g := by
  have key : ∀ k, gA m 29 k = nI s → shw m (hb (gM m 2 a)) k = true → shS m (hb (gM m 2 a)) s k = true := fun k ek sk => by
    unfold shw at sk
    have := ((Bool.and_eq_true _ _).mp sk).2
    rw [ek, ix_nI (by omega), decide_eq_false (nI_ne_m1 (by omega)), decide_eq_false h33] at this
    exact this
  have k1 := key f ef sf
  have k2 := key g eg sg
  unfold shS at k1 k2
  by_cases q : hb (gM m 2 a) (cov m s) = true
  · rw [if_pos q] at k1 k2
    rw [of_decide_eq_true k1, of_decide_eq_true k2]
  · rw [if_neg q] at k1 k2
    cases e : fst? (fun j => hb (gM m 2 a) (fl m s j)) 0 (mn m s) with
    | none => rw [e] at k1; cases k1
    | some j =>
      rw [e] at k1 k2
      rw [of_decide_eq_true k1, of_decide_eq_true k2]
end VIEW
