/-! ===== views ===== -/
theorem fst?_snoc {p : Nat → Bool} : ∀ (d i : Nat), fst? p i (d + 1) = match fst? p i d with
    | some j => some j
    | none => if p (i + d) = true then some (i + d) else none
  | 0, i => by rw [fst?, fst?, fst?]; rfl
  | d + 1, i => by
    show (if p i = true then some i else fst? p (i + 1) (d + 1)) = match (if p i = true then some i else fst? p (i + 1) d) with
      | some j => some j
      | none => if p (i + (d + 1)) = true then some (i + (d + 1)) else none
    by_cases q : p i = true
    · rw [if_pos q, if_pos q]
    · rw [if_neg q, if_neg q, fst?_snoc d (i + 1), show i + 1 + d = i + (d + 1) by omega]
/-- what of a collapsed stack is shown -/
def shS (m : Sx) (M : Nat → Bool) (s f : Nat) : Bool := if M (cov m s) = true then decide (f = cov m s) else match fst? (fun j => M (fl m s j)) 0 (mn m s) with
  | some j => decide (f = fl m s j)
  | none => false
def shw (m : Sx) (M : Nat → Bool) (f : Nat) : Bool := M f && (decide (gA m 29 f = -1) || (decide (gA m 33 (ix (gA m 29 f)) = 0) || shS m M (ix (gA m 29 f)) f))
theorem shS_M {m : Sx} {M : Nat → Bool} {s f : Nat} (h : shS m M s f = true) : M f = true := by
  unfold shS at h
  by_cases q : M (cov m s) = true
  · rw [if_pos q] at h; rw [of_decide_eq_true h]; exact q
  · rw [if_neg q] at h
    cases e : fst? (fun j => M (fl m s j)) 0 (mn m s) with
    | none => rw [e] at h; cases h
    | some j =>
      rw [e] at h
      rw [of_decide_eq_true h]
      exact (fst?_some e).2.2.1
theorem withoutHidden_eq {c m : Sx} (hB : Ba c m) (dV : DVal c m) {s : Nat} (hs : s < 10) (hn : 0 < mn m s) {M : Nat → Bool} {x : Int64} (hx : ∀ j, j < mn m s → hb x (fl m s j) = M (fl m s j)) : ∃ x', f_X6_withoutHidden c (nI s) x = some x' ∧ ∀ f, f < 64 → hb x' f = if f < 40 ∧ gA m 29 f = nI s then shS m M s f else hb x f := by
  obtain ⟨en, h8, n1⟩ := wStk_mn hB.wS hs
  have gs : vp_in (nI s) 10 := vin_nI hs (by decide)
  have xs : ix (nI s) = s := ix_nI (by omega)
  have e14 : ∀ k, k < mn m s → gA c 14 (8 * s + k) = nI (fl m s k) ∧ fl m s k < 40 ∧ gA m 29 (fl m s k) = nI s := fun k hk => by
    rw [hB.rS.2.2.1 s hs k hk]; exact wStk_fl hB.wS hs hk
  unfold f_X6_withoutHidden
  obtain ⟨σ, ⟨h1, h2⟩, r⟩ := loop0G (L := fun n i (σ : Int64 × Int32) (kont : Int64 → Int32 → Int32 → Option Int64) => L_X6_withoutHidden_9 c (nI s) x kont n σ.1 σ.2 i) (E := fun σ kont => kont σ.1 σ.2 (nI (mn m s))) (N := mn m s) (by omega) (y := (x, (-1 : Int32)))
    (fun k σ => (∀ f, f < 64 → (hb σ.1 f = true ↔ hb x f = true ∧ ∀ j, j < k → fl m s j ≠ f)) ∧ σ.2 = match fst? (fun j => M (fl m s j)) 0 k with
      | some j => nI (fl m s j)
      | none => -1)
    (fun n σ _ => by
      funext kont
      show L_X6_withoutHidden_9 _ _ _ _ _ _ _ _ = _
      rw [L_X6_withoutHidden_9, gd_pos gs, xs, hB.rS.2.1 s hs, en, if_pos (nI_le (Nat.le_refl _) (by omega))])
    (fun k σ hk hI => by
      obtain ⟨h1, h2⟩ := hI
      obtain ⟨f1, f2, f3⟩ := e14 k hk
      have cut : ∀ f, f < 64 → (hb (σ.1 &&& (shlL 1 (nI (fl m s k)) ^^^ -1)) f = true ↔ hb x f = true ∧ ∀ j, j < k + 1 → fl m s j ≠ f) := fun f hf => by
        rw [hb_cut _ (by omega) hf, Bool.and_eq_true, h1 f hf]
        constructor
        · rintro ⟨⟨u1, u2⟩, u3⟩
          refine ⟨u1, fun j hj => ?_⟩
          rcases Nat.eq_or_lt_of_le (Nat.lt_succ_iff.mp hj) with q | q
          · subst q
            intro w
            rw [decide_eq_true w.symm] at u3; cases u3
          · exact u2 j q
        · rintro ⟨u1, u2⟩
          refine ⟨⟨u1, fun j hj => u2 j (by omega)⟩, ?_⟩
          rw [decide_eq_false (fun w => u2 k (by omega) w.symm)]; rfl
      have step : ∀ (kont : Int64 → Int32 → Int32 → Option Int64) n, L_X6_withoutHidden_9 c (nI s) x kont (n + 1) σ.1 σ.2 (nI k) = if σ.2 = -1 then (if b2 (M (fl m s k)) = 0 then L_X6_withoutHidden_9 c (nI s) x kont n (σ.1 &&& (shlL 1 (nI (fl m s k)) ^^^ -1)) σ.2 (nI (k + 1)) else L_X6_withoutHidden_9 c (nI s) x kont n (σ.1 &&& (shlL 1 (nI (fl m s k)) ^^^ -1)) (nI (fl m s k)) (nI (k + 1))) else L_X6_withoutHidden_9 c (nI s) x kont n (σ.1 &&& (shlL 1 (nI (fl m s k)) ^^^ -1)) σ.2 (nI (k + 1)) := fun kont n => by
        rw [L_X6_withoutHidden_9, gd_pos gs, xs, hB.rS.2.1 s hs, en, if_neg (by rw [nI_le_iff (by omega) (by omega)]; omega), spot_eq, Option.bind_some, gd_pos (vin_nI (by omega) (by decide)), ix_nI (by omega), f1, holds_eq _ _ (by omega), hx k hk, L_only]
        simp only [Option.bind_some, nI_lit1]
      have sn := fst?_snoc (p := fun j => M (fl m s j)) k 0
      rw [Nat.zero_add] at sn
      cases e : fst? (fun j => M (fl m s j)) 0 k with
      | some j =>
        rw [e] at h2 sn
        have hj := (fst?_some e).2.1
        refine ⟨(σ.1 &&& (shlL 1 (nI (fl m s k)) ^^^ -1), σ.2), ⟨cut, by rw [sn]; exact h2⟩, fun n => ?_⟩
        funext kont
        show L_X6_withoutHidden_9 _ _ _ _ _ _ _ _ = L_X6_withoutHidden_9 _ _ _ _ _ _ _ _
        have := (e14 j (by omega)).2.1
        rw [step, if_neg (by rw [h2]; exact nI_ne_m1 (by omega))]
      | none =>
        rw [e] at h2 sn
        cases q : M (fl m s k) with
        | false =>
          refine ⟨(σ.1 &&& (shlL 1 (nI (fl m s k)) ^^^ -1), σ.2), ⟨cut, by rw [sn]; dsimp only; rw [q, if_neg (by decide)]; exact h2⟩, fun n => ?_⟩
          funext kont
          show L_X6_withoutHidden_9 _ _ _ _ _ _ _ _ = L_X6_withoutHidden_9 _ _ _ _ _ _ _ _
          rw [step, if_pos h2, q, if_pos b2_f]
        | true =>
          refine ⟨(σ.1 &&& (shlL 1 (nI (fl m s k)) ^^^ -1), nI (fl m s k)), ⟨cut, by rw [sn]; dsimp only; rw [q, if_pos rfl]⟩, fun n => ?_⟩
          funext kont
          show L_X6_withoutHidden_9 _ _ _ _ _ _ _ _ = L_X6_withoutHidden_9 _ _ _ _ _ _ _ _
          rw [step, if_pos h2, q, if_neg (by decide)])
    ⟨fun f hf => ⟨fun u => ⟨u, fun j hj => absurd hj (by omega)⟩, fun u => u.1⟩, rfl⟩
  have r' := congrFun r (fun z6 z7 z8 => if z7 = (-1) then some x else (f_X6_cover c (nI s)).bind fun r9 => (f_X8_holds c (x) (r9)).bind fun r10 => if r10 = 0 then (f_X8_only c (z7)).bind fun r11 => some (z6 ||| r11) else (f_X8_only c (r9)).bind fun r12 => some (z6 ||| r12))
  dsimp only at r'
  rw [r']
  -- the files of the stack
  have inS : ∀ f, f < 40 → gA m 29 f = nI s → ∃ j, j < mn m s ∧ fl m s j = f := fun f hf e => (wStk_in hB.wS hf e hs).2
  obtain ⟨c1, c2⟩ := cov_ok hB.wS hs hn
  obtain ⟨jc, hjc, ejc⟩ := inS _ c1 c2
  have hxc : hb x (cov m s) = M (cov m s) := by rw [← ejc]; exact hx jc hjc
  cases e : fst? (fun j => M (fl m s j)) 0 (mn m s) with
  | none =>
    rw [e] at h2
    rw [h2, if_pos rfl]
    refine ⟨x, rfl, fun f hf => ?_⟩
    have no : ∀ j, j < mn m s → M (fl m s j) = false := fun j hj => fst?_none e j (by omega) (by omega)
    by_cases q : f < 40 ∧ gA m 29 f = nI s
    · obtain ⟨j, hj, ej⟩ := inS f q.1 q.2
      rw [if_pos q, ← ej, hx j hj, no j hj]
      unfold shS
      rw [← ejc, no jc hjc, if_neg (by decide), e]
    · rw [if_neg q]
  | some j =>
    rw [e] at h2
    obtain ⟨-, hj, hMj, -⟩ := fst?_some e
    obtain ⟨-, j1, j2⟩ := e14 j (by omega)
    rw [h2, if_neg (nI_ne_m1 (by omega)), coverC_eq hB.wO hB.wV hB.wS hB.rS dV hs hn, Option.bind_some, holds_eq _ _ (by omega), hxc, Option.bind_some, L_only, L_only]
    have key : ∀ t, t < 40 → gA m 29 t = nI s → ∀ f, f < 64 → hb (σ.1 ||| shlL 1 (nI t)) f = if f < 40 ∧ gA m 29 f = nI s then decide (f = t) else hb x f := fun t ht et f hf => by
      rw [hb_orx _ (by omega) hf]
      by_cases q : f < 40 ∧ gA m 29 f = nI s
      · obtain ⟨i, hi, ei⟩ := inS f q.1 q.2
        rw [if_pos q]
        have : hb σ.1 f = false := by
          cases z : hb σ.1 f with
          | false => rfl
          | true => exact absurd ei (((h1 f hf).mp z).2 i hi)
        rw [this, Bool.false_or]
      · rw [if_neg q, decide_eq_false (fun w => q ⟨by omega, by rw [w]; exact et⟩), Bool.or_false]
        cases z : hb x f with
        | true => exact (h1 f hf).mpr ⟨z, fun i hi w => q (by rw [← w]; exact (e14 i hi).2)⟩
        | false =>
          cases z2 : hb σ.1 f with
          | false => rfl
          | true => rw [((h1 f hf).mp z2).1] at z; cases z
    cases q : M (cov m s) with
    | false =>
      refine ⟨σ.1 ||| shlL 1 (nI (fl m s j)), rfl, fun f hf => ?_⟩
      rw [key _ j1 j2 f hf]
      unfold shS
      rw [q, if_neg (show ¬ false = true by decide), e]
    | true =>
      refine ⟨σ.1 ||| shlL 1 (nI (cov m s)), rfl, fun f hf => ?_⟩
      rw [key _ c1 c2 f hf]
      unfold shS
      rw [q, if_pos (show true = true from rfl)]
/-- whether the stack of a file is collapsed and has a number below s -/
def fh (m : Sx) (f s : Nat) : Bool := decide (gA m 29 f ≠ -1) && (decide (ix (gA m 29 f) < s) && decide (gA m 33 (ix (gA m 29 f)) ≠ 0))
theorem fh_iff {m : Sx} {f s : Nat} : fh m f s = true ↔ gA m 29 f ≠ -1 ∧ ix (gA m 29 f) < s ∧ gA m 33 (ix (gA m 29 f)) ≠ 0 := by
  simp only [fh, Bool.and_eq_true, decide_eq_true_eq]
theorem shown_eq {c m : Sx} (h : Inv c m) {a : Nat} (ha : a < 8) (hA : iA m a = true) : ∃ x, f_X7_shown c a = some x ∧ ∀ f, f < 64 → hb x f = (decide (f < 40) && shw m (hb (gM m 2 a)) f) := by
  unfold f_X7_shown f_X0_members
  rw [Option.bind_some, RMem.of h.2.2.1 a ha hA]
  have hM : ∀ f, f < 64 → ¬ f < 40 → hb (gM m 2 a) f = false := fun f hf q => by
    cases z : hb (gM m 2 a) f with
    | false => rfl
    | true => exact absurd (Mp.out h.2.2.2.2 a ha hA f hf z).1 q
  obtain ⟨x, hx, r⟩ := loop0 (L := fun n i (x : Int64) => L_X7_shown_8 c a (fun z5 z6 => some z5) n x i) (E := fun x => some x) (N := 10) (by decide) (y := gM m 2 a)
    (fun s x => ∀ f, f < 64 → hb x f = if f < 40 ∧ fh m f s = true then shw m (hb (gM m 2 a)) f else hb (gM m 2 a) f)
    (fun n x _ => by
      show L_X7_shown_8 _ _ _ _ _ _ = _
      rw [L_X7_shown_8, if_pos (by decide)])
    (fun s x hs hI => by
      have st : ∀ n, L_X7_shown_8 c a (fun z5 z6 => some z5) (n + 1) x (nI s) = if b2 (isS m s) = 0 then L_X7_shown_8 c a (fun z5 z6 => some z5) n x (nI (s + 1)) else (f_X6_isCollapsed c (nI s)).bind fun r3 => if r3 = 0 then L_X7_shown_8 c a (fun z5 z6 => some z5) n x (nI (s + 1)) else (f_X6_withoutHidden c (nI s) x).bind fun r4 => L_X7_shown_8 c a (fun z5 z6 => some z5) n r4 (nI (s + 1)) := fun n => by
        rw [L_X7_shown_8, if_neg (ngo (x := 10) (N := 10) rfl hs (by decide)), hasS_eq h.1.wS h.1.rS, stn_nI hs, Option.bind_some, nI_lit1]
      -- a file with a stack
      have hom : ∀ f, f < 40 → gA m 29 f ≠ -1 → ∃ s', s' < 10 ∧ gA m 29 f = nI s' ∧ ix (gA m 29 f) = s' ∧ 0 < mn m s' := fun f hf q => by
        rcases wStk_home h.1.wS hf with e | ⟨s', hs', e, e2, -⟩
        · exact absurd e q
        · exact ⟨s', hs', e, by rw [e, ix_nI (by omega)], e2⟩
      have keep : (0 < mn m s → gA m 33 s = 0) → ∀ f, f < 64 → hb x f = if f < 40 ∧ fh m f (s + 1) = true then shw m (hb (gM m 2 a)) f else hb (gM m 2 a) f := fun q f hf => by
        rw [hI f hf]
        by_cases f40 : f < 40
        · have : fh m f (s + 1) = fh m f s := by
            cases z : fh m f (s + 1) with
            | true =>
              obtain ⟨z1, z2, z3⟩ := fh_iff.mp z
              obtain ⟨s', hs', e, e2, e3⟩ := hom f f40 z1
              refine (fh_iff.mpr ⟨z1, ?_, z3⟩).symm
              rcases Nat.eq_or_lt_of_le (Nat.lt_succ_iff.mp z2) with w | w
              · rw [e2] at w; subst w
                rw [e2] at z3
                exact absurd (q e3) z3
              · exact w
            | false =>
              cases z' : fh m f s with
              | false => rfl
              | true =>
                obtain ⟨z1, z2, z3⟩ := fh_iff.mp z'
                rw [fh_iff.mpr ⟨z1, by omega, z3⟩] at z; cases z
          rw [this]
        · rw [if_neg (fun w => f40 w.1), if_neg (fun w => f40 w.1)]
      cases q : isS m s with
      | false =>
        have q0 : ¬ 0 < mn m s := by unfold isS at q; exact of_decide_eq_false q
        refine ⟨x, keep (fun w => absurd w q0), fun n => ?_⟩
        show L_X7_shown_8 _ _ _ _ _ _ = _
        rw [st, q, if_pos b2_f]
      | true =>
        have hn : 0 < mn m s := by unfold isS at q; exact of_decide_eq_true q
        have ec : f_X6_isCollapsed c (nI s) = some (b2 (decide (gA m 33 s ≠ 0))) := by
          unfold f_X6_isCollapsed
          rw [gd_pos (vin_nI hs (by decide)), ix_nI (by omega), (h.1.rS.2.2.2.1 s hs hn).2, gd_pos (gz_b2 _)]
        by_cases w : gA m 33 s = 0
        · refine ⟨x, keep (fun _ => w), fun n => ?_⟩
          show L_X7_shown_8 _ _ _ _ _ _ = _
          rw [st, q, if_neg (by decide), ec, Option.bind_some, decide_eq_false (fun u => u w), if_pos b2_f]
        · obtain ⟨x', e, hx'⟩ := withoutHidden_eq h.1 h.2.1.1 hs hn (M := hb (gM m 2 a)) (x := x) (fun j hj => by
            obtain ⟨-, j1, j2⟩ := wStk_fl h.1.wS hs hj
            rw [hI _ (by omega), if_neg]
            rintro ⟨-, u⟩
            have := (fh_iff.mp u).2.1
            rw [j2, ix_nI (by omega)] at this
            omega)
          refine ⟨x', fun f hf => ?_, fun n => ?_⟩
          · rw [hx' f hf]
            by_cases u : f < 40 ∧ gA m 29 f = nI s
            · have xf : ix (gA m 29 f) = s := by rw [u.2, ix_nI (by omega)]
              have nm : gA m 29 f ≠ -1 := by rw [u.2]; exact nI_ne_m1 (by omega)
              rw [if_pos u, if_pos ⟨u.1, fh_iff.mpr ⟨nm, by rw [xf]; omega, by rw [xf]; exact w⟩⟩]
              unfold shw
              rw [decide_eq_false nm, xf, decide_eq_false w, Bool.false_or, Bool.false_or]
              cases z : shS m (hb (gM m 2 a)) s f with
              | false => rw [Bool.and_false]
              | true => rw [shS_M z]; rfl
            · rw [if_neg u, hI f hf]
              by_cases f40 : f < 40
              · have : fh m f (s + 1) = fh m f s := by
                  cases z : fh m f (s + 1) with
                  | true =>
                    obtain ⟨z1, z2, z3⟩ := fh_iff.mp z
                    obtain ⟨s', hs', eh, e2, e3⟩ := hom f f40 z1
                    refine (fh_iff.mpr ⟨z1, ?_, z3⟩).symm
                    rcases Nat.eq_or_lt_of_le (Nat.lt_succ_iff.mp z2) with v | v
                    · rw [e2] at v
                      exact absurd ⟨f40, by rw [eh, v]⟩ u
                    · exact v
                  | false =>
                    cases z' : fh m f s with
                    | false => rfl
                    | true =>
                      obtain ⟨z1, z2, z3⟩ := fh_iff.mp z'
                      rw [fh_iff.mpr ⟨z1, by omega, z3⟩] at z; cases z
                rw [this]
              · rw [if_neg (fun v => f40 v.1), if_neg (fun v => f40 v.1)]
          · show L_X7_shown_8 _ _ _ _ _ _ = _
            rw [st, q, if_neg (by decide), ec, Option.bind_some, decide_eq_true w, if_neg (by decide), e, Option.bind_some])
    (fun f hf => by
      rw [if_neg]
      rintro ⟨-, u⟩
      have := (fh_iff.mp u).2.1
      omega)
  refine ⟨x, r, fun f hf => ?_⟩
  rw [hx f hf]
  by_cases f40 : f < 40
  · rw [decide_eq_true f40, Bool.true_and]
    by_cases u : fh m f 10 = true
    · rw [if_pos ⟨f40, u⟩]
    · rw [if_neg (fun w => u w.2)]
      unfold shw
      by_cases z1 : gA m 29 f = -1
      · rw [decide_eq_true z1, Bool.true_or, Bool.and_true]
      · by_cases z2 : gA m 33 (ix (gA m 29 f)) = 0
        · rw [decide_eq_true z2, Bool.true_or, Bool.or_true, Bool.and_true]
        · rcases wStk_home h.1.wS f40 with e | ⟨s', hs', e, e2, -⟩
          · exact absurd e z1
          · exact absurd (fh_iff.mpr ⟨z1, by rw [e, ix_nI (by omega)]; exact hs', z2⟩) u
  · rw [if_neg (fun w => f40 w.1), decide_eq_false f40, hM f hf f40]; rfl
theorem shrL_c0 (x : Int64) {f : Nat} (hf : f < 64) : (lg_cmp (shrL x (nI f) &&& 1) 0 = 0) ↔ hb x f = false := by
  rw [lg_cmp_eq, s_bit x hf]
  cases hb x f <;> decide
theorem isShown_eq {c m : Sx} (h : Ba c m) {a f : Nat} (ha : a < 8) (hf : f < 40) : f_X9_isShown m (nI a) (nI f) = some (b2 (shw m (hb (gM m 2 a)) f)) := by
  have gf : vp_in (nI f) 40 := vin_nI hf (by decide)
  have ga : vp_in (nI a) 8 := vin_nI ha (by decide)
  have xf : ix (nI f) = f := ix_nI (by omega)
  have xa : ix (nI a) = a := ix_nI (by omega)
  unfold f_X9_isShown shw
  simp only [gd_pos gf, gd_pos ga, xf, xa]
  cases q : hb (gM m 2 a) f with
  | false => rw [if_pos ((shrL_c0 _ (by omega)).mpr q), if_neg (fun w => by rw [(shrL_c _ (by omega)).mp w] at q; cases q)]; rfl
  | true =>
    rw [if_neg (fun w => by rw [(shrL_c0 _ (by omega)).mp w] at q; cases q), Bool.true_and]
    have one := (shrL_c (gM m 2 a) (show f < 64 by omega)).mpr q
    rcases h.wS.1 f hf with e | ⟨s, hs, e, -, kf, hkf, e31⟩
    · rw [e, if_pos (show (-1 : Int32) < 0 by decide), if_pos one]; rfl
    · have nm : gA m 29 f ≠ -1 := by rw [e]; exact nI_ne_m1 (by omega)
      have gs : vp_in (nI s) 10 := vin_nI hs (by decide)
      have xs : ix (nI s) = s := ix_nI (by omega)
      rw [decide_eq_false nm, Bool.false_or, e, if_neg (nI_pos (by omega)), gd_pos gs, xs]
      by_cases w : gA m 33 s = 0
      · rw [if_pos w, if_pos one, decide_eq_true w]; rfl
      · have hn : 0 < mn m s := by omega
        obtain ⟨-, h8, -⟩ := wStk_mn h.wS hs
        obtain ⟨c1, c2⟩ := cov_ok h.wS hs hn
        rw [if_neg w, decide_eq_false w, Bool.false_or, cover_eq h.wO h.wV h.wS hs hn, Option.bind_some]
        unfold shS
        cases z : hb (gM m 2 a) (cov m s) with
        | true =>
          rw [if_pos ((shrL_c _ (by omega)).mpr z), if_pos rfl]
          by_cases u : f = cov m s
          · rw [if_pos (by rw [← u]), decide_eq_true u]; rfl
          · rw [if_neg (by rw [nI_eq_iff (by omega) (by omega)]; exact u), decide_eq_false u]; rfl
        | false =>
          rw [if_neg (fun v => by rw [(shrL_c _ (by omega)).mp v] at z; cases z), if_neg (by decide)]
          have efk : fl m s kf = f := by unfold fl; rw [e31, ix_nI (by omega)]
          cases ef : fst? (fun j => hb (gM m 2 a) (fl m s j)) 0 (mn m s) with
          | none =>
            have := fst?_none ef kf (by omega) (by omega)
            rw [efk, q] at this; cases this
          | some k0 =>
            obtain ⟨-, hk0, hM0, hlt⟩ := fst?_some ef
            have hk0' : k0 < mn m s := by omega
            have run : ∀ kont : Int32 → Option Int32, L_X9_isShown_94 m (nI a) (nI f) (nI s) (nI (cov m s)) kont FU 0 = kont (nI k0) := fun kont => by
              have st : ∀ n k, k < mn m s → L_X9_isShown_94 m (nI a) (nI f) (nI s) (nI (cov m s)) kont (n + 1) (nI k) = if hb (gM m 2 a) (fl m s k) = false then L_X9_isShown_94 m (nI a) (nI f) (nI s) (nI (cov m s)) kont n (nI (k + 1)) else kont (nI k) := fun n k hk => by
                obtain ⟨k1, k2, -⟩ := wStk_fl h.wS hs hk
                rw [L_X9_isShown_94, gd_pos ga, i8, gd_pos (vin_nI (by omega) (by decide)), xa, ix_nI (by omega), k1, bd_eq, nI_lit1]
                cases y : hb (gM m 2 a) (fl m s k) with
                | false => rw [if_pos ((shrL_c0 _ (by omega)).mpr y), if_pos rfl]
                | true => rw [if_neg (fun v => by rw [(shrL_c0 _ (by omega)).mp v] at y; cases y), if_neg (by decide)]
              obtain ⟨_, -, r⟩ := loop0G (L := fun n i (_ : Unit) => L_X9_isShown_94 m (nI a) (nI f) (nI s) (nI (cov m s)) kont n i) (E := fun _ => kont (nI k0)) (N := k0) (by omega) (y := ()) (fun _ _ => True)
                (fun n _ _ => by
                  show L_X9_isShown_94 _ _ _ _ _ _ _ _ = _
                  rw [st n k0 hk0', if_neg (by rw [hM0]; decide)])
                (fun k _ hk _ => ⟨(), trivial, fun n => by
                  show L_X9_isShown_94 _ _ _ _ _ _ _ _ = _
                  rw [st n k (by omega), if_pos (hlt k (by omega) hk)]⟩) trivial
              exact r
            obtain ⟨k1, k2, -⟩ := wStk_fl h.wS hs hk0'
            rw [run, i8, gd_pos (vin_nI (by omega) (by decide)), ix_nI (by omega), k1]
            dsimp only
            by_cases u : f = fl m s k0
            · rw [if_pos (by rw [← u]), decide_eq_true u]; rfl
            · rw [if_neg (by rw [nI_eq_iff (by omega) (by omega)]; exact fun v => u v.symm), decide_eq_false u]; rfl
