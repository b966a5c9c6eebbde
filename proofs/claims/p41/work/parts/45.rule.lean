/-! ===== rules: the run over a text, its fault ===== -/
/-- the run over a text: state and open parentheses behind k characters, none: one may not stand there -/
def rn (ch : Nat → Nat) : Nat → Option (Nat × Nat)
  | 0 => some (0, 0)
  | k + 1 => match rn ch k with
    | none => none
    | some (s, o) => if nx s (ch k) o = 99 then none else some (nx s (ch k) o, if ch k = 40 then o + 1 else if ch k = 41 then o - 1 else o)
def okc (ch : Nat → Nat) (n : Nat) : Prop := ∀ k, k < n → 33 ≤ ch k ∧ ch k ≤ 126
theorem rn_ok {ch : Nat → Nat} {n : Nat} (h : okc ch n) : ∀ (k : Nat), k ≤ n → ∀ s o, rn ch k = some (s, o) → s < 9 ∧ o < 11
  | 0, _, s, o, e => by cases e; exact ⟨by decide, by decide⟩
  | k + 1, hk, s, o, e => by
    rw [rn] at e
    cases e1 : rn ch k with
    | none => rw [e1] at e; cases e
    | some p =>
      obtain ⟨s1, o1⟩ := p
      rw [e1] at e
      dsimp only at e
      obtain ⟨g1, g2⟩ := rn_ok h k (by omega) s1 o1 e1
      obtain ⟨c1, c2⟩ := h k (by omega)
      by_cases q : nx s1 (ch k) o1 = 99
      · rw [if_pos q] at e; cases e
      · rw [if_neg q] at e
        obtain ⟨w1, w2, w3⟩ := nx_ok g1 (by omega) g2 q
        have e2 := Prod.mk.inj (Option.some.inj e)
        refine ⟨by rw [← e2.1]; exact w1, ?_⟩
        rw [← e2.2]
        by_cases c40 : ch k = 40
        · rw [if_pos c40]; have := w2 c40; omega
        · rw [if_neg c40]
          by_cases c41 : ch k = 41
          · rw [if_pos c41]; omega
          · rw [if_neg c41]; exact g2
theorem rn_le {ch : Nat → Nat} : ∀ {k j : Nat}, j ≤ k → rn ch j = none → rn ch k = none
  | 0, j, h, e => by
    obtain rfl : j = 0 := by omega
    exact e
  | k + 1, j, h, e => by
    rcases Nat.eq_or_lt_of_le h with q | q
    · rw [← q]; exact e
    · rw [rn, rn_le (Nat.lt_succ_iff.mp q) e]
/-- a whole rule -/
def vld (ch : Nat → Nat) (n : Nat) : Prop := ∃ s, rn ch n = some (s, 0) ∧ (s = 8 ∨ (3 ≤ s ∧ s ≤ 6))
/-- the text's fault; the text is no rule -/
def flt (ch : Nat → Nat) (n p : Nat) : Prop := (p < n ∧ (∃ q, rn ch p = some q) ∧ rn ch (p + 1) = none) ∨ (p = n ∧ (∃ q, rn ch n = some q) ∧ ¬ vld ch n)
def tpd (m : Sx) : Nat := ix (gI m 52)
def tch (m : Sx) (k : Nat) : Nat := ix (gA m 34 k)
def WTxt (m : Sx) : Prop := ∃ n, n ≤ 80 ∧ gI m 52 = nI n ∧ ∀ k, k < n → ∃ ch, 33 ≤ ch ∧ ch ≤ 126 ∧ gA m 34 k = nI ch
theorem wTxt_n {m : Sx} (h : WTxt m) : tpd m ≤ 80 ∧ gI m 52 = nI (tpd m) := by
  obtain ⟨n, hn, e, -⟩ := h
  have : tpd m = n := by unfold tpd; rw [e, ix_nI (by omega)]
  rw [this]
  exact ⟨hn, e⟩
theorem wTxt_c {m : Sx} (h : WTxt m) {k : Nat} (hk : k < tpd m) : 33 ≤ tch m k ∧ tch m k ≤ 126 ∧ gA m 34 k = nI (tch m k) := by
  obtain ⟨n, hn, e, hc⟩ := h
  have : tpd m = n := by unfold tpd; rw [e, ix_nI (by omega)]
  obtain ⟨c, h1, h2, h3⟩ := hc k (by omega)
  have : tch m k = c := by unfold tch; rw [h3, ix_nI (by omega)]
  rw [this]
  exact ⟨h1, h2, h3⟩
theorem wTxt_ok {m : Sx} (h : WTxt m) : okc (tch m) (tpd m) := fun k hk => ⟨(wTxt_c h hk).1, (wTxt_c h hk).2.1⟩
theorem rI_nI {s : Nat} (h : s ≠ 99) : rI s = nI s := if_neg h
theorem nI_sub1 {k : Nat} (h : 0 < k) : nI k + (-1) = nI (k - 1) := by
  obtain ⟨q, rfl⟩ : ∃ q, k = q + 1 := ⟨k - 1, by omega⟩
  rw [Nat.add_sub_cancel, ← nI_pred q]
  exact (Int32.sub_eq_add_neg _ _).symm
theorem fault_eq {m : Sx} (h : WTxt m) : (vld (tch m) (tpd m) ∧ f_X9_fault m = some (-4)) ∨ ∃ p, p ≤ 80 ∧ flt (tch m) (tpd m) p ∧ f_X9_fault m = some (nI p) := by
  obtain ⟨hn, en⟩ := wTxt_n h
  unfold f_X9_fault
  generalize hk : (fun z2 z3 z4 => if z3 = 0 then if z2 = 8 then if (1 : Int32) = 0 then some (gI m 52) else some (-4) else (f_X9_in m (z2) (3) (6)).bind fun r5 => if r5 = 0 then if (0 : Int32) = 0 then some (gI m 52) else some (-4) else if (1 : Int32) = 0 then some (gI m 52) else some (-4) else if (0 : Int32) = 0 then some (gI m 52) else some (-4) : Int32 → Int32 → Int32 → Option Int32) = kont
  have hkont : ∀ (s o : Nat), s < 9 → o < 11 → rn (tch m) (tpd m) = some (s, o) → (vld (tch m) (tpd m) ∧ kont (nI s) (nI o) (nI (tpd m)) = some (-4)) ∨ (flt (tch m) (tpd m) (tpd m) ∧ kont (nI s) (nI o) (nI (tpd m)) = some (nI (tpd m))) := by
    intro s o hs ho er
    rw [← hk]
    dsimp only
    have z0 : (nI o = 0) ↔ o = 0 := by rw [show (0 : Int32) = nI 0 from rfl]; exact nI_eq_iff (by omega) (by decide)
    have z8 : (nI s = 8) ↔ s = 8 := by rw [show (8 : Int32) = nI 8 from rfl]; exact nI_eq_iff (by omega) (by decide)
    by_cases q : o = 0
    · subst q
      rw [if_pos (z0.mpr rfl)]
      by_cases q8 : s = 8
      · subst q8
        rw [if_pos (z8.mpr rfl), if_neg (by decide)]
        exact Or.inl ⟨⟨8, er, Or.inl rfl⟩, rfl⟩
      · rw [if_neg (fun w => q8 (z8.mp w)), in_eq, Option.bind_some]
        have e36 : inr (nI s) 3 6 = decide (3 ≤ s ∧ s ≤ 6) := by
          unfold inr
          have a := nI_le_iff (a := 3) (b := s) (by decide) (by omega)
          have b := nI_le_iff (a := s) (b := 6) (by omega) (by decide)
          rw [show (3 : Int32) = nI 3 from rfl, show (6 : Int32) = nI 6 from rfl]
          by_cases w1 : 3 ≤ s <;> by_cases w2 : s ≤ 6 <;> simp [a, b, w1, w2]
        rw [e36]
        by_cases q36 : 3 ≤ s ∧ s ≤ 6
        · rw [decide_eq_true q36, bT, if_neg (by decide)]
          exact Or.inl ⟨⟨s, er, Or.inr q36⟩, rfl⟩
        · rw [decide_eq_false q36, bF, if_pos rfl, en]
          refine Or.inr ⟨Or.inr ⟨rfl, ⟨_, er⟩, fun ⟨s', e', w⟩ => ?_⟩, rfl⟩
          rw [er] at e'
          cases e'
          omega
    · rw [if_neg (fun w => q (z0.mp w)), if_pos rfl, en]
      refine Or.inr ⟨Or.inr ⟨rfl, ⟨_, er⟩, fun ⟨s', e', w⟩ => ?_⟩, rfl⟩
      rw [er] at e'
      cases e'
      exact q rfl
  rcases loop0E (L := fun n i (st : Int32 × Int32) => L_X9_fault_6 m kont n st.1 st.2 i) (E := fun st => kont st.1 st.2 (nI (tpd m))) (N := tpd m) (by omega) (y := ((0 : Int32), (0 : Int32)))
    (fun k st => ∃ s o, s < 9 ∧ o < 11 ∧ st = (nI s, nI o) ∧ rn (tch m) k = some (s, o))
    (fun k st r => rn (tch m) (k + 1) = none ∧ r = some (nI k))
    (fun n st hst => by
      show L_X9_fault_6 _ _ _ _ _ _ = _
      rw [L_X9_fault_6, en, if_pos (nI_le (Nat.le_refl _) (by omega))])
    (fun k st hk2 hst => by
      obtain ⟨s, o, hs, ho, rfl, er⟩ := hst
      obtain ⟨c1, c2, ec⟩ := wTxt_c h hk2
      have hst : ∀ n, L_X9_fault_6 m kont (n + 1) (nI s) (nI o) (nI k) = if 0 ≤ rI (nx s (tch m k) o) then if nI (tch m k) = 40 then L_X9_fault_6 m kont n (rI (nx s (tch m k) o)) (nI (o + 1)) (nI (k + 1)) else if nI (tch m k) = 41 then L_X9_fault_6 m kont n (rI (nx s (tch m k) o)) (nI o + (-1)) (nI (k + 1)) else L_X9_fault_6 m kont n (rI (nx s (tch m k) o)) (nI o) (nI (k + 1)) else some (nI k) := fun n => by
        rw [L_X9_fault_6, en, if_neg (by rw [nI_le_iff (by omega) (by omega)]; omega), gd_pos (vin_nI (by omega) (by decide)), ix_nI (by omega), ec, behind_eq m hs (by omega) ho, Option.bind_some, nI_lit1, nI_lit1, show nI o + 0 = nI o from by rw [show (0 : Int32) = nI 0 from rfl, nI_add, Nat.add_zero]]
      have z40 : (nI (tch m k) = 40) ↔ tch m k = 40 := by rw [show (40 : Int32) = nI 40 from rfl]; exact nI_eq_iff (by omega) (by decide)
      have z41 : (nI (tch m k) = 41) ↔ tch m k = 41 := by rw [show (41 : Int32) = nI 41 from rfl]; exact nI_eq_iff (by omega) (by decide)
      by_cases q : nx s (tch m k) o = 99
      · right
        refine ⟨some (nI k), ⟨by rw [rn, er]; dsimp only; rw [if_pos q], rfl⟩, fun n => ?_⟩
        show L_X9_fault_6 _ _ _ _ _ _ = _
        rw [hst, q, if_neg (by decide)]
      · left
        obtain ⟨w1, w2, w3⟩ := nx_ok hs (by omega) ho q
        have er' : rn (tch m) (k + 1) = some (nx s (tch m k) o, if tch m k = 40 then o + 1 else if tch m k = 41 then o - 1 else o) := by
          rw [rn, er]; dsimp only; rw [if_neg q]
        by_cases c40 : tch m k = 40
        · rw [if_pos c40] at er'
          refine ⟨(nI (nx s (tch m k) o), nI (o + 1)), ⟨_, _, w1, by have := w2 c40; omega, rfl, er'⟩, fun n => ?_⟩
          show L_X9_fault_6 _ _ _ _ _ _ = _
          rw [hst, rI_nI q, if_pos (nI_pos' (by omega)), if_pos (z40.mpr c40)]
        · rw [if_neg c40] at er'
          by_cases c41 : tch m k = 41
          · rw [if_pos c41] at er'
            refine ⟨(nI (nx s (tch m k) o), nI (o - 1)), ⟨_, _, w1, by omega, rfl, er'⟩, fun n => ?_⟩
            show L_X9_fault_6 _ _ _ _ _ _ = _
            rw [hst, rI_nI q, if_pos (nI_pos' (by omega)), if_neg (fun w => c40 (z40.mp w)), if_pos (z41.mpr c41), nI_sub1 (w3 c41)]
          · rw [if_neg c41] at er'
            refine ⟨(nI (nx s (tch m k) o), nI o), ⟨_, _, w1, ho, rfl, er'⟩, fun n => ?_⟩
            show L_X9_fault_6 _ _ _ _ _ _ = _
            rw [hst, rI_nI q, if_pos (nI_pos' (by omega)), if_neg (fun w => c40 (z40.mp w)), if_neg (fun w => c41 (z41.mp w))])
    ⟨0, 0, by decide, by decide, rfl, rfl⟩ with ⟨st, ⟨s, o, hs, ho, rfl, er⟩, e⟩ | ⟨k, st, r, hk2, ⟨s, o, hs, ho, rfl, er⟩, ⟨e1, rfl⟩, e2⟩
  · rcases hkont s o hs ho er with ⟨a1, a2⟩ | ⟨a1, a2⟩
    · exact Or.inl ⟨a1, e.trans a2⟩
    · exact Or.inr ⟨tpd m, hn, a1, e.trans a2⟩
  · exact Or.inr ⟨k, by omega, Or.inl ⟨hk2, ⟨_, er⟩, e1⟩, e2⟩
def RTxt (c m : Sx) : Prop := gI c 158 = gI m 52 ∧ ∀ k, k < tpd m → gA c 108 k = gA m 34 k
theorem mp_inv {s : Nat} (hs : s < 10) : (mp s < 9) ∧ ((mp s = 8 ∨ (3 ≤ mp s ∧ mp s ≤ 6)) ↔ (3 ≤ s ∧ s ≠ 4)) := by
  unfold mp
  rcases (show s = 0 ∨ s = 1 ∨ s = 2 ∨ s = 3 ∨ s = 4 ∨ s = 5 ∨ s = 6 ∨ s = 7 ∨ s = 8 ∨ s = 9 by omega) with rfl | rfl | rfl | rfl | rfl | rfl | rfl | rfl | rfl | rfl <;> decide
theorem faultC_eq {c m : Sx} (h : WTxt m) (rT : RTxt c m) : (vld (tch m) (tpd m) ∧ f_X5_firstFault c 8 = some (-1)) ∨ ∃ p, p ≤ 80 ∧ flt (tch m) (tpd m) p ∧ f_X5_firstFault c 8 = some (nI p) := by
  obtain ⟨hn, en⟩ := wTxt_n h
  have eg : gI c (150 + 8) = nI (tpd m) := rT.1.trans en
  unfold f_X5_firstFault
  generalize hk : (fun z2 z3 z4 => if z2 < 3 then some (gI c (150 + 8)) else if z2 = 4 then some (gI c (150 + 8)) else if z3 = 0 then some (-1) else some (gI c (150 + 8)) : Int32 → Int32 → Int32 → Option Int32) = kont
  have hkont : ∀ (s o : Nat), s < 10 → o < 11 → rn (tch m) (tpd m) = some (mp s, o) → (vld (tch m) (tpd m) ∧ kont (nI s) (nI o) (nI (tpd m)) = some (-1)) ∨ (flt (tch m) (tpd m) (tpd m) ∧ kont (nI s) (nI o) (nI (tpd m)) = some (nI (tpd m))) := by
    intro s o hs ho er
    rw [← hk]
    dsimp only
    rw [eg]
    have z0 : (nI o = 0) ↔ o = 0 := by rw [show (0 : Int32) = nI 0 from rfl]; exact nI_eq_iff (by omega) (by decide)
    have z4 : (nI s = 4) ↔ s = 4 := by rw [show (4 : Int32) = nI 4 from rfl]; exact nI_eq_iff (by omega) (by decide)
    have z3 : (nI s < 3) ↔ s < 3 := by rw [show (3 : Int32) = nI 3 from rfl]; exact nI_lt_iff (by omega) (by decide)
    obtain ⟨-, hm⟩ := mp_inv hs
    have bad : ¬ (3 ≤ s ∧ s ≠ 4 ∧ o = 0) → ¬ vld (tch m) (tpd m) := fun hb ⟨s', e', w⟩ => by
      rw [er] at e'
      have e2 := Prod.mk.inj (Option.some.inj e')
      rw [← e2.1] at w
      have := hm.mp w
      exact hb ⟨this.1, this.2, e2.2⟩
    by_cases q3 : s < 3
    · rw [if_pos (z3.mpr q3)]
      exact Or.inr ⟨Or.inr ⟨rfl, ⟨_, er⟩, bad (by omega)⟩, rfl⟩
    · rw [if_neg (fun w => q3 (z3.mp w))]
      by_cases q4 : s = 4
      · rw [if_pos (z4.mpr q4)]
        exact Or.inr ⟨Or.inr ⟨rfl, ⟨_, er⟩, bad (by omega)⟩, rfl⟩
      · rw [if_neg (fun w => q4 (z4.mp w))]
        by_cases q0 : o = 0
        · rw [if_pos (z0.mpr q0)]
          subst q0
          exact Or.inl ⟨⟨mp s, er, hm.mpr ⟨by omega, q4⟩⟩, rfl⟩
        · rw [if_neg (fun w => q0 (z0.mp w))]
          exact Or.inr ⟨Or.inr ⟨rfl, ⟨_, er⟩, bad (by omega)⟩, rfl⟩
  rcases loop0E (L := fun n i (st : Int32 × Int32) => L_X5_firstFault_6 c 8 kont n st.1 st.2 i) (E := fun st => kont st.1 st.2 (nI (tpd m))) (N := tpd m) (by omega) (y := ((0 : Int32), (0 : Int32)))
    (fun k st => ∃ s o, s < 10 ∧ o < 11 ∧ st = (nI s, nI o) ∧ rn (tch m) k = some (mp s, o))
    (fun k st r => rn (tch m) (k + 1) = none ∧ r = some (nI k))
    (fun n st hst => by
      show L_X5_firstFault_6 _ _ _ _ _ _ _ = _
      rw [L_X5_firstFault_6, eg, if_pos (nI_le (Nat.le_refl _) (by omega))])
    (fun k st hk2 hst => by
      obtain ⟨s, o, hs, ho, rfl, er⟩ := hst
      obtain ⟨c1, c2, ec⟩ := wTxt_c h hk2
      have ec' : gA c (100 + 8) k = nI (tch m k) := (rT.2 k hk2).trans ec
      have hst : ∀ n, L_X5_firstFault_6 c 8 kont (n + 1) (nI s) (nI o) (nI k) = (f_X5_next c (nI s) (nI (tch m k)) (nI o)).bind fun r1 => if r1 = (-1) then some (nI k) else if nI (tch m k) = 40 then L_X5_firstFault_6 c 8 kont n r1 (nI (o + 1)) (nI (k + 1)) else if nI (tch m k) = 41 then L_X5_firstFault_6 c 8 kont n r1 (nI o + (-1)) (nI (k + 1)) else L_X5_firstFault_6 c 8 kont n r1 (nI o) (nI (k + 1)) := fun n => by
        rw [L_X5_firstFault_6, eg, if_neg (by rw [nI_le_iff (by omega) (by omega)]; omega), gd_pos (vin_nI (by omega) (by decide)), ix_nI (by omega), ec', nI_lit1, nI_lit1]
      have z40 : (nI (tch m k) = 40) ↔ tch m k = 40 := by rw [show (40 : Int32) = nI 40 from rfl]; exact nI_eq_iff (by omega) (by decide)
      have z41 : (nI (tch m k) = 41) ↔ tch m k = 41 := by rw [show (41 : Int32) = nI 41 from rfl]; exact nI_eq_iff (by omega) (by decide)
      rcases next_eq c hs (ch := tch m k) (by omega) ho with ⟨q, eq⟩ | ⟨q, s', hs', em, eq⟩
      · right
        refine ⟨some (nI k), ⟨by rw [rn, er]; dsimp only; rw [if_pos q], rfl⟩, fun n => ?_⟩
        show L_X5_firstFault_6 _ _ _ _ _ _ _ = _
        rw [hst, eq, Option.bind_some, if_pos rfl]
      · left
        obtain ⟨w1, w2, w3⟩ := nx_ok (mp_inv hs).1 (by omega) ho q
        have er' : rn (tch m) (k + 1) = some (mp s', if tch m k = 40 then o + 1 else if tch m k = 41 then o - 1 else o) := by
          rw [rn, er]; dsimp only; rw [if_neg q, em]
        by_cases c40 : tch m k = 40
        · rw [if_pos c40] at er'
          refine ⟨(nI s', nI (o + 1)), ⟨_, _, hs', by have := w2 c40; omega, rfl, er'⟩, fun n => ?_⟩
          show L_X5_firstFault_6 _ _ _ _ _ _ _ = _
          rw [hst, eq, Option.bind_some, if_neg (nI_ne_m1 (by omega)), if_pos (z40.mpr c40)]
        · rw [if_neg c40] at er'
          by_cases c41 : tch m k = 41
          · rw [if_pos c41] at er'
            refine ⟨(nI s', nI (o - 1)), ⟨_, _, hs', by omega, rfl, er'⟩, fun n => ?_⟩
            show L_X5_firstFault_6 _ _ _ _ _ _ _ = _
            rw [hst, eq, Option.bind_some, if_neg (nI_ne_m1 (by omega)), if_neg (fun w => c40 (z40.mp w)), if_pos (z41.mpr c41), nI_sub1 (w3 c41)]
          · rw [if_neg c41] at er'
            refine ⟨(nI s', nI o), ⟨_, _, hs', ho, rfl, er'⟩, fun n => ?_⟩
            show L_X5_firstFault_6 _ _ _ _ _ _ _ = _
            rw [hst, eq, Option.bind_some, if_neg (nI_ne_m1 (by omega)), if_neg (fun w => c40 (z40.mp w)), if_neg (fun w => c41 (z41.mp w))])
    ⟨0, 0, by decide, by decide, rfl, rfl⟩ with ⟨st, ⟨s, o, hs, ho, rfl, er⟩, e⟩ | ⟨k, st, r, hk2, ⟨s, o, hs, ho, rfl, er⟩, ⟨e1, rfl⟩, e2⟩
  · rcases hkont s o hs ho er with ⟨a1, a2⟩ | ⟨a1, a2⟩
    · exact Or.inl ⟨a1, e.trans a2⟩
    · exact Or.inr ⟨tpd m, hn, a1, e.trans a2⟩
  · exact Or.inr ⟨k, by omega, Or.inl ⟨hk2, ⟨_, er⟩, e1⟩, e2⟩
theorem flt_one {ch : Nat → Nat} {n p q : Nat} (a : flt ch n p) (b : flt ch n q) : p = q := by
  rcases a with ⟨a1, ⟨r, a2⟩, a3⟩ | ⟨a1, ⟨r, a2⟩, a3⟩ <;> rcases b with ⟨b1, ⟨r', b2⟩, b3⟩ | ⟨b1, ⟨r', b2⟩, b3⟩
  · rcases Nat.lt_trichotomy p q with w | w | w
    · rw [rn_le (show p + 1 ≤ q by omega) a3] at b2; cases b2
    · exact w
    · rw [rn_le (show q + 1 ≤ p by omega) b3] at a2; cases a2
  · rw [rn_le (show p + 1 ≤ n by omega) a3] at b2; cases b2
  · rw [rn_le (show q + 1 ≤ n by omega) b3] at a2; cases a2
  · omega
theorem flt_vld {ch : Nat → Nat} {n p : Nat} (a : flt ch n p) : ¬ vld ch n := by
  rcases a with ⟨a1, ⟨r, a2⟩, a3⟩ | ⟨a1, ⟨r, a2⟩, a3⟩
  · intro ⟨s, e, _⟩
    rw [rn_le (show p + 1 ≤ n by omega) a3] at e
    cases e
  · exact a3
