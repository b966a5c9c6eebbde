/-! ===== a file leaves its stack ===== -/
/-- the state of the stacks behind it: f from place k0 of stack s with n files; g is the other one where n is 2 -/
def Lv (A29 A30 A31 A32 B29 B30 B31 B32 : Nat → Int32) (f s k0 n g : Nat) : Prop := (∀ i, B29 i = if i = f ∨ (n = 2 ∧ i = g) then -1 else A29 i) ∧ (∀ i, B30 i = if i = s then (if n = 2 then 0 else nI (n - 1)) else A30 i) ∧ (∀ i, B31 i = if 8 * s + k0 ≤ i ∧ i + 1 < 8 * s + n then A31 (i + 1) else A31 i) ∧ ∀ i, B32 i = if i = s ∧ A32 s = nI f then -1 else A32 i
theorem lv_mn {m m1 : Sx} {f s k0 g : Nat} (h8 : mn m s ≤ 8) (L : Lv (gA m 29) (gA m 30) (gA m 31) (gA m 32) (gA m1 29) (gA m1 30) (gA m1 31) (gA m1 32) f s k0 (mn m s) g) (s' : Nat) : mn m1 s' = if s' = s then (if mn m s = 2 then 0 else mn m s - 1) else mn m s' := by
  show ix (gA m1 30 s') = _
  rw [L.2.1]
  split
  · split
    · rfl
    · exact ix_nI (by omega)
  · rfl
theorem lv_W {m m1 : Sx} (h : WStk m) {f s k0 g : Nat} (hf : f < 40) (hs : s < 10) (hk : k0 < mn m s) (e : fl m s k0 = f) (eg : g = fl m s (if k0 = 0 then 1 else 0)) (L : Lv (gA m 29) (gA m 30) (gA m 31) (gA m 32) (gA m1 29) (gA m1 30) (gA m1 31) (gA m1 32) f s k0 (mn m s) g) (e23 : iF m1 = iF m) : WStk m1 := by
  obtain ⟨en, h8, n1⟩ := wStk_mn h hs
  have hmn := lv_mn h8 L
  obtain ⟨a29, a30, a31, a32⟩ := L
  have hfs : gA m 29 f = nI s := by rw [← e]; exact (wStk_fl h hs hk).2.2
  have hgs : mn m s = 2 → gA m 29 g = nI s := fun n2 => by rw [eg]; exact (wStk_fl h hs (by split <;> omega)).2.2
  have live : ∀ s', s' < 10 → s' ≠ s → ∀ i, gA m 29 i = nI s' → gA m1 29 i = nI s' := fun s' hs' ne i hi => by
    rw [a29, if_neg]
    · exact hi
    · rintro (w | ⟨n2, w⟩)
      · rw [w, hfs, nI_eq_iff (by omega) (by omega)] at hi; exact ne hi.symm
      · rw [w, hgs n2, nI_eq_iff (by omega) (by omega)] at hi; exact ne hi.symm
  have far : ∀ s' k, s' ≠ s → k < 8 → gA m1 31 (8 * s' + k) = gA m 31 (8 * s' + k) := fun s' k ne hk8 => by rw [a31, if_neg (by omega)]
  have near : ∀ k, k < mn m s - 1 → gA m1 31 (8 * s + k) = gA m 31 (8 * s + (if k < k0 then k else k + 1)) := fun k hk1 => by
    rw [a31]
    by_cases w : k < k0
    · rw [if_neg (by omega), if_pos w]
    · rw [if_pos (by omega), if_neg w]; rfl
  have in8 : ∀ s', s' < 10 → mn m s' ≤ 8 := fun s' hs' => (wStk_mn h hs').2.1
  refine ⟨fun f' hf' => ?_, fun s' hs' => ?_, fun s' hs' k hk' => ?_, fun s' hs' j k hjk hk' => ?_, fun s' hs' hn' => ?_⟩
  · rw [a29]
    by_cases dd : f' = f ∨ (mn m s = 2 ∧ f' = g)
    · rw [if_pos dd]; exact Or.inl rfl
    · rw [if_neg dd, e23]
      rcases h.1 f' hf' with w | ⟨s', hs', w1, w2, k, hk', w3⟩
      · exact Or.inl w
      · refine Or.inr ⟨s', hs', w1, w2, ?_⟩
        by_cases q : s' = s
        · subst q
          have efk : fl m s' k = f' := by unfold fl; rw [w3, ix_nI (by omega)]
          have nk : k ≠ k0 := fun z => dd (Or.inl (by rw [← e, ← z, efk]))
          have n3 : mn m s' ≠ 2 := fun n2 => dd (Or.inr ⟨n2, by rw [← efk, eg]; congr 1; split <;> omega⟩)
          rw [hmn, if_pos rfl, if_neg n3]
          refine ⟨if k < k0 then k else k - 1, by split <;> omega, ?_⟩
          rw [near _ (by split <;> omega), ← w3]
          congr 2
          by_cases z : k < k0
          · rw [if_pos z, if_pos z]
          · rw [if_neg z, if_neg (by omega)]; omega
        · refine ⟨k, by rw [hmn, if_neg q]; exact hk', ?_⟩
          rw [far s' k q (by have := in8 s' hs'; omega)]; exact w3
  · rw [a30]
    by_cases q : s' = s
    · rw [if_pos q]
      by_cases n2 : mn m s = 2
      · rw [if_pos n2]; exact ⟨0, by omega, rfl, by omega⟩
      · rw [if_neg n2]; exact ⟨mn m s - 1, by omega, rfl, by omega⟩
    · rw [if_neg q]; exact h.2.1 s' hs'
  · rw [hmn] at hk'
    by_cases q : s' = s
    · subst q
      rw [if_pos rfl] at hk'
      by_cases n2 : mn m s' = 2
      · rw [if_pos n2] at hk'; omega
      · rw [if_neg n2] at hk'
        rw [near k hk']
        obtain ⟨b1, b2', b3⟩ := wStk_fl h hs (k := if k < k0 then k else k + 1) (by split <;> omega)
        refine ⟨_, b2', b1, ?_⟩
        rw [a29, if_neg]
        · exact b3
        · rintro (w | ⟨w, _⟩)
          · rw [← e] at w
            have := wStk_fl_inj h hs (by split <;> omega) hk w
            revert this; split <;> omega
          · exact n2 w
    · rw [if_neg q] at hk'
      obtain ⟨b1, b2', b3⟩ := wStk_fl h hs' hk'
      refine ⟨_, b2', by rw [far s' k q (by have := in8 s' hs'; omega)]; exact b1, live s' hs' q _ b3⟩
  · rw [hmn] at hk'
    by_cases q : s' = s
    · subst q
      rw [if_pos rfl] at hk'
      by_cases n2 : mn m s' = 2
      · rw [if_pos n2] at hk'; omega
      · rw [if_neg n2] at hk'
        rw [near k hk', near j (by omega)]
        exact h.2.2.2.1 s' hs' _ _ (by split <;> split <;> omega) (by split <;> omega)
    · rw [if_neg q] at hk'
      rw [far s' k q (by have := in8 s' hs'; omega), far s' j q (by have := in8 s' hs'; omega)]
      exact h.2.2.2.1 s' hs' j k hjk hk'
  · rw [hmn] at hn'
    rw [a32]
    by_cases q : s' = s
    · subst q
      rw [if_pos rfl] at hn'
      have n2 : mn m s' ≠ 2 := fun z => by rw [if_pos z] at hn'; omega
      by_cases z : gA m 32 s' = nI f
      · rw [if_pos ⟨rfl, z⟩]; exact Or.inl rfl
      · rw [if_neg (fun w => z w.2)]
        rcases h.2.2.2.2 s' hs' (by omega) with w | ⟨f', w1, w2, w3⟩
        · exact Or.inl w
        · refine Or.inr ⟨f', w1, w2, ?_⟩
          rw [a29, if_neg]
          · exact w3
          · rintro (w | ⟨w, _⟩)
            · rw [w2, w] at z; exact z rfl
            · exact n2 w
    · rw [if_neg q] at hn'
      rw [if_neg (fun w => q w.1)]
      rcases h.2.2.2.2 s' hs' hn' with w | ⟨f', w1, w2, w3⟩
      · exact Or.inl w
      · exact Or.inr ⟨f', w1, w2, live s' hs' q f' w3⟩
theorem lv_R {c m c1 m1 : Sx} (h : WStk m) (r : RStk c m) {f s k0 g : Nat} (hf : f < 40) (hs : s < 10) (hk : k0 < mn m s) (eg : g = fl m s (if k0 = 0 then 1 else 0)) (L : Lv (gA m 29) (gA m 30) (gA m 31) (gA m 32) (gA m1 29) (gA m1 30) (gA m1 31) (gA m1 32) f s k0 (mn m s) g) (LC : Lv (gA c 18) (gA c 15) (gA c 14) (gA c 16) (gA c1 18) (gA c1 15) (gA c1 14) (gA c1 16) f s k0 (mn m s) g) (e17 : gA c1 17 = gA c 17) (e33 : gA m1 33 = gA m 33) (hb11 : ∀ k, k < 64 → hb (gL c1 11) k = (hb (gL c 11) k && !decide (k = f ∨ (mn m s = 2 ∧ k = g)))) : RStk c1 m1 := by
  obtain ⟨en, h8, n1⟩ := wStk_mn h hs
  have hmn := lv_mn h8 L
  obtain ⟨a29, a30, a31, a32⟩ := L
  obtain ⟨b18, b15, b14, b16⟩ := LC
  obtain ⟨r1, r2, r3, r4, r5⟩ := r
  have in8 : ∀ s', s' < 10 → mn m s' ≤ 8 := fun s' hs' => (wStk_mn h hs').2.1
  refine ⟨fun f' hf' => by rw [b18, a29, r1 f' hf'], fun s' hs' => by rw [b15, a30, r2 s' hs'], fun s' hs' k hk' => ?_, fun s' hs' hn' => ?_, fun k hk' => ?_⟩
  · rw [hmn] at hk'
    rw [b14, a31]
    by_cases q : s' = s
    · subst q
      rw [if_pos rfl] at hk'
      have hk2 : k < mn m s' - 1 := by revert hk'; split <;> omega
      split
      · rw [Nat.add_assoc]; exact r3 s' hs' (k + 1) (by omega)
      · exact r3 s' hs' k (by omega)
    · rw [if_neg q] at hk'
      have := in8 s' hs'
      rw [if_neg (by omega), if_neg (by omega)]
      exact r3 s' hs' k hk'
  · rw [hmn] at hn'
    have hn2 : 0 < mn m s' := by
      revert hn'; split
      · rename_i w; rw [w]; split <;> omega
      · exact id
    have g4 := r4 s' hs' hn2
    rw [e17, e33]
    refine ⟨?_, g4.2⟩
    rw [b16, a32, (r4 s hs (by omega)).1]
    split
    · rfl
    · exact g4.1
  · rw [hb11 k hk', a29, Bool.and_eq_true, r5 k hk']
    by_cases dd : k = f ∨ (mn m s = 2 ∧ k = g)
    · rw [if_pos dd, decide_eq_true dd]
      exact ⟨fun w => absurd w.2 (by decide), fun w => absurd rfl w.2⟩
    · rw [if_neg dd, decide_eq_false dd]
      exact ⟨fun w => w.1, fun w => ⟨w, rfl⟩⟩
