/-! ===== rules: the automaton ===== -/
def dgt (ch : Nat) : Bool := decide (48 ≤ ch) && decide (ch ≤ 57)
def fldc (ch : Nat) : Bool := ch == 107 || ch == 114 || ch == 121 || ch == 99 || ch == 100
/-- the state behind a character: 0 an item is due, 1 a comparison, 2 a number, 3 to 6 so many digits less two, 7 a digit, 8 behind an item; 99 it may not stand there -/
def nx (s ch op : Nat) : Nat :=
  if s = 0 then
    if ch = 33 ∨ (ch = 40 ∧ op < 10) then 0
    else if fldc ch = true then 1
    else if ch = 116 ∨ ch = 97 then 7
    else if ch = 115 ∨ ch = 118 ∨ ch = 117 ∨ ch = 98 then 8 else 99
  else if s = 1 then
    if ch = 60 ∨ ch = 61 ∨ ch = 62 then 2 else if ch = 63 then 8 else 99
  else if s = 2 then (if dgt ch = true then 3 else 99)
  else if s = 7 then (if dgt ch = true then 8 else 99)
  else if s < 8 ∧ dgt ch = true then (if s = 6 then 8 else s + 1)
  else if ch = 38 ∨ ch = 124 then 0
  else if ch = 41 ∧ 0 < op then 8 else 99
def rI (s : Nat) : Int32 := if s = 99 then -1 else nI s
/-- the class's states -/
def mp (s : Nat) : Nat := if s = 2 then 7 else if s = 3 then 8 else if s = 9 then 8 else if s < 4 then s else s - 2
theorem behind_tab : ((List.range 9).all fun s => (List.range 127).all fun ch => (List.range 11).all fun op => decide (f_X9_behind t00 (nI s) (nI ch) (nI op) = some (rI (nx s ch op)))) = true := by decide +kernel
theorem behind_t (t : Sx) (s ch op : Int32) : f_X9_behind t s ch op = f_X9_behind t00 s ch op := rfl
theorem behind_eq (t : Sx) {s ch op : Nat} (hs : s < 9) (hc : ch < 127) (ho : op < 11) : f_X9_behind t (nI s) (nI ch) (nI op) = some (rI (nx s ch op)) := by
  rw [behind_t]
  have h1 := List.all_eq_true.mp behind_tab s (List.mem_range.mpr hs)
  have h2 := List.all_eq_true.mp h1 ch (List.mem_range.mpr hc)
  exact of_decide_eq_true (List.all_eq_true.mp h2 op (List.mem_range.mpr ho))
theorem next_tab : ((List.range 10).all fun s => (List.range 127).all fun ch => (List.range 11).all fun op => if nx (mp s) ch op = 99 then decide (f_X5_next t00 (nI s) (nI ch) (nI op) = some (-1)) else (List.range 10).any fun s' => decide (f_X5_next t00 (nI s) (nI ch) (nI op) = some (nI s')) && (mp s' == nx (mp s) ch op)) = true := by decide +kernel
theorem next_t (t : Sx) (s ch op : Int32) : f_X5_next t s ch op = f_X5_next t00 s ch op := rfl
theorem next_eq (t : Sx) {s ch op : Nat} (hs : s < 10) (hc : ch < 127) (ho : op < 11) : (nx (mp s) ch op = 99 ∧ f_X5_next t (nI s) (nI ch) (nI op) = some (-1)) ∨ (nx (mp s) ch op ≠ 99 ∧ ∃ s', s' < 10 ∧ mp s' = nx (mp s) ch op ∧ f_X5_next t (nI s) (nI ch) (nI op) = some (nI s')) := by
  rw [next_t]
  have h1 := List.all_eq_true.mp next_tab s (List.mem_range.mpr hs)
  have h2 := List.all_eq_true.mp h1 ch (List.mem_range.mpr hc)
  have h3 := List.all_eq_true.mp h2 op (List.mem_range.mpr ho)
  by_cases q : nx (mp s) ch op = 99
  · rw [if_pos q] at h3
    exact Or.inl ⟨q, of_decide_eq_true h3⟩
  · rw [if_neg q] at h3
    obtain ⟨s', hs', h4⟩ := List.any_eq_true.mp h3
    rw [Bool.and_eq_true, beq_iff_eq] at h4
    exact Or.inr ⟨q, s', List.mem_range.mp hs', h4.2, of_decide_eq_true h4.1⟩
theorem nx_tab : ((List.range 9).all fun s => (List.range 127).all fun ch => (List.range 11).all fun op => nx s ch op == 99 || (decide (nx s ch op < 9) && (ch != 40 || decide (op < 10)) && (ch != 41 || decide (0 < op)))) = true := by decide +kernel
theorem nx_ok {s ch op : Nat} (hs : s < 9) (hc : ch < 127) (ho : op < 11) (h : nx s ch op ≠ 99) : nx s ch op < 9 ∧ (ch = 40 → op < 10) ∧ (ch = 41 → 0 < op) := by
  have h1 := List.all_eq_true.mp nx_tab s (List.mem_range.mpr hs)
  have h2 := List.all_eq_true.mp h1 ch (List.mem_range.mpr hc)
  have h3 := List.all_eq_true.mp h2 op (List.mem_range.mpr ho)
  rcases (Bool.or_eq_true _ _).mp h3 with h4 | h4
  · exact absurd (by simpa using h4) h
  · simp only [Bool.and_eq_true, Bool.or_eq_true, decide_eq_true_eq, bne_iff_ne, ne_eq] at h4
    refine ⟨h4.1.1, fun e => ?_, fun e => ?_⟩
    · rcases h4.1.2 with q | q
      · exact absurd e q
      · exact q
    · rcases h4.2 with q | q
      · exact absurd e q
      · exact q
