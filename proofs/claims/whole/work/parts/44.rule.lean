/-! ===== rules: the automaton ===== -/
def dgt (ch : Nat) : Bool := decide (48 ≤ ch) && decide (ch ≤ 57)
def fldc (ch : Nat) : Bool := ch == 107 || ch == 114 || ch == 121 || ch == 99 || ch == 100
/-- the state behind a character: 0 an item is due, 1 a comparison, 2 a number, 3 to 6 so many digits less two, 7 a digit, 8 behind an item; 99 it may not stand there -/
def nx (s ch op : Nat) : Nat :=
  if s = 0 then
    if ch = 33 ∨ (ch = 40 ∧ op < 10) then 0
    else if fldc ch = true then 1
    else if ch = 116 ∨ ch = 97 then 7
    else if ch = 115 ∨ ch = 118 ∨ ch = 117 ∨ ch = 98 then 8 else 99
  else if s = 1 then
    if ch = 60 ∨ ch = 61 ∨ ch = 62 then 2 else if ch = 63 then 8 else 99
  else if s = 2 then (if dgt ch = true then 3 else 99)
  else if s = 7 then (if dgt ch = true then 8 else 99)
  else if s < 8 ∧ dgt ch = true then (if s = 6 then 8 else s + 1)
  else if ch = 38 ∨ ch = 124 then 0
  else if ch = 41 ∧ 0 < op then 8 else 99
def rI (s : Nat) : Int32 := if s = 99 then -1 else nI s
/-- the class's states -/
def mp (s : Nat) : Nat := if s = 2 then 7 else if s = 3 then 8 else if s = 9 then 8 else if s < 4 then s else s - 2
theorem behind_tab : ((List.range 9).all fun s => (List.range 127).all fun ch => (List.range 11).all fun op => decide (f_X9_behind t00 (nI s) (nI ch) (nI op) = some (rI (nx s ch op)))) = true := by decide +kernel
