section
abbrev Sx : Type := (Nat → Int32) × (Nat → Int64) × (Nat → Nat → Int32) × (Nat → Nat → Int64)
def upf {α : Type} (f : Nat → α) (k : Nat) (x : α) : Nat → α := fun j => if j = k then x else f j
def gI (t : Sx) (k : Nat) : Int32 := t.1 k
def gL (t : Sx) (k : Nat) : Int64 := t.2.1 k
def gA (t : Sx) (a k : Nat) : Int32 := t.2.2.1 a k
def gM (t : Sx) (a k : Nat) : Int64 := t.2.2.2 a k
def pI (t : Sx) (k : Nat) (v : Int32) : Sx := (upf t.1 k v, t.2.1, t.2.2.1, t.2.2.2)
def pL (t : Sx) (k : Nat) (v : Int64) : Sx := (t.1, upf t.2.1 k v, t.2.2.1, t.2.2.2)
def pA (t : Sx) (a k : Nat) (v : Int32) : Sx := (t.1, t.2.1, upf t.2.2.1 a (upd (t.2.2.1 a) k v), t.2.2.2)
def pM (t : Sx) (a k : Nat) (v : Int64) : Sx := (t.1, t.2.1, t.2.2.1, upf t.2.2.2 a (vp_updL (t.2.2.2 a) k v))
/-- a whole array at once -/
def pW (t : Sx) (a : Nat) (f : Nat → Int32) : Sx := (t.1, t.2.1, upf t.2.2.1 a f, t.2.2.2)
/-- the place that an index names -/
def ix (i : Int32) : Nat := i.toNatClampNeg
/-- a guard: where it doesn't hold nothing is told of the run -/
noncomputable def gd {R : Type} (P : Prop) (k : Option R) : Option R := @ite _ P (Classical.propDecidable P) k none
theorem gd_pos {R : Type} {P : Prop} {k : Option R} (h : P) : gd P k = k := by
  unfold gd
  rw [if_pos h]
def bd {α R : Type} (x : α) (k : α → Option R) : Option R := k x
def ushI (x y : Int32) : Int32 := (x.toUInt32 >>> (y.toUInt32 &&& Int32.toUInt32 31)).toInt32
def ushL (x : Int64) (y : Int32) : Int64 := (x.toUInt64 >>> (y.toInt64.toUInt64 &&& Int64.toUInt64 63)).toInt64
def shrL (x : Int64) (y : Int32) : Int64 := x >>> (y.toInt64 &&& 63)
def shlL (x : Int64) (y : Int32) : Int64 := x <<< (y.toInt64 &&& 63)
def i2c (x : Int32) : Int32 := (x.toUInt32 % 65536).toInt32
/-- a boolean, a char -/
def gz (x : Int32) : Prop := x = 0 ∨ x = 1
def gch (x : Int32) : Prop := narrow .char (.int x) = .int x
def lstV (j : Nat) : Int32 := if j = 2 then 1900 else 0
def grtV (j : Nat) : Int32 := if j = 0 then 2 else if j = 1 then 5 else if j = 2 then 2100 else if j = 3 then 20 else if j = 4 then 9999 else 1023
def t00 : Sx := (fun _ => 0, fun _ => 0, fun _ _ => 0, fun _ _ => 0)
/-- a fuel that nothing computes -/
noncomputable def FU : Nat := Classical.choose (⟨2000, rfl⟩ : ∃ n : Nat, n = 2000)
theorem FU_eq : FU = 2000 := Classical.choose_spec (⟨2000, rfl⟩ : ∃ n : Nat, n = 2000)
noncomputable def f_X8_isWithin (t : Sx) (a0 : Int32) (a1 : Int32) (a2 : Int32) : Option Int32 := if a0 < a1 then some 0 else if a2 < a0 then some 0 else some 1
noncomputable def f_X8_holds (t : Sx) (a0 : Int64) (a2 : Int32) : Option Int32 := if (lg_cmp ((ushL a0 a2) &&& 1) 1) = 0 then some 1 else some 0
noncomputable def f_X8_only (t : Sx) (a0 : Int32) : Option Int64 := some (shlL 1 a0)
noncomputable def f_J7_rangeCheck_23922 (t : Sx) (a0 : Int32) (a1 : Int32) (a2 : Int32) : Option Sx := if a1 ≤ a2 then if 0 ≤ a1 then if a2 ≤ a0 then some t else none else none else none
noncomputable def L_J7_fill_fda19_10 (b1 : Int32) (b2 : Int32) (b3 : Int32) (kont : Int32 → Sx → Option Sx) : Nat → Int32 → Sx → Option Sx
  | 0, _, _ => none
  | n + 1, x4, y => if b2 ≤ x4 then kont (x4) (y) else gd (vp_in x4 720) (bd (pA y 11 (ix x4) b3) fun t2 => L_J7_fill_fda19_10 b1 b2 b3 kont n ((x4 + 1)) (t2))
noncomputable def f_J7_fill_fda19 (t : Sx) (a1 : Int32) (a2 : Int32) (a3 : Int32) : Option Sx := (f_J7_rangeCheck_23922 t (720) (a1) (a2)).bind fun r1 => L_J7_fill_fda19_10 (a1) (a2) (a3) (fun z3 t4 => some t4) FU (a1) (r1)
noncomputable def f_J13_bitCount_95d88 (t : Sx) (a0 : Int64) : Option Int32 := bd (((a0 - ((ushL a0 1) &&& 6148914691236517205)) &&& 3689348814741910323)) fun v1 => bd ((ushL (a0 - ((ushL a0 1) &&& 6148914691236517205)) 2)) fun v2 => bd (((v1 + (v2 &&& 3689348814741910323)) + (ushL (v1 + (v2 &&& 3689348814741910323)) 4))) fun v3 => bd (((v3 &&& 1085102592571150095) + (ushL (v3 &&& 1085102592571150095) 8))) fun v4 => bd (((v4 + (ushL v4 16)) + (ushL (v4 + (ushL v4 16)) 32))) fun v5 => some ((Int64.toInt32 v5) &&& 127)
noncomputable def f_X5_length (t : Sx) (k0 : Nat) : Option Int32 := some (gI t (150 + k0))
noncomputable def f_X5_at (t : Sx) (k0 : Nat) (a1 : Int32) : Option Int32 := if a1 < 0 then some 0 else if (gI t (150 + k0)) ≤ a1 then some 0 else gd (vp_in a1 80) (gd (gch (gA t (100 + k0) (ix a1))) (some (gA t (100 + k0) (ix a1))))
noncomputable def f_X5_isDigit (t : Sx) (a0 : Int32) : Option Int32 := if a0 < 48 then some 0 else if 57 < a0 then some 0 else some 1
noncomputable def L_X5_numberAt_4 (t0 : Sx) (b0 : Nat) (b1 : Int32) (kont : Int32 → Int32 → Option Int32) : Nat → Int32 → Int32 → Option Int32
  | 0, _, _ => none
  | n + 1, x2 , x3 => if (b1 + 5) ≤ x3 then kont (x2) (x3) else (f_X5_at t0 (b0) (x3)).bind fun r1 => (f_X5_isDigit t0 (r1)).bind fun r2 => if r2 = 0 then kont (x2) (x3) else (f_X5_at t0 (b0) (x3)).bind fun r3 => L_X5_numberAt_4 t0 b0 b1 kont n (((10 * x2) + (r3 - 48))) ((x3 + 1))
noncomputable def f_X5_numberAt (t : Sx) (k0 : Nat) (a1 : Int32) : Option Int32 := L_X5_numberAt_4 t (k0) (a1) (fun z4 z5 => some z4) FU (0) (a1)
noncomputable def f_X5_fieldNamed (t : Sx) (a0 : Int32) : Option Int32 := if a0 = 99 then some 3 else if a0 = 100 then some 4 else if a0 = 107 then some 0 else if a0 = 114 then some 1 else if a0 = 121 then some 2 else some (-1)
noncomputable def f_X3_note (t : Sx) (a1 : Int32) (a2 : Int32) (a3 : Int32) : Option Sx := gd (¬ (24 : Int32) = 0) (bd (pI t 50 (((gI t 50) + 1) - ((gI t 50) + 1) / 24 * 24)) fun t1 => gd (vp_in (gI t1 50) 24) (bd (pA t1 20 (ix (gI t1 50)) a1) fun t2 => gd (vp_in (gI t2 50) 24) (bd (pA t2 21 (ix (gI t2 50)) a2) fun t3 => gd (gz a3) (gd (vp_in (gI t3 50) 24) (bd (pA t3 22 (ix (gI t3 50)) a3) fun t4 => bd (if 24 < ((gI t4 49) + 1) then 24 else ((gI t4 49) + 1)) fun v5 => bd (pI t4 49 v5) fun t6 => some t6)))))
noncomputable def f_X8_isSource (t : Sx) (a0 : Int32) : Option Int32 := (f_X8_isWithin t (a0) (0) (2)).bind fun r1 => gd (gz r1) (some r1)
noncomputable def f_X8_orNotFound (t : Sx) (a0 : Int32) : Option Int32 := if a0 = (-1) then some (-4) else some a0
noncomputable def f_X5_append (t : Sx) (k0 : Nat) (a1 : Int32) : Option Sx := if 80 ≤ (gI t (150 + k0)) then some t else gd (gch a1) (gd (vp_in (gI t (150 + k0)) 80) (bd (pA t (100 + k0) (ix (gI t (150 + k0))) a1) fun t1 => bd (pI t1 (150 + k0) ((gI t1 (150 + k0)) + 1)) fun t2 => some t2))
noncomputable def f_X5_empty (t : Sx) (k0 : Nat) : Option Sx := bd (pI t (150 + k0) 0) fun t1 => some t1
noncomputable def f_X5_inItem (t : Sx) (a0 : Int32) (a1 : Int32) : Option Int32 := if a0 = 33 then some 0 else if a0 = 40 then if 10 ≤ a1 then (f_X5_fieldNamed t (a0)).bind fun r8 => if r8 = (-1) then if a0 = 97 then some 2 else if a0 = 98 then some 3 else if a0 = 115 then some 3 else if a0 = 116 then some 2 else if a0 = 117 then some 3 else if a0 = 118 then some 3 else some (-1) else some 1 else some 0 else (f_X5_fieldNamed t (a0)).bind fun r1 => if r1 = (-1) then if a0 = 97 then some 2 else if a0 = 98 then some 3 else if a0 = 115 then some 3 else if a0 = 116 then some 2 else if a0 = 117 then some 3 else if a0 = 118 then some 3 else some (-1) else some 1
noncomputable def f_X5_afterField (t : Sx) (a0 : Int32) : Option Int32 := if a0 = 60 then some 4 else if a0 = 61 then some 4 else if a0 = 62 then some 4 else if a0 = 63 then some 3 else some (-1)
noncomputable def f_X5_afterItem (t : Sx) (a0 : Int32) (a1 : Int32) : Option Int32 := if a0 = 38 then some 0 else if a0 = 124 then some 0 else if a0 = 41 then if a1 ≤ 0 then some (-1) else some 3 else some (-1)
noncomputable def f_X5_inNumber (t : Sx) (a0 : Int32) (a1 : Int32) (a2 : Int32) : Option Int32 := (f_X5_isDigit t (a1)).bind fun r1 => if r1 = 0 then if (a0 - 4) ≤ 0 then some (-1) else (f_X5_afterItem t (a1) (a2)).bind fun r2 => some r2 else if 5 ≤ (a0 - 4) then some (-1) else some (a0 + 1)
noncomputable def f_X5_next (t : Sx) (a0 : Int32) (a1 : Int32) (a2 : Int32) : Option Int32 := if a0 = 0 then (f_X5_inItem t (a1) (a2)).bind fun r2 => some r2 else if a0 = 1 then (f_X5_afterField t (a1)).bind fun r4 => some r4 else if a0 = 2 then (f_X5_isDigit t (a1)).bind fun r6 => if r6 = 0 then some (-1) else some 3 else if a0 = 3 then (f_X5_afterItem t (a1) (a2)).bind fun r8 => some r8 else (f_X5_inNumber t (a0) (a1) (a2)).bind fun r9 => some r9
noncomputable def L_X5_firstFault_6 (t0 : Sx) (b0 : Nat) (kont : Int32 → Int32 → Int32 → Option Int32) : Nat → Int32 → Int32 → Int32 → Option Int32
  | 0, _, _, _ => none
  | n + 1, x1 , x2 , x3 => if (gI t0 (150 + b0)) ≤ x3 then kont (x1) (x2) (x3) else gd (vp_in x3 80) ((f_X5_next t0 (x1) (gA t0 (100 + b0) (ix x3)) (x2)).bind fun r1 => if r1 = (-1) then some x3 else if (gA t0 (100 + b0) (ix x3)) = 40 then L_X5_firstFault_6 t0 b0 kont n (r1) ((x2 + 1)) ((x3 + 1)) else if (gA t0 (100 + b0) (ix x3)) = 41 then L_X5_firstFault_6 t0 b0 kont n (r1) ((x2 + (-1))) ((x3 + 1)) else L_X5_firstFault_6 t0 b0 kont n (r1) (x2) ((x3 + 1)))
noncomputable def f_X5_firstFault (t : Sx) (k0 : Nat) : Option Int32 := L_X5_firstFault_6 t (k0) (fun z2 z3 z4 => if z2 < 3 then some (gI t (150 + k0)) else if z2 = 4 then some (gI t (150 + k0)) else if z3 = 0 then some (-1) else some (gI t (150 + k0))) FU (0) (0) (0)
noncomputable def L_X5_names_2 (t0 : Sx) (b0 : Nat) (b1 : Int32) (kont : Int32 → Option Int32) : Nat → Int32 → Option Int32
  | 0, _ => none
  | n + 1, x2 => if (gI t0 (150 + b0)) ≤ x2 then kont (x2) else (f_X5_at t0 (b0) (x2)).bind fun r1 => if r1 = 97 then (f_X5_at t0 (b0) (x2 + 1)).bind fun r2 => if (r2 - 48) = b1 then some 1 else L_X5_names_2 t0 b0 b1 kont n ((x2 + 1)) else L_X5_names_2 t0 b0 b1 kont n ((x2 + 1))
noncomputable def f_X5_names (t : Sx) (k0 : Nat) (a1 : Int32) : Option Int32 := L_X5_names_2 t (k0) (a1) (fun z3 => some 0) FU (0)
noncomputable def f_X5_copy (t : Sx) (k0 : Nat) (k1 : Nat) : Option Sx := gd ((¬ (0 : Int32) < 0 ∧ ¬ (0 : Int32) < 0 ∧ ¬ (gI t (150 + k1)) < 0 ∧ ix 0 + ix (gI t (150 + k1)) ≤ 80 ∧ ix 0 + ix (gI t (150 + k1)) ≤ 80) ∧ ∀ i, i < ix (gI t (150 + k1)) → fits .char (.int (gA t (100 + k1) (ix 0 + i))) = true) (bd (pW t (100 + k0) (va_cpy (gA t (100 + k1)) (gA t (100 + k0)) (ix 0) (ix 0) (ix (gI t (150 + k1))))) fun t1 => bd (pI t1 (150 + k0) (gI t1 (150 + k1))) fun t2 => some t2)
noncomputable def f_X3_length (t : Sx)  : Option Int32 := some (gI t 49)
noncomputable def f_J9_floorMod_7cf53 (t : Sx) (a0 : Int32) (a1 : Int32) : Option Int32 := gd (¬ (a1 : Int32) = 0) (if 0 ≤ (a0 ^^^ a1) then some (a0 - a0 / a1 * a1) else if (a0 - a0 / a1 * a1) = 0 then some (a0 - a0 / a1 * a1) else some ((a0 - a0 / a1 * a1) + a1))
noncomputable def f_X3_row (t : Sx) (a1 : Int32) : Option Int32 := (f_J9_floorMod_7cf53 t ((gI t 50) - a1) (24)).bind fun r1 => some r1
noncomputable def f_X3_album (t : Sx) (a1 : Int32) : Option Int32 := (f_X3_row t (a1)).bind fun r1 => gd (vp_in r1 24) (some (gA t 20 (ix r1)))
noncomputable def f_X3_file (t : Sx) (a1 : Int32) : Option Int32 := (f_X3_row t (a1)).bind fun r1 => gd (vp_in r1 24) (some (gA t 21 (ix r1)))
noncomputable def f_X3_hasJoined (t : Sx) (a1 : Int32) : Option Int32 := (f_X3_row t (a1)).bind fun r1 => gd (vp_in r1 24) (gd (gz (gA t 22 (ix r1))) (some (gA t 22 (ix r1))))
noncomputable def L_X1_freeNumber_2 (t0 : Sx) (kont : Int32 → Option Int32) : Nat → Int32 → Option Int32
  | 0, _ => none
  | n + 1, x1 => if 40 ≤ x1 then kont (x1) else (f_X8_holds t0 (gL t0 8) (x1)).bind fun r1 => if r1 = 0 then some x1 else L_X1_freeNumber_2 t0 kont n ((x1 + 1))
noncomputable def f_X1_freeNumber (t : Sx)  : Option Int32 := L_X1_freeNumber_2 t (fun z2 => some (-1)) FU (0)
noncomputable def f_X1_slot (t : Sx) (a0 : Int32) (a1 : Int32) (a2 : Int32) : Option Int32 := some ((((a0 * 3) + a1) * 6) + a2)
noncomputable def f_X1_enter (t : Sx) (a1 : Int32) (a2 : Int32) (a3 : Int32) : Option Sx := (f_X8_only t (a1)).bind fun r1 => bd (pL t 8 ((gL t 8) ||| r1)) fun t2 => gd (vp_in a1 40) (bd (pA t2 9 (ix a1) a2) fun t3 => gd (vp_in a1 40) (bd (pA t3 10 (ix a1) a3) fun t4 => (f_X1_slot t4 (a1) (0) (0)).bind fun r5 => (f_X1_slot t4 (a1 + 1) (0) (0)).bind fun r6 => (f_J7_fill_fda19 t4 (r5) (r6) (-1)).bind fun r7 => some r7))
noncomputable def f_X1_told (t : Sx) (a1 : Int32) (a2 : Int32) (a3 : Int32) : Option Int32 := (f_X1_slot t (a1) (a2) (a3)).bind fun r1 => gd (vp_in r1 720) (some (gA t 11 (ix r1)))
noncomputable def L_X1_firstTeller_2 (t0 : Sx) (b1 : Int32) (b2 : Int32) (kont : Int32 → Option Int32) : Nat → Int32 → Option Int32
  | 0, _ => none
  | n + 1, x3 => if 3 ≤ x3 then kont (x3) else gd (vp_in x3 3) ((f_X1_told t0 (b1) (gA t0 13 (ix x3)) (b2)).bind fun r1 => if r1 = (-1) then L_X1_firstTeller_2 t0 b1 b2 kont n ((x3 + 1)) else gd (vp_in x3 3) (some (gA t0 13 (ix x3))))
noncomputable def f_X1_firstTeller (t : Sx) (a1 : Int32) (a2 : Int32) : Option Int32 := L_X1_firstTeller_2 t (a1) (a2) (fun z2 => some (-1)) FU (0)
noncomputable def L_X1_settleFile_2 (b1 : Int32) (kont : Int32 → Sx → Option Sx) : Nat → Int32 → Sx → Option Sx
  | 0, _, _ => none
  | n + 1, x2, y => if 4 < x2 then kont (x2) (y) else (f_X1_firstTeller y (b1) (x2)).bind fun r1 => if r1 = (-1) then gd (vp_in ((b1 * 6) + x2) 240) (bd (pA y 12 (ix ((b1 * 6) + x2)) (-1)) fun t4 => L_X1_settleFile_2 b1 kont n ((x2 + 1)) (t4)) else (f_X1_told y (b1) (r1) (x2)).bind fun r2 => gd (vp_in ((b1 * 6) + x2) 240) (bd (pA y 12 (ix ((b1 * 6) + x2)) r2) fun t3 => L_X1_settleFile_2 b1 kont n ((x2 + 1)) (t3))
noncomputable def L_X1_settleFile_51 (t0 : Sx) (b1 : Int32) (kont : Int32 → Int32 → Option Sx) : Nat → Int32 → Int32 → Option Sx
  | 0, _, _ => none
  | n + 1, x2 , x3 => if 3 ≤ x3 then kont (x2) (x3) else (f_X1_told t0 (b1) (x3) (5)).bind fun r7 => bd (if r7 < 0 then 0 else r7) fun v8 => L_X1_settleFile_51 t0 b1 kont n ((x2 ||| v8)) ((x3 + 1))
noncomputable def f_X1_settleFile (t : Sx) (a1 : Int32) : Option Sx := L_X1_settleFile_2 (a1) (fun z5 t6 => L_X1_settleFile_51 t6 (a1) (fun z9 z10 => gd (vp_in ((a1 * 6) + 5) 240) (bd (pA t6 12 (ix ((a1 * 6) + 5)) z9) fun t11 => some t11)) FU (0) (0)) FU (0) (t)
noncomputable def L_X1_settleValues_2  (kont : Int32 → Sx → Option Sx) : Nat → Int32 → Sx → Option Sx
  | 0, _, _ => none
  | n + 1, x1, y => if 40 ≤ x1 then kont (x1) (y) else (f_X8_holds y (gL y 8) (x1)).bind fun r1 => if r1 = 0 then L_X1_settleValues_2  kont n ((x1 + 1)) (y) else (f_X1_settleFile y (x1)).bind fun r2 => L_X1_settleValues_2  kont n ((x1 + 1)) (r2)
noncomputable def f_X1_settleValues (t : Sx)  : Option Sx := L_X1_settleValues_2  (fun z3 t4 => some t4) FU (0) (t)
noncomputable def f_X1_all (t : Sx)  : Option Int64 := some (gL t 8)
noncomputable def L_X1_alike_5 (t0 : Sx) (b1 : Int32) (kont : Int64 → Int32 → Option Int64) : Nat → Int64 → Int32 → Option Int64
  | 0, _, _ => none
  | n + 1, x2 , x4 => if 40 ≤ x4 then kont (x2) (x4) else (f_X8_holds t0 (gL t0 8) (x4)).bind fun r1 => if r1 = 0 then L_X1_alike_5 t0 b1 kont n (x2) ((x4 + 1)) else gd (vp_in x4 40) (gd (vp_in b1 40) (if (gA t0 9 (ix x4)) = (gA t0 9 (ix b1)) then (f_X8_only t0 (x4)).bind fun r2 => L_X1_alike_5 t0 b1 kont n ((x2 ||| r2)) ((x4 + 1)) else L_X1_alike_5 t0 b1 kont n (x2) ((x4 + 1))))
noncomputable def f_X1_alike (t : Sx) (a1 : Int32) : Option Int64 := L_X1_alike_5 t (a1) (fun z3 z4 => some z3) FU (0) (0)
noncomputable def f_X1_settledValue (t : Sx) (a1 : Int32) (a2 : Int32) : Option Int32 := gd (vp_in ((a1 * 6) + a2) 240) (some (gA t 12 (ix ((a1 * 6) + a2))))
noncomputable def f_X1_has (t : Sx) (a1 : Int32) : Option Int32 := (f_X8_isWithin t (a1) (0) (39)).bind fun r1 => if r1 = 0 then some 0 else (f_X8_holds t (gL t 8) (a1)).bind fun r2 => if r2 = 0 then some 0 else some 1
noncomputable def f_X1_drop (t : Sx) (a1 : Int32) : Option Sx := (f_X8_only t (a1)).bind fun r1 => bd (pL t 8 ((gL t 8) &&& (r1 ^^^ -1))) fun t2 => some t2
noncomputable def f_X1_howMany (t : Sx)  : Option Int32 := (f_J13_bitCount_95d88 t (gL t 8)).bind fun r1 => some r1
noncomputable def f_X1_digest (t : Sx) (a1 : Int32) : Option Int32 := gd (vp_in a1 40) (some (gA t 9 (ix a1)))
noncomputable def f_X1_changeDigest (t : Sx) (a1 : Int32) (a2 : Int32) : Option Sx := gd (vp_in a1 40) (bd (pA t 9 (ix a1) a2) fun t1 => some t1)
noncomputable def f_X1_tell (t : Sx) (a1 : Int32) (a2 : Int32) (a3 : Int32) (a4 : Int32) : Option Sx := (f_X1_slot t (a1) (a2) (a3)).bind fun r1 => gd (vp_in r1 720) (bd (pA t 11 (ix r1) a4) fun t2 => some t2)
noncomputable def f_X1_bytes (t : Sx) (a1 : Int32) : Option Int32 := gd (vp_in a1 40) (some (gA t 10 (ix a1)))
noncomputable def f_X1_orderCode (t : Sx)  : Option Int32 := gd (vp_in 0 3) (gd (vp_in 1 3) (bd (((100 * (gA t 13 (ix 0))) + (10 * (gA t 13 (ix 1))))) fun v1 => gd (vp_in 2 3) (some (v1 + (gA t 13 (ix 2))))))
noncomputable def f_X1_reorder (t : Sx) (a1 : Int32) (a2 : Int32) (a3 : Int32) : Option Sx := gd (vp_in 0 3) (bd (pA t 13 (ix 0) a1) fun t1 => gd (vp_in 1 3) (bd (pA t1 13 (ix 1) a2) fun t2 => gd (vp_in 2 3) (bd (pA t2 13 (ix 2) a3) fun t3 => some t3)))
noncomputable def L_X1_sumOfSizes_5 (t0 : Sx) (b1 : Int64) (kont : Int32 → Int32 → Option Int32) : Nat → Int32 → Int32 → Option Int32
  | 0, _, _ => none
  | n + 1, x3 , x4 => if 40 ≤ x4 then kont (x3) (x4) else (f_X8_holds t0 (b1) (x4)).bind fun r1 => if r1 = 0 then L_X1_sumOfSizes_5 t0 b1 kont n (x3) ((x4 + 1)) else gd (vp_in x4 40) (L_X1_sumOfSizes_5 t0 b1 kont n ((x3 + (gA t0 10 (ix x4)))) ((x4 + 1)))
noncomputable def f_X1_sumOfSizes (t : Sx) (a1 : Int64) : Option Int32 := L_X1_sumOfSizes_5 t (a1) (fun z2 z3 => some z2) FU (0) (0)
noncomputable def f_X1_union (t : Sx) (a0 : Int32) (a1 : Int32) : Option Int32 := if a0 = (-1) then some a1 else if a1 = (-1) then some a0 else some (a0 ||| a1)
noncomputable def L_X1_absorbOne_10 (b1 : Int32) (b2 : Int32) (b3 : Int32) (kont : Int32 → Sx → Option Sx) : Nat → Int32 → Sx → Option Sx
  | 0, _, _ => none
  | n + 1, x4, y => if 4 < x4 then kont (x4) (y) else (f_X1_told y (b1) (b3) (x4)).bind fun r1 => if r1 = (-1) then (f_X1_told y (b2) (b3) (x4)).bind fun r2 => (f_X1_tell y (b1) (b3) (x4) (r2)).bind fun r3 => L_X1_absorbOne_10 b1 b2 b3 kont n ((x4 + 1)) (r3) else L_X1_absorbOne_10 b1 b2 b3 kont n ((x4 + 1)) (y)
noncomputable def L_X1_absorbOne_2 (b1 : Int32) (b2 : Int32) (kont : Int32 → Sx → Option Sx) : Nat → Int32 → Sx → Option Sx
  | 0, _, _ => none
  | n + 1, x3, y => if 3 ≤ x3 then kont (x3) (y) else L_X1_absorbOne_10 (b1) (b2) (x3) (fun z4 t5 => (f_X1_told t5 (b1) (x3) (5)).bind fun r6 => (f_X1_told t5 (b2) (x3) (5)).bind fun r7 => (f_X1_union t5 (r6) (r7)).bind fun r8 => (f_X1_tell t5 (b1) (x3) (5) (r8)).bind fun r9 => L_X1_absorbOne_2 b1 b2 kont n ((x3 + 1)) (r9)) FU (0) (y)
noncomputable def f_X1_absorbOne (t : Sx) (a1 : Int32) (a2 : Int32) : Option Sx := L_X1_absorbOne_2 (a1) (a2) (fun z10 t11 => some t11) FU (0) (t)
noncomputable def L_X1_absorb_3 (b1 : Int32) (b2 : Int64) (kont : Int32 → Sx → Option Sx) : Nat → Int32 → Sx → Option Sx
  | 0, _, _ => none
  | n + 1, x4, y => if 40 ≤ x4 then kont (x4) (y) else (f_X8_holds y (b2) (x4)).bind fun r1 => if r1 = 0 then L_X1_absorb_3 b1 b2 kont n ((x4 + 1)) (y) else (f_X1_absorbOne y (b1) (x4)).bind fun r2 => L_X1_absorb_3 b1 b2 kont n ((x4 + 1)) (r2)
noncomputable def f_X1_absorb (t : Sx) (a1 : Int32) (a2 : Int64) : Option Sx := L_X1_absorb_3 (a1) (a2) (fun z3 t4 => some t4) FU (0) (t)
noncomputable def f_X2_yearOf (t : Sx) (a1 : Int32) : Option Int32 := (f_X1_settledValue t (a1) (2)).bind fun r1 => if r1 = (-1) then some 9999 else some r1
noncomputable def f_X2_beats (t : Sx) (a1 : Int32) (a2 : Int32) : Option Int32 := (f_X1_settledValue t (a1) (1)).bind fun r1 => (f_X1_settledValue t (a2) (1)).bind fun r2 => if r1 = r2 then (f_X2_yearOf t (a1)).bind fun r3 => (f_X2_yearOf t (a2)).bind fun r4 => if r4 ≤ r3 then some 0 else some 1 else if r1 ≤ r2 then some 0 else some 1
noncomputable def L_X2_preferred_5 (t0 : Sx) (b1 : Int64) (kont : Int32 → Int32 → Option Int32) : Nat → Int32 → Int32 → Option Int32
  | 0, _, _ => none
  | n + 1, x3 , x4 => if 40 ≤ x4 then kont (x3) (x4) else (f_X8_holds t0 (b1) (x4)).bind fun r1 => if r1 = 0 then L_X2_preferred_5 t0 b1 kont n (x3) ((x4 + 1)) else if x3 = (-1) then L_X2_preferred_5 t0 b1 kont n (x4) ((x4 + 1)) else (f_X2_beats t0 (x4) (x3)).bind fun r2 => if r2 = 0 then L_X2_preferred_5 t0 b1 kont n (x3) ((x4 + 1)) else L_X2_preferred_5 t0 b1 kont n (x4) ((x4 + 1))
noncomputable def f_X2_preferred (t : Sx) (a1 : Int64) : Option Int32 := L_X2_preferred_5 t (a1) (fun z3 z4 => some z3) FU ((-1)) (0)
noncomputable def L_X2_regroup_20  (kont : Int64 → Int32 → Sx → Option Sx) : Nat → Int64 → Int32 → Sx → Option Sx
  | 0, _, _, _ => none
  | n + 1, x1 , x3, y => if 40 ≤ x3 then kont (x1) (x3) (y) else (f_X8_holds y (x1) (x3)).bind fun r4 => if r4 = 0 then L_X2_regroup_20  kont n (x1) ((x3 + 1)) (y) else (f_X1_alike y (x3)).bind fun r5 => (f_X2_preferred y (r5)).bind fun r6 => (f_X8_only y (r6)).bind fun r7 => bd (pL y 9 ((gL y 9) ||| r7)) fun t8 => (f_J13_bitCount_95d88 t8 (r5)).bind fun r9 => if r9 ≤ 1 then L_X2_regroup_20  kont n ((x1 &&& (r5 ^^^ -1))) ((x3 + 1)) (t8) else bd (pL t8 10 ((gL t8 10) ||| r5)) fun t10 => L_X2_regroup_20  kont n ((x1 &&& (r5 ^^^ -1))) ((x3 + 1)) (t10)
noncomputable def f_X2_regroup (t : Sx)  : Option Sx := bd (pL t 9 0) fun t1 => bd (pL t1 10 0) fun t2 => (f_X1_all t2 ).bind fun r3 => L_X2_regroup_20  (fun z11 z12 t13 => some t13) FU (r3) (0) (t2)
noncomputable def f_X6_has (t : Sx) (a1 : Int32) : Option Int32 := (f_X8_isWithin t (a1) (0) (9)).bind fun r1 => if r1 = 0 then some 0 else gd (vp_in a1 10) (if (gA t 15 (ix a1)) ≤ 0 then some 0 else some 1)
noncomputable def f_X6_spot (t : Sx) (a0 : Int32) (a1 : Int32) : Option Int32 := some ((a0 * 8) + a1)
noncomputable def L_X6_cover_30 (t0 : Sx) (b1 : Int32) (kont : Int32 → Int32 → Option Int32) : Nat → Int32 → Int32 → Option Int32
  | 0, _, _ => none
  | n + 1, x2 , x3 => gd (vp_in b1 10) (if (gA t0 15 (ix b1)) ≤ x3 then kont (x2) (x3) else (f_X6_spot t0 (b1) (x3)).bind fun r2 => gd (vp_in r2 80) ((f_X1_settledValue t0 (gA t0 14 (ix r2)) (1)).bind fun r3 => (f_X1_settledValue t0 (x2) (1)).bind fun r4 => if r3 ≤ r4 then L_X6_cover_30 t0 b1 kont n (x2) ((x3 + 1)) else L_X6_cover_30 t0 b1 kont n ((gA t0 14 (ix r2))) ((x3 + 1))))
noncomputable def f_X6_cover (t : Sx) (a1 : Int32) : Option Int32 := gd (vp_in a1 10) (if (gA t 16 (ix a1)) = (-1) then (f_X6_spot t (a1) (0)).bind fun r1 => gd (vp_in r1 80) (L_X6_cover_30 t (a1) (fun z5 z6 => some z5) FU ((gA t 14 (ix r1))) (1)) else gd (vp_in a1 10) (some (gA t 16 (ix a1))))
noncomputable def L_X6_findCovers_7  (kont : Int32 → Sx → Option Sx) : Nat → Int32 → Sx → Option Sx
  | 0, _, _ => none
  | n + 1, x1, y => if 10 ≤ x1 then kont (x1) (y) else (f_X6_has y (x1)).bind fun r2 => if r2 = 0 then L_X6_findCovers_7  kont n ((x1 + 1)) (y) else (f_X6_cover y (x1)).bind fun r3 => (f_X8_only y (r3)).bind fun r4 => bd (pL y 12 ((gL y 12) ||| r4)) fun t5 => L_X6_findCovers_7  kont n ((x1 + 1)) (t5)
noncomputable def f_X6_findCovers (t : Sx)  : Option Sx := bd (pL t 12 0) fun t1 => L_X6_findCovers_7  (fun z6 t7 => some t7) FU (0) (t1)
noncomputable def f_X6_stacked (t : Sx)  : Option Int64 := some (gL t 11)
noncomputable def f_X6_covers (t : Sx)  : Option Int64 := some (gL t 12)
noncomputable def f_X2_duplicates (t : Sx)  : Option Int64 := some (gL t 10)
noncomputable def f_X2_keepers (t : Sx)  : Option Int64 := some (gL t 9)
noncomputable def L_X6_closeGap_5 (b1 : Int32) (b2 : Int32) (kont : Int32 → Int32 → Sx → Option Sx) : Nat → Int32 → Int32 → Sx → Option Sx
  | 0, _, _, _ => none
  | n + 1, x3 , x4, y => gd (vp_in b1 10) (if (gA y 15 (ix b1)) ≤ x4 then kont (x3) (x4) (y) else (f_X6_spot y (b1) (x4)).bind fun r1 => gd (vp_in r1 80) (if (gA y 14 (ix r1)) = b2 then L_X6_closeGap_5 b1 b2 kont n (x3) ((x4 + 1)) (y) else (f_X6_spot y (b1) (x3)).bind fun r2 => gd (vp_in r2 80) (bd (pA y 14 (ix r2) (gA y 14 (ix r1))) fun t3 => L_X6_closeGap_5 b1 b2 kont n ((x3 + 1)) ((x4 + 1)) (t3))))
noncomputable def f_X6_closeGap (t : Sx) (a1 : Int32) (a2 : Int32) : Option Sx := L_X6_closeGap_5 (a1) (a2) (fun z4 z5 t6 => gd (vp_in a1 10) (bd (pA t6 15 (ix a1) z4) fun t7 => some t7)) FU (0) (0) (t)
noncomputable def f_X6_leave (t : Sx) (a1 : Int32) : Option Sx := gd (vp_in a1 40) (bd (pA t 18 (ix a1) (-1)) fun t1 => (f_X8_only t1 (a1)).bind fun r2 => bd (pL t1 11 ((gL t1 11) &&& (r2 ^^^ -1))) fun t3 => some t3)
noncomputable def f_X6_release (t : Sx) (a1 : Int32) : Option Sx := gd (vp_in a1 40) (if (gA t 18 (ix a1)) = (-1) then some t else (f_X6_closeGap t (gA t 18 (ix a1)) (a1)).bind fun r1 => (f_X6_leave r1 (a1)).bind fun r2 => gd (vp_in (gA t 18 (ix a1)) 10) (if (gA r2 16 (ix (gA t 18 (ix a1)))) = a1 then gd (vp_in (gA t 18 (ix a1)) 10) (bd (pA r2 16 (ix (gA t 18 (ix a1))) (-1)) fun t6 => gd (vp_in (gA t 18 (ix a1)) 10) (if (gA t6 15 (ix (gA t 18 (ix a1)))) = 1 then (f_X6_spot t6 (gA t 18 (ix a1)) (0)).bind fun r7 => gd (vp_in r7 80) ((f_X6_leave t6 (gA t6 14 (ix r7))).bind fun r8 => gd (vp_in (gA t 18 (ix a1)) 10) (bd (pA r8 15 (ix (gA t 18 (ix a1))) 0) fun t9 => some t9)) else some t6)) else gd (vp_in (gA t 18 (ix a1)) 10) (if (gA r2 15 (ix (gA t 18 (ix a1)))) = 1 then (f_X6_spot r2 (gA t 18 (ix a1)) (0)).bind fun r3 => gd (vp_in r3 80) ((f_X6_leave r2 (gA r2 14 (ix r3))).bind fun r4 => gd (vp_in (gA t 18 (ix a1)) 10) (bd (pA r4 15 (ix (gA t 18 (ix a1))) 0) fun t5 => some t5)) else some r2)))
noncomputable def f_X2_keeper (t : Sx) (a1 : Int32) : Option Int32 := (f_X1_alike t (a1)).bind fun r1 => (f_X2_preferred t (r1)).bind fun r2 => some r2
noncomputable def f_X6_home (t : Sx) (a1 : Int32) : Option Int32 := gd (vp_in a1 40) (some (gA t 18 (ix a1)))
noncomputable def L_X6_freeNumber_2 (t0 : Sx) (kont : Int32 → Option Int32) : Nat → Int32 → Option Int32
  | 0, _ => none
  | n + 1, x1 => if 10 ≤ x1 then kont (x1) else (f_X6_has t0 (x1)).bind fun r1 => if r1 = 0 then some x1 else L_X6_freeNumber_2 t0 kont n ((x1 + 1))
noncomputable def f_X6_freeNumber (t : Sx)  : Option Int32 := L_X6_freeNumber_2 t (fun z2 => some (-1)) FU (0)
noncomputable def L_X6_insert_8 (b1 : Int32) (b2 : Int32) (b3 : Int32) (kont : Int32 → Sx → Option Sx) : Nat → Int32 → Sx → Option Sx
  | 0, _, _ => none
  | n + 1, x4, y => if x4 ≤ b3 then kont (x4) (y) else (f_X6_spot y (b1) (x4)).bind fun r1 => (f_X6_spot y (b1) (x4 - 1)).bind fun r2 => gd (vp_in r2 80) (gd (vp_in r1 80) (bd (pA y 14 (ix r1) (gA y 14 (ix r2))) fun t3 => L_X6_insert_8 b1 b2 b3 kont n ((x4 + (-1))) (t3)))
noncomputable def f_X6_insert (t : Sx) (a1 : Int32) (a2 : Int32) (a3 : Int32) : Option Sx := gd (vp_in a1 10) (L_X6_insert_8 (a1) (a2) (a3) (fun z4 t5 => (f_X6_spot t5 (a1) (a3)).bind fun r6 => gd (vp_in r6 80) (bd (pA t5 14 (ix r6) a2) fun t7 => gd (vp_in a1 10) (gd (vp_in a1 10) (bd (pA t7 15 (ix a1) ((gA t7 15 (ix a1)) + 1)) fun t8 => gd (vp_in a2 40) (bd (pA t8 18 (ix a2) a1) fun t9 => (f_X8_only t9 (a2)).bind fun r10 => bd (pL t9 11 ((gL t9 11) ||| r10)) fun t11 => some t11))))) FU ((gA t 15 (ix a1))) (t))
noncomputable def f_X6_begin (t : Sx) (a1 : Int32) (a2 : Int32) (a3 : Int32) : Option Sx := gd (vp_in a1 10) (bd (pA t 16 (ix a1) (-1)) fun t1 => gd (vp_in a1 10) (bd (pA t1 17 (ix a1) 0) fun t2 => (f_X6_insert t2 (a1) (a2) (0)).bind fun r3 => (f_X6_insert r3 (a1) (a3) (1)).bind fun r4 => some r4))
noncomputable def f_X6_height (t : Sx) (a1 : Int32) : Option Int32 := gd (vp_in a1 10) (some (gA t 15 (ix a1)))
noncomputable def f_X6_choose (t : Sx) (a1 : Int32) (a2 : Int32) : Option Sx := gd (vp_in a1 10) (bd (pA t 16 (ix a1) a2) fun t1 => some t1)
noncomputable def f_X6_isCollapsed (t : Sx) (a1 : Int32) : Option Int32 := gd (vp_in a1 10) (gd (gz (gA t 17 (ix a1))) (some (gA t 17 (ix a1))))
noncomputable def f_X6_fold (t : Sx) (a1 : Int32) (a2 : Int32) : Option Sx := gd (gz a2) (gd (vp_in a1 10) (bd (pA t 17 (ix a1) a2) fun t1 => some t1))
noncomputable def f_X6_fileAt (t : Sx) (a1 : Int32) (a2 : Int32) : Option Int32 := gd (vp_in a1 10) (if (gA t 15 (ix a1)) ≤ a2 then some (-1) else (f_X6_spot t (a1) (a2)).bind fun r1 => gd (vp_in r1 80) (some (gA t 14 (ix r1))))
noncomputable def L_X6_withoutHidden_9 (t0 : Sx) (b1 : Int32) (b2 : Int64) (kont : Int64 → Int32 → Int32 → Option Int64) : Nat → Int64 → Int32 → Int32 → Option Int64
  | 0, _, _, _ => none
  | n + 1, x4 , x6 , x7 => gd (vp_in b1 10) (if (gA t0 15 (ix b1)) ≤ x7 then kont (x4) (x6) (x7) else (f_X6_spot t0 (b1) (x7)).bind fun r1 => gd (vp_in r1 80) (if x6 = (-1) then (f_X8_holds t0 (b2) (gA t0 14 (ix r1))).bind fun r3 => if r3 = 0 then (f_X8_only t0 (gA t0 14 (ix r1))).bind fun r4 => L_X6_withoutHidden_9 t0 b1 b2 kont n ((x4 &&& (r4 ^^^ -1))) (x6) ((x7 + 1)) else (f_X8_only t0 (gA t0 14 (ix r1))).bind fun r5 => L_X6_withoutHidden_9 t0 b1 b2 kont n ((x4 &&& (r5 ^^^ -1))) ((gA t0 14 (ix r1))) ((x7 + 1)) else (f_X8_only t0 (gA t0 14 (ix r1))).bind fun r2 => L_X6_withoutHidden_9 t0 b1 b2 kont n ((x4 &&& (r2 ^^^ -1))) (x6) ((x7 + 1))))
noncomputable def f_X6_withoutHidden (t : Sx) (a1 : Int32) (a2 : Int64) : Option Int64 := L_X6_withoutHidden_9 t (a1) (a2) (fun z6 z7 z8 => if z7 = (-1) then some a2 else (f_X6_cover t (a1)).bind fun r9 => (f_X8_holds t (a2) (r9)).bind fun r10 => if r10 = 0 then (f_X8_only t (z7)).bind fun r11 => some (z6 ||| r11) else (f_X8_only t (r9)).bind fun r12 => some (z6 ||| r12)) FU (a2) ((-1)) (0)
noncomputable def L_X6_howMany_4 (t0 : Sx) (kont : Int32 → Int32 → Option Int32) : Nat → Int32 → Int32 → Option Int32
  | 0, _, _ => none
  | n + 1, x1 , x2 => if 10 ≤ x2 then kont (x1) (x2) else (f_X6_has t0 (x2)).bind fun r1 => if r1 = 0 then L_X6_howMany_4 t0 kont n (x1) ((x2 + 1)) else L_X6_howMany_4 t0 kont n ((x1 + 1)) ((x2 + 1))
noncomputable def f_X6_howMany (t : Sx)  : Option Int32 := L_X6_howMany_4 t (fun z2 z3 => some z2) FU (0) (0)
noncomputable def f_X0_exists (t : Sx) (k0 : Nat) : Option Int32 := gd (gz (gI t (100 + k0))) (some (gI t (100 + k0)))
noncomputable def f_X0_members (t : Sx) (k0 : Nat) : Option Int64 := some (gL t (100 + k0))
noncomputable def L_X0_become_11 (b0 : Nat) (b1 : Int64) (b3 : Int32) (b5 : Int64) (kont : Int32 → Sx → Option Sx) : Nat → Int32 → Sx → Option Sx
  | 0, _, _ => none
  | n + 1, x7, y => if 40 ≤ x7 then kont (x7) (y) else (f_X8_holds y (b5) (x7)).bind fun r1 => if r1 = 0 then L_X0_become_11 b0 b1 b3 b5 kont n ((x7 + 1)) (y) else (f_X8_holds y (b1) (x7)).bind fun r2 => (f_X3_note y (b3) (x7) (r2)).bind fun r3 => if r2 = 0 then bd (pI r3 (130 + b0) ((gI r3 (130 + b0)) + 0)) fun t4 => if r2 = 0 then bd (pI t4 (140 + b0) ((gI t4 (140 + b0)) + 1)) fun t5 => L_X0_become_11 b0 b1 b3 b5 kont n ((x7 + 1)) (t5) else bd (pI t4 (140 + b0) ((gI t4 (140 + b0)) + 0)) fun t6 => L_X0_become_11 b0 b1 b3 b5 kont n ((x7 + 1)) (t6) else bd (pI r3 (130 + b0) ((gI r3 (130 + b0)) + 1)) fun t7 => if r2 = 0 then bd (pI t7 (140 + b0) ((gI t7 (140 + b0)) + 1)) fun t8 => L_X0_become_11 b0 b1 b3 b5 kont n ((x7 + 1)) (t8) else bd (pI t7 (140 + b0) ((gI t7 (140 + b0)) + 0)) fun t9 => L_X0_become_11 b0 b1 b3 b5 kont n ((x7 + 1)) (t9)
noncomputable def f_X0_become (t : Sx) (k0 : Nat) (a1 : Int64) (a3 : Int32) : Option Sx := L_X0_become_11 (k0) (a1) (a3) (((gL t (100 + k0)) ^^^ a1)) (fun z10 t11 => bd (pL t11 (100 + k0) a1) fun t12 => some t12) FU (0) (t)
noncomputable def f_X0_sort (t : Sx) (k0 : Nat) (a1 : Int32) (a2 : Int32) : Option Sx := bd (pI t (110 + k0) a1) fun t1 => gd (gz a2) (bd (pI t1 (120 + k0) a2) fun t2 => some t2)
noncomputable def f_X0_follow (t : Sx) (k0 : Nat) (k1 : Nat) : Option Sx := (f_X5_copy t (k0) (k1)).bind fun r1 => some r1
noncomputable def f_X0_begin (t : Sx) (k0 : Nat) (k1 : Nat) : Option Sx := bd (pI t (100 + k0) 1) fun t1 => bd (pL t1 (100 + k0) 0) fun t2 => bd (pI t2 (130 + k0) 0) fun t3 => bd (pI t3 (140 + k0) 0) fun t4 => (f_X0_sort t4 (k0) (1) (1)).bind fun r5 => (f_X0_follow r5 (k0) (k1)).bind fun r6 => some r6
noncomputable def L_X7_shown_8 (t0 : Sx) (b1 : Nat) (kont : Int64 → Int32 → Option Int64) : Nat → Int64 → Int32 → Option Int64
  | 0, _, _ => none
  | n + 1, x2 , x4 => if 10 ≤ x4 then kont (x2) (x4) else (f_X6_has t0 (x4)).bind fun r2 => if r2 = 0 then L_X7_shown_8 t0 b1 kont n (x2) ((x4 + 1)) else (f_X6_isCollapsed t0 (x4)).bind fun r3 => if r3 = 0 then L_X7_shown_8 t0 b1 kont n (x2) ((x4 + 1)) else (f_X6_withoutHidden t0 (x4) (x2)).bind fun r4 => L_X7_shown_8 t0 b1 kont n (r4) ((x4 + 1))
noncomputable def f_X7_shown (t : Sx) (k1 : Nat) : Option Int64 := (f_X0_members t (k1)).bind fun r1 => L_X7_shown_8 t (k1) (fun z5 z6 => some z5) FU (r1) (0)
noncomputable def f_X0_sortField (t : Sx) (k0 : Nat) : Option Int32 := some (gI t (110 + k0))
noncomputable def f_X0_isDescending (t : Sx) (k0 : Nat) : Option Int32 := gd (gz (gI t (120 + k0))) (some (gI t (120 + k0)))
noncomputable def f_X7_comesBefore (t : Sx) (k1 : Nat) (a2 : Int32) (a3 : Int32) : Option Int32 := (f_X0_sortField t (k1)).bind fun r1 => (f_X1_settledValue t (a2) (r1)).bind fun r2 => (f_X0_sortField t (k1)).bind fun r3 => (f_X1_settledValue t (a3) (r3)).bind fun r4 => if r2 = r4 then if a3 ≤ a2 then some 0 else some 1 else if r2 = (-1) then if r4 = (-1) then some 1 else some 0 else if r4 = (-1) then if r4 = (-1) then some 1 else some 0 else (f_X0_isDescending t (k1)).bind fun r5 => if r5 = 0 then if r4 ≤ r2 then some 0 else some 1 else if r2 ≤ r4 then some 0 else some 1
noncomputable def L_X7_placeOf_6 (t0 : Sx) (b1 : Nat) (b2 : Int64) (b4 : Int32) (kont : Int32 → Int32 → Option Int32) : Nat → Int32 → Int32 → Option Int32
  | 0, _, _ => none
  | n + 1, x5 , x6 => if 40 ≤ x6 then kont (x5) (x6) else (f_X8_holds t0 (b2) (x6)).bind fun r1 => if r1 = 0 then L_X7_placeOf_6 t0 b1 b2 b4 kont n (x5) ((x6 + 1)) else (f_X7_comesBefore t0 (b1) (x6) (b4)).bind fun r2 => if r2 = 0 then L_X7_placeOf_6 t0 b1 b2 b4 kont n (x5) ((x6 + 1)) else L_X7_placeOf_6 t0 b1 b2 b4 kont n ((x5 + 1)) ((x6 + 1))
noncomputable def f_X7_placeOf (t : Sx) (k1 : Nat) (a2 : Int64) (a4 : Int32) : Option Int32 := L_X7_placeOf_6 t (k1) (a2) (a4) (fun z3 z4 => some z3) FU (0) (0)
noncomputable def L_X7_fileAt_9 (t0 : Sx) (b1 : Nat) (b2 : Int32) (b3 : Int64) (kont : Int32 → Option Int32) : Nat → Int32 → Option Int32
  | 0, _ => none
  | n + 1, x5 => if 40 ≤ x5 then kont (x5) else (f_X8_holds t0 (b3) (x5)).bind fun r2 => if r2 = 0 then L_X7_fileAt_9 t0 b1 b2 b3 kont n ((x5 + 1)) else (f_X7_placeOf t0 (b1) (b3) (x5)).bind fun r3 => if r3 = b2 then some x5 else L_X7_fileAt_9 t0 b1 b2 b3 kont n ((x5 + 1))
noncomputable def f_X7_fileAt (t : Sx) (k1 : Nat) (a2 : Int32) : Option Int32 := (f_X7_shown t (k1)).bind fun r1 => L_X7_fileAt_9 t (k1) (a2) (r1) (fun z4 => some (-1)) FU (0)
noncomputable def f_X0_joined (t : Sx) (k0 : Nat) : Option Int32 := some (gI t (130 + k0))
noncomputable def f_X0_left (t : Sx) (k0 : Nat) : Option Int32 := some (gI t (140 + k0))
noncomputable def f_X4_beginLevel (t : Sx)  : Option Sx := gd (vp_in (gI t 51) 11) (bd (pM t 0 (ix (gI t 51)) 0) fun t1 => (f_X1_all t1 ).bind fun r2 => gd (vp_in (gI t1 51) 11) (bd (pM t1 1 (ix (gI t1 51)) r2) fun t3 => gd (vp_in (gI t3 51) 11) (bd (pA t3 19 (ix (gI t3 51)) 0) fun t4 => some t4)))
noncomputable def L_X4_tagged_5 (t0 : Sx) (b1 : Int32) (kont : Int64 → Int32 → Option Int64) : Nat → Int64 → Int32 → Option Int64
  | 0, _, _ => none
  | n + 1, x2 , x4 => if 40 ≤ x4 then kont (x2) (x4) else (f_X1_all t0 ).bind fun r1 => (f_X8_holds t0 (r1) (x4)).bind fun r2 => if r2 = 0 then L_X4_tagged_5 t0 b1 kont n (x2) ((x4 + 1)) else (f_X1_settledValue t0 (x4) (5)).bind fun r3 => if ((ushI r3 b1) &&& 1) = 1 then (f_X8_only t0 (x4)).bind fun r4 => L_X4_tagged_5 t0 b1 kont n ((x2 ||| r4)) ((x4 + 1)) else L_X4_tagged_5 t0 b1 kont n (x2) ((x4 + 1))
noncomputable def f_X4_tagged (t : Sx) (a1 : Int32) : Option Int64 := L_X4_tagged_5 t (a1) (fun z5 z6 => some z5) FU (0) (0)
noncomputable def f_X4_membersOf (t : Sx) (a1 : Int32) : Option Int64 := (f_X8_isWithin t (a1) (0) (7)).bind fun r1 => if r1 = 0 then some 0 else gd (vp_in a1 8) ((f_X0_members t (ix a1)).bind fun r3 => some r3)
noncomputable def f_X4_agrees (t : Sx) (a0 : Int32) (a1 : Int32) (a2 : Int32) : Option Int32 := if a0 = (-1) then some 0 else if a1 = 60 then if a2 ≤ a0 then some 0 else some 1 else if a1 = 61 then if a0 = a2 then some 1 else some 0 else if a1 = 62 then if a0 ≤ a2 then some 0 else some 1 else some 1
noncomputable def L_X4_comparing_40 (t0 : Sx) (b1 : Nat) (b2 : Int32) (b3 : Int32) (b4 : Int32) (b5 : Int32) (kont : Int64 → Int32 → Option Int64) : Nat → Int64 → Int32 → Option Int64
  | 0, _, _ => none
  | n + 1, x6 , x8 => if 40 ≤ x8 then kont (x6) (x8) else (f_X1_settledValue t0 (x8) (b3)).bind fun r5 => (f_X1_all t0 ).bind fun r6 => (f_X8_holds t0 (r6) (x8)).bind fun r7 => if r7 = 0 then L_X4_comparing_40 t0 b1 b2 b3 b4 b5 kont n (x6) ((x8 + 1)) else (f_X4_agrees t0 (r5) (b4) (b5)).bind fun r8 => if r8 = 0 then L_X4_comparing_40 t0 b1 b2 b3 b4 b5 kont n (x6) ((x8 + 1)) else (f_X8_only t0 (x8)).bind fun r9 => L_X4_comparing_40 t0 b1 b2 b3 b4 b5 kont n ((x6 ||| r9)) ((x8 + 1))
noncomputable def f_X4_comparing (t : Sx) (k1 : Nat) (a2 : Int32) : Option Int64 := (f_X5_at t (k1) (a2)).bind fun r1 => (f_X5_fieldNamed t (r1)).bind fun r2 => if r2 = (-1) then some 0 else (f_X5_at t (k1) (a2 + 1)).bind fun r3 => (f_X5_numberAt t (k1) (a2 + 2)).bind fun r4 => L_X4_comparing_40 t (k1) (a2) (r2) (r3) (r4) (fun z10 z11 => some z10) FU (0) (0)
noncomputable def f_X4_condition (t : Sx) (k1 : Nat) (a2 : Int32) : Option Int64 := (f_X5_at t (k1) (a2)).bind fun r1 => if r1 = 97 then (f_X5_numberAt t (k1) (a2 + 1)).bind fun r3 => (f_X4_membersOf t (r3)).bind fun r4 => some r4 else if r1 = 98 then (f_X2_keepers t ).bind fun r6 => some r6 else if r1 = 115 then (f_X6_stacked t ).bind fun r8 => some r8 else if r1 = 116 then (f_X5_numberAt t (k1) (a2 + 1)).bind fun r10 => (f_X4_tagged t (r10)).bind fun r11 => some r11 else if r1 = 117 then (f_X2_duplicates t ).bind fun r13 => some r13 else if r1 = 118 then (f_X6_covers t ).bind fun r15 => some r15 else (f_X4_comparing t (k1) (a2)).bind fun r16 => some r16
noncomputable def f_X4_take (t : Sx) (a1 : Int64) : Option Sx := gd (vp_in (gI t 51) 11) (gd (vp_in (gI t 51) 11) (if (gA t 19 (ix (gI t 51))) = 0 then gd (vp_in (gI t 51) 11) (bd (pM t 1 (ix (gI t 51)) ((gM t 1 (ix (gI t 51))) &&& a1)) fun t1 => gd (vp_in (gI t1 51) 11) (bd (pA t1 19 (ix (gI t1 51)) 0) fun t2 => some t2)) else gd (vp_in (gI t 51) 11) (bd (pM t 1 (ix (gI t 51)) ((gM t 1 (ix (gI t 51))) &&& (a1 ^^^ -1))) fun t3 => gd (vp_in (gI t3 51) 11) (bd (pA t3 19 (ix (gI t3 51)) 0) fun t4 => some t4))))
noncomputable def f_X4_openLevel (t : Sx)  : Option Sx := if 10 ≤ (gI t 51) then some t else bd (pI t 51 ((gI t 51) + 1)) fun t1 => (f_X4_beginLevel t1 ).bind fun r2 => some r2
noncomputable def f_X4_closeLevel (t : Sx)  : Option Sx := if (gI t 51) ≤ 0 then some t else gd (vp_in (gI t 51) 11) (gd (vp_in (gI t 51) 11) (bd (((gM t 0 (ix (gI t 51))) ||| (gM t 1 (ix (gI t 51))))) fun v1 => bd (pI t 51 ((gI t 51) - 1)) fun t2 => (f_X4_take t2 (v1)).bind fun r3 => some r3))
noncomputable def f_X4_operate (t : Sx) (a1 : Int32) : Option Sx := if a1 = 33 then gd (vp_in (gI t 51) 11) (if (gA t 19 (ix (gI t 51))) = 0 then gd (vp_in (gI t 51) 11) (bd (pA t 19 (ix (gI t 51)) 1) fun t3 => some t3) else gd (vp_in (gI t 51) 11) (bd (pA t 19 (ix (gI t 51)) 0) fun t2 => some t2)) else if a1 = 40 then (f_X4_openLevel t ).bind fun r5 => some r5 else if a1 = 41 then (f_X4_closeLevel t ).bind fun r7 => some r7 else if a1 = 124 then gd (vp_in (gI t 51) 11) (gd (vp_in (gI t 51) 11) (bd (((gM t 0 (ix (gI t 51))) ||| (gM t 1 (ix (gI t 51))))) fun v9 => gd (vp_in (gI t 51) 11) (bd (pM t 0 (ix (gI t 51)) v9) fun t10 => (f_X1_all t10 ).bind fun r11 => gd (vp_in (gI t10 51) 11) (bd (pM t10 1 (ix (gI t10 51)) r11) fun t12 => some t12)))) else some t
noncomputable def L_X4_filesFor_11 (b1 : Nat) (kont : Int32 → Sx → Option (Int64 × Sx)) : Nat → Int32 → Sx → Option (Int64 × Sx)
  | 0, _, _ => none
  | n + 1, x2, y => (f_X5_length y (b1)).bind fun r3 => if r3 ≤ x2 then kont (x2) (y) else (f_X5_at y (b1) (x2)).bind fun r4 => if r4 < 97 then (f_X4_operate y (r4)).bind fun r5 => L_X4_filesFor_11 b1 kont n ((x2 + 1)) (r5) else if 122 < r4 then (f_X4_operate y (r4)).bind fun r6 => L_X4_filesFor_11 b1 kont n ((x2 + 1)) (r6) else (f_X4_condition y (b1) (x2)).bind fun r7 => (f_X4_take y (r7)).bind fun r8 => L_X4_filesFor_11 b1 kont n ((x2 + 1)) (r8)
noncomputable def f_X4_filesFor (t : Sx) (k1 : Nat) : Option (Int64 × Sx) := bd (pI t 51 0) fun t1 => (f_X4_beginLevel t1 ).bind fun r2 => L_X4_filesFor_11 (k1) (fun z9 t10 => gd (vp_in 0 11) (gd (vp_in 0 11) (some (((gM t10 0 (ix 0)) ||| (gM t10 1 (ix 0))), t10)))) FU (0) (r2)
noncomputable def f_X8_hasAlbum (t : Sx) (a1 : Int32) : Option Int32 := (f_X8_isWithin t (a1) (0) (7)).bind fun r1 => if r1 = 0 then some 0 else gd (vp_in a1 8) ((f_X0_exists t (ix a1)).bind fun r3 => if r3 = 0 then some 0 else some 1)
noncomputable def L_X8_settle_23  (kont : Int32 → Sx → Option Sx) : Nat → Int32 → Sx → Option Sx
  | 0, _, _ => none
  | n + 1, x1, y => if 8 ≤ x1 then kont (x1) (y) else (f_X8_hasAlbum y (x1)).bind fun r4 => if r4 = 0 then L_X8_settle_23  kont n ((x1 + 1)) (y) else gd (vp_in x1 8) ((f_X4_filesFor y (ix x1)).bind fun r7 => gd (vp_in x1 8) ((f_X0_become r7.2 (ix x1) (r7.1) (x1)).bind fun r9 => L_X8_settle_23  kont n ((x1 + 1)) (r9)))
noncomputable def f_X8_settle (t : Sx)  : Option Sx := (f_X1_settleValues t ).bind fun r1 => (f_X2_regroup r1 ).bind fun r2 => (f_X6_findCovers r2 ).bind fun r3 => L_X8_settle_23  (fun z10 t11 => some t11) FU (0) (r3)
noncomputable def f_X8_add (t : Sx) (a1 : Int32) (a2 : Int32) : Option (Int32 × Sx) := (f_X8_isWithin t (a1) (0) (9999)).bind fun r1 => if r1 = 0 then some ((-1), t) else (f_X8_isWithin t (a2) (1) (100000)).bind fun r2 => if r2 = 0 then some ((-1), t) else (f_X1_freeNumber t ).bind fun r3 => if r3 = (-1) then some ((-3), t) else (f_X1_enter t (r3) (a1) (a2)).bind fun r4 => (f_X8_settle r4 ).bind fun r5 => some (r3, r5)
noncomputable def f_X8_discard (t : Sx) (a1 : Int32) : Option Sx := (f_X6_release t (a1)).bind fun r1 => (f_X1_drop r1 (a1)).bind fun r2 => some r2
noncomputable def f_X8_remove (t : Sx) (a1 : Int32) : Option (Int32 × Sx) := (f_X1_has t (a1)).bind fun r1 => if r1 = 0 then some ((-1), t) else (f_X8_discard t (a1)).bind fun r2 => (f_X8_settle r2 ).bind fun r3 => (f_X1_howMany r3 ).bind fun r4 => some (r4, r3)
noncomputable def f_X8_fileCount (t : Sx)  : Option Int32 := (f_X1_howMany t ).bind fun r1 => some r1
noncomputable def f_X8_setDigest (t : Sx) (a1 : Int32) (a2 : Int32) : Option (Int32 × Sx) := (f_X1_has t (a1)).bind fun r1 => if r1 = 0 then some ((-1), t) else (f_X8_isWithin t (a2) (0) (9999)).bind fun r2 => if r2 = 0 then some ((-1), t) else (f_X1_digest t (a1)).bind fun r3 => (f_X1_changeDigest t (a1) (a2)).bind fun r4 => (f_X8_settle r4 ).bind fun r5 => some (r3, r5)
noncomputable def f_X8_isSlot (t : Sx) (a1 : Int32) (a2 : Int32) (a3 : Int32) : Option Int32 := (f_X1_has t (a1)).bind fun r1 => if r1 = 0 then some 0 else (f_X8_isSource t (a2)).bind fun r2 => if r2 = 0 then some 0 else (f_X8_isWithin t (a3) (0) (5)).bind fun r3 => if r3 = 0 then some 0 else some 1
noncomputable def f_X8_setValue (t : Sx) (a1 : Int32) (a2 : Int32) (a3 : Int32) (a4 : Int32) : Option (Int32 × Sx) := (f_X8_isSlot t (a1) (a2) (a3)).bind fun r1 => if r1 = 0 then some ((-1), t) else gd (vp_in a3 6) (gd (vp_in a3 6) ((f_X8_isWithin t (a4) (lstV (ix a3)) (grtV (ix a3))).bind fun r2 => if r2 = 0 then some ((-1), t) else (f_X1_told t (a1) (a2) (a3)).bind fun r3 => (f_X1_tell t (a1) (a2) (a3) (a4)).bind fun r4 => (f_X8_settle r4 ).bind fun r5 => (f_X8_orNotFound r5 (r3)).bind fun r6 => some (r6, r5)))
noncomputable def f_X8_clearValue (t : Sx) (a1 : Int32) (a2 : Int32) (a3 : Int32) : Option (Int32 × Sx) := (f_X8_isSlot t (a1) (a2) (a3)).bind fun r1 => if r1 = 0 then some ((-1), t) else (f_X1_told t (a1) (a2) (a3)).bind fun r2 => if r2 = (-1) then some ((-4), t) else (f_X1_tell t (a1) (a2) (a3) (-1)).bind fun r3 => (f_X8_settle r3 ).bind fun r4 => some (r2, r4)
noncomputable def f_X8_value (t : Sx) (a1 : Int32) (a2 : Int32) : Option Int32 := (f_X1_has t (a1)).bind fun r1 => if r1 = 0 then some (-1) else (f_X8_isWithin t (a2) (0) (7)).bind fun r2 => if r2 = 0 then some (-1) else if a2 = 6 then (f_X1_digest t (a1)).bind fun r4 => some r4 else if a2 = 7 then (f_X1_bytes t (a1)).bind fun r6 => some r6 else (f_X1_settledValue t (a1) (a2)).bind fun r7 => (f_X8_orNotFound t (r7)).bind fun r8 => some r8
noncomputable def f_X8_sourceOf (t : Sx) (a1 : Int32) (a2 : Int32) : Option Int32 := (f_X1_has t (a1)).bind fun r1 => if r1 = 0 then some (-1) else (f_X8_isWithin t (a2) (0) (4)).bind fun r2 => if r2 = 0 then some (-1) else (f_X1_firstTeller t (a1) (a2)).bind fun r3 => (f_X8_orNotFound t (r3)).bind fun r4 => some r4
noncomputable def f_X8_setOrder (t : Sx) (a1 : Int32) (a2 : Int32) (a3 : Int32) : Option (Int32 × Sx) := (f_X8_isSource t (a1)).bind fun r1 => if r1 = 0 then some ((-1), t) else (f_X8_isSource t (a2)).bind fun r2 => if r2 = 0 then some ((-1), t) else (f_X8_isSource t (a3)).bind fun r3 => if r3 = 0 then some ((-1), t) else if a1 = a2 then some ((-1), t) else if a1 = a3 then some ((-1), t) else if a2 = a3 then some ((-1), t) else (f_X1_orderCode t ).bind fun r4 => (f_X1_reorder t (a1) (a2) (a3)).bind fun r5 => (f_X8_settle r5 ).bind fun r6 => some (r4, r6)
noncomputable def f_X8_keeperOf (t : Sx) (a1 : Int32) : Option Int32 := (f_X1_has t (a1)).bind fun r1 => if r1 = 0 then some (-1) else (f_X2_keeper t (a1)).bind fun r2 => some r2
noncomputable def f_X8_groupSize (t : Sx) (a1 : Int32) : Option Int32 := (f_X1_has t (a1)).bind fun r1 => if r1 = 0 then some (-1) else (f_X1_alike t (a1)).bind fun r2 => (f_J13_bitCount_95d88 t (r2)).bind fun r3 => some r3
noncomputable def f_X8_wasted (t : Sx)  : Option Int32 := (f_X1_all t ).bind fun r1 => (f_X2_keepers t ).bind fun r2 => (f_X1_sumOfSizes t (r1 &&& (r2 ^^^ -1))).bind fun r3 => some r3
noncomputable def L_X8_merge_61 (b1 : Int32) (b2 : Int32) (b3 : Int64) (kont : Int32 → Sx → Option (Int32 × Sx)) : Nat → Int32 → Sx → Option (Int32 × Sx)
  | 0, _, _ => none
  | n + 1, x5, y => if 40 ≤ x5 then kont (x5) (y) else (f_X8_holds y (b3) (x5)).bind fun r6 => if r6 = 0 then L_X8_merge_61 b1 b2 b3 kont n ((x5 + 1)) (y) else (f_X8_discard y (x5)).bind fun r7 => L_X8_merge_61 b1 b2 b3 kont n ((x5 + 1)) (r7)
noncomputable def f_X8_merge (t : Sx) (a1 : Int32) : Option (Int32 × Sx) := (f_X1_has t (a1)).bind fun r1 => if r1 = 0 then some ((-1), t) else (f_X2_keeper t (a1)).bind fun r2 => (f_X1_alike t (a1)).bind fun r3 => (f_X8_only t (r2)).bind fun r4 => if (lg_cmp (r3 &&& (r4 ^^^ -1)) 0) = 0 then some ((-2), t) else (f_X1_absorb t (r2) (r3 &&& (r4 ^^^ -1))).bind fun r5 => L_X8_merge_61 (a1) (r2) ((r3 &&& (r4 ^^^ -1))) (fun z8 t9 => (f_X8_settle t9 ).bind fun r10 => (f_J13_bitCount_95d88 r10 (r3 &&& (r4 ^^^ -1))).bind fun r11 => some (r11, r10)) FU (0) (r5)
noncomputable def f_X8_stack (t : Sx) (a1 : Int32) (a2 : Int32) : Option (Int32 × Sx) := (f_X1_has t (a1)).bind fun r1 => if r1 = 0 then some ((-1), t) else (f_X1_has t (a2)).bind fun r2 => if r2 = 0 then some ((-1), t) else if a1 = a2 then some ((-1), t) else (f_X6_home t (a1)).bind fun r3 => if r3 = (-1) then (f_X6_home t (a2)).bind fun r4 => if r4 = (-1) then (f_X6_freeNumber t ).bind fun r5 => if r5 = (-1) then some ((-3), t) else (f_X6_begin t (r5) (a1) (a2)).bind fun r6 => (f_X8_settle r6 ).bind fun r7 => some (r5, r7) else some ((-2), t) else some ((-2), t)
noncomputable def f_X8_putInto (t : Sx) (a1 : Int32) (a2 : Int32) (a3 : Int32) : Option (Int32 × Sx) := (f_X6_has t (a1)).bind fun r1 => if r1 = 0 then some ((-1), t) else (f_X1_has t (a2)).bind fun r2 => if r2 = 0 then some ((-1), t) else (f_X6_height t (a1)).bind fun r3 => (f_X8_isWithin t (a3) (0) (r3)).bind fun r4 => if r4 = 0 then some ((-1), t) else (f_X6_home t (a2)).bind fun r5 => if r5 = (-1) then (f_X6_height t (a1)).bind fun r6 => if r6 = 8 then some ((-3), t) else (f_X6_insert t (a1) (a2) (a3)).bind fun r7 => (f_X8_settle r7 ).bind fun r8 => (f_X6_height r8 (a1)).bind fun r9 => some (r9, r8) else some ((-2), t)
noncomputable def f_X8_takeOut (t : Sx) (a1 : Int32) : Option (Int32 × Sx) := (f_X1_has t (a1)).bind fun r1 => if r1 = 0 then some ((-1), t) else (f_X6_home t (a1)).bind fun r2 => if r2 = (-1) then some ((-2), t) else (f_X6_release t (a1)).bind fun r3 => (f_X8_settle r3 ).bind fun r4 => (f_X6_height r4 (r2)).bind fun r5 => some (r5, r4)
noncomputable def f_X8_chooseCover (t : Sx) (a1 : Int32) (a2 : Int32) : Option (Int32 × Sx) := (f_X6_has t (a1)).bind fun r1 => if r1 = 0 then some ((-1), t) else if a2 = (-1) then if a2 = (-1) then (f_X6_choose t (a1) (a2)).bind fun r2 => (f_X8_settle r2 ).bind fun r3 => (f_X6_cover r3 (a1)).bind fun r4 => some (r4, r3) else (f_X6_home t (a2)).bind fun r5 => if r5 = a1 then (f_X6_choose t (a1) (a2)).bind fun r6 => (f_X8_settle r6 ).bind fun r7 => (f_X6_cover r7 (a1)).bind fun r8 => some (r8, r7) else some ((-2), t) else (f_X1_has t (a2)).bind fun r9 => if r9 = 0 then some ((-1), t) else if a2 = (-1) then (f_X6_choose t (a1) (a2)).bind fun r10 => (f_X8_settle r10 ).bind fun r11 => (f_X6_cover r11 (a1)).bind fun r12 => some (r12, r11) else (f_X6_home t (a2)).bind fun r13 => if r13 = a1 then (f_X6_choose t (a1) (a2)).bind fun r14 => (f_X8_settle r14 ).bind fun r15 => (f_X6_cover r15 (a1)).bind fun r16 => some (r16, r15) else some ((-2), t)
noncomputable def f_X8_collapse (t : Sx) (a1 : Int32) (a2 : Int32) : Option (Int32 × Sx) := (f_X6_has t (a1)).bind fun r1 => if r1 = 0 then some ((-1), t) else (f_X8_isWithin t (a2) (0) (1)).bind fun r2 => if r2 = 0 then some ((-1), t) else (f_X6_isCollapsed t (a1)).bind fun r3 => if r3 = 0 then if a2 = 1 then (f_X6_fold t (a1) (1)).bind fun r5 => some (0, r5) else (f_X6_fold t (a1) (0)).bind fun r4 => some (0, r4) else if a2 = 1 then (f_X6_fold t (a1) (1)).bind fun r7 => some (1, r7) else (f_X6_fold t (a1) (0)).bind fun r6 => some (1, r6)
noncomputable def f_X8_stackOf (t : Sx) (a1 : Int32) : Option Int32 := (f_X1_has t (a1)).bind fun r1 => if r1 = 0 then some (-1) else (f_X6_home t (a1)).bind fun r2 => (f_X8_orNotFound t (r2)).bind fun r3 => some r3
noncomputable def f_X8_coverOf (t : Sx) (a1 : Int32) : Option Int32 := (f_X6_has t (a1)).bind fun r1 => if r1 = 0 then some (-1) else (f_X6_cover t (a1)).bind fun r2 => some r2
noncomputable def f_X8_stackAt (t : Sx) (a1 : Int32) (a2 : Int32) : Option Int32 := (f_X6_has t (a1)).bind fun r1 => if r1 = 0 then some (-1) else if 0 ≤ a2 then (f_X6_fileAt t (a1) (a2)).bind fun r2 => (f_X8_orNotFound t (r2)).bind fun r3 => some r3 else some (-1)
noncomputable def f_X8_type (t : Sx) (a1 : Int32) : Option (Int32 × Sx) := (f_X8_isWithin t (a1) (33) (126)).bind fun r1 => if r1 = 0 then some ((-1), t) else (f_X5_length t (8)).bind fun r2 => if r2 = 80 then some ((-3), t) else (f_X5_append t (8) (i2c a1)).bind fun r3 => (f_X5_length r3 (8)).bind fun r4 => some (r4, r3)
noncomputable def f_X8_clearRule (t : Sx)  : Option (Int32 × Sx) := (f_X5_length t (8)).bind fun r1 => (f_X5_empty t (8)).bind fun r2 => some (r1, r2)
noncomputable def f_X8_fault (t : Sx)  : Option Int32 := (f_X5_firstFault t (8)).bind fun r1 => (f_X8_orNotFound t (r1)).bind fun r2 => some r2
noncomputable def L_X8_isTextUsable_15 (t0 : Sx) (b1 : Int32) (kont : Int32 → Option Int32) : Nat → Int32 → Option Int32
  | 0, _ => none
  | n + 1, x2 => if 9 < x2 then kont (x2) else (f_X5_names t0 (8) (x2)).bind fun r2 => if r2 = 0 then L_X8_isTextUsable_15 t0 b1 kont n ((x2 + 1)) else if b1 ≤ x2 then some 0 else (f_X8_hasAlbum t0 (x2)).bind fun r3 => if r3 = 0 then some 0 else L_X8_isTextUsable_15 t0 b1 kont n ((x2 + 1))
noncomputable def f_X8_isTextUsable (t : Sx) (a1 : Int32) : Option Int32 := (f_X5_firstFault t (8)).bind fun r1 => if r1 = (-1) then L_X8_isTextUsable_15 t (a1) (fun z4 => some 1) FU (0) else some 0
noncomputable def f_X8_satisfies (t : Sx) (a1 : Int32) : Option (Int32 × Sx) := (f_X1_has t (a1)).bind fun r1 => if r1 = 0 then some ((-1), t) else (f_X8_isTextUsable t (8)).bind fun r2 => if r2 = 0 then some ((-2), t) else (f_X4_filesFor t (8)).bind fun r3 => (f_X8_holds r3.2 (r3.1) (a1)).bind fun r4 => if r4 = 0 then some (0, r3.2) else some (1, r3.2)
noncomputable def f_X8_select (t : Sx)  : Option (Int32 × Sx) := (f_X8_isTextUsable t (8)).bind fun r1 => if r1 = 0 then some ((-2), t) else (f_X4_filesFor t (8)).bind fun r2 => (f_J13_bitCount_95d88 r2.2 (r2.1)).bind fun r3 => some (r3, r2.2)
noncomputable def L_X8_freeAlbum_2 (t0 : Sx) (kont : Int32 → Option Int32) : Nat → Int32 → Option Int32
  | 0, _ => none
  | n + 1, x1 => if 8 ≤ x1 then kont (x1) else (f_X8_hasAlbum t0 (x1)).bind fun r1 => if r1 = 0 then kont (x1) else L_X8_freeAlbum_2 t0 kont n ((x1 + 1))
noncomputable def f_X8_freeAlbum (t : Sx)  : Option Int32 := L_X8_freeAlbum_2 t (fun z2 => some z2) FU (0)
noncomputable def f_X8_makeAlbum (t : Sx)  : Option (Int32 × Sx) := (f_X8_freeAlbum t ).bind fun r1 => (f_X8_isTextUsable t (r1)).bind fun r2 => if r2 = 0 then some ((-2), t) else if r1 = 8 then some ((-3), t) else gd (vp_in r1 8) ((f_X0_begin t (ix r1) (8)).bind fun r4 => (f_X8_settle r4 ).bind fun r5 => some (r1, r5))
noncomputable def L_X8_albumCount_4 (t0 : Sx) (kont : Int32 → Int32 → Option Int32) : Nat → Int32 → Int32 → Option Int32
  | 0, _, _ => none
  | n + 1, x1 , x2 => if 8 ≤ x2 then kont (x1) (x2) else (f_X8_hasAlbum t0 (x2)).bind fun r1 => if r1 = 0 then L_X8_albumCount_4 t0 kont n (x1) ((x2 + 1)) else L_X8_albumCount_4 t0 kont n ((x1 + 1)) ((x2 + 1))
noncomputable def f_X8_albumCount (t : Sx)  : Option Int32 := L_X8_albumCount_4 t (fun z2 z3 => some z2) FU (0) (0)
noncomputable def f_X8_albumSize (t : Sx) (a1 : Int32) : Option Int32 := (f_X8_hasAlbum t (a1)).bind fun r1 => if r1 = 0 then some (-1) else gd (vp_in a1 8) ((f_X0_members t (ix a1)).bind fun r3 => (f_J13_bitCount_95d88 t (r3)).bind fun r4 => some r4)
noncomputable def f_X8_isIn (t : Sx) (a1 : Int32) (a2 : Int32) : Option Int32 := (f_X8_hasAlbum t (a1)).bind fun r1 => if r1 = 0 then some (-1) else (f_X1_has t (a2)).bind fun r2 => if r2 = 0 then some (-1) else gd (vp_in a1 8) ((f_X0_members t (ix a1)).bind fun r4 => (f_X8_holds t (r4) (a2)).bind fun r5 => if r5 = 0 then some 0 else some 1)
noncomputable def f_X8_viewSize (t : Sx) (a1 : Int32) : Option Int32 := (f_X8_hasAlbum t (a1)).bind fun r1 => if r1 = 0 then some (-1) else gd (vp_in a1 8) ((f_X7_shown t (ix a1)).bind fun r3 => (f_J13_bitCount_95d88 t (r3)).bind fun r4 => some r4)
noncomputable def f_X8_viewAt (t : Sx) (a1 : Int32) (a2 : Int32) : Option Int32 := (f_X8_hasAlbum t (a1)).bind fun r1 => if r1 = 0 then some (-1) else if 0 ≤ a2 then gd (vp_in a1 8) ((f_X7_fileAt t (ix a1) (a2)).bind fun r3 => (f_X8_orNotFound t (r3)).bind fun r4 => some r4) else some (-1)
noncomputable def f_X8_journalSize (t : Sx)  : Option Int32 := (f_X3_length t ).bind fun r1 => some r1
noncomputable def f_X8_journalAt (t : Sx) (a1 : Int32) (a2 : Int32) : Option Int32 := if a1 < 0 then some (-1) else (f_X8_isWithin t (a2) (0) (2)).bind fun r1 => if r1 = 0 then some (-1) else (f_X3_length t ).bind fun r2 => if a1 < r2 then if a2 = 0 then (f_X3_album t (a1)).bind fun r4 => some r4 else if a2 = 1 then (f_X3_file t (a1)).bind fun r6 => some r6 else (f_X3_hasJoined t (a1)).bind fun r7 => if r7 = 0 then some 0 else some 1 else some (-4)
noncomputable def f_X8_turnover (t : Sx) (a1 : Int32) (a2 : Int32) : Option Int32 := (f_X8_hasAlbum t (a1)).bind fun r1 => if r1 = 0 then some (-1) else (f_X8_isWithin t (a2) (0) (1)).bind fun r2 => if r2 = 0 then some (-1) else if a2 = 1 then gd (vp_in a1 8) ((f_X0_joined t (ix a1)).bind fun r6 => some r6) else gd (vp_in a1 8) ((f_X0_left t (ix a1)).bind fun r4 => some r4)
noncomputable def f_X8_count (t : Sx) (a1 : Int32) : Option Int32 := if a1 = 0 then (f_X6_howMany t ).bind fun r2 => some r2 else if a1 = 1 then (f_X8_albumCount t ).bind fun r4 => some r4 else if a1 = 2 then (f_X2_keepers t ).bind fun r6 => (f_X2_duplicates t ).bind fun r7 => (f_J13_bitCount_95d88 t (r6 &&& r7)).bind fun r8 => some r8 else if a1 = 3 then (f_X6_stacked t ).bind fun r10 => (f_J13_bitCount_95d88 t (r10)).bind fun r11 => some r11 else if a1 = 4 then (f_X1_all t ).bind fun r13 => (f_X1_sumOfSizes t (r13)).bind fun r14 => some r14 else some (-1)
noncomputable def f_X9_in (t : Sx) (a0 : Int32) (a1 : Int32) (a2 : Int32) : Option Int32 := if a0 < a1 then some 0 else if a2 < a0 then some 0 else some 1
noncomputable def f_X9_there (t : Sx) (a1 : Int32) : Option Int32 := (f_X9_in t (a1) (0) (39)).bind fun r1 => if r1 = 0 then some 0 else gd (vp_in a1 40) (if (gA t 23 (ix a1)) = 0 then some 0 else some 1)
noncomputable def L_X9_source_2 (t0 : Sx) (b1 : Int32) (b2 : Int32) (kont : Int32 → Option Int32) : Nat → Int32 → Option Int32
  | 0, _ => none
  | n + 1, x3 => if 3 ≤ x3 then kont (x3) else gd (vp_in x3 3) (gd (vp_in (((18 * b1) + (6 * (gA t0 28 (ix x3)))) + b2) 720) (bd ((gA t0 26 (ix (((18 * b1) + (6 * (gA t0 28 (ix x3)))) + b2)))) fun v1 => if v1 = 0 then L_X9_source_2 t0 b1 b2 kont n ((x3 + 1)) else gd (vp_in x3 3) (some (gA t0 28 (ix x3)))))
noncomputable def f_X9_source (t : Sx) (a1 : Int32) (a2 : Int32) : Option Int32 := L_X9_source_2 t (a1) (a2) (fun z2 => some (-4)) FU (0)
noncomputable def f_X9_valueOr (t : Sx) (a1 : Int32) (a2 : Int32) (a3 : Int32) : Option Int32 := (f_X9_source t (a1) (a2)).bind fun r1 => if 0 ≤ r1 then gd (vp_in (((18 * a1) + (6 * r1)) + a2) 720) (some (gA t 27 (ix (((18 * a1) + (6 * r1)) + a2)))) else some a3
noncomputable def L_X9_tags_4 (t0 : Sx) (b1 : Int32) (kont : Int32 → Int32 → Option Int32) : Nat → Int32 → Int32 → Option Int32
  | 0, _, _ => none
  | n + 1, x2 , x3 => if 3 ≤ x3 then kont (x2) (x3) else gd (vp_in (((18 * b1) + (6 * x3)) + 5) 720) (if (gA t0 26 (ix (((18 * b1) + (6 * x3)) + 5))) = 0 then L_X9_tags_4 t0 b1 kont n ((x2 ||| 0)) ((x3 + 1)) else gd (vp_in (((18 * b1) + (6 * x3)) + 5) 720) (bd ((x2 ||| (gA t0 27 (ix (((18 * b1) + (6 * x3)) + 5))))) fun v1 => L_X9_tags_4 t0 b1 kont n (v1) ((x3 + 1))))
noncomputable def f_X9_tags (t : Sx) (a1 : Int32) : Option Int32 := L_X9_tags_4 t (a1) (fun z2 z3 => some z2) FU (0) (0)
noncomputable def f_X9_fits (t : Sx) (a0 : Int32) (a1 : Int32) : Option Int32 := if a0 = 0 then (f_X9_in t (a1) (0) (2)).bind fun r2 => gd (gz r2) (some r2) else if a0 = 1 then (f_X9_in t (a1) (0) (5)).bind fun r4 => gd (gz r4) (some r4) else if a0 = 2 then (f_X9_in t (a1) (1900) (2100)).bind fun r6 => gd (gz r6) (some r6) else if a0 = 3 then (f_X9_in t (a1) (0) (20)).bind fun r8 => gd (gz r8) (some r8) else if a0 = 4 then (f_X9_in t (a1) (0) (9999)).bind fun r10 => gd (gz r10) (some r10) else (f_X9_in t (a1) (0) (1023)).bind fun r11 => gd (gz r11) (some r11)
noncomputable def f_X9_isPreferred (t : Sx) (a1 : Int32) (a2 : Int32) : Option Int32 := (f_X9_valueOr t (a1) (1) (-1)).bind fun r1 => (f_X9_valueOr t (a2) (1) (-1)).bind fun r2 => (f_X9_valueOr t (a1) (2) (9999)).bind fun r3 => (f_X9_valueOr t (a2) (2) (9999)).bind fun r4 => if (r1 - r2) = 0 then if (r3 - r4) = 0 then if a2 ≤ a1 then some 0 else some 1 else if 0 ≤ (r3 - r4) then some 0 else some 1 else if (r1 - r2) ≤ 0 then some 0 else some 1
noncomputable def L_X9_keeper_4 (t0 : Sx) (b1 : Int32) (kont : Int32 → Int32 → Option Int32) : Nat → Int32 → Int32 → Option Int32
  | 0, _, _ => none
  | n + 1, x2 , x3 => if 40 ≤ x3 then kont (x2) (x3) else gd (vp_in x3 40) (if (gA t0 23 (ix x3)) = 0 then L_X9_keeper_4 t0 b1 kont n (x2) ((x3 + 1)) else gd (vp_in x3 40) (gd (vp_in b1 40) (if (gA t0 24 (ix x3)) = (gA t0 24 (ix b1)) then (f_X9_isPreferred t0 (x3) (x2)).bind fun r1 => if r1 = 0 then L_X9_keeper_4 t0 b1 kont n (x2) ((x3 + 1)) else L_X9_keeper_4 t0 b1 kont n (x3) ((x3 + 1)) else L_X9_keeper_4 t0 b1 kont n (x2) ((x3 + 1)))))
noncomputable def f_X9_keeper (t : Sx) (a1 : Int32) : Option Int32 := L_X9_keeper_4 t (a1) (fun z2 z3 => some z2) FU (a1) (0)
noncomputable def L_X9_group_4 (t0 : Sx) (b1 : Int32) (kont : Int32 → Int32 → Option Int32) : Nat → Int32 → Int32 → Option Int32
  | 0, _, _ => none
  | n + 1, x2 , x3 => if 40 ≤ x3 then kont (x2) (x3) else gd (vp_in x3 40) (if (gA t0 23 (ix x3)) = 0 then L_X9_group_4 t0 b1 kont n ((x2 + 0)) ((x3 + 1)) else gd (vp_in x3 40) (gd (vp_in b1 40) (if (gA t0 24 (ix x3)) = (gA t0 24 (ix b1)) then L_X9_group_4 t0 b1 kont n ((x2 + 1)) ((x3 + 1)) else L_X9_group_4 t0 b1 kont n ((x2 + 0)) ((x3 + 1)))))
noncomputable def f_X9_group (t : Sx) (a1 : Int32) : Option Int32 := L_X9_group_4 t (a1) (fun z1 z2 => some z1) FU (0) (0)
noncomputable def L_X9_cover_28 (t0 : Sx) (b1 : Int32) (kont : Int32 → Int32 → Option Int32) : Nat → Int32 → Int32 → Option Int32
  | 0, _, _ => none
  | n + 1, x2 , x3 => gd (vp_in b1 10) (if (gA t0 30 (ix b1)) ≤ x3 then kont (x2) (x3) else gd (vp_in ((8 * b1) + x3) 80) ((f_X9_valueOr t0 (gA t0 31 (ix ((8 * b1) + x3))) (1) (-1)).bind fun r1 => (f_X9_valueOr t0 (x2) (1) (-1)).bind fun r2 => if r1 ≤ r2 then L_X9_cover_28 t0 b1 kont n (x2) ((x3 + 1)) else L_X9_cover_28 t0 b1 kont n ((gA t0 31 (ix ((8 * b1) + x3)))) ((x3 + 1))))
noncomputable def f_X9_cover (t : Sx) (a1 : Int32) : Option Int32 := gd (vp_in a1 10) (if (gA t 32 (ix a1)) < 0 then gd (vp_in (8 * a1) 80) (L_X9_cover_28 t (a1) (fun z3 z4 => some z3) FU ((gA t 31 (ix (8 * a1)))) (1)) else gd (vp_in a1 10) (some (gA t 32 (ix a1))))
noncomputable def f_X9_isStack (t : Sx) (a1 : Int32) : Option Int32 := (f_X9_in t (a1) (0) (9)).bind fun r1 => if r1 = 0 then some 0 else gd (vp_in a1 10) (if (gA t 30 (ix a1)) ≤ 0 then some 0 else some 1)
noncomputable def L_X9_leaves_14 (t0 : Sx) (b1 : Int32) (b2 : Int32) (kont : Int32 → Option Sx) : Nat → Int32 → Option Sx
  | 0, _ => none
  | n + 1, x3 => gd (vp_in ((8 * b2) + x3) 80) (if (gA t0 31 (ix ((8 * b2) + x3))) = b1 then kont (x3) else L_X9_leaves_14 t0 b1 b2 kont n ((x3 + 1)))
noncomputable def L_X9_leaves_40 (b1 : Int32) (b2 : Int32) (b3 : Int32) (kont : Int32 → Sx → Option Sx) : Nat → Int32 → Sx → Option Sx
  | 0, _, _ => none
  | n + 1, x4, y => gd (vp_in b2 10) (if (gA y 30 (ix b2)) ≤ x4 then kont (x4) (y) else gd (vp_in ((8 * b2) + x4) 80) (gd (vp_in (((8 * b2) + x4) - 1) 80) (bd (pA y 31 (ix (((8 * b2) + x4) - 1)) (gA y 31 (ix ((8 * b2) + x4)))) fun t2 => L_X9_leaves_40 b1 b2 b3 kont n ((x4 + 1)) (t2))))
noncomputable def f_X9_leaves (t : Sx) (a1 : Int32) : Option Sx := gd (vp_in a1 40) (if 0 ≤ (gA t 29 (ix a1)) then L_X9_leaves_14 t (a1) ((gA t 29 (ix a1))) (fun z1 => L_X9_leaves_40 (a1) ((gA t 29 (ix a1))) (z1) (fun z3 t4 => gd (vp_in (gA t 29 (ix a1)) 10) (gd (vp_in (gA t 29 (ix a1)) 10) (bd (pA t4 30 (ix (gA t 29 (ix a1))) ((gA t4 30 (ix (gA t 29 (ix a1)))) - 1)) fun t5 => gd (vp_in a1 40) (bd (pA t5 29 (ix a1) (-1)) fun t6 => gd (vp_in (gA t 29 (ix a1)) 10) (if (gA t6 32 (ix (gA t 29 (ix a1)))) = a1 then gd (vp_in (gA t 29 (ix a1)) 10) (bd (pA t6 32 (ix (gA t 29 (ix a1))) (-1)) fun t10 => gd (vp_in (gA t 29 (ix a1)) 10) (if (gA t10 30 (ix (gA t 29 (ix a1)))) = 1 then gd (vp_in (8 * (gA t 29 (ix a1))) 80) (gd (vp_in (gA t10 31 (ix (8 * (gA t 29 (ix a1))))) 40) (bd (pA t10 29 (ix (gA t10 31 (ix (8 * (gA t 29 (ix a1)))))) (-1)) fun t11 => gd (vp_in (gA t 29 (ix a1)) 10) (bd (pA t11 30 (ix (gA t 29 (ix a1))) 0) fun t12 => some t12))) else some t10)) else gd (vp_in (gA t 29 (ix a1)) 10) (gd (vp_in (gA t 29 (ix a1)) 10) (bd (pA t6 32 (ix (gA t 29 (ix a1))) (gA t6 32 (ix (gA t 29 (ix a1))))) fun t7 => gd (vp_in (gA t 29 (ix a1)) 10) (if (gA t7 30 (ix (gA t 29 (ix a1)))) = 1 then gd (vp_in (8 * (gA t 29 (ix a1))) 80) (gd (vp_in (gA t7 31 (ix (8 * (gA t 29 (ix a1))))) 40) (bd (pA t7 29 (ix (gA t7 31 (ix (8 * (gA t 29 (ix a1)))))) (-1)) fun t8 => gd (vp_in (gA t 29 (ix a1)) 10) (bd (pA t8 30 (ix (gA t 29 (ix a1))) 0) fun t9 => some t9))) else some t7)))))))) FU ((z1 + 1)) (t)) FU (0) else some t)
noncomputable def f_X9_goes (t : Sx) (a1 : Int32) : Option Sx := (f_X9_leaves t (a1)).bind fun r1 => gd (vp_in a1 40) (bd (pA r1 23 (ix a1) 0) fun t2 => some t2)
noncomputable def f_X9_isField (t : Sx) (a0 : Int32) : Option Int32 := if a0 = 107 then some 1 else if a0 = 114 then some 1 else if a0 = 121 then some 1 else if a0 = 99 then some 1 else if a0 = 100 then some 1 else some 0
noncomputable def f_X9_isDigit (t : Sx) (a0 : Int32) : Option Int32 := if a0 < 48 then some 0 else if 57 < a0 then some 0 else some 1
noncomputable def f_X9_behind (t : Sx) (a0 : Int32) (a1 : Int32) (a2 : Int32) : Option Int32 := if a1 = 38 then if a0 = 0 then if a1 = 33 then some 0 else if a1 = 40 then if 10 ≤ a2 then (f_X9_isField t (a1)).bind fun r3 => if r3 = 0 then if a1 = 116 then some 7 else if a1 = 97 then some 7 else if a1 = 115 then some 8 else if a1 = 118 then some 8 else if a1 = 117 then some 8 else if a1 = 98 then some 8 else some (-1) else some 1 else some 0 else (f_X9_isField t (a1)).bind fun r2 => if r2 = 0 then if a1 = 116 then some 7 else if a1 = 97 then some 7 else if a1 = 115 then some 8 else if a1 = 118 then some 8 else if a1 = 117 then some 8 else if a1 = 98 then some 8 else some (-1) else some 1 else if a0 = 1 then if a1 = 60 then some 2 else if a1 = 61 then some 2 else if a1 = 62 then some 2 else if a1 = 63 then some 8 else some (-1) else if a0 = 2 then (f_X9_isDigit t (a1)).bind fun r6 => if r6 = 0 then some (-1) else some 3 else if a0 = 3 then if 8 ≤ a0 then if (1 : Int32) = 0 then if a1 = 41 then if a2 ≤ 0 then some (-1) else some 8 else some (-1) else some 0 else (f_X9_isDigit t (a1)).bind fun r8 => if r8 = 0 then if (1 : Int32) = 0 then if a1 = 41 then if a2 ≤ 0 then some (-1) else some 8 else some (-1) else some 0 else if a0 = 6 then some 8 else some (a0 + 1) else if a0 = 4 then if 8 ≤ a0 then if (1 : Int32) = 0 then if a1 = 41 then if a2 ≤ 0 then some (-1) else some 8 else some (-1) else some 0 else (f_X9_isDigit t (a1)).bind fun r10 => if r10 = 0 then if (1 : Int32) = 0 then if a1 = 41 then if a2 ≤ 0 then some (-1) else some 8 else some (-1) else some 0 else if a0 = 6 then some 8 else some (a0 + 1) else if a0 = 5 then if 8 ≤ a0 then if (1 : Int32) = 0 then if a1 = 41 then if a2 ≤ 0 then some (-1) else some 8 else some (-1) else some 0 else (f_X9_isDigit t (a1)).bind fun r12 => if r12 = 0 then if (1 : Int32) = 0 then if a1 = 41 then if a2 ≤ 0 then some (-1) else some 8 else some (-1) else some 0 else if a0 = 6 then some 8 else some (a0 + 1) else if a0 = 6 then if 8 ≤ a0 then if (1 : Int32) = 0 then if a1 = 41 then if a2 ≤ 0 then some (-1) else some 8 else some (-1) else some 0 else (f_X9_isDigit t (a1)).bind fun r14 => if r14 = 0 then if (1 : Int32) = 0 then if a1 = 41 then if a2 ≤ 0 then some (-1) else some 8 else some (-1) else some 0 else if a0 = 6 then some 8 else some (a0 + 1) else if a0 = 7 then (f_X9_isDigit t (a1)).bind fun r16 => if r16 = 0 then some (-1) else some 8 else if 8 ≤ a0 then if (1 : Int32) = 0 then if a1 = 41 then if a2 ≤ 0 then some (-1) else some 8 else some (-1) else some 0 else (f_X9_isDigit t (a1)).bind fun r17 => if r17 = 0 then if (1 : Int32) = 0 then if a1 = 41 then if a2 ≤ 0 then some (-1) else some 8 else some (-1) else some 0 else if a0 = 6 then some 8 else some (a0 + 1) else if a1 = 124 then if a0 = 0 then if a1 = 33 then some 0 else if a1 = 40 then if 10 ≤ a2 then (f_X9_isField t (a1)).bind fun r37 => if r37 = 0 then if a1 = 116 then some 7 else if a1 = 97 then some 7 else if a1 = 115 then some 8 else if a1 = 118 then some 8 else if a1 = 117 then some 8 else if a1 = 98 then some 8 else some (-1) else some 1 else some 0 else (f_X9_isField t (a1)).bind fun r36 => if r36 = 0 then if a1 = 116 then some 7 else if a1 = 97 then some 7 else if a1 = 115 then some 8 else if a1 = 118 then some 8 else if a1 = 117 then some 8 else if a1 = 98 then some 8 else some (-1) else some 1 else if a0 = 1 then if a1 = 60 then some 2 else if a1 = 61 then some 2 else if a1 = 62 then some 2 else if a1 = 63 then some 8 else some (-1) else if a0 = 2 then (f_X9_isDigit t (a1)).bind fun r40 => if r40 = 0 then some (-1) else some 3 else if a0 = 3 then if 8 ≤ a0 then if (1 : Int32) = 0 then if a1 = 41 then if a2 ≤ 0 then some (-1) else some 8 else some (-1) else some 0 else (f_X9_isDigit t (a1)).bind fun r42 => if r42 = 0 then if (1 : Int32) = 0 then if a1 = 41 then if a2 ≤ 0 then some (-1) else some 8 else some (-1) else some 0 else if a0 = 6 then some 8 else some (a0 + 1) else if a0 = 4 then if 8 ≤ a0 then if (1 : Int32) = 0 then if a1 = 41 then if a2 ≤ 0 then some (-1) else some 8 else some (-1) else some 0 else (f_X9_isDigit t (a1)).bind fun r44 => if r44 = 0 then if (1 : Int32) = 0 then if a1 = 41 then if a2 ≤ 0 then some (-1) else some 8 else some (-1) else some 0 else if a0 = 6 then some 8 else some (a0 + 1) else if a0 = 5 then if 8 ≤ a0 then if (1 : Int32) = 0 then if a1 = 41 then if a2 ≤ 0 then some (-1) else some 8 else some (-1) else some 0 else (f_X9_isDigit t (a1)).bind fun r46 => if r46 = 0 then if (1 : Int32) = 0 then if a1 = 41 then if a2 ≤ 0 then some (-1) else some 8 else some (-1) else some 0 else if a0 = 6 then some 8 else some (a0 + 1) else if a0 = 6 then if 8 ≤ a0 then if (1 : Int32) = 0 then if a1 = 41 then if a2 ≤ 0 then some (-1) else some 8 else some (-1) else some 0 else (f_X9_isDigit t (a1)).bind fun r48 => if r48 = 0 then if (1 : Int32) = 0 then if a1 = 41 then if a2 ≤ 0 then some (-1) else some 8 else some (-1) else some 0 else if a0 = 6 then some 8 else some (a0 + 1) else if a0 = 7 then (f_X9_isDigit t (a1)).bind fun r50 => if r50 = 0 then some (-1) else some 8 else if 8 ≤ a0 then if (1 : Int32) = 0 then if a1 = 41 then if a2 ≤ 0 then some (-1) else some 8 else some (-1) else some 0 else (f_X9_isDigit t (a1)).bind fun r51 => if r51 = 0 then if (1 : Int32) = 0 then if a1 = 41 then if a2 ≤ 0 then some (-1) else some 8 else some (-1) else some 0 else if a0 = 6 then some 8 else some (a0 + 1) else if a0 = 0 then if a1 = 33 then some 0 else if a1 = 40 then if 10 ≤ a2 then (f_X9_isField t (a1)).bind fun r20 => if r20 = 0 then if a1 = 116 then some 7 else if a1 = 97 then some 7 else if a1 = 115 then some 8 else if a1 = 118 then some 8 else if a1 = 117 then some 8 else if a1 = 98 then some 8 else some (-1) else some 1 else some 0 else (f_X9_isField t (a1)).bind fun r19 => if r19 = 0 then if a1 = 116 then some 7 else if a1 = 97 then some 7 else if a1 = 115 then some 8 else if a1 = 118 then some 8 else if a1 = 117 then some 8 else if a1 = 98 then some 8 else some (-1) else some 1 else if a0 = 1 then if a1 = 60 then some 2 else if a1 = 61 then some 2 else if a1 = 62 then some 2 else if a1 = 63 then some 8 else some (-1) else if a0 = 2 then (f_X9_isDigit t (a1)).bind fun r23 => if r23 = 0 then some (-1) else some 3 else if a0 = 3 then if 8 ≤ a0 then if (0 : Int32) = 0 then if a1 = 41 then if a2 ≤ 0 then some (-1) else some 8 else some (-1) else some 0 else (f_X9_isDigit t (a1)).bind fun r25 => if r25 = 0 then if (0 : Int32) = 0 then if a1 = 41 then if a2 ≤ 0 then some (-1) else some 8 else some (-1) else some 0 else if a0 = 6 then some 8 else some (a0 + 1) else if a0 = 4 then if 8 ≤ a0 then if (0 : Int32) = 0 then if a1 = 41 then if a2 ≤ 0 then some (-1) else some 8 else some (-1) else some 0 else (f_X9_isDigit t (a1)).bind fun r27 => if r27 = 0 then if (0 : Int32) = 0 then if a1 = 41 then if a2 ≤ 0 then some (-1) else some 8 else some (-1) else some 0 else if a0 = 6 then some 8 else some (a0 + 1) else if a0 = 5 then if 8 ≤ a0 then if (0 : Int32) = 0 then if a1 = 41 then if a2 ≤ 0 then some (-1) else some 8 else some (-1) else some 0 else (f_X9_isDigit t (a1)).bind fun r29 => if r29 = 0 then if (0 : Int32) = 0 then if a1 = 41 then if a2 ≤ 0 then some (-1) else some 8 else some (-1) else some 0 else if a0 = 6 then some 8 else some (a0 + 1) else if a0 = 6 then if 8 ≤ a0 then if (0 : Int32) = 0 then if a1 = 41 then if a2 ≤ 0 then some (-1) else some 8 else some (-1) else some 0 else (f_X9_isDigit t (a1)).bind fun r31 => if r31 = 0 then if (0 : Int32) = 0 then if a1 = 41 then if a2 ≤ 0 then some (-1) else some 8 else some (-1) else some 0 else if a0 = 6 then some 8 else some (a0 + 1) else if a0 = 7 then (f_X9_isDigit t (a1)).bind fun r33 => if r33 = 0 then some (-1) else some 8 else if 8 ≤ a0 then if (0 : Int32) = 0 then if a1 = 41 then if a2 ≤ 0 then some (-1) else some 8 else some (-1) else some 0 else (f_X9_isDigit t (a1)).bind fun r34 => if r34 = 0 then if (0 : Int32) = 0 then if a1 = 41 then if a2 ≤ 0 then some (-1) else some 8 else some (-1) else some 0 else if a0 = 6 then some 8 else some (a0 + 1)
noncomputable def L_X9_fault_6 (t0 : Sx) (kont : Int32 → Int32 → Int32 → Option Int32) : Nat → Int32 → Int32 → Int32 → Option Int32
  | 0, _, _, _ => none
  | n + 1, x1 , x2 , x3 => if (gI t0 52) ≤ x3 then kont (x1) (x2) (x3) else gd (vp_in x3 80) ((f_X9_behind t0 (x1) (gA t0 34 (ix x3)) (x2)).bind fun r1 => if 0 ≤ r1 then if (gA t0 34 (ix x3)) = 40 then L_X9_fault_6 t0 kont n (r1) ((x2 + 1)) ((x3 + 1)) else if (gA t0 34 (ix x3)) = 41 then L_X9_fault_6 t0 kont n (r1) ((x2 + (-1))) ((x3 + 1)) else L_X9_fault_6 t0 kont n (r1) ((x2 + 0)) ((x3 + 1)) else some x3)
noncomputable def f_X9_fault (t : Sx)  : Option Int32 := L_X9_fault_6 t (fun z2 z3 z4 => if z3 = 0 then if z2 = 8 then if (1 : Int32) = 0 then some (gI t 52) else some (-4) else (f_X9_in t (z2) (3) (6)).bind fun r5 => if r5 = 0 then if (0 : Int32) = 0 then some (gI t 52) else some (-4) else if (1 : Int32) = 0 then some (gI t 52) else some (-4) else if (0 : Int32) = 0 then some (gI t 52) else some (-4)) FU (0) (0) (0)
noncomputable def f_X9_tells (t : Sx) (a1 : Int32) : Option Sx := gd (vp_in (gI t 54) 12) (if (gA t 43 (ix (gI t 54))) = 0 then gd (vp_in (gI t 54) 12) (bd (pA t 43 (ix (gI t 54)) 0) fun t1 => gd (vp_in (gI t1 54) 12) (bd (pA t1 44 (ix (gI t1 54)) 0) fun t2 => some t2)) else gd (vp_in (gI t 54) 12) (if a1 = (gA t 44 (ix (gI t 54))) then gd (vp_in (gI t 54) 12) (bd (pA t 43 (ix (gI t 54)) 0) fun t3 => gd (vp_in (gI t3 54) 12) (bd (pA t3 44 (ix (gI t3 54)) 0) fun t4 => some t4)) else gd (vp_in (gI t 54) 12) (bd (pA t 43 (ix (gI t 54)) 1) fun t5 => gd (vp_in (gI t5 54) 12) (bd (pA t5 44 (ix (gI t5 54)) 0) fun t6 => some t6))))
noncomputable def f_X9_enters (t : Sx)  : Option Sx := gd (vp_in (gI t 54) 12) (bd (pA t 42 (ix (gI t 54)) 0) fun t1 => gd (vp_in (gI t1 54) 12) (bd (pA t1 43 (ix (gI t1 54)) 1) fun t2 => gd (vp_in (gI t2 54) 12) (bd (pA t2 44 (ix (gI t2 54)) 0) fun t3 => some t3)))
noncomputable def L_X9_asks_102 (t0 : Sx) (b1 : Int32) (b2 : Int32) (b3 : Int32) (b4 : Int32) (b5 : Int32) (b6 : Int32) (kont : Int32 → Int32 → Option (Int32 × Sx)) : Nat → Int32 → Int32 → Option (Int32 × Sx)
  | 0, _, _ => none
  | n + 1, x7 , x8 => if (gI t0 55) ≤ x8 then kont (x7) (x8) else gd (vp_in x8 80) ((f_X9_isDigit t0 (gA t0 45 (ix x8))).bind fun r2 => if r2 = 0 then kont (x7) (x8) else gd (vp_in x8 80) (L_X9_asks_102 t0 b1 b2 b3 b4 b5 b6 kont n ((((10 * x7) + (gA t0 45 (ix x8))) - 48)) ((x8 + 1))))
noncomputable def f_X9_asks (t : Sx) (a1 : Int32) (a2 : Int32) : Option (Int32 × Sx) := gd (vp_in a2 80) (if (gA t 45 (ix a2)) = 107 then (f_X9_source t (a1) (0)).bind fun r94 => if r94 < 0 then gd (vp_in (a2 + 1) 80) (if (gA t 45 (ix (a2 + 1))) = 63 then (f_X9_tells t (0)).bind fun r105 => some ((a2 + 2), r105) else L_X9_asks_102 t (a1) (a2) ((gA t 45 (ix a2))) (0) (0) ((gA t 45 (ix (a2 + 1)))) (fun z95 z96 => (f_X9_valueOr t (a1) (0) (0)).bind fun r97 => if (0 : Int32) = 0 then (f_X9_tells t (0)).bind fun r98 => some (z96, r98) else if (gA t 45 (ix (a2 + 1))) = 60 then if z95 ≤ r97 then (f_X9_tells t (0)).bind fun r103 => some (z96, r103) else (f_X9_tells t (1)).bind fun r104 => some (z96, r104) else if (gA t 45 (ix (a2 + 1))) = 61 then if r97 = z95 then (f_X9_tells t (1)).bind fun r102 => some (z96, r102) else (f_X9_tells t (0)).bind fun r101 => some (z96, r101) else if r97 ≤ z95 then (f_X9_tells t (0)).bind fun r99 => some (z96, r99) else (f_X9_tells t (1)).bind fun r100 => some (z96, r100)) FU (0) ((a2 + 2))) else gd (vp_in (a2 + 1) 80) (if (gA t 45 (ix (a2 + 1))) = 63 then (f_X9_tells t (1)).bind fun r116 => some ((a2 + 2), r116) else L_X9_asks_102 t (a1) (a2) ((gA t 45 (ix a2))) (0) (1) ((gA t 45 (ix (a2 + 1)))) (fun z106 z107 => (f_X9_valueOr t (a1) (0) (0)).bind fun r108 => if (1 : Int32) = 0 then (f_X9_tells t (0)).bind fun r109 => some (z107, r109) else if (gA t 45 (ix (a2 + 1))) = 60 then if z106 ≤ r108 then (f_X9_tells t (0)).bind fun r114 => some (z107, r114) else (f_X9_tells t (1)).bind fun r115 => some (z107, r115) else if (gA t 45 (ix (a2 + 1))) = 61 then if r108 = z106 then (f_X9_tells t (1)).bind fun r113 => some (z107, r113) else (f_X9_tells t (0)).bind fun r112 => some (z107, r112) else if r108 ≤ z106 then (f_X9_tells t (0)).bind fun r110 => some (z107, r110) else (f_X9_tells t (1)).bind fun r111 => some (z107, r111)) FU (0) ((a2 + 2))) else if (gA t 45 (ix a2)) = 114 then (f_X9_source t (a1) (1)).bind fun r71 => if r71 < 0 then gd (vp_in (a2 + 1) 80) (if (gA t 45 (ix (a2 + 1))) = 63 then (f_X9_tells t (0)).bind fun r82 => some ((a2 + 2), r82) else L_X9_asks_102 t (a1) (a2) ((gA t 45 (ix a2))) (1) (0) ((gA t 45 (ix (a2 + 1)))) (fun z72 z73 => (f_X9_valueOr t (a1) (1) (0)).bind fun r74 => if (0 : Int32) = 0 then (f_X9_tells t (0)).bind fun r75 => some (z73, r75) else if (gA t 45 (ix (a2 + 1))) = 60 then if z72 ≤ r74 then (f_X9_tells t (0)).bind fun r80 => some (z73, r80) else (f_X9_tells t (1)).bind fun r81 => some (z73, r81) else if (gA t 45 (ix (a2 + 1))) = 61 then if r74 = z72 then (f_X9_tells t (1)).bind fun r79 => some (z73, r79) else (f_X9_tells t (0)).bind fun r78 => some (z73, r78) else if r74 ≤ z72 then (f_X9_tells t (0)).bind fun r76 => some (z73, r76) else (f_X9_tells t (1)).bind fun r77 => some (z73, r77)) FU (0) ((a2 + 2))) else gd (vp_in (a2 + 1) 80) (if (gA t 45 (ix (a2 + 1))) = 63 then (f_X9_tells t (1)).bind fun r93 => some ((a2 + 2), r93) else L_X9_asks_102 t (a1) (a2) ((gA t 45 (ix a2))) (1) (1) ((gA t 45 (ix (a2 + 1)))) (fun z83 z84 => (f_X9_valueOr t (a1) (1) (0)).bind fun r85 => if (1 : Int32) = 0 then (f_X9_tells t (0)).bind fun r86 => some (z84, r86) else if (gA t 45 (ix (a2 + 1))) = 60 then if z83 ≤ r85 then (f_X9_tells t (0)).bind fun r91 => some (z84, r91) else (f_X9_tells t (1)).bind fun r92 => some (z84, r92) else if (gA t 45 (ix (a2 + 1))) = 61 then if r85 = z83 then (f_X9_tells t (1)).bind fun r90 => some (z84, r90) else (f_X9_tells t (0)).bind fun r89 => some (z84, r89) else if r85 ≤ z83 then (f_X9_tells t (0)).bind fun r87 => some (z84, r87) else (f_X9_tells t (1)).bind fun r88 => some (z84, r88)) FU (0) ((a2 + 2))) else if (gA t 45 (ix a2)) = 121 then (f_X9_source t (a1) (2)).bind fun r48 => if r48 < 0 then gd (vp_in (a2 + 1) 80) (if (gA t 45 (ix (a2 + 1))) = 63 then (f_X9_tells t (0)).bind fun r59 => some ((a2 + 2), r59) else L_X9_asks_102 t (a1) (a2) ((gA t 45 (ix a2))) (2) (0) ((gA t 45 (ix (a2 + 1)))) (fun z49 z50 => (f_X9_valueOr t (a1) (2) (0)).bind fun r51 => if (0 : Int32) = 0 then (f_X9_tells t (0)).bind fun r52 => some (z50, r52) else if (gA t 45 (ix (a2 + 1))) = 60 then if z49 ≤ r51 then (f_X9_tells t (0)).bind fun r57 => some (z50, r57) else (f_X9_tells t (1)).bind fun r58 => some (z50, r58) else if (gA t 45 (ix (a2 + 1))) = 61 then if r51 = z49 then (f_X9_tells t (1)).bind fun r56 => some (z50, r56) else (f_X9_tells t (0)).bind fun r55 => some (z50, r55) else if r51 ≤ z49 then (f_X9_tells t (0)).bind fun r53 => some (z50, r53) else (f_X9_tells t (1)).bind fun r54 => some (z50, r54)) FU (0) ((a2 + 2))) else gd (vp_in (a2 + 1) 80) (if (gA t 45 (ix (a2 + 1))) = 63 then (f_X9_tells t (1)).bind fun r70 => some ((a2 + 2), r70) else L_X9_asks_102 t (a1) (a2) ((gA t 45 (ix a2))) (2) (1) ((gA t 45 (ix (a2 + 1)))) (fun z60 z61 => (f_X9_valueOr t (a1) (2) (0)).bind fun r62 => if (1 : Int32) = 0 then (f_X9_tells t (0)).bind fun r63 => some (z61, r63) else if (gA t 45 (ix (a2 + 1))) = 60 then if z60 ≤ r62 then (f_X9_tells t (0)).bind fun r68 => some (z61, r68) else (f_X9_tells t (1)).bind fun r69 => some (z61, r69) else if (gA t 45 (ix (a2 + 1))) = 61 then if r62 = z60 then (f_X9_tells t (1)).bind fun r67 => some (z61, r67) else (f_X9_tells t (0)).bind fun r66 => some (z61, r66) else if r62 ≤ z60 then (f_X9_tells t (0)).bind fun r64 => some (z61, r64) else (f_X9_tells t (1)).bind fun r65 => some (z61, r65)) FU (0) ((a2 + 2))) else if (gA t 45 (ix a2)) = 99 then (f_X9_source t (a1) (3)).bind fun r25 => if r25 < 0 then gd (vp_in (a2 + 1) 80) (if (gA t 45 (ix (a2 + 1))) = 63 then (f_X9_tells t (0)).bind fun r36 => some ((a2 + 2), r36) else L_X9_asks_102 t (a1) (a2) ((gA t 45 (ix a2))) (3) (0) ((gA t 45 (ix (a2 + 1)))) (fun z26 z27 => (f_X9_valueOr t (a1) (3) (0)).bind fun r28 => if (0 : Int32) = 0 then (f_X9_tells t (0)).bind fun r29 => some (z27, r29) else if (gA t 45 (ix (a2 + 1))) = 60 then if z26 ≤ r28 then (f_X9_tells t (0)).bind fun r34 => some (z27, r34) else (f_X9_tells t (1)).bind fun r35 => some (z27, r35) else if (gA t 45 (ix (a2 + 1))) = 61 then if r28 = z26 then (f_X9_tells t (1)).bind fun r33 => some (z27, r33) else (f_X9_tells t (0)).bind fun r32 => some (z27, r32) else if r28 ≤ z26 then (f_X9_tells t (0)).bind fun r30 => some (z27, r30) else (f_X9_tells t (1)).bind fun r31 => some (z27, r31)) FU (0) ((a2 + 2))) else gd (vp_in (a2 + 1) 80) (if (gA t 45 (ix (a2 + 1))) = 63 then (f_X9_tells t (1)).bind fun r47 => some ((a2 + 2), r47) else L_X9_asks_102 t (a1) (a2) ((gA t 45 (ix a2))) (3) (1) ((gA t 45 (ix (a2 + 1)))) (fun z37 z38 => (f_X9_valueOr t (a1) (3) (0)).bind fun r39 => if (1 : Int32) = 0 then (f_X9_tells t (0)).bind fun r40 => some (z38, r40) else if (gA t 45 (ix (a2 + 1))) = 60 then if z37 ≤ r39 then (f_X9_tells t (0)).bind fun r45 => some (z38, r45) else (f_X9_tells t (1)).bind fun r46 => some (z38, r46) else if (gA t 45 (ix (a2 + 1))) = 61 then if r39 = z37 then (f_X9_tells t (1)).bind fun r44 => some (z38, r44) else (f_X9_tells t (0)).bind fun r43 => some (z38, r43) else if r39 ≤ z37 then (f_X9_tells t (0)).bind fun r41 => some (z38, r41) else (f_X9_tells t (1)).bind fun r42 => some (z38, r42)) FU (0) ((a2 + 2))) else (f_X9_source t (a1) (4)).bind fun r1 => if r1 < 0 then gd (vp_in (a2 + 1) 80) (if (gA t 45 (ix (a2 + 1))) = 63 then (f_X9_tells t (0)).bind fun r13 => some ((a2 + 2), r13) else L_X9_asks_102 t (a1) (a2) ((gA t 45 (ix a2))) (4) (0) ((gA t 45 (ix (a2 + 1)))) (fun z3 z4 => (f_X9_valueOr t (a1) (4) (0)).bind fun r5 => if (0 : Int32) = 0 then (f_X9_tells t (0)).bind fun r6 => some (z4, r6) else if (gA t 45 (ix (a2 + 1))) = 60 then if z3 ≤ r5 then (f_X9_tells t (0)).bind fun r11 => some (z4, r11) else (f_X9_tells t (1)).bind fun r12 => some (z4, r12) else if (gA t 45 (ix (a2 + 1))) = 61 then if r5 = z3 then (f_X9_tells t (1)).bind fun r10 => some (z4, r10) else (f_X9_tells t (0)).bind fun r9 => some (z4, r9) else if r5 ≤ z3 then (f_X9_tells t (0)).bind fun r7 => some (z4, r7) else (f_X9_tells t (1)).bind fun r8 => some (z4, r8)) FU (0) ((a2 + 2))) else gd (vp_in (a2 + 1) 80) (if (gA t 45 (ix (a2 + 1))) = 63 then (f_X9_tells t (1)).bind fun r24 => some ((a2 + 2), r24) else L_X9_asks_102 t (a1) (a2) ((gA t 45 (ix a2))) (4) (1) ((gA t 45 (ix (a2 + 1)))) (fun z14 z15 => (f_X9_valueOr t (a1) (4) (0)).bind fun r16 => if (1 : Int32) = 0 then (f_X9_tells t (0)).bind fun r17 => some (z15, r17) else if (gA t 45 (ix (a2 + 1))) = 60 then if z14 ≤ r16 then (f_X9_tells t (0)).bind fun r22 => some (z15, r22) else (f_X9_tells t (1)).bind fun r23 => some (z15, r23) else if (gA t 45 (ix (a2 + 1))) = 61 then if r16 = z14 then (f_X9_tells t (1)).bind fun r21 => some (z15, r21) else (f_X9_tells t (0)).bind fun r20 => some (z15, r20) else if r16 ≤ z14 then (f_X9_tells t (0)).bind fun r18 => some (z15, r18) else (f_X9_tells t (1)).bind fun r19 => some (z15, r19)) FU (0) ((a2 + 2))))
noncomputable def f_X9_isSo (t : Sx) (a1 : Int32) (a2 : Int32) : Option Int32 := if a2 = 115 then gd (vp_in a1 40) (if (gA t 29 (ix a1)) < 0 then some 0 else some 1) else if a2 = 116 then (f_X9_keeper t (a1)).bind fun r3 => if r3 = a1 then some 1 else some 0 else if a2 = 117 then (f_X9_group t (a1)).bind fun r5 => if r5 ≤ 1 then some 0 else some 1 else if a2 = 118 then gd (vp_in a1 40) (if (gA t 29 (ix a1)) < 0 then some 0 else gd (vp_in a1 40) ((f_X9_cover t (gA t 29 (ix a1))).bind fun r7 => if r7 = a1 then some 1 else some 0)) else (f_X9_keeper t (a1)).bind fun r8 => if r8 = a1 then some 1 else some 0
noncomputable def f_X9_works (t : Sx) (a1 : Int32) (a2 : Int32) : Option (Int32 × Sx) := gd (vp_in a2 80) ((f_X9_isField t (gA t 45 (ix a2))).bind fun r1 => if r1 = 0 then bd (gA t 45 (ix a2)) fun v2 => if v2 = 33 then gd (vp_in (gI t 54) 12) (if (gA t 44 (ix (gI t 54))) = 0 then gd (vp_in (gI t 54) 12) (bd (pA t 44 (ix (gI t 54)) 1) fun t5 => some ((a2 + 1), t5)) else gd (vp_in (gI t 54) 12) (bd (pA t 44 (ix (gI t 54)) 0) fun t4 => some ((a2 + 1), t4))) else if v2 = 38 then some ((a2 + 1), t) else if v2 = 40 then bd (pI t 54 ((gI t 54) + 1)) fun t8 => (f_X9_enters t8 ).bind fun r9 => some ((a2 + 1), r9) else if v2 = 41 then bd (pI t 54 ((gI t 54) - 1)) fun t11 => gd (vp_in ((gI t11 54) + 1) 12) (if (gA t11 42 (ix ((gI t11 54) + 1))) = 0 then gd (vp_in ((gI t11 54) + 1) 12) (if (gA t11 43 (ix ((gI t11 54) + 1))) = 0 then (f_X9_tells t11 (0)).bind fun r13 => some ((a2 + 1), r13) else (f_X9_tells t11 (1)).bind fun r14 => some ((a2 + 1), r14)) else (f_X9_tells t11 (1)).bind fun r12 => some ((a2 + 1), r12)) else if v2 = 97 then gd (vp_in (a2 + 1) 80) (gd (vp_in ((gA t 45 (ix (a2 + 1))) - 48) 8) (bd ((shrL (gM t 2 (ix ((gA t 45 (ix (a2 + 1))) - 48))) a1)) fun v16 => if (lg_cmp (v16 &&& 1) 1) = 0 then (f_X9_tells t (1)).bind fun r18 => some ((a2 + 2), r18) else (f_X9_tells t (0)).bind fun r17 => some ((a2 + 2), r17))) else if v2 = 116 then (f_X9_tags t (a1)).bind fun r20 => gd (vp_in (a2 + 1) 80) (bd ((r20 >>> (((gA t 45 (ix (a2 + 1))) - 48) &&& 31))) fun v21 => if (v21 &&& 1) = 1 then (f_X9_tells t (1)).bind fun r23 => some ((a2 + 2), r23) else (f_X9_tells t (0)).bind fun r22 => some ((a2 + 2), r22)) else if v2 = 124 then gd (vp_in (gI t 54) 12) (if (gA t 42 (ix (gI t 54))) = 0 then gd (vp_in (gI t 54) 12) (if (gA t 43 (ix (gI t 54))) = 0 then gd (vp_in (gI t 54) 12) (bd (pA t 42 (ix (gI t 54)) 0) fun t27 => gd (vp_in (gI t27 54) 12) (bd (pA t27 43 (ix (gI t27 54)) 1) fun t28 => some ((a2 + 1), t28))) else gd (vp_in (gI t 54) 12) (bd (pA t 42 (ix (gI t 54)) 1) fun t29 => gd (vp_in (gI t29 54) 12) (bd (pA t29 43 (ix (gI t29 54)) 1) fun t30 => some ((a2 + 1), t30)))) else gd (vp_in (gI t 54) 12) (bd (pA t 42 (ix (gI t 54)) 1) fun t25 => gd (vp_in (gI t25 54) 12) (bd (pA t25 43 (ix (gI t25 54)) 1) fun t26 => some ((a2 + 1), t26)))) else (f_X9_isSo t (a1) (gA t 45 (ix a2))).bind fun r31 => (f_X9_tells t (r31)).bind fun r32 => some ((a2 + 1), r32) else (f_X9_asks t (a1) (a2)).bind fun r33 => some (r33.1, r33.2))
noncomputable def L_X9_isRight_11 (b1 : Int32) (kont : Int32 → Sx → Option (Int32 × Sx)) : Nat → Int32 → Sx → Option (Int32 × Sx)
  | 0, _, _ => none
  | n + 1, x2, y => if (gI y 55) ≤ x2 then kont (x2) (y) else (f_X9_works y (b1) (x2)).bind fun r3 => L_X9_isRight_11 b1 kont n (r3.1) (r3.2)
noncomputable def f_X9_isRight (t : Sx) (a1 : Int32) : Option (Int32 × Sx) := bd (pI t 54 0) fun t1 => (f_X9_enters t1 ).bind fun r2 => L_X9_isRight_11 (a1) (fun z4 t5 => gd (vp_in 0 12) (if (gA t5 42 (ix 0)) = 0 then gd (vp_in 0 12) (if (gA t5 43 (ix 0)) = 0 then some (0, t5) else some (1, t5)) else some (1, t5))) FU (0) (r2)
noncomputable def L_X9_takesText_10  (kont : Int32 → Sx → Option Sx) : Nat → Int32 → Sx → Option Sx
  | 0, _, _ => none
  | n + 1, x1, y => if (gI y 52) ≤ x1 then kont (x1) (y) else gd (vp_in x1 80) (gd (gch (gA y 34 (ix x1))) (gd (vp_in x1 80) (bd (pA y 45 (ix x1) (gA y 34 (ix x1))) fun t2 => L_X9_takesText_10  kont n ((x1 + 1)) (t2))))
noncomputable def f_X9_takesText (t : Sx)  : Option Sx := bd (pI t 55 (gI t 52)) fun t1 => L_X9_takesText_10  (fun z3 t4 => some t4) FU (0) (t1)
noncomputable def L_X9_takesAlbum_12 (b1 : Int32) (kont : Int32 → Sx → Option Sx) : Nat → Int32 → Sx → Option Sx
  | 0, _, _ => none
  | n + 1, x2, y => if (gI y 55) ≤ x2 then kont (x2) (y) else gd (vp_in ((80 * b1) + x2) 640) (gd (gch (gA y 37 (ix ((80 * b1) + x2)))) (gd (vp_in x2 80) (bd (pA y 45 (ix x2) (gA y 37 (ix ((80 * b1) + x2)))) fun t2 => L_X9_takesAlbum_12 b1 kont n ((x2 + 1)) (t2))))
noncomputable def f_X9_takesAlbum (t : Sx) (a1 : Int32) : Option Sx := gd (vp_in a1 8) (bd (pI t 55 (gA t 36 (ix a1))) fun t1 => L_X9_takesAlbum_12 (a1) (fun z3 t4 => some t4) FU (0) (t1))
noncomputable def L_X9_names_4 (t0 : Sx) (b1 : Int32) (kont : Int32 → Int32 → Option Int32) : Nat → Int32 → Int32 → Option Int32
  | 0, _, _ => none
  | n + 1, x2 , x3 => if (gI t0 55) ≤ (x3 + 1) then kont (x2) (x3) else gd (vp_in (x3 + 1) 80) (if x2 = 0 then L_X9_names_4 t0 b1 kont n (0) ((x3 + 1)) else gd (vp_in x3 80) (if (gA t0 45 (ix x3)) = 97 then if 8 ≤ ((gA t0 45 (ix (x3 + 1))) - 48) then L_X9_names_4 t0 b1 kont n (0) ((x3 + 1)) else if b1 ≤ ((gA t0 45 (ix (x3 + 1))) - 48) then L_X9_names_4 t0 b1 kont n (0) ((x3 + 1)) else gd (vp_in ((gA t0 45 (ix (x3 + 1))) - 48) 8) (bd ((gA t0 35 (ix ((gA t0 45 (ix (x3 + 1))) - 48)))) fun v1 => if v1 = 0 then L_X9_names_4 t0 b1 kont n (0) ((x3 + 1)) else L_X9_names_4 t0 b1 kont n (1) ((x3 + 1))) else L_X9_names_4 t0 b1 kont n (1) ((x3 + 1))))
noncomputable def f_X9_names (t : Sx) (a1 : Int32) : Option Int32 := L_X9_names_4 t (a1) (fun z2 z3 => gd (gz z2) (some z2)) FU (1) (0)
noncomputable def f_X9_isRule (t : Sx) (a1 : Int32) : Option (Int32 × Sx) := (f_X9_fault t ).bind fun r1 => if r1 = (-4) then (f_X9_takesText t ).bind fun r2 => (f_X9_names r2 (a1)).bind fun r3 => gd (gz r3) (some (r3, r2)) else some (0, t)
noncomputable def L_X9_notes_28 (b1 : Int32) (b2 : Int32) (b3 : Int32) (b4 : Int32) (kont : Int32 → Sx → Option Sx) : Nat → Int32 → Sx → Option Sx
  | 0, _, _ => none
  | n + 1, x5, y => if x5 < 0 then kont (x5) (y) else gd (vp_in x5 72) (gd (vp_in (x5 + 3) 72) (bd (pA y 41 (ix (x5 + 3)) (gA y 41 (ix x5))) fun t1 => L_X9_notes_28 b1 b2 b3 b4 kont n ((x5 + (-1))) (t1)))
noncomputable def f_X9_notes (t : Sx) (a1 : Int32) (a2 : Int32) (a3 : Int32) : Option Sx := if 24 ≤ (gI t 53) then L_X9_notes_28 (a1) (a2) (a3) (23) (fun z2 t3 => gd (vp_in 0 72) (bd (pA t3 41 (ix 0) a1) fun t4 => gd (vp_in 1 72) (bd (pA t4 41 (ix 1) a2) fun t5 => gd (vp_in 2 72) (bd (pA t5 41 (ix 2) a3) fun t6 => bd (pI t6 53 (23 + 1)) fun t7 => gd (vp_in ((2 * a1) + a3) 16) (gd (vp_in ((2 * a1) + a3) 16) (bd (pA t7 40 (ix ((2 * a1) + a3)) ((gA t7 40 (ix ((2 * a1) + a3))) + 1)) fun t8 => some t8)))))) FU (((3 * 23) - 1)) (t) else L_X9_notes_28 (a1) (a2) (a3) ((gI t 53)) (fun z9 t10 => gd (vp_in 0 72) (bd (pA t10 41 (ix 0) a1) fun t11 => gd (vp_in 1 72) (bd (pA t11 41 (ix 1) a2) fun t12 => gd (vp_in 2 72) (bd (pA t12 41 (ix 2) a3) fun t13 => bd (pI t13 53 ((gI t 53) + 1)) fun t14 => gd (vp_in ((2 * a1) + a3) 16) (gd (vp_in ((2 * a1) + a3) 16) (bd (pA t14 40 (ix ((2 * a1) + a3)) ((gA t14 40 (ix ((2 * a1) + a3))) + 1)) fun t15 => some t15)))))) FU (((3 * (gI t 53)) - 1)) (t)
noncomputable def L_X9_settles_27 (b1 : Int32) (kont : Int64 → Int32 → Sx → Option Sx) : Nat → Int64 → Int32 → Sx → Option Sx
  | 0, _, _, _ => none
  | n + 1, x2 , x4, y => if 40 ≤ x4 then kont (x2) (x4) (y) else gd (vp_in b1 8) (if (gA y 35 (ix b1)) = 0 then L_X9_settles_27 b1 kont n (x2) ((x4 + 1)) (y) else gd (vp_in x4 40) (if (gA y 23 (ix x4)) = 0 then L_X9_settles_27 b1 kont n (x2) ((x4 + 1)) (y) else (f_X9_isRight y (x4)).bind fun r1 => if r1.1 = 0 then L_X9_settles_27 b1 kont n (x2) ((x4 + 1)) (r1.2) else L_X9_settles_27 b1 kont n ((x2 ||| (shlL 1 x4))) ((x4 + 1)) (r1.2)))
noncomputable def L_X9_settles_78 (b1 : Int32) (b2 : Int64) (kont : Int32 → Sx → Option Sx) : Nat → Int32 → Sx → Option Sx
  | 0, _, _ => none
  | n + 1, x4, y => if 40 ≤ x4 then kont (x4) (y) else gd (vp_in b1 8) (if (gA y 35 (ix b1)) = 0 then kont (x4) (y) else gd (vp_in b1 8) (bd ((Int64.toInt32 ((shrL (gM y 2 (ix b1)) x4) &&& 1))) fun v5 => if (Int64.toInt32 ((shrL b2 x4) &&& 1)) = v5 then L_X9_settles_78 b1 b2 kont n ((x4 + 1)) (y) else (f_X9_notes y (b1) (x4) (Int64.toInt32 ((shrL b2 x4) &&& 1))).bind fun r6 => L_X9_settles_78 b1 b2 kont n ((x4 + 1)) (r6)))
noncomputable def L_X9_settles_2  (kont : Int32 → Sx → Option Sx) : Nat → Int32 → Sx → Option Sx
  | 0, _, _ => none
  | n + 1, x1, y => if 8 ≤ x1 then kont (x1) (y) else gd (vp_in x1 8) (if (gA y 35 (ix x1)) = 0 then L_X9_settles_27 (x1) (fun z2 z3 t4 => L_X9_settles_78 (x1) (z2) (fun z7 t8 => gd (vp_in x1 8) (bd (pM t8 2 (ix x1) z2) fun t9 => L_X9_settles_2  kont n ((x1 + 1)) (t9))) FU (0) (t4)) FU (0) (0) (y) else (f_X9_takesAlbum y (x1)).bind fun r10 => L_X9_settles_27 (x1) (fun z11 z12 t13 => L_X9_settles_78 (x1) (z11) (fun z14 t15 => gd (vp_in x1 8) (bd (pM t15 2 (ix x1) z11) fun t16 => L_X9_settles_2  kont n ((x1 + 1)) (t16))) FU (0) (t13)) FU (0) (0) (r10))
noncomputable def f_X9_settles (t : Sx)  : Option Sx := L_X9_settles_2  (fun z17 t18 => some t18) FU (0) (t)
noncomputable def f_X9_settled (t : Sx) (a1 : Int32) : Option (Int32 × Sx) := (f_X9_settles t ).bind fun r1 => some (a1, r1)
noncomputable def L_X9_add_25 (t0 : Sx) (b1 : Int32) (b2 : Int32) (kont : Int32 → Option (Int32 × Sx)) : Nat → Int32 → Option (Int32 × Sx)
  | 0, _ => none
  | n + 1, x3 => if 40 ≤ x3 then kont (x3) else gd (vp_in x3 40) (if (gA t0 23 (ix x3)) = 0 then kont (x3) else L_X9_add_25 t0 b1 b2 kont n ((x3 + 1)))
noncomputable def L_X9_add_86 (b1 : Int32) (b2 : Int32) (b3 : Int32) (kont : Int32 → Sx → Option (Int32 × Sx)) : Nat → Int32 → Sx → Option (Int32 × Sx)
  | 0, _, _ => none
  | n + 1, x4, y => if 18 ≤ x4 then kont (x4) (y) else gd (vp_in ((18 * b3) + x4) 720) (bd (pA y 26 (ix ((18 * b3) + x4)) 0) fun t8 => L_X9_add_86 b1 b2 b3 kont n ((x4 + 1)) (t8))
noncomputable def f_X9_add (t : Sx) (a1 : Int32) (a2 : Int32) : Option (Int32 × Sx) := (f_X9_in t (a1) (0) (9999)).bind fun r1 => if r1 = 0 then some ((-1), t) else (f_X9_in t (a2) (1) (100000)).bind fun r2 => if r2 = 0 then some ((-1), t) else L_X9_add_25 t (a1) (a2) (fun z3 => if z3 = 40 then some ((-3), t) else gd (vp_in z3 40) (bd (pA t 23 (ix z3) 1) fun t4 => gd (vp_in z3 40) (bd (pA t4 24 (ix z3) a1) fun t5 => gd (vp_in z3 40) (bd (pA t5 25 (ix z3) a2) fun t6 => gd (vp_in z3 40) (bd (pA t6 29 (ix z3) (-1)) fun t7 => L_X9_add_86 (a1) (a2) (z3) (fun z9 t10 => (f_X9_settled t10 (z3)).bind fun r11 => some (r11.1, r11.2)) FU (0) (t7)))))) FU (0)
noncomputable def L_X9_fileCount_4 (t0 : Sx) (kont : Int32 → Int32 → Option Int32) : Nat → Int32 → Int32 → Option Int32
  | 0, _, _ => none
  | n + 1, x1 , x2 => if 40 ≤ x2 then kont (x1) (x2) else gd (vp_in x2 40) (if (gA t0 23 (ix x2)) = 0 then L_X9_fileCount_4 t0 kont n ((x1 + 0)) ((x2 + 1)) else L_X9_fileCount_4 t0 kont n ((x1 + 1)) ((x2 + 1)))
noncomputable def f_X9_fileCount (t : Sx)  : Option Int32 := L_X9_fileCount_4 t (fun z1 z2 => some z1) FU (0) (0)
noncomputable def f_X9_remove (t : Sx) (a1 : Int32) : Option (Int32 × Sx) := (f_X9_there t (a1)).bind fun r1 => if r1 = 0 then some ((-1), t) else (f_X9_goes t (a1)).bind fun r2 => (f_X9_fileCount r2 ).bind fun r3 => (f_X9_settled r2 (r3)).bind fun r4 => some (r4.1, r4.2)
noncomputable def f_X9_setDigest (t : Sx) (a1 : Int32) (a2 : Int32) : Option (Int32 × Sx) := (f_X9_there t (a1)).bind fun r1 => if r1 = 0 then some ((-1), t) else (f_X9_in t (a2) (0) (9999)).bind fun r2 => if r2 = 0 then some ((-1), t) else gd (vp_in a1 40) (gd (vp_in a1 40) (bd (pA t 24 (ix a1) a2) fun t3 => (f_X9_settled t3 (gA t 24 (ix a1))).bind fun r4 => some (r4.1, r4.2)))
noncomputable def f_X9_isCell (t : Sx) (a1 : Int32) (a2 : Int32) (a3 : Int32) : Option Int32 := (f_X9_there t (a1)).bind fun r1 => if r1 = 0 then some 0 else (f_X9_in t (a2) (0) (2)).bind fun r2 => if r2 = 0 then some 0 else (f_X9_in t (a3) (0) (5)).bind fun r3 => if r3 = 0 then some 0 else some 1
noncomputable def f_X9_setValue (t : Sx) (a1 : Int32) (a2 : Int32) (a3 : Int32) (a4 : Int32) : Option (Int32 × Sx) := (f_X9_isCell t (a1) (a2) (a3)).bind fun r1 => if r1 = 0 then some ((-1), t) else (f_X9_fits t (a3) (a4)).bind fun r2 => if r2 = 0 then some ((-1), t) else gd (vp_in (((18 * a1) + (6 * a2)) + a3) 720) (if (gA t 26 (ix (((18 * a1) + (6 * a2)) + a3))) = 0 then gd (vp_in (((18 * a1) + (6 * a2)) + a3) 720) (bd (pA t 26 (ix (((18 * a1) + (6 * a2)) + a3)) 1) fun t3 => gd (vp_in (((18 * a1) + (6 * a2)) + a3) 720) (bd (pA t3 27 (ix (((18 * a1) + (6 * a2)) + a3)) a4) fun t4 => (f_X9_settled t4 (-4)).bind fun r5 => some (r5.1, r5.2))) else gd (vp_in (((18 * a1) + (6 * a2)) + a3) 720) (gd (vp_in (((18 * a1) + (6 * a2)) + a3) 720) (bd (pA t 26 (ix (((18 * a1) + (6 * a2)) + a3)) 1) fun t6 => gd (vp_in (((18 * a1) + (6 * a2)) + a3) 720) (bd (pA t6 27 (ix (((18 * a1) + (6 * a2)) + a3)) a4) fun t7 => (f_X9_settled t7 (gA t 27 (ix (((18 * a1) + (6 * a2)) + a3)))).bind fun r8 => some (r8.1, r8.2)))))
noncomputable def f_X9_clearValue (t : Sx) (a1 : Int32) (a2 : Int32) (a3 : Int32) : Option (Int32 × Sx) := (f_X9_isCell t (a1) (a2) (a3)).bind fun r1 => if r1 = 0 then some ((-1), t) else gd (vp_in (((18 * a1) + (6 * a2)) + a3) 720) (if (gA t 26 (ix (((18 * a1) + (6 * a2)) + a3))) = 0 then some ((-4), t) else gd (vp_in (((18 * a1) + (6 * a2)) + a3) 720) (bd (pA t 26 (ix (((18 * a1) + (6 * a2)) + a3)) 0) fun t2 => gd (vp_in (((18 * a1) + (6 * a2)) + a3) 720) ((f_X9_settled t2 (gA t2 27 (ix (((18 * a1) + (6 * a2)) + a3)))).bind fun r3 => some (r3.1, r3.2))))
noncomputable def f_X9_value (t : Sx) (a1 : Int32) (a2 : Int32) : Option Int32 := (f_X9_there t (a1)).bind fun r1 => if r1 = 0 then some (-1) else (f_X9_in t (a2) (0) (7)).bind fun r2 => if r2 = 0 then some (-1) else if 5 ≤ a2 then if a2 = 5 then (f_X9_tags t (a1)).bind fun r3 => some r3 else if a2 = 6 then gd (vp_in a1 40) (some (gA t 24 (ix a1))) else gd (vp_in a1 40) (some (gA t 25 (ix a1))) else (f_X9_valueOr t (a1) (a2) (-4)).bind fun r4 => some r4
noncomputable def f_X9_sourceOf (t : Sx) (a1 : Int32) (a2 : Int32) : Option Int32 := (f_X9_there t (a1)).bind fun r1 => if r1 = 0 then some (-1) else (f_X9_in t (a2) (0) (4)).bind fun r2 => if r2 = 0 then some (-1) else (f_X9_source t (a1) (a2)).bind fun r3 => some r3
noncomputable def f_X9_setOrder (t : Sx) (a1 : Int32) (a2 : Int32) (a3 : Int32) : Option (Int32 × Sx) := (f_X9_in t (a1) (0) (2)).bind fun r1 => if r1 = 0 then if (0 : Int32) = 0 then some ((-1), t) else if a1 = a2 then some ((-1), t) else if a1 = a3 then some ((-1), t) else if a2 = a3 then some ((-1), t) else gd (vp_in 0 3) (gd (vp_in 1 3) (bd (((100 * (gA t 28 (ix 0))) + (10 * (gA t 28 (ix 1))))) fun v2 => gd (vp_in 2 3) (gd (vp_in 0 3) (bd (pA t 28 (ix 0) a1) fun t3 => gd (vp_in 1 3) (bd (pA t3 28 (ix 1) a2) fun t4 => gd (vp_in 2 3) (bd (pA t4 28 (ix 2) a3) fun t5 => (f_X9_settled t5 (v2 + (gA t 28 (ix 2)))).bind fun r6 => some (r6.1, r6.2))))))) else (f_X9_in t (a2) (0) (2)).bind fun r7 => if r7 = 0 then if (0 : Int32) = 0 then some ((-1), t) else if a1 = a2 then some ((-1), t) else if a1 = a3 then some ((-1), t) else if a2 = a3 then some ((-1), t) else gd (vp_in 0 3) (gd (vp_in 1 3) (bd (((100 * (gA t 28 (ix 0))) + (10 * (gA t 28 (ix 1))))) fun v8 => gd (vp_in 2 3) (gd (vp_in 0 3) (bd (pA t 28 (ix 0) a1) fun t9 => gd (vp_in 1 3) (bd (pA t9 28 (ix 1) a2) fun t10 => gd (vp_in 2 3) (bd (pA t10 28 (ix 2) a3) fun t11 => (f_X9_settled t11 (v8 + (gA t 28 (ix 2)))).bind fun r12 => some (r12.1, r12.2))))))) else (f_X9_in t (a3) (0) (2)).bind fun r13 => if r13 = 0 then if (0 : Int32) = 0 then some ((-1), t) else if a1 = a2 then some ((-1), t) else if a1 = a3 then some ((-1), t) else if a2 = a3 then some ((-1), t) else gd (vp_in 0 3) (gd (vp_in 1 3) (bd (((100 * (gA t 28 (ix 0))) + (10 * (gA t 28 (ix 1))))) fun v14 => gd (vp_in 2 3) (gd (vp_in 0 3) (bd (pA t 28 (ix 0) a1) fun t15 => gd (vp_in 1 3) (bd (pA t15 28 (ix 1) a2) fun t16 => gd (vp_in 2 3) (bd (pA t16 28 (ix 2) a3) fun t17 => (f_X9_settled t17 (v14 + (gA t 28 (ix 2)))).bind fun r18 => some (r18.1, r18.2))))))) else if (1 : Int32) = 0 then some ((-1), t) else if a1 = a2 then some ((-1), t) else if a1 = a3 then some ((-1), t) else if a2 = a3 then some ((-1), t) else gd (vp_in 0 3) (gd (vp_in 1 3) (bd (((100 * (gA t 28 (ix 0))) + (10 * (gA t 28 (ix 1))))) fun v19 => gd (vp_in 2 3) (gd (vp_in 0 3) (bd (pA t 28 (ix 0) a1) fun t20 => gd (vp_in 1 3) (bd (pA t20 28 (ix 1) a2) fun t21 => gd (vp_in 2 3) (bd (pA t21 28 (ix 2) a3) fun t22 => (f_X9_settled t22 (v19 + (gA t 28 (ix 2)))).bind fun r23 => some (r23.1, r23.2)))))))
noncomputable def f_X9_keeperOf (t : Sx) (a1 : Int32) : Option Int32 := (f_X9_there t (a1)).bind fun r1 => if r1 = 0 then some (-1) else (f_X9_keeper t (a1)).bind fun r2 => some r2
noncomputable def f_X9_groupSize (t : Sx) (a1 : Int32) : Option Int32 := (f_X9_there t (a1)).bind fun r1 => if r1 = 0 then some (-1) else (f_X9_group t (a1)).bind fun r2 => some r2
noncomputable def L_X9_wasted_4 (t0 : Sx) (kont : Int32 → Int32 → Option Int32) : Nat → Int32 → Int32 → Option Int32
  | 0, _, _ => none
  | n + 1, x1 , x2 => if 40 ≤ x2 then kont (x1) (x2) else gd (vp_in x2 40) (if (gA t0 23 (ix x2)) = 0 then L_X9_wasted_4 t0 kont n ((x1 + 0)) ((x2 + 1)) else (f_X9_keeper t0 (x2)).bind fun r1 => if r1 = x2 then L_X9_wasted_4 t0 kont n ((x1 + 0)) ((x2 + 1)) else gd (vp_in x2 40) (L_X9_wasted_4 t0 kont n ((x1 + (gA t0 25 (ix x2)))) ((x2 + 1))))
noncomputable def f_X9_wasted (t : Sx)  : Option Int32 := L_X9_wasted_4 t (fun z2 z3 => some z2) FU (0) (0)
noncomputable def L_X9_gives_2 (b1 : Int32) (b2 : Int32) (kont : Int32 → Sx → Option Sx) : Nat → Int32 → Sx → Option Sx
  | 0, _, _ => none
  | n + 1, x3, y => if 18 ≤ x3 then kont (x3) (y) else gd (vp_in ((18 * b1) + x3) 720) (if (gA y 26 (ix ((18 * b1) + x3))) = 0 then L_X9_gives_2 b1 b2 kont n ((x3 + 1)) (y) else gd (vp_in ((18 * b2) + x3) 720) (if (gA y 26 (ix ((18 * b2) + x3))) = 0 then gd (vp_in ((18 * b1) + x3) 720) (gd (vp_in ((18 * b2) + x3) 720) (bd (pA y 27 (ix ((18 * b2) + x3)) (gA y 27 (ix ((18 * b1) + x3)))) fun t6 => gd (vp_in ((18 * b2) + x3) 720) (bd (pA t6 26 (ix ((18 * b2) + x3)) 1) fun t7 => L_X9_gives_2 b1 b2 kont n ((x3 + 1)) (t7)))) else gd (¬ (6 : Int32) = 0) (if (x3 - x3 / 6 * 6) = 5 then gd (vp_in ((18 * b2) + x3) 720) (gd (vp_in ((18 * b1) + x3) 720) (bd (((gA y 27 (ix ((18 * b2) + x3))) ||| (gA y 27 (ix ((18 * b1) + x3))))) fun v3 => gd (vp_in ((18 * b2) + x3) 720) (bd (pA y 27 (ix ((18 * b2) + x3)) v3) fun t4 => gd (vp_in ((18 * b2) + x3) 720) (bd (pA t4 26 (ix ((18 * b2) + x3)) 1) fun t5 => L_X9_gives_2 b1 b2 kont n ((x3 + 1)) (t5))))) else gd (vp_in ((18 * b2) + x3) 720) (gd (vp_in ((18 * b2) + x3) 720) (bd (pA y 27 (ix ((18 * b2) + x3)) (gA y 27 (ix ((18 * b2) + x3)))) fun t1 => gd (vp_in ((18 * b2) + x3) 720) (bd (pA t1 26 (ix ((18 * b2) + x3)) 1) fun t2 => L_X9_gives_2 b1 b2 kont n ((x3 + 1)) (t2)))))))
noncomputable def f_X9_gives (t : Sx) (a1 : Int32) (a2 : Int32) : Option Sx := L_X9_gives_2 (a1) (a2) (fun z8 t9 => some t9) FU (0) (t)
noncomputable def L_X9_merge_33 (b1 : Int32) (b2 : Int32) (b3 : Int32) (kont : Int32 → Sx → Option (Int32 × Sx)) : Nat → Int32 → Sx → Option (Int32 × Sx)
  | 0, _, _ => none
  | n + 1, x4, y => if 40 ≤ x4 then kont (x4) (y) else gd (vp_in x4 40) (if (gA y 23 (ix x4)) = 0 then L_X9_merge_33 b1 b2 b3 kont n ((x4 + 1)) (y) else if x4 = b3 then L_X9_merge_33 b1 b2 b3 kont n ((x4 + 1)) (y) else gd (vp_in x4 40) (gd (vp_in b3 40) (if (gA y 24 (ix x4)) = (gA y 24 (ix b3)) then (f_X9_gives y (x4) (b3)).bind fun r4 => L_X9_merge_33 b1 b2 b3 kont n ((x4 + 1)) (r4) else L_X9_merge_33 b1 b2 b3 kont n ((x4 + 1)) (y))))
noncomputable def L_X9_merge_88 (b1 : Int32) (b2 : Int32) (b3 : Int32) (kont : Int32 → Sx → Option (Int32 × Sx)) : Nat → Int32 → Sx → Option (Int32 × Sx)
  | 0, _, _ => none
  | n + 1, x4, y => if 40 ≤ x4 then kont (x4) (y) else gd (vp_in x4 40) (if (gA y 23 (ix x4)) = 0 then L_X9_merge_88 b1 b2 b3 kont n ((x4 + 1)) (y) else if x4 = b3 then L_X9_merge_88 b1 b2 b3 kont n ((x4 + 1)) (y) else gd (vp_in x4 40) (gd (vp_in b3 40) (if (gA y 24 (ix x4)) = (gA y 24 (ix b3)) then (f_X9_goes y (x4)).bind fun r7 => L_X9_merge_88 b1 b2 b3 kont n ((x4 + 1)) (r7) else L_X9_merge_88 b1 b2 b3 kont n ((x4 + 1)) (y))))
noncomputable def f_X9_merge (t : Sx) (a1 : Int32) : Option (Int32 × Sx) := (f_X9_there t (a1)).bind fun r1 => if r1 = 0 then some ((-1), t) else (f_X9_group t (a1)).bind fun r2 => if r2 = 1 then some ((-2), t) else (f_X9_keeper t (a1)).bind fun r3 => L_X9_merge_33 (a1) (r2) (r3) (fun z5 t6 => L_X9_merge_88 (a1) (r2) (r3) (fun z8 t9 => (f_X9_settled t9 (r2 - 1)).bind fun r10 => some (r10.1, r10.2)) FU (0) (t6)) FU (0) (t)
noncomputable def L_X9_stack_46 (t0 : Sx) (b1 : Int32) (b2 : Int32) (kont : Int32 → Option (Int32 × Sx)) : Nat → Int32 → Option (Int32 × Sx)
  | 0, _ => none
  | n + 1, x3 => if 10 ≤ x3 then kont (x3) else gd (vp_in x3 10) (if (gA t0 30 (ix x3)) ≤ 0 then kont (x3) else L_X9_stack_46 t0 b1 b2 kont n ((x3 + 1)))
noncomputable def f_X9_stack (t : Sx) (a1 : Int32) (a2 : Int32) : Option (Int32 × Sx) := (f_X9_there t (a1)).bind fun r1 => if r1 = 0 then some ((-1), t) else (f_X9_there t (a2)).bind fun r2 => if r2 = 0 then some ((-1), t) else if a1 = a2 then some ((-1), t) else gd (vp_in a1 40) (if 0 ≤ (gA t 29 (ix a1)) then some ((-2), t) else gd (vp_in a2 40) (if (gA t 29 (ix a2)) < 0 then L_X9_stack_46 t (a1) (a2) (fun z3 => if z3 = 10 then some ((-3), t) else gd (vp_in z3 10) (bd (pA t 30 (ix z3) 2) fun t4 => gd (vp_in (8 * z3) 80) (bd (pA t4 31 (ix (8 * z3)) a1) fun t5 => gd (vp_in ((8 * z3) + 1) 80) (bd (pA t5 31 (ix ((8 * z3) + 1)) a2) fun t6 => gd (vp_in z3 10) (bd (pA t6 32 (ix z3) (-1)) fun t7 => gd (vp_in z3 10) (bd (pA t7 33 (ix z3) 0) fun t8 => gd (vp_in a1 40) (bd (pA t8 29 (ix a1) z3) fun t9 => gd (vp_in a2 40) (bd (pA t9 29 (ix a2) z3) fun t10 => (f_X9_settled t10 (z3)).bind fun r11 => some (r11.1, r11.2))))))))) FU (0) else some ((-2), t)))
noncomputable def L_X9_putInto_66 (b1 : Int32) (b2 : Int32) (b3 : Int32) (kont : Int32 → Sx → Option (Int32 × Sx)) : Nat → Int32 → Sx → Option (Int32 × Sx)
  | 0, _, _ => none
  | n + 1, x4, y => if x4 ≤ b3 then kont (x4) (y) else gd (vp_in (((8 * b1) + x4) - 1) 80) (gd (vp_in ((8 * b1) + x4) 80) (bd (pA y 31 (ix ((8 * b1) + x4)) (gA y 31 (ix (((8 * b1) + x4) - 1)))) fun t4 => L_X9_putInto_66 b1 b2 b3 kont n ((x4 + (-1))) (t4)))
noncomputable def f_X9_putInto (t : Sx) (a1 : Int32) (a2 : Int32) (a3 : Int32) : Option (Int32 × Sx) := (f_X9_isStack t (a1)).bind fun r1 => if r1 = 0 then some ((-1), t) else (f_X9_there t (a2)).bind fun r2 => if r2 = 0 then some ((-1), t) else gd (vp_in a1 10) ((f_X9_in t (a3) (0) (gA t 30 (ix a1))).bind fun r3 => if r3 = 0 then some ((-1), t) else gd (vp_in a2 40) (if (gA t 29 (ix a2)) < 0 then gd (vp_in a1 10) (if (gA t 30 (ix a1)) = 8 then some ((-3), t) else gd (vp_in a1 10) (L_X9_putInto_66 (a1) (a2) (a3) (fun z5 t6 => gd (vp_in ((8 * a1) + a3) 80) (bd (pA t6 31 (ix ((8 * a1) + a3)) a2) fun t7 => gd (vp_in a2 40) (bd (pA t7 29 (ix a2) a1) fun t8 => gd (vp_in a1 10) (gd (vp_in a1 10) (bd (pA t8 30 (ix a1) ((gA t8 30 (ix a1)) + 1)) fun t9 => gd (vp_in a1 10) ((f_X9_settled t9 (gA t9 30 (ix a1))).bind fun r10 => some (r10.1, r10.2))))))) FU ((gA t 30 (ix a1))) (t))) else some ((-2), t)))
noncomputable def f_X9_takeOut (t : Sx) (a1 : Int32) : Option (Int32 × Sx) := (f_X9_there t (a1)).bind fun r1 => if r1 = 0 then some ((-1), t) else gd (vp_in a1 40) (if 0 ≤ (gA t 29 (ix a1)) then (f_X9_leaves t (a1)).bind fun r2 => gd (vp_in (gA t 29 (ix a1)) 10) ((f_X9_settled r2 (gA r2 30 (ix (gA t 29 (ix a1))))).bind fun r3 => some (r3.1, r3.2)) else some ((-2), t))
noncomputable def f_X9_chooseCover (t : Sx) (a1 : Int32) (a2 : Int32) : Option (Int32 × Sx) := (f_X9_isStack t (a1)).bind fun r1 => if r1 = 0 then some ((-1), t) else if a2 = (-1) then if a2 < 0 then gd (vp_in a1 10) (bd (pA t 32 (ix a1) a2) fun t2 => (f_X9_cover t2 (a1)).bind fun r3 => (f_X9_settled t2 (r3)).bind fun r4 => some (r4.1, r4.2)) else gd (vp_in a2 40) (if (gA t 29 (ix a2)) = a1 then gd (vp_in a1 10) (bd (pA t 32 (ix a1) a2) fun t5 => (f_X9_cover t5 (a1)).bind fun r6 => (f_X9_settled t5 (r6)).bind fun r7 => some (r7.1, r7.2)) else some ((-2), t)) else (f_X9_there t (a2)).bind fun r8 => if r8 = 0 then some ((-1), t) else if a2 < 0 then gd (vp_in a1 10) (bd (pA t 32 (ix a1) a2) fun t9 => (f_X9_cover t9 (a1)).bind fun r10 => (f_X9_settled t9 (r10)).bind fun r11 => some (r11.1, r11.2)) else gd (vp_in a2 40) (if (gA t 29 (ix a2)) = a1 then gd (vp_in a1 10) (bd (pA t 32 (ix a1) a2) fun t12 => (f_X9_cover t12 (a1)).bind fun r13 => (f_X9_settled t12 (r13)).bind fun r14 => some (r14.1, r14.2)) else some ((-2), t))
noncomputable def f_X9_collapse (t : Sx) (a1 : Int32) (a2 : Int32) : Option (Int32 × Sx) := (f_X9_isStack t (a1)).bind fun r1 => if r1 = 0 then some ((-1), t) else (f_X9_in t (a2) (0) (1)).bind fun r2 => if r2 = 0 then some ((-1), t) else gd (vp_in a1 10) (if (gA t 33 (ix a1)) = 0 then if a2 = 1 then gd (vp_in a1 10) (bd (pA t 33 (ix a1) 1) fun t4 => some (0, t4)) else gd (vp_in a1 10) (bd (pA t 33 (ix a1) 0) fun t3 => some (0, t3)) else if a2 = 1 then gd (vp_in a1 10) (bd (pA t 33 (ix a1) 1) fun t6 => some (1, t6)) else gd (vp_in a1 10) (bd (pA t 33 (ix a1) 0) fun t5 => some (1, t5)))
noncomputable def f_X9_stackOf (t : Sx) (a1 : Int32) : Option Int32 := (f_X9_there t (a1)).bind fun r1 => if r1 = 0 then some (-1) else gd (vp_in a1 40) (if 0 ≤ (gA t 29 (ix a1)) then gd (vp_in a1 40) (some (gA t 29 (ix a1))) else some (-4))
noncomputable def f_X9_coverOf (t : Sx) (a1 : Int32) : Option Int32 := (f_X9_isStack t (a1)).bind fun r1 => if r1 = 0 then some (-1) else (f_X9_cover t (a1)).bind fun r2 => some r2
noncomputable def f_X9_stackAt (t : Sx) (a1 : Int32) (a2 : Int32) : Option Int32 := (f_X9_isStack t (a1)).bind fun r1 => if r1 = 0 then some (-1) else if 0 ≤ a2 then gd (vp_in a1 10) (if (gA t 30 (ix a1)) ≤ a2 then some (-4) else gd (vp_in ((8 * a1) + a2) 80) (some (gA t 31 (ix ((8 * a1) + a2))))) else some (-1)
noncomputable def f_X9_type (t : Sx) (a1 : Int32) : Option (Int32 × Sx) := (f_X9_in t (a1) (33) (126)).bind fun r1 => if r1 = 0 then some ((-1), t) else if (gI t 52) = 80 then some ((-3), t) else gd (gch (i2c a1)) (gd (vp_in (gI t 52) 80) (bd (pA t 34 (ix (gI t 52)) (i2c a1)) fun t2 => bd (pI t2 52 ((gI t2 52) + 1)) fun t3 => some ((gI t3 52), t3)))
noncomputable def f_X9_clearRule (t : Sx)  : Option (Int32 × Sx) := bd (pI t 52 0) fun t1 => some ((gI t 52), t1)
noncomputable def f_X9_satisfies (t : Sx) (a1 : Int32) : Option (Int32 × Sx) := (f_X9_there t (a1)).bind fun r1 => if r1 = 0 then some ((-1), t) else (f_X9_isRule t (8)).bind fun r2 => if r2.1 = 0 then some ((-2), r2.2) else (f_X9_isRight r2.2 (a1)).bind fun r3 => if r3.1 = 0 then some (0, r3.2) else some (1, r3.2)
noncomputable def L_X9_select_16  (kont : Int32 → Int32 → Sx → Option (Int32 × Sx)) : Nat → Int32 → Int32 → Sx → Option (Int32 × Sx)
  | 0, _, _, _ => none
  | n + 1, x1 , x2, y => if 40 ≤ x2 then kont (x1) (x2) (y) else gd (vp_in x2 40) (if (gA y 23 (ix x2)) = 0 then L_X9_select_16  kont n ((x1 + 0)) ((x2 + 1)) (y) else (f_X9_isRight y (x2)).bind fun r2 => if r2.1 = 0 then L_X9_select_16  kont n ((x1 + 0)) ((x2 + 1)) (r2.2) else L_X9_select_16  kont n ((x1 + 1)) ((x2 + 1)) (r2.2))
noncomputable def f_X9_select (t : Sx)  : Option (Int32 × Sx) := (f_X9_isRule t (8)).bind fun r1 => if r1.1 = 0 then some ((-2), r1.2) else L_X9_select_16  (fun z3 z4 t5 => some (z3, t5)) FU (0) (0) (r1.2)
noncomputable def f_X9_there8 (t : Sx) (a1 : Int32) : Option Int32 := (f_X9_in t (a1) (0) (7)).bind fun r1 => if r1 = 0 then some 0 else gd (vp_in a1 8) (if (gA t 35 (ix a1)) = 0 then some 0 else some 1)
noncomputable def L_X9_rules_12 (b1 : Int32) (kont : Int32 → Sx → Option Sx) : Nat → Int32 → Sx → Option Sx
  | 0, _, _ => none
  | n + 1, x2, y => if (gI y 52) ≤ x2 then kont (x2) (y) else gd (vp_in x2 80) (gd (gch (gA y 34 (ix x2))) (gd (vp_in ((80 * b1) + x2) 640) (bd (pA y 37 (ix ((80 * b1) + x2)) (gA y 34 (ix x2))) fun t2 => L_X9_rules_12 b1 kont n ((x2 + 1)) (t2))))
noncomputable def f_X9_rules (t : Sx) (a1 : Int32) : Option Sx := gd (vp_in a1 8) (bd (pA t 36 (ix a1) (gI t 52)) fun t1 => L_X9_rules_12 (a1) (fun z3 t4 => some t4) FU (0) (t1))
noncomputable def L_X9_makeAlbum_2 (t0 : Sx) (kont : Int32 → Option (Int32 × Sx)) : Nat → Int32 → Option (Int32 × Sx)
  | 0, _ => none
  | n + 1, x1 => if 8 ≤ x1 then kont (x1) else gd (vp_in x1 8) (if (gA t0 35 (ix x1)) = 0 then kont (x1) else L_X9_makeAlbum_2 t0 kont n ((x1 + 1)))
noncomputable def f_X9_makeAlbum (t : Sx)  : Option (Int32 × Sx) := L_X9_makeAlbum_2 t (fun z1 => (f_X9_isRule t (z1)).bind fun r2 => if r2.1 = 0 then some ((-2), r2.2) else if z1 = 8 then some ((-3), r2.2) else (f_X9_rules r2.2 (z1)).bind fun r3 => gd (vp_in z1 8) (bd (pA r3 35 (ix z1) 1) fun t4 => gd (vp_in z1 8) (bd (pM t4 2 (ix z1) 0) fun t5 => gd (vp_in z1 8) (bd (pA t5 38 (ix z1) 1) fun t6 => gd (vp_in z1 8) (bd (pA t6 39 (ix z1) 1) fun t7 => gd (vp_in (2 * z1) 16) (bd (pA t7 40 (ix (2 * z1)) 0) fun t8 => gd (vp_in ((2 * z1) + 1) 16) (bd (pA t8 40 (ix ((2 * z1) + 1)) 0) fun t9 => (f_X9_settled t9 (z1)).bind fun r10 => some (r10.1, r10.2)))))))) FU (0)
noncomputable def L_X9_count40_5 (t0 : Sx) (b1 : Int64) (kont : Int32 → Int32 → Option Int32) : Nat → Int32 → Int32 → Option Int32
  | 0, _, _ => none
  | n + 1, x3 , x4 => if 40 ≤ x4 then kont (x3) (x4) else L_X9_count40_5 t0 b1 kont n ((x3 + (Int64.toInt32 ((shrL b1 x4) &&& 1)))) ((x4 + 1))
noncomputable def f_X9_count40 (t : Sx) (a1 : Int64) : Option Int32 := L_X9_count40_5 t (a1) (fun z1 z2 => some z1) FU (0) (0)
noncomputable def f_X9_albumSize (t : Sx) (a1 : Int32) : Option Int32 := (f_X9_there8 t (a1)).bind fun r1 => if r1 = 0 then some (-1) else gd (vp_in a1 8) ((f_X9_count40 t (gM t 2 (ix a1))).bind fun r2 => some r2)
noncomputable def f_X9_isIn (t : Sx) (a1 : Int32) (a2 : Int32) : Option Int32 := (f_X9_there8 t (a1)).bind fun r1 => if r1 = 0 then some (-1) else (f_X9_there t (a2)).bind fun r2 => if r2 = 0 then some (-1) else gd (vp_in a1 8) (bd ((Int64.toInt32 ((shrL (gM t 2 (ix a1)) a2) &&& 1))) fun v3 => some v3)
noncomputable def L_X9_isShown_94 (t0 : Sx) (b1 : Int32) (b2 : Int32) (b3 : Int32) (b4 : Int32) (kont : Int32 → Option Int32) : Nat → Int32 → Option Int32
  | 0, _ => none
  | n + 1, x5 => gd (vp_in b1 8) (gd (vp_in ((8 * b3) + x5) 80) (bd ((shrL (gM t0 2 (ix b1)) (gA t0 31 (ix ((8 * b3) + x5))))) fun v2 => if (lg_cmp (v2 &&& 1) 0) = 0 then L_X9_isShown_94 t0 b1 b2 b3 b4 kont n ((x5 + 1)) else kont (x5)))
noncomputable def f_X9_isShown (t : Sx) (a1 : Int32) (a2 : Int32) : Option Int32 := gd (vp_in a2 40) (gd (vp_in a1 8) (if (lg_cmp ((shrL (gM t 2 (ix a1)) a2) &&& 1) 0) = 0 then gd (vp_in a1 8) (if (lg_cmp ((shrL (gM t 2 (ix a1)) a2) &&& 1) 1) = 0 then some 1 else some 0) else if (gA t 29 (ix a2)) < 0 then gd (vp_in a1 8) (if (lg_cmp ((shrL (gM t 2 (ix a1)) a2) &&& 1) 1) = 0 then some 1 else some 0) else gd (vp_in (gA t 29 (ix a2)) 10) (if (gA t 33 (ix (gA t 29 (ix a2)))) = 0 then gd (vp_in a1 8) (if (lg_cmp ((shrL (gM t 2 (ix a1)) a2) &&& 1) 1) = 0 then some 1 else some 0) else (f_X9_cover t (gA t 29 (ix a2))).bind fun r1 => gd (vp_in a1 8) (if (lg_cmp ((shrL (gM t 2 (ix a1)) r1) &&& 1) 1) = 0 then if a2 = r1 then some 1 else some 0 else L_X9_isShown_94 t (a1) (a2) ((gA t 29 (ix a2))) (r1) (fun z3 => gd (vp_in ((8 * (gA t 29 (ix a2))) + z3) 80) (if (gA t 31 (ix ((8 * (gA t 29 (ix a2))) + z3))) = a2 then some 1 else some 0)) FU (0)))))
noncomputable def f_X9_isAhead (t : Sx) (a1 : Int32) (a2 : Int32) (a3 : Int32) : Option Int32 := gd (vp_in a1 8) ((f_X9_valueOr t (a2) (gA t 38 (ix a1)) (-1)).bind fun r1 => gd (vp_in a1 8) ((f_X9_valueOr t (a3) (gA t 38 (ix a1)) (-1)).bind fun r2 => if r1 = r2 then if a3 ≤ a2 then some 0 else some 1 else if r2 < 0 then some 1 else if r1 < 0 then some 0 else gd (vp_in a1 8) (if (gA t 39 (ix a1)) = 0 then if r2 ≤ r1 then some 0 else some 1 else if r1 ≤ r2 then some 0 else some 1)))
noncomputable def L_X9_shown_4 (t0 : Sx) (b1 : Int32) (kont : Int32 → Int32 → Option Int32) : Nat → Int32 → Int32 → Option Int32
  | 0, _, _ => none
  | n + 1, x2 , x3 => if 40 ≤ x3 then kont (x2) (x3) else (f_X9_isShown t0 (b1) (x3)).bind fun r1 => if r1 = 0 then L_X9_shown_4 t0 b1 kont n ((x2 + 0)) ((x3 + 1)) else L_X9_shown_4 t0 b1 kont n ((x2 + 1)) ((x3 + 1))
noncomputable def f_X9_shown (t : Sx) (a1 : Int32) : Option Int32 := L_X9_shown_4 t (a1) (fun z2 z3 => some z2) FU (0) (0)
noncomputable def f_X9_viewSize (t : Sx) (a1 : Int32) : Option Int32 := (f_X9_there8 t (a1)).bind fun r1 => if r1 = 0 then some (-1) else (f_X9_shown t (a1)).bind fun r2 => some r2
noncomputable def L_X9_viewAt_28 (t0 : Sx) (b1 : Int32) (b2 : Int32) (b3 : Int32) (kont : Int32 → Int32 → Option Int32) : Nat → Int32 → Int32 → Option Int32
  | 0, _, _ => none
  | n + 1, x4 , x5 => if 40 ≤ x5 then kont (x4) (x5) else (f_X9_isShown t0 (b1) (b3)).bind fun r2 => if r2 = 0 then kont (x4) (x5) else if x5 = b3 then L_X9_viewAt_28 t0 b1 b2 b3 kont n ((x4 + 0)) ((x5 + 1)) else (f_X9_isShown t0 (b1) (x5)).bind fun r3 => if r3 = 0 then L_X9_viewAt_28 t0 b1 b2 b3 kont n ((x4 + 0)) ((x5 + 1)) else (f_X9_isAhead t0 (b1) (x5) (b3)).bind fun r4 => if r4 = 0 then L_X9_viewAt_28 t0 b1 b2 b3 kont n ((x4 + 0)) ((x5 + 1)) else L_X9_viewAt_28 t0 b1 b2 b3 kont n ((x4 + 1)) ((x5 + 1))
noncomputable def L_X9_viewAt_16 (t0 : Sx) (b1 : Int32) (b2 : Int32) (kont : Int32 → Option Int32) : Nat → Int32 → Option Int32
  | 0, _ => none
  | n + 1, x3 => if 40 ≤ x3 then kont (x3) else L_X9_viewAt_28 t0 (b1) (b2) (x3) (fun z5 z6 => (f_X9_isShown t0 (b1) (x3)).bind fun r7 => if r7 = 0 then L_X9_viewAt_16 t0 b1 b2 kont n ((x3 + 1)) else if z5 = b2 then some x3 else L_X9_viewAt_16 t0 b1 b2 kont n ((x3 + 1))) FU (0) (0)
noncomputable def f_X9_viewAt (t : Sx) (a1 : Int32) (a2 : Int32) : Option Int32 := (f_X9_there8 t (a1)).bind fun r1 => if r1 = 0 then some (-1) else if 0 ≤ a2 then L_X9_viewAt_16 t (a1) (a2) (fun z8 => some (-4)) FU (0) else some (-1)
noncomputable def f_X9_journalSize (t : Sx)  : Option Int32 := some (gI t 53)
noncomputable def f_X9_journalAt (t : Sx) (a1 : Int32) (a2 : Int32) : Option Int32 := if a1 < 0 then some (-1) else (f_X9_in t (a2) (0) (2)).bind fun r1 => if r1 = 0 then some (-1) else if (gI t 53) ≤ a1 then some (-4) else gd (vp_in ((3 * a1) + a2) 72) (some (gA t 41 (ix ((3 * a1) + a2))))
noncomputable def f_X9_turnover (t : Sx) (a1 : Int32) (a2 : Int32) : Option Int32 := (f_X9_there8 t (a1)).bind fun r1 => if r1 = 0 then some (-1) else (f_X9_in t (a2) (0) (1)).bind fun r2 => if r2 = 0 then some (-1) else gd (vp_in ((2 * a1) + a2) 16) (some (gA t 40 (ix ((2 * a1) + a2))))
noncomputable def L_X9_count_4 (t0 : Sx) (b1 : Int32) (kont : Int32 → Int32 → Option Int32) : Nat → Int32 → Int32 → Option Int32
  | 0, _, _ => none
  | n + 1, x2 , x3 => if 40 ≤ x3 then kont (x2) (x3) else if b1 = 0 then if 10 ≤ x3 then L_X9_count_4 t0 b1 kont n ((x2 + 0)) ((x3 + 1)) else gd (vp_in x3 10) (if (gA t0 30 (ix x3)) ≤ 0 then L_X9_count_4 t0 b1 kont n ((x2 + 0)) ((x3 + 1)) else L_X9_count_4 t0 b1 kont n ((x2 + 1)) ((x3 + 1))) else if b1 = 1 then if 8 ≤ x3 then L_X9_count_4 t0 b1 kont n ((x2 + 0)) ((x3 + 1)) else gd (vp_in x3 8) (if (gA t0 35 (ix x3)) = 0 then L_X9_count_4 t0 b1 kont n ((x2 + 0)) ((x3 + 1)) else L_X9_count_4 t0 b1 kont n ((x2 + 1)) ((x3 + 1))) else if b1 = 2 then gd (vp_in x3 40) (if (gA t0 23 (ix x3)) = 0 then L_X9_count_4 t0 b1 kont n ((x2 + 0)) ((x3 + 1)) else (f_X9_keeper t0 (x3)).bind fun r4 => if r4 = x3 then (f_X9_group t0 (x3)).bind fun r5 => if r5 ≤ 1 then L_X9_count_4 t0 b1 kont n ((x2 + 0)) ((x3 + 1)) else L_X9_count_4 t0 b1 kont n ((x2 + 1)) ((x3 + 1)) else L_X9_count_4 t0 b1 kont n ((x2 + 0)) ((x3 + 1))) else if b1 = 3 then gd (vp_in x3 40) (if (gA t0 23 (ix x3)) = 0 then L_X9_count_4 t0 b1 kont n ((x2 + 0)) ((x3 + 1)) else gd (vp_in x3 40) (if (gA t0 29 (ix x3)) < 0 then L_X9_count_4 t0 b1 kont n ((x2 + 0)) ((x3 + 1)) else L_X9_count_4 t0 b1 kont n ((x2 + 1)) ((x3 + 1)))) else if b1 = 4 then gd (vp_in x3 40) (if (gA t0 23 (ix x3)) = 0 then L_X9_count_4 t0 b1 kont n ((x2 + 0)) ((x3 + 1)) else gd (vp_in x3 40) (L_X9_count_4 t0 b1 kont n ((x2 + (gA t0 25 (ix x3)))) ((x3 + 1)))) else some (-1)
noncomputable def f_X9_count (t : Sx) (a1 : Int32) : Option Int32 := L_X9_count_4 t (a1) (fun z8 z9 => some z8) FU (0) (0)
noncomputable def L_L_types_10 (b1 : Int64) (kont : Int32 → Int64 → Sx → Option (Int32 × Sx)) : Nat → Int32 → Int64 → Sx → Option (Int32 × Sx)
  | 0, _, _, _ => none
  | n + 1, x3 , x4, y => if (lg_cmp x4 0) ≤ 0 then kont (x3) (x4) (y) else if x3 = 0 then L_L_types_10 b1 kont n (0) ((shrL x4 8)) (y) else (f_X8_type y (Int64.toInt32 (x4 &&& 127))).bind fun r2 => if r2.1 ≤ 0 then L_L_types_10 b1 kont n (0) ((shrL x4 8)) (r2.2) else L_L_types_10 b1 kont n (1) ((shrL x4 8)) (r2.2)
noncomputable def f_L_types (t : Sx) (a1 : Int64) : Option (Int32 × Sx) := (f_X8_clearRule t ).bind fun r1 => L_L_types_10 (a1) (fun z3 z4 t5 => gd (gz z3) (some (z3, t5))) FU (1) (a1) (r1.2)
noncomputable def f_L_text (t : Sx) (a0 : Int32) : Option Int64 := if a0 = 0 then some 54376369634930 else if a0 = 1 then some 494565227638 else if a0 = 2 then some 272498062625 else if a0 = 3 then some 54293237739617 else some 3301665
noncomputable def f_L_acts (t : Sx) (a1 : Int32) : Option (Int32 × Sx) := gd (¬ (12 : Int32) = 0) (bd (((a1 >>> (4 &&& 31)) - (a1 >>> (4 &&& 31)) / 12 * 12)) fun v1 => gd (¬ (12 : Int32) = 0) (bd (((a1 >>> (8 &&& 31)) - (a1 >>> (8 &&& 31)) / 12 * 12)) fun v2 => gd (¬ (16 : Int32) = 0) (bd (a1 - a1 / 16 * 16) fun v3 => if v3 = 0 then (f_X8_fileCount t ).bind fun r5 => if 11 < r5 then some (1, t) else gd (¬ (6 : Int32) = 0) (bd (((a1 >>> (12 &&& 31)) - (a1 >>> (12 &&& 31)) / 6 * 6)) fun v6 => gd (¬ (100 : Int32) = 0) (bd (((a1 >>> (15 &&& 31)) - (a1 >>> (15 &&& 31)) / 100 * 100)) fun v7 => (f_X8_add t (v6) (1 + v7)).bind fun r8 => if r8.1 < 0 then some (0, r8.2) else some (1, r8.2))) else if v3 = 1 then (f_X8_fileCount t ).bind fun r10 => if 11 < r10 then some (1, t) else gd (¬ (6 : Int32) = 0) (bd (((a1 >>> (12 &&& 31)) - (a1 >>> (12 &&& 31)) / 6 * 6)) fun v11 => gd (¬ (100 : Int32) = 0) (bd (((a1 >>> (15 &&& 31)) - (a1 >>> (15 &&& 31)) / 100 * 100)) fun v12 => (f_X8_add t (v11) (1 + v12)).bind fun r13 => if r13.1 < 0 then some (0, r13.2) else some (1, r13.2))) else if v3 = 2 then (f_X8_fileCount t ).bind fun r15 => if 11 < r15 then some (1, t) else gd (¬ (6 : Int32) = 0) (bd (((a1 >>> (12 &&& 31)) - (a1 >>> (12 &&& 31)) / 6 * 6)) fun v16 => gd (¬ (100 : Int32) = 0) (bd (((a1 >>> (15 &&& 31)) - (a1 >>> (15 &&& 31)) / 100 * 100)) fun v17 => (f_X8_add t (v16) (1 + v17)).bind fun r18 => if r18.1 < 0 then some (0, r18.2) else some (1, r18.2))) else if v3 = 3 then gd (¬ (3 : Int32) = 0) (gd (¬ (6 : Int32) = 0) (bd (((a1 >>> (12 &&& 31)) - (a1 >>> (12 &&& 31)) / 6 * 6)) fun v20 => (f_X8_setValue t (v1) (v2 - v2 / 3 * 3) (1) (v20)).bind fun r21 => if r21.1 ≤ (-5) then some (0, r21.2) else some (1, r21.2))) else if v3 = 4 then gd (¬ (3 : Int32) = 0) (gd (¬ (6 : Int32) = 0) (bd (((a1 >>> (12 &&& 31)) - (a1 >>> (12 &&& 31)) / 6 * 6)) fun v23 => (f_X8_setValue t (v1) (v2 - v2 / 3 * 3) (1) (v23)).bind fun r24 => if r24.1 ≤ (-5) then some (0, r24.2) else some (1, r24.2))) else if v3 = 5 then gd (¬ (3 : Int32) = 0) (gd (¬ (6 : Int32) = 0) (bd (((a1 >>> (12 &&& 31)) - (a1 >>> (12 &&& 31)) / 6 * 6)) fun v26 => (f_X8_setValue t (v1) (v2 - v2 / 3 * 3) (1) (v26)).bind fun r27 => if r27.1 ≤ (-5) then some (0, r27.2) else some (1, r27.2))) else if v3 = 6 then gd (¬ (3 : Int32) = 0) (gd (¬ (16 : Int32) = 0) (bd (((a1 >>> (12 &&& 31)) - (a1 >>> (12 &&& 31)) / 16 * 16)) fun v29 => (f_X8_setValue t (v1) (v2 - v2 / 3 * 3) (5) (v29)).bind fun r30 => if r30.1 ≤ (-5) then some (0, r30.2) else some (1, r30.2))) else if v3 = 7 then gd (¬ (3 : Int32) = 0) ((f_X8_clearValue t (v1) (v2 - v2 / 3 * 3) (1)).bind fun r32 => if r32.1 ≤ (-5) then some (0, r32.2) else some (1, r32.2)) else if v3 = 8 then (f_X8_stack t (v1) (v2)).bind fun r34 => if r34.1 ≤ (-4) then some (0, r34.2) else some (1, r34.2) else if v3 = 9 then (f_X8_stack t (v1) (v2)).bind fun r36 => if r36.1 ≤ (-4) then some (0, r36.2) else some (1, r36.2) else if v3 = 10 then gd (¬ (3 : Int32) = 0) ((f_X8_putInto t (v2 - v2 / 3 * 3) (v1) (0)).bind fun r38 => if r38.1 ≤ (-4) then some (0, r38.2) else some (1, r38.2)) else if v3 = 11 then (f_X8_takeOut t (v1)).bind fun r40 => if r40.1 ≤ (-3) then some (0, r40.2) else some (1, r40.2) else if v3 = 12 then gd (¬ (3 : Int32) = 0) (gd (¬ (2 : Int32) = 0) ((f_X8_collapse t (v2 - v2 / 3 * 3) (v1 - v1 / 2 * 2)).bind fun r42 => if r42.1 ≤ (-2) then some (0, r42.2) else gd (¬ (3 : Int32) = 0) ((f_X8_chooseCover r42.2 (v2 - v2 / 3 * 3) (v1)).bind fun r43 => if r43.1 ≤ (-3) then some (0, r43.2) else some (1, r43.2)))) else if v3 = 13 then gd (¬ (4 : Int32) = 0) (bd (((a1 >>> (12 &&& 31)) - (a1 >>> (12 &&& 31)) / 4 * 4)) fun v45 => if 0 < v45 then some (1, t) else (f_X8_merge t (v1)).bind fun r46 => if r46.1 ≤ (-3) then some (0, r46.2) else some (1, r46.2)) else if v3 = 14 then gd (¬ (3 : Int32) = 0) (bd (((a1 >>> (12 &&& 31)) - (a1 >>> (12 &&& 31)) / 3 * 3)) fun v48 => if 0 < v48 then some (1, t) else (f_X8_remove t (v1)).bind fun r49 => if r49.1 ≤ (-2) then some (0, r49.2) else some (1, r49.2)) else gd (¬ (6 : Int32) = 0) (bd (((a1 >>> (12 &&& 31)) - (a1 >>> (12 &&& 31)) / 6 * 6)) fun v50 => (f_X8_setDigest t (v1) (v50)).bind fun r51 => if r51.1 ≤ (-2) then some (0, r51.2) else gd (¬ (3 : Int32) = 0) (gd (¬ (3 : Int32) = 0) (gd (¬ (3 : Int32) = 0) ((f_X8_setOrder r51.2 (v2 - v2 / 3 * 3) ((v2 + 1) - (v2 + 1) / 3 * 3) ((v2 + 2) - (v2 + 2) / 3 * 3)).bind fun r52 => if r52.1 < 12 then some (0, r52.2) else some (1, r52.2))))))))
noncomputable def L_L_albums_27 (b2 : Int32) (kont : Int32 → Int32 → Int32 → Sx → Option (Int32 × Sx)) : Nat → Int32 → Int32 → Int32 → Sx → Option (Int32 × Sx)
  | 0, _, _, _, _ => none
  | n + 1, x1 , x3 , x4, y => if 40 ≤ x4 then kont (x1) (x3) (x4) (y) else if x1 = 0 then kont (x1) (x3) (x4) (y) else (f_X8_isIn y (b2) (x4)).bind fun r3 => (f_X8_satisfies y (x4)).bind fun r4 => if r4.1 = r3 then if r3 = 1 then L_L_albums_27 b2 kont n (1) ((x3 + 1)) ((x4 + 1)) (r4.2) else L_L_albums_27 b2 kont n (1) ((x3 + 0)) ((x4 + 1)) (r4.2) else if r3 = 1 then L_L_albums_27 b2 kont n (0) ((x3 + 1)) ((x4 + 1)) (r4.2) else L_L_albums_27 b2 kont n (0) ((x3 + 0)) ((x4 + 1)) (r4.2)
noncomputable def L_L_albums_228 (b2 : Int32) (b3 : Int32) (b4 : Int32) (b5 : Int32) (b6 : Int32) (b7 : Int32) (b8 : Int32) (kont : Int32 → Int32 → Sx → Option (Int32 × Sx)) : Nat → Int32 → Int32 → Sx → Option (Int32 × Sx)
  | 0, _, _, _ => none
  | n + 1, x1 , x9, y => if b6 ≤ x9 then kont (x1) (x9) (y) else if x1 = 0 then kont (x1) (x9) (y) else (f_X8_stackOf y (b7)).bind fun r12 => (f_X8_viewAt y (b2) (x9)).bind fun r13 => if r13 = b7 then L_L_albums_228 b2 b3 b4 b5 b6 b7 b8 kont n (0) ((x9 + 1)) (y) else if r12 < 0 then L_L_albums_228 b2 b3 b4 b5 b6 b7 b8 kont n (1) ((x9 + 1)) (y) else (f_X8_viewAt y (b2) (x9)).bind fun r14 => (f_X8_stackOf y (r14)).bind fun r15 => if r15 = r12 then (f_X8_collapse y (r12) (0)).bind fun r16 => if r16.1 = 0 then L_L_albums_228 b2 b3 b4 b5 b6 b7 b8 kont n (1) ((x9 + 1)) (r16.2) else L_L_albums_228 b2 b3 b4 b5 b6 b7 b8 kont n (0) ((x9 + 1)) (r16.2) else L_L_albums_228 b2 b3 b4 b5 b6 b7 b8 kont n (1) ((x9 + 1)) (y)
noncomputable def L_L_albums_150 (b2 : Int32) (b3 : Int32) (b4 : Int32) (kont : Int32 → Int32 → Int32 → Sx → Option (Int32 × Sx)) : Nat → Int32 → Int32 → Int32 → Sx → Option (Int32 × Sx)
  | 0, _, _, _, _ => none
  | n + 1, x1 , x5 , x6, y => if b4 ≤ x6 then kont (x1) (x5) (x6) (y) else if x1 = 0 then kont (x1) (x5) (x6) (y) else (f_X8_viewAt y (b2) (x6)).bind fun r9 => (f_X8_value y (r9) (1)).bind fun r10 => (f_X8_isIn y (b2) (r9)).bind fun r11 => if r11 = 1 then if 0 ≤ r10 then if x5 < r10 then if 0 ≤ r10 then L_L_albums_228 (b2) (b3) (b4) (r10) (x6) (r9) (r10) (fun z23 z24 t25 => L_L_albums_150 b2 b3 b4 kont n (z23) (r10) ((x6 + 1)) (t25)) FU (0) (0) (y) else L_L_albums_228 (b2) (b3) (b4) ((-1)) (x6) (r9) (r10) (fun z26 z27 t28 => L_L_albums_150 b2 b3 b4 kont n (z26) ((-1)) ((x6 + 1)) (t28)) FU (0) (0) (y) else if 0 ≤ r10 then L_L_albums_228 (b2) (b3) (b4) (r10) (x6) (r9) (r10) (fun z29 z30 t31 => L_L_albums_150 b2 b3 b4 kont n (z29) (r10) ((x6 + 1)) (t31)) FU (1) (0) (y) else L_L_albums_228 (b2) (b3) (b4) ((-1)) (x6) (r9) (r10) (fun z32 z33 t34 => L_L_albums_150 b2 b3 b4 kont n (z32) ((-1)) ((x6 + 1)) (t34)) FU (1) (0) (y) else if x5 < ((-1) : Int32) then if 0 ≤ r10 then L_L_albums_228 (b2) (b3) (b4) (r10) (x6) (r9) (r10) (fun z35 z36 t37 => L_L_albums_150 b2 b3 b4 kont n (z35) (r10) ((x6 + 1)) (t37)) FU (0) (0) (y) else L_L_albums_228 (b2) (b3) (b4) ((-1)) (x6) (r9) (r10) (fun z38 z39 t40 => L_L_albums_150 b2 b3 b4 kont n (z38) ((-1)) ((x6 + 1)) (t40)) FU (0) (0) (y) else if 0 ≤ r10 then L_L_albums_228 (b2) (b3) (b4) (r10) (x6) (r9) (r10) (fun z41 z42 t43 => L_L_albums_150 b2 b3 b4 kont n (z41) (r10) ((x6 + 1)) (t43)) FU (1) (0) (y) else L_L_albums_228 (b2) (b3) (b4) ((-1)) (x6) (r9) (r10) (fun z44 z45 t46 => L_L_albums_150 b2 b3 b4 kont n (z44) ((-1)) ((x6 + 1)) (t46)) FU (1) (0) (y) else if 0 ≤ r10 then L_L_albums_228 (b2) (b3) (b4) (r10) (x6) (r9) (r10) (fun z17 z18 t19 => L_L_albums_150 b2 b3 b4 kont n (z17) (r10) ((x6 + 1)) (t19)) FU (0) (0) (y) else L_L_albums_228 (b2) (b3) (b4) ((-1)) (x6) (r9) (r10) (fun z20 z21 t22 => L_L_albums_150 b2 b3 b4 kont n (z20) ((-1)) ((x6 + 1)) (t22)) FU (0) (0) (y)
noncomputable def L_L_albums_4  (kont : Int32 → Int32 → Sx → Option (Int32 × Sx)) : Nat → Int32 → Int32 → Sx → Option (Int32 × Sx)
  | 0, _, _, _ => none
  | n + 1, x1 , x2, y => if 5 ≤ x2 then kont (x1) (x2) (y) else if x1 = 0 then kont (x1) (x2) (y) else (f_L_text y (x2)).bind fun r1 => (f_L_types y (r1)).bind fun r2 => L_L_albums_27 (x2) (fun z5 z6 z7 t8 => if z5 = 0 then if (0 : Int32) = 0 then L_L_albums_150 (x2) (z6) (0) (fun z47 z48 z49 t50 => if z47 = 0 then L_L_albums_4  kont n (0) ((x2 + 1)) (t50) else if z6 < (0 : Int32) then L_L_albums_4  kont n (0) ((x2 + 1)) (t50) else L_L_albums_4  kont n (1) ((x2 + 1)) (t50)) FU (0) (6) (0) (t8) else none else (f_X8_albumSize t8 (x2)).bind fun r51 => if r51 = z6 then (f_X8_select t8 ).bind fun r56 => if r56.1 = z6 then (f_X8_turnover r56.2 (x2) (1)).bind fun r61 => (f_X8_turnover r56.2 (x2) (0)).bind fun r62 => if (r61 - r62) = z6 then if (1 : Int32) = 0 then none else (f_X8_viewSize r56.2 (x2)).bind fun r67 => L_L_albums_150 (x2) (z6) (r67) (fun z68 z69 z70 t71 => if z68 = 0 then L_L_albums_4  kont n (0) ((x2 + 1)) (t71) else if z6 < r67 then L_L_albums_4  kont n (0) ((x2 + 1)) (t71) else L_L_albums_4  kont n (1) ((x2 + 1)) (t71)) FU (1) (6) (0) (r56.2) else if (0 : Int32) = 0 then L_L_albums_150 (x2) (z6) (0) (fun z63 z64 z65 t66 => if z63 = 0 then L_L_albums_4  kont n (0) ((x2 + 1)) (t66) else if z6 < (0 : Int32) then L_L_albums_4  kont n (0) ((x2 + 1)) (t66) else L_L_albums_4  kont n (1) ((x2 + 1)) (t66)) FU (0) (6) (0) (r56.2) else none else if (0 : Int32) = 0 then L_L_albums_150 (x2) (z6) (0) (fun z57 z58 z59 t60 => if z57 = 0 then L_L_albums_4  kont n (0) ((x2 + 1)) (t60) else if z6 < (0 : Int32) then L_L_albums_4  kont n (0) ((x2 + 1)) (t60) else L_L_albums_4  kont n (1) ((x2 + 1)) (t60)) FU (0) (6) (0) (r56.2) else none else if (0 : Int32) = 0 then L_L_albums_150 (x2) (z6) (0) (fun z52 z53 z54 t55 => if z52 = 0 then L_L_albums_4  kont n (0) ((x2 + 1)) (t55) else if z6 < (0 : Int32) then L_L_albums_4  kont n (0) ((x2 + 1)) (t55) else L_L_albums_4  kont n (1) ((x2 + 1)) (t55)) FU (0) (6) (0) (t8) else none) FU (r2.1) (0) (0) (r2.2)
noncomputable def f_L_albums (t : Sx)  : Option (Int32 × Sx) := L_L_albums_4  (fun z72 z73 t74 => gd (gz z72) (some (z72, t74))) FU (1) (0) (t)
noncomputable def L_L_groups_12 (t0 : Sx) (kont : Int32 → Int32 → Int32 → Int32 → Int32 → Option Int32) : Nat → Int32 → Int32 → Int32 → Int32 → Int32 → Option Int32
  | 0, _, _, _, _, _ => none
  | n + 1, x1 , x2 , x3 , x4 , x5 => if 40 ≤ x5 then kont (x1) (x2) (x3) (x4) (x5) else if x4 = 0 then kont (x1) (x2) (x3) (x4) (x5) else (f_X8_keeperOf t0 (x5)).bind fun r1 => if r1 < 0 then L_L_groups_12 t0 kont n (x1) (x2) (x3) (x4) ((x5 + 1)) else (f_X8_keeperOf t0 (r1)).bind fun r2 => if r2 = r1 then (f_X8_value t0 (r1) (6)).bind fun r14 => (f_X8_value t0 (x5) (6)).bind fun r15 => if r14 = r15 then (f_X8_groupSize t0 (r1)).bind fun r27 => (f_X8_groupSize t0 (x5)).bind fun r28 => if r27 = r28 then if r1 = x5 then (f_X8_value t0 (x5) (7)).bind fun r58 => if r1 = x5 then (f_X8_groupSize t0 (x5)).bind fun r64 => if r64 ≤ 1 then (f_X8_stackOf t0 (x5)).bind fun r65 => if (1 : Int32) = 0 then none else if r65 < 0 then L_L_groups_12 t0 kont n ((x1 + 0)) ((x2 + r58)) ((x3 + 0)) (1) ((x5 + 1)) else (f_X8_coverOf t0 (r65)).bind fun r66 => (f_X8_stackOf t0 (r66)).bind fun r67 => if r67 = r65 then (f_X8_stackAt t0 (r65) (1)).bind fun r68 => if r68 < 0 then L_L_groups_12 t0 kont n ((x1 + 0)) ((x2 + r58)) ((x3 + 0)) (0) ((x5 + 1)) else (f_X8_stackAt t0 (r65) (8)).bind fun r69 => if r69 = (-4) then L_L_groups_12 t0 kont n ((x1 + 0)) ((x2 + r58)) ((x3 + 0)) (1) ((x5 + 1)) else L_L_groups_12 t0 kont n ((x1 + 0)) ((x2 + r58)) ((x3 + 0)) (0) ((x5 + 1)) else L_L_groups_12 t0 kont n ((x1 + 0)) ((x2 + r58)) ((x3 + 0)) (0) ((x5 + 1)) else (f_X8_stackOf t0 (x5)).bind fun r70 => if (1 : Int32) = 0 then none else if r70 < 0 then L_L_groups_12 t0 kont n ((x1 + 0)) ((x2 + r58)) ((x3 + 1)) (1) ((x5 + 1)) else (f_X8_coverOf t0 (r70)).bind fun r71 => (f_X8_stackOf t0 (r71)).bind fun r72 => if r72 = r70 then (f_X8_stackAt t0 (r70) (1)).bind fun r73 => if r73 < 0 then L_L_groups_12 t0 kont n ((x1 + 0)) ((x2 + r58)) ((x3 + 1)) (0) ((x5 + 1)) else (f_X8_stackAt t0 (r70) (8)).bind fun r74 => if r74 = (-4) then L_L_groups_12 t0 kont n ((x1 + 0)) ((x2 + r58)) ((x3 + 1)) (1) ((x5 + 1)) else L_L_groups_12 t0 kont n ((x1 + 0)) ((x2 + r58)) ((x3 + 1)) (0) ((x5 + 1)) else L_L_groups_12 t0 kont n ((x1 + 0)) ((x2 + r58)) ((x3 + 1)) (0) ((x5 + 1)) else (f_X8_stackOf t0 (x5)).bind fun r59 => if (1 : Int32) = 0 then none else if r59 < 0 then L_L_groups_12 t0 kont n ((x1 + 0)) ((x2 + r58)) ((x3 + 0)) (1) ((x5 + 1)) else (f_X8_coverOf t0 (r59)).bind fun r60 => (f_X8_stackOf t0 (r60)).bind fun r61 => if r61 = r59 then (f_X8_stackAt t0 (r59) (1)).bind fun r62 => if r62 < 0 then L_L_groups_12 t0 kont n ((x1 + 0)) ((x2 + r58)) ((x3 + 0)) (0) ((x5 + 1)) else (f_X8_stackAt t0 (r59) (8)).bind fun r63 => if r63 = (-4) then L_L_groups_12 t0 kont n ((x1 + 0)) ((x2 + r58)) ((x3 + 0)) (1) ((x5 + 1)) else L_L_groups_12 t0 kont n ((x1 + 0)) ((x2 + r58)) ((x3 + 0)) (0) ((x5 + 1)) else L_L_groups_12 t0 kont n ((x1 + 0)) ((x2 + r58)) ((x3 + 0)) (0) ((x5 + 1)) else (f_X8_value t0 (x5) (7)).bind fun r40 => (f_X8_value t0 (x5) (7)).bind fun r41 => if r1 = x5 then (f_X8_groupSize t0 (x5)).bind fun r47 => if r47 ≤ 1 then (f_X8_stackOf t0 (x5)).bind fun r48 => if (1 : Int32) = 0 then none else if r48 < 0 then L_L_groups_12 t0 kont n ((x1 + r40)) ((x2 + r41)) ((x3 + 0)) (1) ((x5 + 1)) else (f_X8_coverOf t0 (r48)).bind fun r49 => (f_X8_stackOf t0 (r49)).bind fun r50 => if r50 = r48 then (f_X8_stackAt t0 (r48) (1)).bind fun r51 => if r51 < 0 then L_L_groups_12 t0 kont n ((x1 + r40)) ((x2 + r41)) ((x3 + 0)) (0) ((x5 + 1)) else (f_X8_stackAt t0 (r48) (8)).bind fun r52 => if r52 = (-4) then L_L_groups_12 t0 kont n ((x1 + r40)) ((x2 + r41)) ((x3 + 0)) (1) ((x5 + 1)) else L_L_groups_12 t0 kont n ((x1 + r40)) ((x2 + r41)) ((x3 + 0)) (0) ((x5 + 1)) else L_L_groups_12 t0 kont n ((x1 + r40)) ((x2 + r41)) ((x3 + 0)) (0) ((x5 + 1)) else (f_X8_stackOf t0 (x5)).bind fun r53 => if (1 : Int32) = 0 then none else if r53 < 0 then L_L_groups_12 t0 kont n ((x1 + r40)) ((x2 + r41)) ((x3 + 1)) (1) ((x5 + 1)) else (f_X8_coverOf t0 (r53)).bind fun r54 => (f_X8_stackOf t0 (r54)).bind fun r55 => if r55 = r53 then (f_X8_stackAt t0 (r53) (1)).bind fun r56 => if r56 < 0 then L_L_groups_12 t0 kont n ((x1 + r40)) ((x2 + r41)) ((x3 + 1)) (0) ((x5 + 1)) else (f_X8_stackAt t0 (r53) (8)).bind fun r57 => if r57 = (-4) then L_L_groups_12 t0 kont n ((x1 + r40)) ((x2 + r41)) ((x3 + 1)) (1) ((x5 + 1)) else L_L_groups_12 t0 kont n ((x1 + r40)) ((x2 + r41)) ((x3 + 1)) (0) ((x5 + 1)) else L_L_groups_12 t0 kont n ((x1 + r40)) ((x2 + r41)) ((x3 + 1)) (0) ((x5 + 1)) else (f_X8_stackOf t0 (x5)).bind fun r42 => if (1 : Int32) = 0 then none else if r42 < 0 then L_L_groups_12 t0 kont n ((x1 + r40)) ((x2 + r41)) ((x3 + 0)) (1) ((x5 + 1)) else (f_X8_coverOf t0 (r42)).bind fun r43 => (f_X8_stackOf t0 (r43)).bind fun r44 => if r44 = r42 then (f_X8_stackAt t0 (r42) (1)).bind fun r45 => if r45 < 0 then L_L_groups_12 t0 kont n ((x1 + r40)) ((x2 + r41)) ((x3 + 0)) (0) ((x5 + 1)) else (f_X8_stackAt t0 (r42) (8)).bind fun r46 => if r46 = (-4) then L_L_groups_12 t0 kont n ((x1 + r40)) ((x2 + r41)) ((x3 + 0)) (1) ((x5 + 1)) else L_L_groups_12 t0 kont n ((x1 + r40)) ((x2 + r41)) ((x3 + 0)) (0) ((x5 + 1)) else L_L_groups_12 t0 kont n ((x1 + r40)) ((x2 + r41)) ((x3 + 0)) (0) ((x5 + 1)) else if r1 = x5 then (f_X8_value t0 (x5) (7)).bind fun r35 => if r1 = x5 then (f_X8_groupSize t0 (x5)).bind fun r37 => if r37 ≤ 1 then (f_X8_stackOf t0 (x5)).bind fun r38 => if (0 : Int32) = 0 then L_L_groups_12 t0 kont n ((x1 + 0)) ((x2 + r35)) ((x3 + 0)) (0) ((x5 + 1)) else none else (f_X8_stackOf t0 (x5)).bind fun r39 => if (0 : Int32) = 0 then L_L_groups_12 t0 kont n ((x1 + 0)) ((x2 + r35)) ((x3 + 1)) (0) ((x5 + 1)) else none else (f_X8_stackOf t0 (x5)).bind fun r36 => if (0 : Int32) = 0 then L_L_groups_12 t0 kont n ((x1 + 0)) ((x2 + r35)) ((x3 + 0)) (0) ((x5 + 1)) else none else (f_X8_value t0 (x5) (7)).bind fun r29 => (f_X8_value t0 (x5) (7)).bind fun r30 => if r1 = x5 then (f_X8_groupSize t0 (x5)).bind fun r32 => if r32 ≤ 1 then (f_X8_stackOf t0 (x5)).bind fun r33 => if (0 : Int32) = 0 then L_L_groups_12 t0 kont n ((x1 + r29)) ((x2 + r30)) ((x3 + 0)) (0) ((x5 + 1)) else none else (f_X8_stackOf t0 (x5)).bind fun r34 => if (0 : Int32) = 0 then L_L_groups_12 t0 kont n ((x1 + r29)) ((x2 + r30)) ((x3 + 1)) (0) ((x5 + 1)) else none else (f_X8_stackOf t0 (x5)).bind fun r31 => if (0 : Int32) = 0 then L_L_groups_12 t0 kont n ((x1 + r29)) ((x2 + r30)) ((x3 + 0)) (0) ((x5 + 1)) else none else if r1 = x5 then (f_X8_value t0 (x5) (7)).bind fun r22 => if r1 = x5 then (f_X8_groupSize t0 (x5)).bind fun r24 => if r24 ≤ 1 then (f_X8_stackOf t0 (x5)).bind fun r25 => if (0 : Int32) = 0 then L_L_groups_12 t0 kont n ((x1 + 0)) ((x2 + r22)) ((x3 + 0)) (0) ((x5 + 1)) else none else (f_X8_stackOf t0 (x5)).bind fun r26 => if (0 : Int32) = 0 then L_L_groups_12 t0 kont n ((x1 + 0)) ((x2 + r22)) ((x3 + 1)) (0) ((x5 + 1)) else none else (f_X8_stackOf t0 (x5)).bind fun r23 => if (0 : Int32) = 0 then L_L_groups_12 t0 kont n ((x1 + 0)) ((x2 + r22)) ((x3 + 0)) (0) ((x5 + 1)) else none else (f_X8_value t0 (x5) (7)).bind fun r16 => (f_X8_value t0 (x5) (7)).bind fun r17 => if r1 = x5 then (f_X8_groupSize t0 (x5)).bind fun r19 => if r19 ≤ 1 then (f_X8_stackOf t0 (x5)).bind fun r20 => if (0 : Int32) = 0 then L_L_groups_12 t0 kont n ((x1 + r16)) ((x2 + r17)) ((x3 + 0)) (0) ((x5 + 1)) else none else (f_X8_stackOf t0 (x5)).bind fun r21 => if (0 : Int32) = 0 then L_L_groups_12 t0 kont n ((x1 + r16)) ((x2 + r17)) ((x3 + 1)) (0) ((x5 + 1)) else none else (f_X8_stackOf t0 (x5)).bind fun r18 => if (0 : Int32) = 0 then L_L_groups_12 t0 kont n ((x1 + r16)) ((x2 + r17)) ((x3 + 0)) (0) ((x5 + 1)) else none else if r1 = x5 then (f_X8_value t0 (x5) (7)).bind fun r9 => if r1 = x5 then (f_X8_groupSize t0 (x5)).bind fun r11 => if r11 ≤ 1 then (f_X8_stackOf t0 (x5)).bind fun r12 => if (0 : Int32) = 0 then L_L_groups_12 t0 kont n ((x1 + 0)) ((x2 + r9)) ((x3 + 0)) (0) ((x5 + 1)) else none else (f_X8_stackOf t0 (x5)).bind fun r13 => if (0 : Int32) = 0 then L_L_groups_12 t0 kont n ((x1 + 0)) ((x2 + r9)) ((x3 + 1)) (0) ((x5 + 1)) else none else (f_X8_stackOf t0 (x5)).bind fun r10 => if (0 : Int32) = 0 then L_L_groups_12 t0 kont n ((x1 + 0)) ((x2 + r9)) ((x3 + 0)) (0) ((x5 + 1)) else none else (f_X8_value t0 (x5) (7)).bind fun r3 => (f_X8_value t0 (x5) (7)).bind fun r4 => if r1 = x5 then (f_X8_groupSize t0 (x5)).bind fun r6 => if r6 ≤ 1 then (f_X8_stackOf t0 (x5)).bind fun r7 => if (0 : Int32) = 0 then L_L_groups_12 t0 kont n ((x1 + r3)) ((x2 + r4)) ((x3 + 0)) (0) ((x5 + 1)) else none else (f_X8_stackOf t0 (x5)).bind fun r8 => if (0 : Int32) = 0 then L_L_groups_12 t0 kont n ((x1 + r3)) ((x2 + r4)) ((x3 + 1)) (0) ((x5 + 1)) else none else (f_X8_stackOf t0 (x5)).bind fun r5 => if (0 : Int32) = 0 then L_L_groups_12 t0 kont n ((x1 + r3)) ((x2 + r4)) ((x3 + 0)) (0) ((x5 + 1)) else none
noncomputable def f_L_groups (t : Sx)  : Option Int32 := L_L_groups_12 t (fun z75 z76 z77 z78 z79 => if z78 = 0 then some 0 else (f_X8_wasted t ).bind fun r80 => if r80 = z75 then (f_X8_count t (4)).bind fun r81 => if r81 = z76 then (f_X8_count t (2)).bind fun r82 => if r82 = z77 then (f_X8_journalSize t ).bind fun r83 => if 24 < r83 then some 0 else some 1 else some 0 else some 0 else some 0) FU (0) (0) (0) (1) (0)
end
section
/-! pasted of the kit: counts, bits (starting texts) -/
def fb_ct (p : Nat → Bool) : Nat → Nat
  | 0 => 0
  | n + 1 => fb_ct p n + (if p n then 1 else 0)
theorem fb_ct_succ (p : Nat → Bool) (n : Nat) : fb_ct p (n + 1) = fb_ct p n + (if p n then 1 else 0) := rfl
theorem fb_ct_le (p : Nat → Bool) : ∀ n, fb_ct p n ≤ n
  | 0 => Nat.le_refl _
  | n + 1 => by
    have h := fb_ct_le p n
    rw [fb_ct_succ]
    split <;> omega
theorem fb_ct_step (p : Nat → Bool) (m : Nat) : ∀ n, fb_ct p m ≤ fb_ct p (m + n)
  | 0 => Nat.le_refl _
  | n + 1 => by
    have h := fb_ct_step p m n
    show fb_ct p m ≤ fb_ct p (m + n + 1)
    rw [fb_ct_succ]
    omega
theorem fb_ct_mono (p : Nat → Bool) {m n : Nat} (h : m ≤ n) : fb_ct p m ≤ fb_ct p n := by
  have := fb_ct_step p m (n - m)
  rwa [Nat.add_sub_cancel' h] at this
theorem fb_ct_cong {p q : Nat → Bool} : ∀ {n : Nat}, (∀ k, k < n → p k = q k) → fb_ct p n = fb_ct q n
  | 0, _ => rfl
  | n + 1, h => by
    rw [fb_ct_succ, fb_ct_succ, fb_ct_cong (fun k hk => h k (by omega)), h n (by omega)]
/-- one place changed -/
theorem fb_ct_out (p : Nat → Bool) (b : Bool) {i n : Nat} (h : n ≤ i) : fb_ct (fun k => if k = i then b else p k) n = fb_ct p n :=
  fb_ct_cong fun k hk => if_neg (by omega)
theorem fb_ct_upd (p : Nat → Bool) (b : Bool) {i : Nat} : ∀ {n : Nat}, i < n → fb_ct (fun k => if k = i then b else p k) n + (if p i then 1 else 0) = fb_ct p n + (if b then 1 else 0)
  | 0, h => absurd h (Nat.not_lt_zero i)
  | n + 1, h => by
    rw [fb_ct_succ, fb_ct_succ]
    rcases Nat.lt_or_ge i n with q | q
    · have := fb_ct_upd p b q
      have e : (if n = i then b else p n) = p n := if_neg (by omega)
      rw [e]
      omega
    · have e : i = n := by omega
      subst e
      rw [fb_ct_out p b (Nat.le_refl _)]
      simp only [if_true]
      omega
theorem fb_ct_sub {p q : Nat → Bool} : ∀ {n : Nat}, (∀ k, k < n → p k = true → q k = true) → fb_ct p n ≤ fb_ct q n
  | 0, _ => Nat.le_refl _
  | n + 1, h => by
    have h1 := fb_ct_sub (n := n) (p := p) (q := q) (fun k hk => h k (by omega))
    have h2 := h n (by omega)
    rw [fb_ct_succ, fb_ct_succ]
    cases hp : p n <;> cases hq : q n <;> simp_all <;> omega
theorem fb_ct_or {p q : Nat → Bool} : ∀ {n : Nat}, (∀ k, k < n → ¬ (p k = true ∧ q k = true)) → fb_ct (fun k => p k || q k) n = fb_ct p n + fb_ct q n
  | 0, _ => rfl
  | n + 1, h => by
    have h1 := fb_ct_or (n := n) (p := p) (q := q) (fun k hk => h k (by omega))
    have h2 := h n (by omega)
    rw [fb_ct_succ, fb_ct_succ, fb_ct_succ, h1]
    cases hp : p n <;> cases hq : q n <;> simp_all <;> omega
theorem fb_ct_not (p : Nat → Bool) : ∀ n, fb_ct p n + fb_ct (fun k => !p k) n = n
  | 0 => rfl
  | n + 1 => by
    have h := fb_ct_not p n
    rw [fb_ct_succ, fb_ct_succ]
    cases p n <;> simp <;> omega
theorem fb_ct_split (p : Nat → Bool) (m : Nat) : ∀ n, fb_ct p (m + n) = fb_ct p m + fb_ct (fun k => p (m + k)) n
  | 0 => rfl
  | n + 1 => by
    have h := fb_ct_split p m n
    show fb_ct p (m + n + 1) = _
    rw [fb_ct_succ, fb_ct_succ, h, Nat.add_assoc]
theorem fb_ct_zero {p : Nat → Bool} : ∀ {n : Nat}, fb_ct p n = 0 ↔ ∀ k, k < n → p k = false
  | 0 => ⟨fun _ k hk => absurd hk (Nat.not_lt_zero k), fun _ => rfl⟩
  | n + 1 => by
    have h := fb_ct_zero (p := p) (n := n)
    rw [fb_ct_succ]
    constructor
    · intro e k hk
      have e1 : fb_ct p n = 0 := by omega
      rcases Nat.lt_or_ge k n with q | q
      · exact h.mp e1 k q
      · have ek : k = n := by omega
        subst ek
        cases hp : p k
        · rfl
        · simp [hp] at e
    · intro a
      rw [h.mpr (fun k hk => a k (by omega)), a n (by omega)]
      rfl
theorem fb_ct_pos {p : Nat → Bool} {n : Nat} : 0 < fb_ct p n ↔ ∃ k, k < n ∧ p k = true := by
  constructor
  · intro h
    refine Classical.byContradiction fun hx => ?_
    have := fb_ct_zero.mpr (fun k hk => by
      cases hp : p k
      · rfl
      · exact absurd ⟨k, hk, hp⟩ hx : ∀ k, k < n → p k = false)
    omega
  · rintro ⟨k, hk, hp⟩
    rcases Nat.eq_zero_or_pos (fb_ct p n) with e | e
    · have := fb_ct_zero.mp e k hk
      rw [this] at hp
      cases hp
    · exact e
theorem fb_ct_all {p : Nat → Bool} {n : Nat} : fb_ct p n = n ↔ ∀ k, k < n → p k = true := by
  have h := fb_ct_not p n
  constructor
  · intro e k hk
    have z : fb_ct (fun k => !p k) n = 0 := by omega
    have := fb_ct_zero.mp z k hk
    cases hp : p k
    · simp [hp] at this
    · rfl
  · intro a
    have z : fb_ct (fun k => !p k) n = 0 := fb_ct_zero.mpr (fun k hk => by simp [a k hk])
    omega
/-- the k-th place with the property -/
theorem fb_ct_kth {p : Nat → Bool} {k : Nat} : ∀ {n : Nat}, k < fb_ct p n → ∃ i, i < n ∧ p i = true ∧ fb_ct p i = k
  | 0, h => absurd h (Nat.not_lt_zero k)
  | n + 1, h => by
    rcases Nat.lt_or_ge k (fb_ct p n) with q | q
    · obtain ⟨i, h1, h2⟩ := fb_ct_kth q
      exact ⟨i, by omega, h2⟩
    · rw [fb_ct_succ] at h
      cases hp : p n
      · simp [hp] at h; omega
      · simp [hp] at h
        exact ⟨n, by omega, hp, by omega⟩
theorem fb_ct_kth_one {p : Nat → Bool} {i j : Nat} (hi : p i = true) (hj : p j = true) (e : fb_ct p i = fb_ct p j) : i = j := by
  have key : ∀ a b : Nat, a < b → p a = true → fb_ct p a < fb_ct p b := by
    intro a b hab ha
    have h := fb_ct_mono p (show a + 1 ≤ b from hab)
    rw [fb_ct_succ, ha] at h
    simp at h
    omega
  rcases Nat.lt_trichotomy i j with q | q | q
  · have := key i j q hi; omega
  · exact q
  · have := key j i q hj; omega
/-! ===== sums over a range: one place changed, parts, bounds ===== -/
/-! ===== bits of a long that isn't negative ===== -/
theorem fb_andL (a b : Nat) : lN a &&& lN b = lN (a &&& b) := by
  apply Int64.toBitVec_inj.1
  show BitVec.ofNat 64 a &&& BitVec.ofNat 64 b = BitVec.ofNat 64 (a &&& b)
  apply BitVec.eq_of_getLsbD_eq
  intro i hi
  simp [hi]
theorem fb_orL (a b : Nat) : lN a ||| lN b = lN (a ||| b) := by
  apply Int64.toBitVec_inj.1
  show BitVec.ofNat 64 a ||| BitVec.ofNat 64 b = BitVec.ofNat 64 (a ||| b)
  apply BitVec.eq_of_getLsbD_eq
  intro i hi
  simp [hi]
theorem fb_xorL (a b : Nat) : lN a ^^^ lN b = lN (a ^^^ b) := by
  apply Int64.toBitVec_inj.1
  show BitVec.ofNat 64 a ^^^ BitVec.ofNat 64 b = BitVec.ofNat 64 (a ^^^ b)
  apply BitVec.eq_of_getLsbD_eq
  intro i hi
  simp [hi]
theorem nx_and (a b : Nat) : nI a &&& nI b = nI (a &&& b) := by
  apply Int32.toBitVec_inj.1
  show BitVec.ofNat 32 a &&& BitVec.ofNat 32 b = BitVec.ofNat 32 (a &&& b)
  apply BitVec.eq_of_getLsbD_eq
  intro i hi
  simp [hi]
theorem wb_tb (n : Nat) : (lN n).toBitVec = BitVec.ofNat 64 n := rfl
theorem wb_inj {a b : Int64} (h : a.toBitVec = b.toBitVec) : a = b := Int64.toBitVec_inj.mp h
theorem wb_tn {n : Nat} (h : n < 2 ^ 64) : (lN n).toBitVec.toNat = n := by rw [wb_tb, BitVec.toNat_ofNat, Nat.mod_eq_of_lt h]
theorem wb_of (x : Int64) : ∃ n, n < 2 ^ 64 ∧ x = lN n := ⟨x.toBitVec.toNat, x.toBitVec.isLt, wb_inj (by rw [wb_tb]; simp)⟩
theorem wb_of32 (x : Int32) : ∃ n, n < 2 ^ 32 ∧ x = nI n := ⟨x.toBitVec.toNat, x.toBitVec.isLt, Int32.toBitVec_inj.mp (by show _ = BitVec.ofNat 32 _; simp)⟩
theorem wb_c : ∀ k, k < 64 → ((nI k).toInt64 &&& 63) = lN k := by decide +kernel
theorem wb_cu : ∀ k, k < 64 → ((nI k).toInt64.toUInt64 &&& Int64.toUInt64 63) = UInt64.ofNat k := by decide +kernel
theorem wb_sm : ∀ k, k < 64 → (BitVec.ofNat 64 k).smod 64 = BitVec.ofNat 64 k := by decide +kernel
theorem wb_pw {a b : Nat} (h : a ≤ b) : 2 ^ b = 2 ^ a * 2 ^ (b - a) := by rw [← Nat.pow_add]; congr 1; omega
theorem wb_lt2 {a b : Nat} (h : a < b) : 2 ^ a < 2 ^ b := Nat.pow_lt_pow_right (by decide) h
theorem wb_mod (n : Nat) : lN n = lN (n % 2 ^ 64) := wb_inj (by rw [wb_tb, wb_tb]; apply BitVec.eq_of_toNat_eq; rw [BitVec.toNat_ofNat, BitVec.toNat_ofNat, Nat.mod_mod])
theorem wb_shr {n k : Nat} (hn : n < 2 ^ 64) (hk : k < 64) : ((lN n).toUInt64 >>> ((nI k).toInt64.toUInt64 &&& Int64.toUInt64 63)).toInt64 = lN (n / 2 ^ k) := by
  rw [wb_cu k hk]
  apply wb_inj
  apply BitVec.eq_of_toNat_eq
  show ((lN n).toUInt64 >>> UInt64.ofNat k).toNat = (BitVec.ofNat 64 _).toNat
  have h1 : (UInt64.ofNat k).toNat = k := by
    show (BitVec.ofNat 64 k).toNat = k
    rw [BitVec.toNat_ofNat, Nat.mod_eq_of_lt (by omega)]
  have h2 : (lN n).toUInt64.toNat = n := wb_tn hn
  rw [UInt64.toNat_shiftRight, h1, h2, Nat.mod_eq_of_lt hk, Nat.shiftRight_eq_div_pow, BitVec.toNat_ofNat, Nat.mod_eq_of_lt (Nat.lt_of_le_of_lt (Nat.div_le_self _ _) hn)]
theorem wb_shl (n : Nat) {k : Nat} (hk : k < 64) : lN n <<< ((nI k).toInt64 &&& 63) = lN (n * 2 ^ k) := by
  rw [wb_c k hk]
  apply wb_inj
  rw [Int64.toBitVec_shiftLeft, wb_tb, wb_tb, wb_tb, wb_sm k hk]
  apply BitVec.eq_of_toNat_eq
  rw [BitVec.shiftLeft_eq', BitVec.toNat_shiftLeft, BitVec.toNat_ofNat, BitVec.toNat_ofNat, BitVec.toNat_ofNat, Nat.mod_eq_of_lt (show k < 2 ^ 64 by omega), Nat.shiftLeft_eq, Nat.mul_mod, Nat.mod_mod, ← Nat.mul_mod]
theorem wb_and {a b : Nat} (ha : a < 2 ^ 64) (hb : b < 2 ^ 64) : lN a &&& lN b = lN (a &&& b) := by
  apply wb_inj
  rw [Int64.toBitVec_and, wb_tb, wb_tb, wb_tb]
  apply BitVec.eq_of_toNat_eq
  rw [BitVec.toNat_and, BitVec.toNat_ofNat, BitVec.toNat_ofNat, BitVec.toNat_ofNat, Nat.mod_eq_of_lt ha, Nat.mod_eq_of_lt hb, Nat.mod_eq_of_lt (Nat.and_lt_two_pow _ hb)]
theorem wb_or {a b : Nat} (ha : a < 2 ^ 64) (hb : b < 2 ^ 64) : lN a ||| lN b = lN (a ||| b) := by
  apply wb_inj
  rw [Int64.toBitVec_or, wb_tb, wb_tb, wb_tb]
  apply BitVec.eq_of_toNat_eq
  rw [BitVec.toNat_or, BitVec.toNat_ofNat, BitVec.toNat_ofNat, BitVec.toNat_ofNat, Nat.mod_eq_of_lt ha, Nat.mod_eq_of_lt hb, Nat.mod_eq_of_lt (Nat.or_lt_two_pow ha hb)]
/-! ===== LAYER 2: numbers alone. Bits of a long, small numbers as ints ===== -/
def b2 (b : Bool) : Int32 := if b = true then 1 else 0
theorem b2_eq0 (b : Bool) : (b2 b = 0) ↔ b = false := by cases b <;> simp [b2]
theorem b2_eq1 (b : Bool) : (b2 b = 1) ↔ b = true := by cases b <;> simp [b2]
theorem b2_inj {a b : Bool} : (b2 a = b2 b) ↔ a = b := by cases a <;> cases b <;> simp [b2]
theorem b2_t : b2 true = 1 := rfl
theorem b2_f : b2 false = 0 := rfl
theorem bF {α : Type} {A B : α} : (if b2 false = 0 then A else B) = A := if_pos rfl
theorem bT {α : Type} {A B : α} : (if b2 true = 0 then A else B) = B := if_neg (by decide)
theorem gz_b2 (b : Bool) : gz (b2 b) := by cases b <;> simp [gz, b2]
theorem ite_b2 (b : Bool) : (if b = true then (1 : Int32) else 0) = b2 b := rfl
theorem bd_eq {α R : Type} (x : α) (k : α → Option R) : bd x k = k x := rfl
def hb (x : Int64) (i : Nat) : Bool := x.toBitVec.getLsbD i
theorem hb_ext {x y : Int64} (h : ∀ i, i < 64 → hb x i = hb y i) : x = y := Int64.toBitVec_inj.mp (BitVec.eq_of_getLsbD_eq (fun i hi => h i hi))
theorem hb_or (x y : Int64) (i : Nat) : hb (x ||| y) i = (hb x i || hb y i) := by unfold hb; rw [Int64.toBitVec_or, BitVec.getLsbD_or]
theorem hb_and (x y : Int64) (i : Nat) : hb (x &&& y) i = (hb x i && hb y i) := by unfold hb; rw [Int64.toBitVec_and, BitVec.getLsbD_and]
theorem hb_xor (x y : Int64) (i : Nat) : hb (x ^^^ y) i = (hb x i ^^ hb y i) := by unfold hb; rw [Int64.toBitVec_xor, BitVec.getLsbD_xor]
theorem hb_big {x : Int64} {i : Nat} (h : 64 ≤ i) : hb x i = false := BitVec.getLsbD_of_ge _ _ h
theorem hb_0 (i : Nat) : hb 0 i = false := BitVec.getLsbD_zero
theorem hb_m1 {i : Nat} (h : i < 64) : hb (-1) i = true := (by decide +kernel : ∀ i, i < 64 → hb (-1) i = true) i h
theorem hb_1 {i : Nat} (h : i < 64) : hb 1 i = decide (i = 0) := (by decide +kernel : ∀ i, i < 64 → hb 1 i = decide (i = 0)) i h
theorem hb_not (x : Int64) {i : Nat} (h : i < 64) : hb (x ^^^ (-1)) i = !hb x i := by rw [hb_xor, hb_m1 h, Bool.xor_true]
theorem hb_ne0 {x : Int64} (h : x ≠ 0) : ∃ i, i < 64 ∧ hb x i = true := Classical.byContradiction fun q => h (hb_ext fun i hi => by
  rw [hb_0]
  cases e : hb x i with
  | false => rfl
  | true => exact absurd ⟨i, hi, e⟩ q)
theorem nu_wc : ∀ k, k < 64 → ((nI k).toInt64 &&& 63) = lN k := by decide +kernel
theorem nu_wu : ∀ k, k < 64 → ((nI k).toInt64.toUInt64 &&& Int64.toUInt64 63) = UInt64.ofNat k := by decide +kernel
theorem nu_sm : ∀ k, k < 64 → ((lN k).toBitVec.smod 64).toNat = k := by decide +kernel
theorem hb_ushL (x : Int64) {k : Nat} (hk : k < 64) (i : Nat) : hb (ushL x (nI k)) i = hb x (k + i) := by
  unfold hb ushL
  rw [nu_wu k hk]
  have e : (x.toUInt64 >>> UInt64.ofNat k).toInt64.toBitVec = x.toBitVec >>> k := by
    apply BitVec.eq_of_toNat_eq
    show (x.toUInt64 >>> UInt64.ofNat k).toNat = _
    rw [UInt64.toNat_shiftRight, show (UInt64.ofNat k).toNat = k from Nat.mod_eq_of_lt (by omega), Nat.mod_eq_of_lt hk, BitVec.toNat_ushiftRight]
    rfl
  rw [e, BitVec.getLsbD_ushiftRight]
theorem hb_shrL0 (x : Int64) {k : Nat} (hk : k < 64) : hb (shrL x (nI k)) 0 = hb x k := by
  unfold hb shrL
  rw [nu_wc k hk, Int64.toBitVec_shiftRight, BitVec.sshiftRight_eq', nu_sm k hk, BitVec.getLsbD_sshiftRight]
  simp [hk]
theorem hb_shlL (x : Int64) {k : Nat} (hk : k < 64) {i : Nat} (hi : i < 64) : hb (shlL x (nI k)) i = (decide (k ≤ i) && hb x (i - k)) := by
  unfold hb shlL
  rw [nu_wc k hk, Int64.toBitVec_shiftLeft, BitVec.shiftLeft_eq', nu_sm k hk, BitVec.getLsbD_shiftLeft]
  by_cases h : k ≤ i
  · simp [h, hi]
  · simp [h]
theorem hb_only {k i : Nat} (hk : k < 64) (hi : i < 64) : hb (shlL 1 (nI k)) i = decide (i = k) := by
  rw [hb_shlL 1 hk hi, hb_1 (by omega)]
  by_cases h : i = k
  · subst h; simp
  · by_cases h2 : k ≤ i
    · simp [h, h2]; omega
    · simp [h, h2]
theorem l_and1 (x : Int64) : x &&& 1 = if hb x 0 = true then 1 else 0 := by
  apply hb_ext
  intro i hi
  rw [hb_and, hb_1 hi]
  by_cases h : i = 0
  · subst h
    cases hb x 0
    · simp [hb_0]
    · simp [hb_1 (show 0 < 64 by decide)]
  · cases hb x 0
    · simp [h, hb_0]
    · simp [h, hb_1 hi]
theorem u_bit (x : Int64) {k : Nat} (hk : k < 64) : (ushL x (nI k) &&& 1) = if hb x k = true then 1 else 0 := by
  rw [l_and1, hb_ushL x hk 0, Nat.add_zero]
theorem s_bit (x : Int64) {k : Nat} (hk : k < 64) : (shrL x (nI k) &&& 1) = if hb x k = true then 1 else 0 := by
  rw [l_and1, hb_shrL0 x hk]
theorem s_bitI (x : Int64) {k : Nat} (hk : k < 64) : Int64.toInt32 (shrL x (nI k) &&& 1) = b2 (hb x k) := by
  rw [s_bit x hk]
  cases hb x k <;> rfl
-- small numbers as ints
theorem nI_le_iff {a b : Nat} (ha : a < 2 ^ 31) (hb : b < 2 ^ 31) : (nI a ≤ nI b) ↔ a ≤ b := by
  constructor
  · intro h
    rcases Nat.lt_or_ge b a with q | q
    · exact absurd h (nI_ge q ha)
    · exact q
  · intro h; exact nI_le h hb
theorem nI_lt_iff {a b : Nat} (ha : a < 2 ^ 31) (hb : b < 2 ^ 31) : (nI a < nI b) ↔ a < b := by
  constructor
  · intro h
    rcases Nat.lt_or_ge a b with q | q
    · exact q
    · exact absurd h (nI_nlt q ha)
  · intro h; exact nI_lt h hb
theorem nI_eq_iff {a b : Nat} (ha : a < 2 ^ 31) (hb : b < 2 ^ 31) : (nI a = nI b) ↔ a = b := by
  constructor
  · intro h
    have := congrArg Int32.toNatClampNeg h
    rwa [nI_clamp ha, nI_clamp hb] at this
  · intro h; rw [h]
theorem ix_nI {n : Nat} (h : n < 2 ^ 31) : ix (nI n) = n := nI_clamp h
theorem vin_nI {n N : Nat} (h : n < N) (hN : N < 2 ^ 31) : vp_in (nI n) N := nI_in h hN
theorem nI_mul (a b : Nat) : nI a * nI b = nI (a * b) := by
  unfold nI; exact (Int32.ofNat_mul a b).symm
theorem nI_lit1 (a : Nat) : nI a + 1 = nI (a + 1) := (nI_succ a).symm
/-- an int from lo to hi, as a number -/
theorem nI_frm {x : Int32} {n : Nat} (h0 : 0 ≤ x) (h1 : x ≤ nI n) (hn : n < 2 ^ 31) : ∃ k, k ≤ n ∧ x = nI k := by
  have a : (0 : Int) ≤ x.toInt := by
    have := Int32.le_iff_toInt_le.mp h0
    simpa using this
  have b : x.toInt ≤ (n : Int) := by
    have := Int32.le_iff_toInt_le.mp h1
    rwa [nI_toInt hn] at this
  refine ⟨x.toInt.toNat, by omega, ?_⟩
  have e : ((x.toInt.toNat : Nat) : Int) = x.toInt := by omega
  have : nI x.toInt.toNat = Int32.ofInt ((x.toInt.toNat : Nat) : Int) := rfl
  rw [this, e, Int32.ofInt_toInt]
theorem i_lt (a b : Int32) : a < b ↔ a.toInt < b.toInt := Int32.lt_iff_toInt_lt
theorem i_le (a b : Int32) : a ≤ b ↔ a.toInt ≤ b.toInt := Int32.le_iff_toInt_le
theorem i_eq (a b : Int32) : a = b ↔ a.toInt = b.toInt := Int32.toInt_inj.symm
theorem i_rng (x : Int32) : -2147483648 ≤ x.toInt ∧ x.toInt < 2147483648 := ⟨by have := Int32.le_toInt x; omega, by have := Int32.toInt_lt x; omega⟩
-- the small functions of both sides
/-- lo to hi -/
def inr (x lo hi : Int32) : Bool := decide (lo ≤ x) && decide (x ≤ hi)
theorem inr_iff {x lo hi : Int32} : inr x lo hi = true ↔ lo ≤ x ∧ x ≤ hi := by simp [inr]
theorem isWithin_eq (t : Sx) (x lo hi : Int32) : f_X8_isWithin t x lo hi = some (b2 (inr x lo hi)) := by
  unfold f_X8_isWithin inr
  by_cases h1 : x < lo
  · have : ¬ lo ≤ x := by rw [i_le, ← Int.not_lt]; rw [i_lt] at h1; omega
    simp [h1, this, b2]
  · have g1 : lo ≤ x := by rw [i_lt] at h1; rw [i_le]; omega
    by_cases h2 : hi < x
    · have : ¬ x ≤ hi := by rw [i_lt] at h2; rw [i_le]; omega
      simp [h1, h2, this, b2]
    · have g2 : x ≤ hi := by rw [i_lt] at h2; rw [i_le]; omega
      simp [h1, h2, g1, g2, b2]
theorem in_eq (t : Sx) (x lo hi : Int32) : f_X9_in t x lo hi = some (b2 (inr x lo hi)) := isWithin_eq t x lo hi
theorem isSource_eq (t : Sx) (x : Int32) : f_X8_isSource t x = some (b2 (inr x 0 2)) := by
  unfold f_X8_isSource
  rw [isWithin_eq, Option.bind_some, gd_pos (gz_b2 _)]
theorem holds_eq (t : Sx) (x : Int64) {k : Nat} (hk : k < 64) : f_X8_holds t x (nI k) = some (b2 (hb x k)) := by
  unfold f_X8_holds
  rw [u_bit x hk]
  cases hb x k
  · rw [if_neg (by rw [lg_cmp_eq]; decide)]; rfl
  · rw [if_pos (by rw [lg_cmp_eq]; decide)]; rfl
theorem inr_nI {k n : Nat} (hk : k < 2 ^ 31) (hn : n < 2 ^ 31) : inr (nI k) 0 (nI n) = decide (k ≤ n) := by
  have a : (0 : Int32) ≤ nI k := nI_pos' hk
  by_cases h : k ≤ n
  · simp [inr, a, (nI_le_iff hk hn).mpr h, h]
  · have : ¬ nI k ≤ nI n := fun q => h ((nI_le_iff hk hn).mp q)
    simp [inr, this, h]
theorem inr_out {x : Int32} {n : Nat} (hn : n < 2 ^ 31) (h : inr x 0 (nI n) = true) : ∃ k, k ≤ n ∧ x = nI k := nI_frm (inr_iff.mp h).1 (inr_iff.mp h).2 hn
/-- a file's number: which place it names, if its bit is there -/
def fil (p : Nat → Bool) (x : Int32) : Bool := inr x 0 39 && p (ix x)
theorem fil_nI {p : Nat → Bool} {k : Nat} (hk : k < 40) : fil p (nI k) = p k := by
  unfold fil
  rw [show (39 : Int32) = nI 39 from rfl, inr_nI (by omega) (by decide), ix_nI (by omega), decide_eq_true (by omega)]
  rfl
theorem fil_out {p : Nat → Bool} {x : Int32} (h : fil p x = true) : ∃ k, k < 40 ∧ x = nI k ∧ p k = true := by
  unfold fil at h
  rw [Bool.and_eq_true] at h
  obtain ⟨k, hk, rfl⟩ := inr_out (n := 39) (by decide) h.1
  refine ⟨k, by omega, rfl, ?_⟩
  rw [ix_nI (by omega)] at h
  exact h.2
theorem fil_cong {p q : Nat → Bool} (h : ∀ k, k < 40 → p k = q k) (x : Int32) : fil p x = fil q x := by
  unfold fil
  cases e : inr x 0 39 with
  | false => rfl
  | true =>
    obtain ⟨k, hk, rfl⟩ := inr_out (n := 39) (by decide) e
    rw [ix_nI (by omega), h k (by omega)]
theorem has_eq (t : Sx) (x : Int32) : f_X1_has t x = some (b2 (fil (hb (gL t 8)) x)) := by
  unfold f_X1_has fil
  rw [isWithin_eq, Option.bind_some]
  cases e : inr x 0 39 with
  | false => rfl
  | true =>
    obtain ⟨k, hk, rfl⟩ := inr_out (n := 39) (by decide) e
    rw [if_neg (by decide), holds_eq t _ (by omega), Option.bind_some, ix_nI (by omega)]
    cases hb (gL t 8) k <;> rfl
def iF (t : Sx) (f : Nat) : Bool := decide (gA t 23 f ≠ 0)
theorem there_eq (t : Sx) (x : Int32) : f_X9_there t x = some (b2 (fil (iF t) x)) := by
  unfold f_X9_there fil
  rw [in_eq, Option.bind_some]
  cases e : inr x 0 39 with
  | false => rfl
  | true =>
    obtain ⟨k, hk, rfl⟩ := inr_out (n := 39) (by decide) e
    rw [if_neg (by decide), gd_pos (vin_nI (by omega) (by decide)), ix_nI (by omega)]
    unfold iF
    by_cases h : gA t 23 k = 0 <;> simp [h, b2]
/-! ===== Long.bitCount ===== -/
def vln (w : Nat) : (Nat → Nat) → Nat → Nat
  | _, 0 => 0
  | c, k + 1 => c 0 + 2 ^ w * vln w (fun j => c (j + 1)) k
theorem vln_cong (w : Nat) : ∀ (k : Nat) (c d : Nat → Nat), (∀ j, j < k → c j = d j) → vln w c k = vln w d k
  | 0, _, _, _ => rfl
  | k + 1, c, d, h => by
    rw [vln, vln, h 0 (by omega), vln_cong w k (fun j => c (j + 1)) (fun j => d (j + 1)) (fun j hj => h (j + 1) (by omega))]
theorem vln_add (w : Nat) : ∀ (k : Nat) (c d : Nat → Nat), vln w c k + vln w d k = vln w (fun j => c j + d j) k
  | 0, _, _ => rfl
  | k + 1, c, d => by
    rw [vln, vln, vln, ← vln_add w k, Nat.mul_add]
    omega
theorem vln_and {k a b p q : Nat} (ha : a < 2 ^ k) (hb : b < 2 ^ k) : (a + 2 ^ k * p) &&& (b + 2 ^ k * q) = (a &&& b) + 2 ^ k * (p &&& q) := by
  have hp : 0 < 2 ^ k := Nat.two_pow_pos k
  have h1 : ((a + 2 ^ k * p) &&& (b + 2 ^ k * q)) % 2 ^ k = a &&& b := by
    rw [Nat.and_mod_two_pow, Nat.add_mul_mod_self_left, Nat.add_mul_mod_self_left, Nat.mod_eq_of_lt ha, Nat.mod_eq_of_lt hb]
  have h2 : ((a + 2 ^ k * p) &&& (b + 2 ^ k * q)) / 2 ^ k = p &&& q := by
    rw [Nat.and_div_two_pow, Nat.add_mul_div_left _ _ hp, Nat.add_mul_div_left _ _ hp, Nat.div_eq_of_lt ha, Nat.div_eq_of_lt hb, Nat.zero_add, Nat.zero_add]
  have h3 := Nat.mod_add_div ((a + 2 ^ k * p) &&& (b + 2 ^ k * q)) (2 ^ k)
  rw [h1, h2] at h3
  exact h3.symm
theorem vln_low {w : Nat} : ∀ (k : Nat) (c : Nat → Nat), (∀ j, j < 2 * k → c j < 2 ^ w) → vln w c (2 * k) &&& vln (2 * w) (fun _ => 2 ^ w - 1) k = vln (2 * w) (fun j => c (2 * j)) k
  | 0, _, _ => by simp [vln]
  | k + 1, c, h => by
    have hp : 0 < 2 ^ w := Nat.two_pow_pos w
    have e2 : 2 ^ (2 * w) = 2 ^ w * 2 ^ w := by rw [← Nat.pow_add]; congr 1; omega
    have h0 := h 0 (by omega)
    have h1 := h 1 (by omega)
    rw [show 2 * (k + 1) = 2 * k + 1 + 1 by omega, vln, vln, vln, vln]
    have ih := vln_low (w := w) k (fun j => c (j + 1 + 1)) (fun j hj => h (j + 2) (by omega))
    rw [Nat.mul_add, ← Nat.mul_assoc, ← e2, ← Nat.add_assoc]
    have hlt : c 0 + 2 ^ w * c (0 + 1) < 2 ^ (2 * w) := by
      rw [e2]
      have : 2 ^ w * c 1 ≤ 2 ^ w * (2 ^ w - 1) := Nat.mul_le_mul_left _ (by omega)
      rw [Nat.mul_sub, Nat.mul_one] at this
      have : 2 ^ w ≤ 2 ^ w * 2 ^ w := Nat.le_mul_of_pos_left _ hp
      show c 0 + 2 ^ w * c 1 < _
      omega
    have hm : 2 ^ w - 1 < 2 ^ (2 * w) := by
      rw [e2]
      have : 2 ^ w ≤ 2 ^ w * 2 ^ w := Nat.le_mul_of_pos_left _ hp
      omega
    rw [vln_and hlt hm, Nat.and_two_pow_sub_one_eq_mod, Nat.add_mul_mod_self_left, Nat.mod_eq_of_lt h0, ih]
    rfl
theorem vln_div {w : Nat} : ∀ (k : Nat) (c : Nat → Nat), c 0 < 2 ^ w → vln w c (k + 1) / 2 ^ w = vln w (fun j => if j < k then c (j + 1) else 0) (k + 1) := by
  intro k c h
  have hp : 0 < 2 ^ w := Nat.two_pow_pos w
  rw [vln, Nat.add_mul_div_left _ _ hp, Nat.div_eq_of_lt h, Nat.zero_add]
  have : ∀ (k : Nat) (d : Nat → Nat), vln w d k = vln w (fun j => if j < k then d j else 0) (k + 1) := by
    intro k
    induction k with
    | zero => intro d; simp [vln]
    | succ k ih =>
      intro d
      rw [vln, vln, ih (fun j => d (j + 1))]
      simp only [Nat.zero_lt_succ, if_true, Nat.add_lt_add_iff_right]
  rw [this k]
theorem vln_high {w : Nat} (k : Nat) (c : Nat → Nat) (h : ∀ j, j < 2 * k → c j < 2 ^ w) (hk : 0 < k) : (vln w c (2 * k) / 2 ^ w) &&& vln (2 * w) (fun _ => 2 ^ w - 1) k = vln (2 * w) (fun j => c (2 * j + 1)) k := by
  obtain ⟨q, hq⟩ : ∃ q, 2 * k = q + 1 := ⟨2 * k - 1, by omega⟩
  rw [hq, vln_div q c (h 0 (by omega)), ← hq, vln_low k _ (fun j hj => ?_)]
  · exact vln_cong _ k _ _ (fun j hj => by rw [if_pos (by omega)])
  · by_cases e : j < q
    · rw [if_pos e]; exact h (j + 1) (by omega)
    · rw [if_neg e]; exact Nat.two_pow_pos w
theorem vln_bits : ∀ (k n : Nat), n % 2 ^ k = vln 1 (fun i => n / 2 ^ i % 2) k
  | 0, n => by simp [vln, Nat.mod_one]
  | k + 1, n => by
    rw [vln]
    have ih := vln_bits k (n / 2)
    have e : (fun j => n / 2 ^ (j + 1) % 2) = fun i => n / 2 / 2 ^ i % 2 := by
      funext j
      rw [Nat.div_div_eq_div_mul, Nat.pow_succ, Nat.mul_comm]
    rw [e, ← ih, Nat.pow_succ, Nat.mul_comm (2 ^ k) 2, Nat.mod_mul]
    simp
def bcA (n : Nat) : Nat := n - (n / 2 &&& 6148914691236517205)
def bcB (v : Nat) : Nat := (v &&& 3689348814741910323) + (v / 4 &&& 3689348814741910323)
def bcC (v : Nat) : Nat := (v + v / 16) &&& 1085102592571150095
theorem bc_sum (n : Nat) (hn : n < 2 ^ 64) : ∃ c : Nat → Nat, (∀ j, c j ≤ 8) ∧ bcC (bcB (bcA n)) = vln 8 c 8 ∧ c 0 + c 1 + c 2 + c 3 + c 4 + c 5 + c 6 + c 7 = fb_ct (fun i => n.testBit i) 64 ∧ bcA n < 2 ^ 64 ∧ bcB (bcA n) < 2 ^ 63 := by
  have hbit : ∀ i, n / 2 ^ i % 2 < 2 ^ 1 := fun i => Nat.mod_lt _ (by decide)
  have e1 : n = vln 1 (fun i => n / 2 ^ i % 2) 64 := by rw [← vln_bits, Nat.mod_eq_of_lt hn]
  generalize hb : (fun i => n / 2 ^ i % 2) = b at e1 hbit
  have hb1 : ∀ i, b i < 2 ^ 1 := fun i => by rw [← hb]; exact hbit i
  have m1 : (6148914691236517205 : Nat) = vln (2 * 1) (fun _ => 2 ^ 1 - 1) 32 := by decide +kernel
  have m2 : (3689348814741910323 : Nat) = vln (2 * 2) (fun _ => 2 ^ 2 - 1) 16 := by decide +kernel
  have m3 : (1085102592571150095 : Nat) = vln (2 * 4) (fun _ => 2 ^ 4 - 1) 8 := by decide +kernel
  have l1 := vln_low (w := 1) 32 b (fun j _ => hb1 j)
  have h1 := vln_high (w := 1) 32 b (fun j _ => hb1 j) (by decide)
  have a1 : bcA n = vln 2 (fun j => b (2 * j) + b (2 * j + 1)) 32 := by
    unfold bcA
    have hs : ∀ (k : Nat) (c : Nat → Nat), vln 1 c (2 * k) = vln 2 (fun j => c (2 * j)) k + 2 * vln 2 (fun j => c (2 * j + 1)) k := by
      intro k
      induction k with
      | zero => intro c; rfl
      | succ k ih =>
        intro c
        rw [show 2 * (k + 1) = 2 * k + 1 + 1 by omega, vln, vln, vln, vln, ih]
        simp only [Nat.mul_add, Nat.reducePow, Nat.mul_zero, Nat.zero_add, Nat.mul_one, show ∀ j, 2 * (j + 1) = 2 * j + 1 + 1 from fun j => by omega]
        omega
    have e2 := hs 32 b
    rw [m1, show n / 2 = vln 1 b (2 * 32) / 2 ^ 1 by rw [e1], h1, ← vln_add]
    have e3 : n = vln 1 b (2 * 32) := e1
    rw [e2] at e3
    show n - vln 2 (fun j => b (2 * j + 1)) 32 = _
    omega
  have hc2 : ∀ j, b (2 * j) + b (2 * j + 1) < 2 ^ 2 := fun j => by have := hb1 (2 * j); have := hb1 (2 * j + 1); omega
  generalize hd : (fun j => b (2 * j) + b (2 * j + 1)) = d at a1
  have hd2 : ∀ j, d j ≤ 2 := fun j => by rw [← hd]; have := hb1 (2 * j); have := hb1 (2 * j + 1); show b (2 * j) + b (2 * j + 1) ≤ 2; omega
  have l2 := vln_low (w := 2) 16 d (fun j _ => by have := hd2 j; omega)
  have h2 := vln_high (w := 2) 16 d (fun j _ => by have := hd2 j; omega) (by decide)
  have a2 : bcB (bcA n) = vln 4 (fun j => d (2 * j) + d (2 * j + 1)) 16 := by
    unfold bcB
    rw [m2, a1]
    show (vln 2 d (2 * 16) &&& _) + (vln 2 d (2 * 16) / 2 ^ 2 &&& _) = _
    rw [l2, h2, vln_add]
  generalize he : (fun j => d (2 * j) + d (2 * j + 1)) = f at a2
  have hf : ∀ j, f j ≤ 4 := fun j => by rw [← he]; have := hd2 (2 * j); have := hd2 (2 * j + 1); show d (2 * j) + d (2 * j + 1) ≤ 4; omega
  have a3 : bcC (bcB (bcA n)) = vln 8 (fun j => f (2 * j) + f (2 * j + 1)) 8 := by
    unfold bcC
    have hdv : vln 4 f 16 / 2 ^ 4 = vln 4 (fun j => if j < 15 then f (j + 1) else 0) 16 := vln_div 15 f (by have := hf 0; omega)
    have g : bcB (bcA n) + bcB (bcA n) / 16 = vln 4 (fun j => f j + if j < 15 then f (j + 1) else 0) (2 * 8) := by
      rw [a2, show (16 : Nat) = 2 ^ 4 by decide, hdv, vln_add]
    rw [g, m3, vln_low (w := 4) 8 _ (fun j _ => by
      have := hf j
      have := hf (j + 1)
      show (f j + if j < 15 then f (j + 1) else 0) < 2 ^ 4
      split <;> omega)]
    exact vln_cong _ 8 _ _ (fun j hj => by rw [if_pos (by omega)])
  have hlt : ∀ (w k : Nat) (c : Nat → Nat), (∀ j, c j < 2 ^ w) → vln w c k < 2 ^ (w * k) := by
    intro w k
    induction k with
    | zero => intro c _; simp [vln]
    | succ k ih =>
      intro c hc
      rw [vln, Nat.mul_add, Nat.mul_one, Nat.add_comm (w * k), Nat.pow_add]
      have i2 := ih (fun j => c (j + 1)) (fun j => hc (j + 1))
      have h7 := Nat.mul_le_mul_left (2 ^ w) (Nat.succ_le_of_lt i2)
      rw [Nat.mul_succ] at h7
      have := hc 0
      omega
  refine ⟨fun j => f (2 * j) + f (2 * j + 1), fun j => by have := hf (2 * j); have := hf (2 * j + 1); show f (2 * j) + f (2 * j + 1) ≤ 8; omega, a3, ?_, ?_, ?_⟩
  · have tb : ∀ i, (if n.testBit i = true then 1 else 0) = b i := fun i => by
      rw [← hb, Nat.testBit_eq_decide_div_mod_eq]
      have := Nat.mod_lt (n / 2 ^ i) (show 0 < 2 by decide)
      by_cases q : n / 2 ^ i % 2 = 1
      · simp [q]
      · simp [q]; omega
    simp only [fb_ct, tb, ← he, ← hd, Nat.reduceMul, Nat.reduceAdd, Nat.mul_zero, Nat.zero_add]
    omega
  · rw [a1]
    exact hlt 2 32 d (fun j => by have := hd2 j; omega)
  · rw [a2]
    have : vln 4 f 16 < 2 ^ 63 := by
      have h15 := hlt 4 15 f (fun j => by have := hf j; omega)
      have hs : ∀ (k : Nat) (c : Nat → Nat), vln 4 c (k + 1) = vln 4 c k + c k * 2 ^ (4 * k) := by
        intro k
        induction k with
        | zero => intro c; simp [vln]
        | succ k ih =>
          intro c
          rw [vln, ih, vln]
          rw [show 4 * (k + 1) = 4 + 4 * k by omega, Nat.pow_add, Nat.mul_add, Nat.mul_left_comm]
          omega
      rw [hs 15]
      have := hf 15
      omega
    exact this
theorem hb_lN {n : Nat} (i : Nat) (hi : i < 64) : hb (lN n) i = n.testBit i := by
  unfold hb
  show (BitVec.ofNat 64 n).getLsbD i = _
  rw [BitVec.getLsbD_ofNat]
  simp [hi]
theorem dv_lo {a b k : Nat} (h : a < k) : (a + k * b) / k = b := by
  rw [Nat.add_mul_div_left _ _ (by omega), Nat.div_eq_of_lt h, Nat.zero_add]
theorem bc_fin {v w y a b c d e f g h : Nat} (hv : v = a + 256 * (b + 256 * (c + 256 * (d + 256 * (e + 256 * (f + 256 * (g + 256 * h))))))) (hw : w = v + v / 2 ^ 8) (hy : y = w + w / 2 ^ 16) (ha : a ≤ 8) (hb : b ≤ 8) (hc : c ≤ 8) (hd : d ≤ 8) (he : e ≤ 8) (hf : f ≤ 8) (hg : g ≤ 8) (hh : h ≤ 8) : (y + y / 2 ^ 32) % 128 = a + b + c + d + e + f + g + h := by
  have d1 : v / 2 ^ 8 = b + 256 * (c + 256 * (d + 256 * (e + 256 * (f + 256 * (g + 256 * h))))) := by
    rw [hv]; exact dv_lo (by omega)
  have d2 : w = ((a + b) + 256 * (b + c)) + 65536 * ((c + d) + 256 * ((d + e) + 256 * ((e + f) + 256 * ((f + g) + 256 * ((g + h) + 256 * h))))) := by
    rw [hw, d1, hv]; clear hv hw hy d1; omega
  have d3 : w / 2 ^ 16 = (c + d) + 256 * ((d + e) + 256 * ((e + f) + 256 * ((f + g) + 256 * ((g + h) + 256 * h)))) := by
    rw [d2]; exact dv_lo (by clear hv hw hy d1 d2; omega)
  have d4 : y = ((a + b + c + d) + 256 * (b + c + d + e) + 65536 * (c + d + e + f) + 16777216 * (d + e + f + g)) + 4294967296 * ((e + f + g + h) + 256 * ((f + g + h) + 256 * ((g + h) + 256 * h))) := by
    rw [hy, d3, d2]; clear hv hw hy d1 d2 d3; omega
  have d5 : y / 2 ^ 32 = (e + f + g + h) + 256 * ((f + g + h) + 256 * ((g + h) + 256 * h)) := by
    rw [d4]; exact dv_lo (by clear hv hw hy d1 d2 d3 d4; omega)
  have d6 : y + y / 2 ^ 32 = (a + b + c + d + e + f + g + h) + 128 * (2 * ((b + c + d + e) + 256 * (c + d + e + f) + 65536 * (d + e + f + g)) + 33554432 * ((e + f + g + h) + 256 * ((f + g + h) + 256 * ((g + h) + 256 * h))) + 2 * ((f + g + h) + 256 * ((g + h) + 256 * h))) := by
    rw [d5, d4]; clear hv hw hy d1 d2 d3 d4 d5; omega
  rw [d6, Nat.add_mul_mod_self_left, Nat.mod_eq_of_lt (by clear hv hw hy d1 d2 d3 d4 d5 d6; omega)]
theorem bitCount_eq (t : Sx) (x : Int64) : f_J13_bitCount_95d88 t x = some (nI (fb_ct (hb x) 64)) := by
  obtain ⟨n, hn, rfl⟩ := wb_of x
  obtain ⟨c, hc, e1, e2, e3, e4⟩ := bc_sum n hn
  have hle : (n / 2 &&& 6148914691236517205) ≤ n := Nat.le_trans Nat.and_le_left (Nat.div_le_self _ _)
  unfold f_J13_bitCount_95d88 ushL
  simp only [bd_eq]
  have s1 := wb_shr (n := n) (k := 1) hn (by decide)
  have s2 := wb_shr (n := bcA n) (k := 2) e3 (by decide)
  have s3 := wb_shr (n := bcB (bcA n)) (k := 4) (by omega) (by decide)
  have A1 : lN n - (((lN n).toUInt64 >>> ((1 : Int32).toInt64.toUInt64 &&& Int64.toUInt64 63)).toInt64 &&& 6148914691236517205) = lN (bcA n) := by
    rw [show (1 : Int32) = nI 1 from rfl, s1, show (6148914691236517205 : Int64) = lN 6148914691236517205 from rfl, fb_andL, lN_sub hle]
    rfl
  rw [A1]
  have A2 : (lN (bcA n) &&& 3689348814741910323) + ((((lN (bcA n)).toUInt64 >>> ((2 : Int32).toInt64.toUInt64 &&& Int64.toUInt64 63)).toInt64) &&& 3689348814741910323) = lN (bcB (bcA n)) := by
    rw [show (2 : Int32) = nI 2 from rfl, s2, show (3689348814741910323 : Int64) = lN 3689348814741910323 from rfl, fb_andL, fb_andL, lN_add]
    rfl
  rw [A2]
  have A3 : (lN (bcB (bcA n)) + ((lN (bcB (bcA n))).toUInt64 >>> ((4 : Int32).toInt64.toUInt64 &&& Int64.toUInt64 63)).toInt64) &&& 1085102592571150095 = lN (vln 8 c 8) := by
    rw [show (4 : Int32) = nI 4 from rfl, s3, lN_add, show (1085102592571150095 : Int64) = lN 1085102592571150095 from rfl, fb_andL, ← e1]
    rfl
  rw [A3]
  generalize hv : vln 8 c 8 = v
  have hve : v = c 0 + 256 * (c 1 + 256 * (c 2 + 256 * (c 3 + 256 * (c 4 + 256 * (c 5 + 256 * (c 6 + 256 * c 7)))))) := by
    rw [← hv]
    simp only [vln, Nat.reducePow, Nat.mul_zero, Nat.add_zero, Nat.zero_add, Nat.reduceAdd]
  have k0 := hc 0; have k1 := hc 1; have k2 := hc 2; have k3 := hc 3; have k4 := hc 4; have k5 := hc 5; have k6 := hc 6; have k7 := hc 7
  have s4 := wb_shr (n := v) (k := 8) (by omega) (by decide)
  rw [show (8 : Int32) = nI 8 from rfl, s4, lN_add]
  generalize hw : v + v / 2 ^ 8 = w
  have hwb : w < 2 ^ 61 := by omega
  have s5 := wb_shr (n := w) (k := 16) (by omega) (by decide)
  rw [show (16 : Int32) = nI 16 from rfl, s5, lN_add]
  generalize hx : w + w / 2 ^ 16 = y
  have hyb : y < 2 ^ 62 := by omega
  have s6 := wb_shr (n := y) (k := 32) (by omega) (by decide)
  rw [show (32 : Int32) = nI 32 from rfl, s6, lN_add]
  have fin : ∀ z : Nat, Int64.toInt32 (lN z) &&& 127 = nI (z % 128) := by
    intro z
    have : Int64.toInt32 (lN z) = nI z := by
      show Int64.toInt32 (Int64.ofNat z) = Int32.ofNat z
      apply Int32.toBitVec_inj.mp
      rw [Int64.toBitVec_toInt32]
      show (BitVec.ofNat 64 z).signExtend 32 = BitVec.ofNat 32 z
      apply BitVec.eq_of_getLsbD_eq
      intro i hi
      rw [BitVec.getLsbD_signExtend, BitVec.getLsbD_ofNat, BitVec.getLsbD_ofNat]
      simp [hi, show i < 64 by omega]
    rw [this, show (127 : Int32) = nI (2 ^ 7 - 1) from rfl, nx_and, Nat.and_two_pow_sub_one_eq_mod]
  rw [fin]
  congr 2
  have : (y + y / 2 ^ 32) % 128 = c 0 + c 1 + c 2 + c 3 + c 4 + c 5 + c 6 + c 7 := bc_fin hve hw.symm hx.symm k0 k1 k2 k3 k4 k5 k6 k7
  rw [this, e2]
  exact fb_ct_cong (fun i hi => (hb_lN i hi).symm)
end
section
/-! ===== the reference's state in words; values of fields ===== -/
theorem FU_ge {n : Nat} (h : n ≤ 2000) : ∃ k, FU = k + n := ⟨2000 - n, by rw [FU_eq]; omega⟩
/-- the first of k, .., k + d - 1 with p -/
def fst? (p : Nat → Bool) : Nat → Nat → Option Nat
  | _, 0 => none
  | k, d + 1 => if p k = true then some k else fst? p (k + 1) d
theorem fst?_cong {p q : Nat → Bool} : ∀ (d k : Nat), (∀ j, k ≤ j → j < k + d → p j = q j) → fst? p k d = fst? q k d
  | 0, k, _ => rfl
  | d + 1, k, h => by
    rw [fst?, fst?, h k (by omega) (by omega), fst?_cong d (k + 1) (fun j h1 h2 => h j (by omega) (by omega))]
theorem fst?_some {p : Nat → Bool} : ∀ {d k j : Nat}, fst? p k d = some j → k ≤ j ∧ j < k + d ∧ p j = true ∧ ∀ i, k ≤ i → i < j → p i = false
  | 0, k, j, h => by cases h
  | d + 1, k, j, h => by
    rw [fst?] at h
    by_cases e : p k = true
    · rw [if_pos e] at h
      cases h
      exact ⟨Nat.le_refl _, by omega, e, fun i h1 h2 => by omega⟩
    · rw [if_neg e] at h
      obtain ⟨h1, h2, h3, h4⟩ := fst?_some h
      refine ⟨by omega, by omega, h3, fun i g1 g2 => ?_⟩
      rcases Nat.eq_or_lt_of_le g1 with q | q
      · subst q; simpa using e
      · exact h4 i q g2
theorem fst?_none {p : Nat → Bool} : ∀ {d k : Nat}, fst? p k d = none → ∀ i, k ≤ i → i < k + d → p i = false
  | 0, k, h, i, h1, h2 => by omega
  | d + 1, k, h, i, h1, h2 => by
    rw [fst?] at h
    by_cases e : p k = true
    · rw [if_pos e] at h; cases h
    · rw [if_neg e] at h
      rcases Nat.eq_or_lt_of_le h1 with q | q
      · subst q; simpa using e
      · exact fst?_none h i q (by omega)
def iT (m : Sx) (c : Nat) : Bool := decide (gA m 26 c ≠ 0)
def od (m : Sx) (k : Nat) : Nat := ix (gA m 28 k)
def mn (m : Sx) (s : Nat) : Nat := ix (gA m 30 s)
def iA (m : Sx) (a : Nat) : Bool := decide (gA m 35 a ≠ 0)
def rl (m : Sx) (a : Nat) : Nat := ix (gA m 36 a)
def WOrd (m : Sx) : Prop := ∀ k, k < 3 → ∃ a, a < 3 ∧ gA m 28 k = nI a
def WVal (m : Sx) : Prop := ∀ c, c < 720 → iT m c = true → ∃ v, v ≤ 9999 ∧ gA m 27 c = nI v
def WStk (m : Sx) : Prop := (∀ f, f < 40 → gA m 29 f = -1 ∨ ∃ s, s < 10 ∧ gA m 29 f = nI s ∧ iF m f = true ∧ ∃ k, k < mn m s ∧ gA m 31 (8 * s + k) = nI f) ∧ (∀ s, s < 10 → ∃ n, n ≤ 8 ∧ gA m 30 s = nI n ∧ n ≠ 1) ∧ (∀ s, s < 10 → ∀ k, k < mn m s → ∃ f, f < 40 ∧ gA m 31 (8 * s + k) = nI f ∧ gA m 29 f = nI s) ∧ (∀ s, s < 10 → ∀ j k, j < k → k < mn m s → gA m 31 (8 * s + j) ≠ gA m 31 (8 * s + k)) ∧ (∀ s, s < 10 → 0 < mn m s → gA m 32 s = -1 ∨ ∃ f, f < 40 ∧ gA m 32 s = nI f ∧ gA m 29 f = nI s)
theorem wOrd_at {m : Sx} (h : WOrd m) {k : Nat} (hk : k < 3) : gA m 28 k = nI (od m k) ∧ od m k < 3 := by
  obtain ⟨a, ha, e⟩ := h k hk
  have : od m k = a := by unfold od; rw [e, ix_nI (by omega)]
  rw [this]
  exact ⟨e, ha⟩
/-- the place in the order of the first source that has a value -/
def src (m : Sx) (f fld : Nat) : Option Nat := fst? (fun k => iT m (18 * f + 6 * od m k + fld)) 0 3
def vOr (m : Sx) (f fld : Nat) (non : Int32) : Int32 := match src m f fld with
  | some j => gA m 27 (18 * f + 6 * od m j + fld)
  | none => non
theorem i18 (f s fld : Nat) : ((18 * nI f) + (6 * nI s)) + nI fld = nI (18 * f + 6 * s + fld) := by
  rw [show (18 : Int32) = nI 18 from rfl, show (6 : Int32) = nI 6 from rfl, nI_mul, nI_mul, nI_add, nI_add]
theorem L_source {m : Sx} (hO : WOrd m) {f fld : Nat} (hf : f < 40) (hl : fld < 6) (kont : Int32 → Option Int32) : ∀ (d k n : Nat), k + d = 3 → d < n → L_X9_source_2 m (nI f) (nI fld) kont n (nI k) = match fst? (fun k => iT m (18 * f + 6 * od m k + fld)) k d with
    | some j => some (gA m 28 j)
    | none => kont (nI 3) := by
  intro d
  induction d with
  | zero =>
    intro k n hk hn
    obtain ⟨n, rfl⟩ : ∃ q, n = q + 1 := ⟨n - 1, by omega⟩
    obtain rfl : k = 3 := by omega
    rw [L_X9_source_2, if_pos (by decide)]
    rfl
  | succ d ih =>
    intro k n hk hn
    obtain ⟨n, rfl⟩ : ∃ q, n = q + 1 := ⟨n - 1, by omega⟩
    obtain ⟨e, ho⟩ := wOrd_at hO (k := k) (by omega)
    rw [L_X9_source_2, if_neg (by rw [show (3 : Int32) = nI 3 from rfl, nI_le_iff (by decide) (by omega)]; omega), gd_pos (vin_nI (by omega) (by decide)), ix_nI (by omega)]
    rw [show gA m 28 k = nI (od m k) from e, i18, gd_pos (vin_nI (by omega) (by decide)), ix_nI (by omega), bd_eq, nI_lit1, fst?]
    by_cases h : gA m 26 (18 * f + 6 * od m k + fld) = 0
    · rw [if_pos h, if_neg (by simp [iT, h]), ih (k + 1) n (by omega) (by omega)]
    · rw [if_neg h, if_pos (by simp [iT, h]), gd_pos (vin_nI (by omega) (by decide)), ← e]
theorem source_eq {m : Sx} (hO : WOrd m) {f fld : Nat} (hf : f < 40) (hl : fld < 6) : f_X9_source m (nI f) (nI fld) = match src m f fld with
    | some j => some (gA m 28 j)
    | none => some (-4) := by
  unfold f_X9_source src
  obtain ⟨q, hq⟩ := FU_ge (n := 4) (by decide)
  rw [hq, ← nI_0, L_source hO hf hl _ 3 0 (q + 4) (by omega) (by omega)]
theorem valueOr_eq {m : Sx} (hO : WOrd m) {f fld : Nat} (hf : f < 40) (hl : fld < 6) (non : Int32) : f_X9_valueOr m (nI f) (nI fld) non = some (vOr m f fld non) := by
  unfold f_X9_valueOr vOr
  rw [source_eq hO hf hl]
  cases hs : src m f fld with
  | none => rfl
  | some j =>
    obtain ⟨-, hj, -, -⟩ := fst?_some hs
    obtain ⟨e, ho⟩ := wOrd_at hO (k := j) (by omega)
    simp only [Option.bind_some]
    rw [e, if_pos (nI_pos' (by omega)), i18, gd_pos (vin_nI (by omega) (by decide)), ix_nI (by omega)]
theorem valueOr1 {m : Sx} (hO : WOrd m) {f : Nat} (hf : f < 40) (non : Int32) : f_X9_valueOr m (nI f) 1 non = some (vOr m f 1 non) := valueOr_eq hO hf (fld := 1) (by decide) non
theorem valueOr2 {m : Sx} (hO : WOrd m) {f : Nat} (hf : f < 40) (non : Int32) : f_X9_valueOr m (nI f) 2 non = some (vOr m f 2 non) := valueOr_eq hO hf (fld := 2) (by decide) non
/-! ===== loops that count up ===== -/
theorem loopUp {σ Rt : Type} (L : Nat → Int32 → σ → Option Rt) (E : σ → Option Rt) (N : Nat) (I : Nat → σ → Prop)
    (hexit : ∀ n y, I N y → L (n + 1) (nI N) y = E y)
    (hstep : ∀ k y, k < N → I k y → ∃ y', I (k + 1) y' ∧ ∀ n, L (n + 1) (nI k) y = L n (nI (k + 1)) y') :
    ∀ (d k n : Nat) (y : σ), k + d = N → d < n → I k y → ∃ y', I N y' ∧ L n (nI k) y = E y' := by
  intro d
  induction d with
  | zero =>
    intro k n y hk hn hI
    obtain ⟨n, rfl⟩ : ∃ q, n = q + 1 := ⟨n - 1, by omega⟩
    obtain rfl : k = N := by omega
    exact ⟨y, hI, hexit n y hI⟩
  | succ d ih =>
    intro k n y hk hn hI
    obtain ⟨n, rfl⟩ : ∃ q, n = q + 1 := ⟨n - 1, by omega⟩
    obtain ⟨y', h1, h2⟩ := hstep k y (by omega) hI
    obtain ⟨z, h3, h4⟩ := ih (k + 1) n y' (by omega) (by omega) h1
    exact ⟨z, h3, by rw [h2, h4]⟩
theorem loopUpE {σ Rt : Type} (L : Nat → Int32 → σ → Option Rt) (E : σ → Option Rt) (N : Nat) (I : Nat → σ → Prop) (S : Nat → σ → Option Rt → Prop)
    (hexit : ∀ n y, I N y → L (n + 1) (nI N) y = E y)
    (hstep : ∀ k y, k < N → I k y → (∃ y', I (k + 1) y' ∧ ∀ n, L (n + 1) (nI k) y = L n (nI (k + 1)) y') ∨ ∃ r, S k y r ∧ ∀ n, L (n + 1) (nI k) y = r) :
    ∀ (d k n : Nat) (y : σ), k + d = N → d < n → I k y → (∃ y', I N y' ∧ L n (nI k) y = E y') ∨ ∃ k' y' r, k' < N ∧ I k' y' ∧ S k' y' r ∧ L n (nI k) y = r := by
  intro d
  induction d with
  | zero =>
    intro k n y hk hn hI
    obtain ⟨n, rfl⟩ : ∃ q, n = q + 1 := ⟨n - 1, by omega⟩
    obtain rfl : k = N := by omega
    exact Or.inl ⟨y, hI, hexit n y hI⟩
  | succ d ih =>
    intro k n y hk hn hI
    obtain ⟨n, rfl⟩ : ∃ q, n = q + 1 := ⟨n - 1, by omega⟩
    rcases hstep k y (by omega) hI with ⟨y', h1, h2⟩ | ⟨r, h1, h2⟩
    · rcases ih (k + 1) n y' (by omega) (by omega) h1 with ⟨z, h3, h4⟩ | ⟨k', z, r, h3, h4, h5, h6⟩
      · exact Or.inl ⟨z, h3, by rw [h2, h4]⟩
      · exact Or.inr ⟨k', z, r, h3, h4, h5, by rw [h2, h6]⟩
    · exact Or.inr ⟨k, y, r, by omega, hI, h1, h2 n⟩
/-- from 0 with the fuel of the functions -/
theorem loop0 {σ Rt : Type} {L : Nat → Int32 → σ → Option Rt} {E : σ → Option Rt} {N : Nat} (hN : N < 2000) {y : σ} (I : Nat → σ → Prop)
    (hexit : ∀ n y, I N y → L (n + 1) (nI N) y = E y)
    (hstep : ∀ k y, k < N → I k y → ∃ y', I (k + 1) y' ∧ ∀ n, L (n + 1) (nI k) y = L n (nI (k + 1)) y') (h0 : I 0 y) : ∃ y', I N y' ∧ L FU 0 y = E y' := by
  rw [← nI_0]
  exact loopUp L E N I hexit hstep N 0 FU y (by omega) (by rw [FU_eq]; exact hN) h0
theorem loop0E {σ Rt : Type} {L : Nat → Int32 → σ → Option Rt} {E : σ → Option Rt} {N : Nat} (hN : N < 2000) {y : σ} (I : Nat → σ → Prop) (S : Nat → σ → Option Rt → Prop)
    (hexit : ∀ n y, I N y → L (n + 1) (nI N) y = E y)
    (hstep : ∀ k y, k < N → I k y → (∃ y', I (k + 1) y' ∧ ∀ n, L (n + 1) (nI k) y = L n (nI (k + 1)) y') ∨ ∃ r, S k y r ∧ ∀ n, L (n + 1) (nI k) y = r) (h0 : I 0 y) : (∃ y', I N y' ∧ L FU 0 y = E y') ∨ ∃ k' y' r, k' < N ∧ I k' y' ∧ S k' y' r ∧ L FU 0 y = r := by
  rw [← nI_0]
  exact loopUpE L E N I S hexit hstep N 0 FU y (by omega) (by rw [FU_eq]; exact hN) h0
/-- the counter's test -/
theorem le_lit {N k : Nat} {x : Int32} (hx : x = nI N) (hN : N < 2 ^ 31) (hk : k < 2 ^ 31) : (x ≤ nI k) ↔ N ≤ k := by rw [hx]; exact nI_le_iff hN hk
theorem ngo {N k : Nat} {x : Int32} (hx : x = nI N) (h : k < N) (hN : N < 2 ^ 31) : ¬ x ≤ nI k := by rw [hx, nI_le_iff hN (by omega)]; omega
theorem ngt {N k : Nat} {x : Int32} (hx : x = nI N) (h : k ≤ N) (hN : N < 2 ^ 31) : ¬ x < nI k := by rw [hx, nI_lt_iff hN (by omega)]; omega
theorem lt_lit {N k : Nat} {x : Int32} (hx : x = nI N) (hN : N < 2 ^ 31) (hk : k < 2 ^ 31) : (x < nI k) ↔ N < k := by rw [hx]; exact nI_lt_iff hN hk
theorem nlt_lit {N k : Nat} {x : Int32} (hx : x = nI N) (hN : N < 2 ^ 31) (hk : k < 2 ^ 31) : (nI k < x) ↔ k < N := by rw [hx]; exact nI_lt_iff hk hN
theorem nle_lit {N k : Nat} {x : Int32} (hx : x = nI N) (hN : N < 2 ^ 31) (hk : k < 2 ^ 31) : (nI k ≤ x) ↔ k ≤ N := by rw [hx]; exact nI_le_iff hk hN
theorem nI_ne_m1 {k : Nat} (hk : k < 2 ^ 31) : ¬ nI k = -1 := by
  intro h
  have := congrArg Int32.toInt h
  rw [nI_toInt hk] at this
  have e : (-1 : Int32).toInt = -1 := by decide
  omega
/-! ===== reads and writes of the abstract state ===== -/
theorem gI_pI (t : Sx) (k j : Nat) (v : Int32) : gI (pI t k v) j = if j = k then v else gI t j := rfl
theorem gL_pI (t : Sx) (k j : Nat) (v : Int32) : gL (pI t k v) j = gL t j := rfl
theorem gA_pI (t : Sx) (k j : Nat) (v : Int32) : gA (pI t k v) j = gA t j := rfl
theorem gM_pI (t : Sx) (k j : Nat) (v : Int32) : gM (pI t k v) j = gM t j := rfl
theorem gI_pL (t : Sx) (k j : Nat) (v : Int64) : gI (pL t k v) j = gI t j := rfl
theorem gL_pL (t : Sx) (k j : Nat) (v : Int64) : gL (pL t k v) j = if j = k then v else gL t j := rfl
theorem gA_pL (t : Sx) (k j : Nat) (v : Int64) : gA (pL t k v) j = gA t j := rfl
theorem gM_pL (t : Sx) (k j : Nat) (v : Int64) : gM (pL t k v) j = gM t j := rfl
theorem gI_pA (t : Sx) (a k j : Nat) (v : Int32) : gI (pA t a k v) j = gI t j := rfl
theorem gL_pA (t : Sx) (a k j : Nat) (v : Int32) : gL (pA t a k v) j = gL t j := rfl
theorem gM_pA (t : Sx) (a k j : Nat) (v : Int32) : gM (pA t a k v) j = gM t j := rfl
theorem gA_pA (t : Sx) (a k b : Nat) (v : Int32) : gA (pA t a k v) b = if b = a then upd (gA t a) k v else gA t b := by
  show (upf t.2.2.1 a (upd (t.2.2.1 a) k v)) b = _
  unfold upf
  by_cases h : b = a <;> simp [h] <;> rfl
theorem gA_pA_ne {t : Sx} {a k b : Nat} {v : Int32} (h : b ≠ a) : gA (pA t a k v) b = gA t b := by rw [gA_pA, if_neg h]
theorem gA_pA_at (t : Sx) (a k j : Nat) (v : Int32) : gA (pA t a k v) a j = if j = k then v else gA t a j := by rw [gA_pA, if_pos rfl]; rfl
theorem gI_pM (t : Sx) (a k j : Nat) (v : Int64) : gI (pM t a k v) j = gI t j := rfl
theorem gL_pM (t : Sx) (a k j : Nat) (v : Int64) : gL (pM t a k v) j = gL t j := rfl
theorem gA_pM (t : Sx) (a k j : Nat) (v : Int64) : gA (pM t a k v) j = gA t j := rfl
theorem gM_pM (t : Sx) (a k b : Nat) (v : Int64) : gM (pM t a k v) b = if b = a then vp_updL (gM t a) k v else gM t b := by
  show (upf t.2.2.2 a (vp_updL (t.2.2.2 a) k v)) b = _
  unfold upf
  by_cases h : b = a <;> simp [h] <;> rfl
theorem gM_pM_ne {t : Sx} {a k b : Nat} {v : Int64} (h : b ≠ a) : gM (pM t a k v) b = gM t b := by rw [gM_pM, if_neg h]
theorem gM_pM_at (t : Sx) (a k j : Nat) (v : Int64) : gM (pM t a k v) a j = if j = k then v else gM t a j := by rw [gM_pM, if_pos rfl]; rfl
theorem gI_pW (t : Sx) (a j : Nat) (f : Nat → Int32) : gI (pW t a f) j = gI t j := rfl
theorem gL_pW (t : Sx) (a j : Nat) (f : Nat → Int32) : gL (pW t a f) j = gL t j := rfl
theorem gM_pW (t : Sx) (a j : Nat) (f : Nat → Int32) : gM (pW t a f) j = gM t j := rfl
theorem gA_pW (t : Sx) (a b : Nat) (f : Nat → Int32) : gA (pW t a f) b = if b = a then f else gA t b := by
  show (upf t.2.2.1 a f) b = _
  unfold upf
  by_cases h : b = a <;> simp [h] <;> rfl
/-- the class's part of the state, the reference's part -/
def FrM (c c' : Sx) : Prop := (∀ a, 23 ≤ a → a < 100 → gA c' a = gA c a) ∧ (∀ k, 52 ≤ k → k < 100 → gI c' k = gI c k) ∧ gM c' 2 = gM c 2
/-- what joined less what left is the size; digests are no less than 0; the order is one of the six -/
def MVs (m : Sx) : Prop := ∀ a, a < 8 → iA m a = true → gA m 40 (2 * a + 1) - gA m 40 (2 * a) = nI (fb_ct (hb (gM m 2 a)) 40)
def Dg (m : Sx) : Prop := ∀ f, f < 40 → 0 ≤ gA m 24 f
def Op (m : Sx) : Prop := ∃ x y z, x < 3 ∧ y < 3 ∧ z < 3 ∧ x ≠ y ∧ x ≠ z ∧ y ≠ z ∧ gA m 28 0 = nI x ∧ gA m 28 1 = nI y ∧ gA m 28 2 = nI z
def Xs (m : Sx) : Prop := MVs m ∧ Dg m ∧ Op m
theorem Xs.on {m m' : Sx} (h : Xs m) (e24 : gA m' 24 = gA m 24) (e28 : gA m' 28 = gA m 28) (e35 : gA m' 35 = gA m 35) (e40 : gA m' 40 = gA m 40) (eM : gM m' 2 = gM m 2) : Xs m' := by
  have ei : iA m' = iA m := by funext a; unfold iA; rw [e35]
  unfold Xs MVs Dg Op
  rw [e24, e28, e40, eM, ei]
  exact h
def FrC (m m' : Sx) : Prop := (∀ a, (a < 23 ∨ 100 ≤ a) ∨ (35 ≤ a ∧ a < 40) → gA m' a = gA m a) ∧ (∀ k, k < 52 ∨ 100 ≤ k → gI m' k = gI m k) ∧ (∀ k, gL m' k = gL m k) ∧ gM m' 0 = gM m 0 ∧ gM m' 1 = gM m 1 ∧ (Xs m → Xs m')
theorem FrC.ofM {m m' : Sx} (hA : ∀ a, (a < 23 ∨ 100 ≤ a) ∨ (35 ≤ a ∧ a < 41) ∨ a = 24 ∨ a = 28 → gA m' a = gA m a) (hI : ∀ k, k < 52 ∨ 100 ≤ k → gI m' k = gI m k) (hL : ∀ k, gL m' k = gL m k) (hM : gM m' = gM m) : FrC m m' :=
  ⟨fun a h => hA a (by omega), hI, hL, by rw [hM], by rw [hM], fun w => w.on (hA 24 (by omega)) (hA 28 (by omega)) (hA 35 (by omega)) (hA 40 (by omega)) (by rw [hM])⟩
theorem FrM.rf (c : Sx) : FrM c c := ⟨fun _ _ _ => rfl, fun _ _ _ => rfl, rfl⟩
theorem FrC.rf (c : Sx) : FrC c c := ⟨fun _ _ => rfl, fun _ _ => rfl, fun _ => rfl, rfl, rfl, fun w => w⟩
theorem FrM.tr {a b c : Sx} (h : FrM a b) (g : FrM b c) : FrM a c := ⟨fun i h1 h2 => (g.1 i h1 h2).trans (h.1 i h1 h2), fun i h1 h2 => (g.2.1 i h1 h2).trans (h.2.1 i h1 h2), g.2.2.trans h.2.2⟩
theorem FrC.tr {a b c : Sx} (h : FrC a b) (g : FrC b c) : FrC a c := ⟨fun i h1 => (g.1 i h1).trans (h.1 i h1), fun i h1 => (g.2.1 i h1).trans (h.2.1 i h1), fun k => (g.2.2.1 k).trans (h.2.2.1 k), g.2.2.2.1.trans h.2.2.2.1, g.2.2.2.2.1.trans h.2.2.2.2.1, fun w => g.2.2.2.2.2 (h.2.2.2.2.2 w)⟩
theorem FrM.pI {t : Sx} {k : Nat} {v : Int32} (h : k < 52 ∨ 100 ≤ k) : FrM t (pI t k v) := ⟨fun _ _ _ => rfl, fun j h1 h2 => by rw [gI_pI, if_neg (by omega)], rfl⟩
theorem FrM.pL {t : Sx} {k : Nat} {v : Int64} : FrM t (pL t k v) := ⟨fun _ _ _ => rfl, fun _ _ _ => rfl, rfl⟩
theorem FrM.pA {t : Sx} {a k : Nat} {v : Int32} (h : a < 23 ∨ 100 ≤ a) : FrM t (pA t a k v) := ⟨fun j h1 h2 => gA_pA_ne (by omega), fun _ _ _ => rfl, rfl⟩
theorem FrM.pW {t : Sx} {a : Nat} {f : Nat → Int32} (h : a < 23 ∨ 100 ≤ a) : FrM t (pW t a f) := ⟨fun j h1 h2 => by rw [gA_pW, if_neg (by omega)], fun _ _ _ => rfl, rfl⟩
theorem FrM.pM {t : Sx} {a k : Nat} {v : Int64} (h : a < 2) : FrM t (pM t a k v) := ⟨fun _ _ _ => rfl, fun _ _ _ => rfl, gM_pM_ne (by omega)⟩
theorem FrC.pI {t : Sx} {k : Nat} {v : Int32} (h : 52 ≤ k ∧ k < 100) : FrC t (pI t k v) := ⟨fun _ _ => rfl, fun j h1 => by rw [gI_pI, if_neg (by omega)], fun _ => rfl, rfl, rfl, fun w => w⟩
theorem FrC.pA {t : Sx} {a k : Nat} {v : Int32} (h : (23 ≤ a ∧ a < 35 ∧ a ≠ 24 ∧ a ≠ 28) ∨ (40 < a ∧ a < 100)) : FrC t (pA t a k v) := FrC.ofM (fun j h1 => gA_pA_ne (by omega)) (fun _ _ => rfl) (fun _ => rfl) rfl
theorem frC_pA24 {t : Sx} {k : Nat} {v : Int32} (hv : 0 ≤ v) : FrC t (pA t 24 k v) := ⟨fun j h1 => gA_pA_ne (by omega), fun _ _ => rfl, fun _ => rfl, rfl, rfl, fun w => ⟨w.1, fun f hf => by
  rw [gA_pA_at]
  split
  · exact hv
  · exact w.2.1 f hf, w.2.2⟩⟩
/-! ===== values: the class's side ===== -/
def RPres (c m : Sx) : Prop := ∀ k, k < 64 → hb (gL c 8) k = (decide (k < 40) && iF m k)
def RVal (c m : Sx) : Prop := ∀ f, f < 40 → iF m f = true → ∀ j, j < 18 → gA c 11 (18 * f + j) = if iT m (18 * f + j) = true then gA m 27 (18 * f + j) else -1
def ROrd (c m : Sx) : Prop := ∀ k, k < 3 → gA c 13 k = gA m 28 k
def OnA (a0 : Nat) (c c' : Sx) : Prop := (∀ a, a ≠ a0 → gA c' a = gA c a) ∧ gI c' = gI c ∧ gL c' = gL c ∧ gM c' = gM c
theorem OnA.rf (a0 : Nat) (c : Sx) : OnA a0 c c := ⟨fun _ _ => rfl, rfl, rfl, rfl⟩
theorem OnA.pA {a0 : Nat} {c y : Sx} (h : OnA a0 c y) (k : Nat) (v : Int32) : OnA a0 c (pA y a0 k v) := ⟨fun a ha => by rw [gA_pA_ne ha, h.1 a ha], h.2.1, h.2.2.1, h.2.2.2⟩
theorem OnA.frM {a0 : Nat} {c y : Sx} (h : OnA a0 c y) (ha : a0 < 23 ∨ 100 ≤ a0) : FrM c y := ⟨fun a h1 h2 => h.1 a (by omega), fun k _ _ => by rw [h.2.1], by rw [h.2.2.2]⟩
theorem i18c (f s fld : Nat) : (((nI f * 3) + nI s) * 6) + nI fld = nI (18 * f + 6 * s + fld) := by
  rw [show (3 : Int32) = nI 3 from rfl, show (6 : Int32) = nI 6 from rfl, nI_mul, nI_add, nI_mul, nI_add]
  congr 1
  omega
theorem i6 (f k : Nat) : (nI f * 6) + nI k = nI (6 * f + k) := by
  rw [show (6 : Int32) = nI 6 from rfl, nI_mul, nI_add, Nat.mul_comm]
theorem told_eq (c : Sx) {f s fld : Nat} (hf : f < 40) (hs : s < 3) (hl : fld < 6) : f_X1_told c (nI f) (nI s) (nI fld) = some (gA c 11 (18 * f + 6 * s + fld)) := by
  unfold f_X1_told f_X1_slot
  rw [Option.bind_some, i18c, gd_pos (vin_nI (by omega) (by decide)), ix_nI (by omega)]
theorem tell_eq (c : Sx) {f s fld : Nat} (hf : f < 40) (hs : s < 3) (hl : fld < 6) (v : Int32) : f_X1_tell c (nI f) (nI s) (nI fld) v = some (pA c 11 (18 * f + 6 * s + fld) v) := by
  unfold f_X1_tell f_X1_slot
  rw [Option.bind_some, i18c, gd_pos (vin_nI (by omega) (by decide)), ix_nI (by omega)]
  rfl
theorem settledValue_eq (c : Sx) {f fld : Nat} (hf : f < 40) (hl : fld < 6) : f_X1_settledValue c (nI f) (nI fld) = some (gA c 12 (6 * f + fld)) := by
  unfold f_X1_settledValue
  rw [i6, gd_pos (vin_nI (by omega) (by decide)), ix_nI (by omega)]
theorem holds_pres {c m : Sx} (h : RPres c m) {k : Nat} (hk : k < 40) : f_X8_holds c (gL c 8) (nI k) = some (b2 (iF m k)) := by
  rw [holds_eq c _ (by omega), h k (by omega), decide_eq_true hk, Bool.true_and]
theorem fil_pres {c m : Sx} (h : RPres c m) (x : Int32) : fil (hb (gL c 8)) x = fil (iF m) x := fil_cong (fun k hk => by rw [h k (by omega), decide_eq_true hk, Bool.true_and]) x
theorem L_firstTeller {c m : Sx} (hO : WOrd m) (hV : WVal m) (rO : ROrd c m) (rV : RVal c m) {f fld : Nat} (hf : f < 40) (hp : iF m f = true) (hl : fld < 6) (kont : Int32 → Option Int32) : ∀ (d k n : Nat), k + d = 3 → d < n → L_X1_firstTeller_2 c (nI f) (nI fld) kont n (nI k) = match fst? (fun k => iT m (18 * f + 6 * od m k + fld)) k d with
    | some j => some (gA m 28 j)
    | none => kont (nI 3) := by
  intro d
  induction d with
  | zero =>
    intro k n hk hn
    obtain ⟨n, rfl⟩ : ∃ q, n = q + 1 := ⟨n - 1, by omega⟩
    obtain rfl : k = 3 := by omega
    rw [L_X1_firstTeller_2, if_pos (by decide)]
    rfl
  | succ d ih =>
    intro k n hk hn
    obtain ⟨n, rfl⟩ : ∃ q, n = q + 1 := ⟨n - 1, by omega⟩
    obtain ⟨e, ho⟩ := wOrd_at hO (k := k) (by omega)
    rw [L_X1_firstTeller_2, if_neg (ngo (x := 3) (N := 3) rfl (by omega) (by decide)), gd_pos (vin_nI (by omega) (by decide)), ix_nI (by omega)]
    rw [rO k (by omega), e, told_eq c hf ho hl, Option.bind_some, nI_lit1, fst?]
    have hr := rV f hf hp (6 * od m k + fld) (by omega)
    rw [← Nat.add_assoc] at hr
    by_cases h : iT m (18 * f + 6 * od m k + fld) = true
    · rw [if_pos h] at hr
      obtain ⟨v, hv, ev⟩ := hV _ (by omega) h
      rw [if_pos h, hr, ev, if_neg (nI_ne_m1 (by omega)), gd_pos (vin_nI (by omega) (by decide)), ← e]
    · rw [if_neg h] at hr
      rw [if_neg h, hr, if_pos rfl, ih (k + 1) n (by omega) (by omega)]
theorem firstTeller_eq {c m : Sx} (hO : WOrd m) (hV : WVal m) (rO : ROrd c m) (rV : RVal c m) {f fld : Nat} (hf : f < 40) (hp : iF m f = true) (hl : fld < 6) : f_X1_firstTeller c (nI f) (nI fld) = match src m f fld with
    | some j => some (gA m 28 j)
    | none => some (-1) := by
  unfold f_X1_firstTeller src
  obtain ⟨q, hq⟩ := FU_ge (n := 4) (by decide)
  rw [hq, ← nI_0, L_firstTeller hO hV rO rV hf hp hl _ 3 0 (q + 4) (by omega) (by omega)]
/-- the tags of the sources ahead of k -/
def tgR (m : Sx) (f : Nat) : Nat → Int32
  | 0 => 0
  | k + 1 => tgR m f k ||| (if iT m (18 * f + 6 * k + 5) = true then gA m 27 (18 * f + 6 * k + 5) else 0)
def tgs (m : Sx) (f : Nat) : Int32 := tgR m f 3
theorem tags_eq {m : Sx} {f : Nat} (hf : f < 40) : f_X9_tags m (nI f) = some (tgs m f) := by
  unfold f_X9_tags
  obtain ⟨y, hy, e⟩ := loop0 (L := fun n i s => L_X9_tags_4 m (nI f) (fun z2 z3 => some z2) n s i) (E := fun s => some s) (N := 3) (by decide) (y := (0 : Int32)) (fun k s => s = tgR m f k)
    (fun n y h => by show L_X9_tags_4 _ _ _ _ _ _ = _; rw [L_X9_tags_4, if_pos (by decide)])
    (fun k y hk h => ⟨_, rfl, fun n => by
      show L_X9_tags_4 _ _ _ _ _ _ = L_X9_tags_4 _ _ _ _ _ _
      have i5 : ((18 * nI f) + (6 * nI k)) + 5 = nI (18 * f + 6 * k + 5) := i18 f k 5
      rw [L_X9_tags_4, if_neg (ngo (x := 3) (N := 3) rfl (by omega) (by decide)), i5, gd_pos (vin_nI (by omega) (by decide)), ix_nI (by omega), nI_lit1, h, tgR]
      by_cases q : gA m 26 (18 * f + 6 * k + 5) = 0
      · rw [if_pos q, if_neg (by simp [iT, q])]
      · rw [if_neg q, if_pos (by simp [iT, q]), gd_pos (vin_nI (by omega) (by decide)), bd_eq]⟩) rfl
  rw [e, hy]
  rfl
theorem tagsC {c m : Sx} (hV : WVal m) (rV : RVal c m) {f : Nat} (hf : f < 40) (hp : iF m f = true) (kont : Int32 → Int32 → Option Sx) : L_X1_settleFile_51 c (nI f) kont FU 0 0 = kont (tgs m f) (nI 3) := by
  obtain ⟨y, hy, e⟩ := loop0 (L := fun n i s => L_X1_settleFile_51 c (nI f) kont n s i) (E := fun s => kont s (nI 3)) (N := 3) (by decide) (y := (0 : Int32)) (fun k s => s = tgR m f k)
    (fun n y h => by show L_X1_settleFile_51 _ _ _ _ _ _ = _; rw [L_X1_settleFile_51, if_pos (by decide)])
    (fun k y hk h => ⟨_, rfl, fun n => by
      show L_X1_settleFile_51 _ _ _ _ _ _ = L_X1_settleFile_51 _ _ _ _ _ _
      have hr := rV f hf hp (6 * k + 5) (by omega)
      rw [← Nat.add_assoc] at hr
      rw [L_X1_settleFile_51, if_neg (ngo (x := 3) (N := 3) rfl (by omega) (by decide)), show (5 : Int32) = nI 5 from rfl, told_eq c hf hk (by decide), Option.bind_some, bd_eq, nI_lit1, h, hr, tgR]
      by_cases q : iT m (18 * f + 6 * k + 5) = true
      · obtain ⟨v, hv, ev⟩ := hV _ (by omega) q
        rw [if_pos q, ev, if_neg (nI_pos (by omega)), if_pos q]
      · rw [if_neg q, if_pos (by decide), if_neg q]⟩) rfl
  rw [e, hy]
  rfl
theorem RVal.on {c y m : Sx} (h : RVal c m) (e : gA y 11 = gA c 11) : RVal y m := fun f hf hp j hj => by rw [e]; exact h f hf hp j hj
theorem ROrd.on {c y m : Sx} (h : ROrd c m) (e : gA y 13 = gA c 13) : ROrd y m := fun k hk => by rw [e]; exact h k hk
theorem RPres.on {c y m : Sx} (h : RPres c m) (e : gL y 8 = gL c 8) : RPres y m := fun k hk => by rw [e]; exact h k hk
theorem settleFile_eq {c m : Sx} (hO : WOrd m) (hV : WVal m) (rO : ROrd c m) (rV : RVal c m) {f : Nat} (hf : f < 40) (hp : iF m f = true) : ∃ c', f_X1_settleFile c (nI f) = some c' ∧ OnA 12 c c' ∧ (∀ j, (j < 6 * f ∨ 6 * f + 6 ≤ j) → gA c' 12 j = gA c 12 j) ∧ (∀ fld, fld < 5 → gA c' 12 (6 * f + fld) = vOr m f fld (-1)) ∧ gA c' 12 (6 * f + 5) = tgs m f := by
  unfold f_X1_settleFile
  obtain ⟨y, ⟨hy1, hy2⟩, e⟩ := loop0 (L := fun n i s => L_X1_settleFile_2 (nI f) (fun z5 t6 => L_X1_settleFile_51 t6 (nI f) (fun z9 z10 => gd (vp_in ((nI f * 6) + 5) 240) (bd (pA t6 12 (ix ((nI f * 6) + 5)) z9) fun t11 => some t11)) FU (0) (0)) n i s) (E := fun s => some (pA s 12 (6 * f + 5) (tgs m f))) (N := 5) (by decide) (y := c)
    (fun k s => OnA 12 c s ∧ ∀ j, gA s 12 j = if 6 * f ≤ j ∧ j < 6 * f + k then vOr m f (j - 6 * f) (-1) else gA c 12 j)
    (fun n y h => by
      show L_X1_settleFile_2 _ _ _ _ _ = _
      rw [L_X1_settleFile_2, if_pos (by decide), tagsC hV (rV.on (h.1.1 11 (by decide))) hf hp, show (5 : Int32) = nI 5 from rfl, i6, gd_pos (vin_nI (by omega) (by decide)), ix_nI (by omega), bd_eq])
    (fun k y hk h => ⟨pA y 12 (6 * f + k) (vOr m f k (-1)), ⟨h.1.pA _ _, fun j => by
      rw [gA_pA_at, h.2 j]
      by_cases q : j = 6 * f + k
      · subst q
        rw [if_pos rfl, if_pos ⟨by omega, by omega⟩]
        congr 1
        omega
      · rw [if_neg q]
        by_cases q2 : 6 * f ≤ j ∧ j < 6 * f + k
        · rw [if_pos q2, if_pos ⟨q2.1, by omega⟩]
        · rw [if_neg q2, if_neg (by omega)]⟩, fun n => by
      show L_X1_settleFile_2 _ _ _ _ _ = L_X1_settleFile_2 _ _ _ _ _
      have rV' := rV.on (h.1.1 11 (by decide))
      have rO' := rO.on (h.1.1 13 (by decide))
      rw [L_X1_settleFile_2, if_neg (ngt (x := 4) (N := 4) rfl (by omega) (by decide)), firstTeller_eq hO hV rO' rV' hf hp (by omega), vOr]
      cases hs : src m f k with
      | none =>
        dsimp only
        rw [Option.bind_some, if_pos rfl, i6, gd_pos (vin_nI (by omega) (by decide)), ix_nI (by omega), bd_eq, nI_lit1]
      | some j =>
        obtain ⟨-, hj, hT, -⟩ := fst?_some hs
        obtain ⟨ee, ho⟩ := wOrd_at hO (k := j) (by omega)
        have hr := rV' f hf hp (6 * od m j + k) (by omega)
        rw [← Nat.add_assoc, if_pos hT] at hr
        dsimp only
        rw [Option.bind_some, ee, if_neg (nI_ne_m1 (by omega)), told_eq y hf ho (by omega), Option.bind_some, i6, gd_pos (vin_nI (by omega) (by decide)), ix_nI (by omega), bd_eq, nI_lit1, hr]⟩)
    ⟨OnA.rf _ _, fun j => by rw [if_neg (by omega)]⟩
  refine ⟨_, e, hy1.pA _ _, fun j hj => ?_, fun fld hfl => ?_, ?_⟩
  · rw [gA_pA_at, if_neg (by omega), hy2, if_neg (by omega)]
  · rw [gA_pA_at, if_neg (by omega), hy2, if_pos ⟨by omega, by omega⟩]
    congr 1
    omega
  · rw [gA_pA_at, if_pos rfl]
def DVal (c m : Sx) : Prop := ∀ f, f < 40 → iF m f = true → (∀ fld, fld < 5 → gA c 12 (6 * f + fld) = vOr m f fld (-1)) ∧ gA c 12 (6 * f + 5) = tgs m f
theorem settleValues_eq {c m : Sx} (hO : WOrd m) (hV : WVal m) (rP : RPres c m) (rO : ROrd c m) (rV : RVal c m) : ∃ c', f_X1_settleValues c = some c' ∧ OnA 12 c c' ∧ DVal c' m := by
  unfold f_X1_settleValues
  obtain ⟨y, ⟨hy1, hy2⟩, e⟩ := loop0 (L := fun n i s => L_X1_settleValues_2 (fun z3 t4 => some t4) n i s) (E := fun s => some s) (N := 40) (by decide) (y := c)
    (fun k s => OnA 12 c s ∧ ∀ f, f < k → iF m f = true → (∀ fld, fld < 5 → gA s 12 (6 * f + fld) = vOr m f fld (-1)) ∧ gA s 12 (6 * f + 5) = tgs m f)
    (fun n y h => by show L_X1_settleValues_2 _ _ _ _ = _; rw [L_X1_settleValues_2, if_pos (by decide)])
    (fun k y hk h => by
      have hst : ∀ n, L_X1_settleValues_2 (fun z3 t4 => some t4) (n + 1) (nI k) y = if b2 (iF m k) = 0 then L_X1_settleValues_2 (fun z3 t4 => some t4) n (nI (k + 1)) y else (f_X1_settleFile y (nI k)).bind fun r2 => L_X1_settleValues_2 (fun z3 t4 => some t4) n (nI (k + 1)) r2 := fun n => by
        rw [L_X1_settleValues_2, if_neg (ngo (x := 40) (N := 40) rfl (by omega) (by decide)), holds_pres (rP.on (by rw [h.1.2.2.1])) hk, Option.bind_some, nI_lit1]
      cases hk2 : iF m k with
      | false =>
        refine ⟨y, ⟨h.1, fun f hf hp => ?_⟩, fun n => by
          show L_X1_settleValues_2 _ _ _ _ = L_X1_settleValues_2 _ _ _ _
          rw [hst, hk2]; rfl⟩
        rcases Nat.eq_or_lt_of_le (Nat.lt_succ_iff.mp hf) with q | q
        · subst q; rw [hk2] at hp; cases hp
        · exact h.2 f q hp
      | true =>
        obtain ⟨y', e1, e2, e3, e4, e5⟩ := settleFile_eq hO hV (rO.on (h.1.1 13 (by decide))) (rV.on (h.1.1 11 (by decide))) hk hk2
        refine ⟨y', ⟨⟨fun a ha => (e2.1 a ha).trans (h.1.1 a ha), e2.2.1.trans h.1.2.1, e2.2.2.1.trans h.1.2.2.1, e2.2.2.2.trans h.1.2.2.2⟩, fun f hf hp => ?_⟩, fun n => by
          show L_X1_settleValues_2 _ _ _ _ = L_X1_settleValues_2 _ _ _ _
          rw [hst, hk2, if_neg (by decide), e1, Option.bind_some]⟩
        rcases Nat.eq_or_lt_of_le (Nat.lt_succ_iff.mp hf) with q | q
        · subst q; exact ⟨e4, e5⟩
        · obtain ⟨g1, g2⟩ := h.2 f q hp
          exact ⟨fun fld hfl => by rw [e3 _ (by omega), g1 fld hfl], by rw [e3 _ (by omega), g2]⟩)
    ⟨OnA.rf _ _, fun f hf => by omega⟩
  exact ⟨y, e, hy1, hy2⟩
theorem settledValue1 (c : Sx) {f : Nat} (hf : f < 40) : f_X1_settledValue c (nI f) 1 = some (gA c 12 (6 * f + 1)) := settledValue_eq c hf (fld := 1) (by decide)
theorem settledValue2 (c : Sx) {f : Nat} (hf : f < 40) : f_X1_settledValue c (nI f) 2 = some (gA c 12 (6 * f + 2)) := settledValue_eq c hf (fld := 2) (by decide)
end
section
/-! ===== groups and keepers ===== -/
theorem vOr_cases {m : Sx} (hO : WOrd m) (hV : WVal m) {f fld : Nat} (hf : f < 40) (hl : fld < 6) : (src m f fld = none ∧ ∀ non, vOr m f fld non = non) ∨ ∃ v, v ≤ 9999 ∧ (src m f fld).isSome = true ∧ ∀ non, vOr m f fld non = nI v := by
  cases hs : src m f fld with
  | none => exact Or.inl ⟨rfl, fun non => by simp [vOr, hs]⟩
  | some j =>
    obtain ⟨-, hj, hT, -⟩ := fst?_some hs
    obtain ⟨e, ho⟩ := wOrd_at hO (k := j) (by omega)
    obtain ⟨v, hv, ev⟩ := hV _ (by omega) hT
    exact Or.inr ⟨v, hv, rfl, fun non => by simp [vOr, hs, ev]⟩
def rt (m : Sx) (f : Nat) : Int := (vOr m f 1 (-1)).toInt
def yr (m : Sx) (f : Nat) : Int := (vOr m f 2 9999).toInt
theorem rt_rng {m : Sx} (hO : WOrd m) (hV : WVal m) {f : Nat} (hf : f < 40) : -1 ≤ rt m f ∧ rt m f ≤ 9999 := by
  unfold rt
  rcases vOr_cases hO hV hf (show 1 < 6 by decide) with ⟨-, h⟩ | ⟨v, hv, -, h⟩
  · rw [h, show (-1 : Int32).toInt = -1 by decide]; omega
  · rw [h, nI_toInt (by omega)]; omega
theorem yr_rng {m : Sx} (hO : WOrd m) (hV : WVal m) {f : Nat} (hf : f < 40) : 0 ≤ yr m f ∧ yr m f ≤ 9999 := by
  unfold yr
  rcases vOr_cases hO hV hf (show 2 < 6 by decide) with ⟨-, h⟩ | ⟨v, hv, -, h⟩
  · rw [h, show (9999 : Int32).toInt = 9999 by decide]; omega
  · rw [h, nI_toInt (by omega)]; omega
def pref (m : Sx) (f g : Nat) : Bool := decide (rt m g < rt m f ∨ (rt m f = rt m g ∧ (yr m f < yr m g ∨ (yr m f = yr m g ∧ f < g))))
theorem pref_trans {m : Sx} {f g h : Nat} (a : pref m f g = true) (b : pref m g h = true) : pref m f h = true := by
  simp only [pref, decide_eq_true_eq] at *
  omega
theorem pref_total {m : Sx} {f g : Nat} (hne : f ≠ g) (a : pref m f g = false) : pref m g f = true := by
  simp only [pref, decide_eq_true_eq, decide_eq_false_iff_not] at *
  omega
theorem pref_asymm {m : Sx} {f g : Nat} (a : pref m f g = true) : pref m g f = false := by
  simp only [pref, decide_eq_true_eq, decide_eq_false_iff_not] at *
  omega
theorem isub {x y : Int32} (h1 : -2147483648 ≤ x.toInt - y.toInt) (h2 : x.toInt - y.toInt < 2147483648) : (x - y).toInt = x.toInt - y.toInt := by
  rw [Int32.toInt_sub]
  exact Int.bmod_eq_of_le (by omega) (by omega)
theorem ite_b2' {P : Prop} [Decidable P] {b : Bool} (h : P ↔ b = true) : (if P then some (1 : Int32) else some 0) = some (b2 b) := by
  by_cases q : P
  · rw [if_pos q, h.mp q]; rfl
  · rw [if_neg q]
    cases b with
    | false => rfl
    | true => exact absurd (h.mpr rfl) q
theorem isPreferred_eq {m : Sx} (hO : WOrd m) (hV : WVal m) {f g : Nat} (hf : f < 40) (hg : g < 40) : f_X9_isPreferred m (nI f) (nI g) = some (b2 (pref m f g)) := by
  unfold f_X9_isPreferred
  rw [valueOr1 hO hf, valueOr1 hO hg, valueOr2 hO hf, valueOr2 hO hg]
  simp only [Option.bind_some]
  have a1 := rt_rng hO hV hf; have a2 := rt_rng hO hV hg; have a3 := yr_rng hO hV hf; have a4 := yr_rng hO hV hg
  have s1 : (vOr m f 1 (-1) - vOr m g 1 (-1)).toInt = rt m f - rt m g := isub (by unfold rt at *; omega) (by unfold rt at *; omega)
  have s2 : (vOr m f 2 9999 - vOr m g 2 9999).toInt = yr m f - yr m g := isub (by unfold yr at *; omega) (by unfold yr at *; omega)
  have z : (0 : Int32).toInt = 0 := by decide
  have p1 : (vOr m f 1 (-1) - vOr m g 1 (-1) = 0) ↔ rt m f = rt m g := by rw [i_eq, s1, z]; omega
  have p2 : (vOr m f 2 9999 - vOr m g 2 9999 = 0) ↔ yr m f = yr m g := by rw [i_eq, s2, z]; omega
  have p3 : (0 ≤ vOr m f 2 9999 - vOr m g 2 9999) ↔ yr m g ≤ yr m f := by rw [i_le, s2, z]; omega
  have p4 : (vOr m f 1 (-1) - vOr m g 1 (-1) ≤ 0) ↔ rt m f ≤ rt m g := by rw [i_le, s1, z]; omega
  have p5 : (nI g ≤ nI f) ↔ g ≤ f := nI_le_iff (by omega) (by omega)
  by_cases c1 : rt m f = rt m g
  · rw [if_pos (p1.mpr c1)]
    by_cases c2 : yr m f = yr m g
    · rw [if_pos (p2.mpr c2)]
      by_cases c3 : g ≤ f
      · rw [if_pos (p5.mpr c3), show pref m f g = false by simp only [pref, decide_eq_false_iff_not]; omega]; rfl
      · rw [if_neg (fun h => c3 (p5.mp h)), show pref m f g = true by simp only [pref, decide_eq_true_eq]; omega]; rfl
    · rw [if_neg (fun h => c2 (p2.mp h))]
      by_cases c3 : yr m g ≤ yr m f
      · rw [if_pos (p3.mpr c3), show pref m f g = false by simp only [pref, decide_eq_false_iff_not]; omega]; rfl
      · rw [if_neg (fun h => c3 (p3.mp h)), show pref m f g = true by simp only [pref, decide_eq_true_eq]; omega]; rfl
  · rw [if_neg (fun h => c1 (p1.mp h))]
    by_cases c3 : rt m f ≤ rt m g
    · rw [if_pos (p4.mpr c3), show pref m f g = false by simp only [pref, decide_eq_false_iff_not]; omega]; rfl
    · rw [if_neg (fun h => c3 (p4.mp h)), show pref m f g = true by simp only [pref, decide_eq_true_eq]; omega]; rfl
theorem yearOf_eq {c m : Sx} (hO : WOrd m) (hV : WVal m) (dV : DVal c m) {f : Nat} (hf : f < 40) (hp : iF m f = true) : f_X2_yearOf c (nI f) = some (vOr m f 2 9999) := by
  unfold f_X2_yearOf
  rw [settledValue2 c hf, Option.bind_some, (dV f hf hp).1 2 (by decide)]
  rcases vOr_cases hO hV hf (show 2 < 6 by decide) with ⟨-, h⟩ | ⟨v, hv, -, h⟩
  · rw [h, h, if_pos rfl]
  · rw [h, h, if_neg (nI_ne_m1 (by omega))]
theorem beats_eq {c m : Sx} (hO : WOrd m) (hV : WVal m) (dV : DVal c m) {f g : Nat} (hf : f < 40) (hpf : iF m f = true) (hg : g < f) (hpg : iF m g = true) : f_X2_beats c (nI f) (nI g) = some (b2 (pref m f g)) := by
  unfold f_X2_beats
  have hg4 : g < 40 := by omega
  rw [settledValue1 c hf, settledValue1 c hg4, yearOf_eq hO hV dV hf hpf, yearOf_eq hO hV dV hg4 hpg, (dV f hf hpf).1 1 (by decide), (dV g hg4 hpg).1 1 (by decide)]
  simp only [Option.bind_some]
  have p1 : (vOr m f 1 (-1) = vOr m g 1 (-1)) ↔ rt m f = rt m g := i_eq _ _
  have p3 : (vOr m g 2 9999 ≤ vOr m f 2 9999) ↔ yr m g ≤ yr m f := i_le _ _
  have p4 : (vOr m f 1 (-1) ≤ vOr m g 1 (-1)) ↔ rt m f ≤ rt m g := i_le _ _
  by_cases c1 : rt m f = rt m g
  · rw [if_pos (p1.mpr c1)]
    by_cases c3 : yr m g ≤ yr m f
    · rw [if_pos (p3.mpr c3), show pref m f g = false by simp only [pref, decide_eq_false_iff_not]; omega]; rfl
    · rw [if_neg (fun h => c3 (p3.mp h)), show pref m f g = true by simp only [pref, decide_eq_true_eq]; omega]; rfl
  · rw [if_neg (fun h => c1 (p1.mp h))]
    by_cases c3 : rt m f ≤ rt m g
    · rw [if_pos (p4.mpr c3), show pref m f g = false by simp only [pref, decide_eq_false_iff_not]; omega]; rfl
    · rw [if_neg (fun h => c3 (p4.mp h)), show pref m f g = true by simp only [pref, decide_eq_true_eq]; omega]; rfl
def grp (m : Sx) (f g : Nat) : Bool := iF m g && decide (gA m 24 g = gA m 24 f)
theorem grp_iff {m : Sx} {f g : Nat} : grp m f g = true ↔ iF m g = true ∧ gA m 24 g = gA m 24 f := by simp [grp]
def KP (m : Sx) (f k : Nat) : Prop := k < 40 ∧ grp m f k = true ∧ ∀ g, g < 40 → grp m f g = true → g ≠ k → pref m k g = true
theorem KP_one {m : Sx} {f k j : Nat} (h : KP m f k) (g : KP m f j) : k = j := by
  apply Classical.byContradiction
  intro hne
  have a := h.2.2 j g.1 g.2.1 (fun e => hne e.symm)
  have b := g.2.2 k h.1 h.2.1 hne
  rw [pref_asymm a] at b
  cases b
theorem grp_same {m : Sx} {i k : Nat} (h : grp m i k = true) : grp m k = grp m i := by
  funext j
  unfold grp
  rw [(grp_iff.mp h).2]
theorem KP_same {m : Sx} {i k j : Nat} (h : grp m i k = true) : KP m k j ↔ KP m i j := by
  unfold KP
  rw [grp_same h]
theorem iF_dec {m : Sx} {k : Nat} : (gA m 23 k = 0) ↔ iF m k = false := by simp [iF]
theorem keeper_eq {m : Sx} (hO : WOrd m) (hV : WVal m) {f : Nat} (hf : f < 40) (hp : iF m f = true) : ∃ k, f_X9_keeper m (nI f) = some (nI k) ∧ KP m f k := by
  unfold f_X9_keeper
  obtain ⟨y, ⟨b, hb, rfl, hbg, hbp⟩, e⟩ := loop0 (L := fun n i s => L_X9_keeper_4 m (nI f) (fun z2 z3 => some z2) n s i) (E := fun s => some s) (N := 40) (by decide) (y := nI f)
    (fun k s => ∃ b, b < 40 ∧ s = nI b ∧ grp m f b = true ∧ ∀ g, g < 40 → grp m f g = true → (g < k ∨ g = f) → g ≠ b → pref m b g = true)
    (fun n y h => by show L_X9_keeper_4 _ _ _ _ _ _ = _; rw [L_X9_keeper_4, if_pos (by decide)])
    (fun k y hk h => by
      obtain ⟨b, hb, rfl, hbg, hbp⟩ := h
      have hst : ∀ n, L_X9_keeper_4 m (nI f) (fun z2 z3 => some z2) (n + 1) (nI b) (nI k) = if iF m k = false then L_X9_keeper_4 m (nI f) (fun z2 z3 => some z2) n (nI b) (nI (k + 1)) else if gA m 24 k = gA m 24 f then if b2 (pref m k b) = 0 then L_X9_keeper_4 m (nI f) (fun z2 z3 => some z2) n (nI b) (nI (k + 1)) else L_X9_keeper_4 m (nI f) (fun z2 z3 => some z2) n (nI k) (nI (k + 1)) else L_X9_keeper_4 m (nI f) (fun z2 z3 => some z2) n (nI b) (nI (k + 1)) := fun n => by
        rw [L_X9_keeper_4, if_neg (ngo (x := 40) (N := 40) rfl (by omega) (by decide)), gd_pos (vin_nI hk (by decide)), ix_nI (by omega), nI_lit1]
        simp only [iF_dec]
        rw [gd_pos (vin_nI hk (by decide)), gd_pos (vin_nI hf (by decide)), ix_nI (by omega), isPreferred_eq hO hV hk hb, Option.bind_some]
      by_cases q1 : iF m k = false
      · exact ⟨nI b, ⟨b, hb, rfl, hbg, fun g hg hgg hlt hne => hbp g hg hgg (by
          rcases hlt with h | h
          · rcases Nat.eq_or_lt_of_le (Nat.lt_succ_iff.mp h) with q | q
            · subst q; rw [(grp_iff.mp hgg).1] at q1; cases q1
            · exact Or.inl q
          · exact Or.inr h) hne⟩, fun n => by show L_X9_keeper_4 _ _ _ _ _ _ = _; rw [hst, if_pos q1]⟩
      · by_cases q2 : gA m 24 k = gA m 24 f
        · have hkg : grp m f k = true := grp_iff.mpr ⟨by simpa using q1, q2⟩
          cases q3 : pref m k b with
          | true =>
            exact ⟨nI k, ⟨k, hk, rfl, hkg, fun g hg hgg hlt hne => by
              by_cases q4 : g = b
              · subst q4; exact q3
              · exact pref_trans q3 (hbp g hg hgg (by omega) q4)⟩, fun n => by show L_X9_keeper_4 _ _ _ _ _ _ = _; rw [hst, if_neg q1, if_pos q2, q3, bT]⟩
          | false =>
            exact ⟨nI b, ⟨b, hb, rfl, hbg, fun g hg hgg hlt hne => by
              by_cases q4 : g = k
              · subst q4; exact pref_total hne q3
              · exact hbp g hg hgg (by omega) hne⟩, fun n => by show L_X9_keeper_4 _ _ _ _ _ _ = _; rw [hst, if_neg q1, if_pos q2, q3, bF]⟩
        · exact ⟨nI b, ⟨b, hb, rfl, hbg, fun g hg hgg hlt hne => hbp g hg hgg (by
            rcases hlt with h | h
            · rcases Nat.eq_or_lt_of_le (Nat.lt_succ_iff.mp h) with q | q
              · subst q; exact absurd (grp_iff.mp hgg).2 q2
              · exact Or.inl q
            · exact Or.inr h) hne⟩, fun n => by show L_X9_keeper_4 _ _ _ _ _ _ = _; rw [hst, if_neg q1, if_neg q2]⟩)
    ⟨f, hf, rfl, grp_iff.mpr ⟨hp, rfl⟩, fun g hg hgg hlt hne => by omega⟩
  exact ⟨b, e, hb, hbg, fun g hg hgg hne => hbp g hg hgg (Or.inl hg) hne⟩
theorem group_eq {m : Sx} {f : Nat} (hf : f < 40) : f_X9_group m (nI f) = some (nI (fb_ct (grp m f) 40)) := by
  unfold f_X9_group
  obtain ⟨y, hy, e⟩ := loop0 (L := fun n i s => L_X9_group_4 m (nI f) (fun z1 z2 => some z1) n s i) (E := fun s => some s) (N := 40) (by decide) (y := (0 : Int32))
    (fun k s => s = nI (fb_ct (grp m f) k))
    (fun n y h => by show L_X9_group_4 _ _ _ _ _ _ = _; rw [L_X9_group_4, if_pos (by decide)])
    (fun k y hk h => ⟨_, rfl, fun n => by
      show L_X9_group_4 _ _ _ _ _ _ = L_X9_group_4 _ _ _ _ _ _
      rw [L_X9_group_4, if_neg (ngo (x := 40) (N := 40) rfl (by omega) (by decide)), gd_pos (vin_nI hk (by decide)), ix_nI (by omega), nI_lit1, h, fb_ct_succ]
      simp only [iF_dec]
      rw [gd_pos (vin_nI hk (by decide)), gd_pos (vin_nI hf (by decide)), ix_nI (by omega)]
      by_cases q1 : iF m k = false
      · rw [if_pos q1, if_neg (by simp [grp, q1]), show (0 : Int32) = nI 0 from rfl, nI_add]
      · rw [if_neg q1]
        by_cases q2 : gA m 24 k = gA m 24 f
        · rw [if_pos q2, if_pos (grp_iff.mpr ⟨by simpa using q1, q2⟩), nI_lit1]
        · rw [if_neg q2, if_neg (by simp [grp, q2]), show (0 : Int32) = nI 0 from rfl, nI_add]⟩) rfl
  rw [e, hy]
def RDig (c m : Sx) : Prop := ∀ f, f < 40 → iF m f = true → gA c 9 f = gA m 24 f ∧ gA c 10 f = gA m 25 f
theorem alike_eq {c m : Sx} (rP : RPres c m) (rD : RDig c m) {f : Nat} (hf : f < 40) (hp : iF m f = true) : ∃ x, f_X1_alike c (nI f) = some x ∧ ∀ k, k < 64 → hb x k = (decide (k < 40) && grp m f k) := by
  unfold f_X1_alike
  obtain ⟨y, hy, e⟩ := loop0 (L := fun n i s => L_X1_alike_5 c (nI f) (fun z3 z4 => some z3) n s i) (E := fun s => some s) (N := 40) (by decide) (y := (0 : Int64))
    (fun k s => ∀ j, j < 64 → hb s j = (decide (j < k) && grp m f j))
    (fun n y h => by show L_X1_alike_5 _ _ _ _ _ _ = _; rw [L_X1_alike_5, if_pos (by decide)])
    (fun k y hk h => by
      have hst : ∀ n, L_X1_alike_5 c (nI f) (fun z3 z4 => some z3) (n + 1) y (nI k) = if grp m f k = true then L_X1_alike_5 c (nI f) (fun z3 z4 => some z3) n (y ||| shlL 1 (nI k)) (nI (k + 1)) else L_X1_alike_5 c (nI f) (fun z3 z4 => some z3) n y (nI (k + 1)) := fun n => by
        rw [L_X1_alike_5, if_neg (ngo (x := 40) (N := 40) rfl (by omega) (by decide)), holds_pres rP hk, Option.bind_some, nI_lit1]
        cases q1 : iF m k with
        | false => rw [bF, if_neg (by simp [grp, q1])]
        | true =>
          rw [bT, gd_pos (vin_nI hk (by decide)), gd_pos (vin_nI hf (by decide)), ix_nI (by omega), ix_nI (by omega), (rD k hk q1).1, (rD f hf hp).1]
          unfold f_X8_only
          rw [Option.bind_some]
          by_cases q2 : gA m 24 k = gA m 24 f
          · rw [if_pos q2, if_pos (grp_iff.mpr ⟨q1, q2⟩)]
          · rw [if_neg q2, if_neg (by simp [grp, q2])]
      by_cases q : grp m f k = true
      · refine ⟨y ||| shlL 1 (nI k), fun j hj => ?_, fun n => by show L_X1_alike_5 _ _ _ _ _ _ = _; rw [hst, if_pos q]⟩
        rw [hb_or, h j hj, hb_only (by omega) hj]
        by_cases q2 : j = k
        · subst q2; simp [q]
        · by_cases q3 : j < k
          · simp [q2, q3, show j < k + 1 by omega]
          · simp [q2, q3, show ¬ j < k + 1 by omega]
      · refine ⟨y, fun j hj => ?_, fun n => by show L_X1_alike_5 _ _ _ _ _ _ = _; rw [hst, if_neg q]⟩
        rw [h j hj]
        by_cases q2 : j = k
        · subst q2; simp [q]
        · by_cases q3 : j < k
          · simp [q3, show j < k + 1 by omega]
          · simp [q3, show ¬ j < k + 1 by omega])
    (fun j hj => by rw [hb_0]; simp)
  exact ⟨y, e, hy⟩
theorem preferred_eq {c m : Sx} (hO : WOrd m) (hV : WVal m) (dV : DVal c m) {f : Nat} (hf : f < 40) (hp : iF m f = true) {x : Int64} (hx : ∀ k, k < 64 → hb x k = (decide (k < 40) && grp m f k)) : ∃ k, f_X2_preferred c x = some (nI k) ∧ KP m f k := by
  unfold f_X2_preferred
  obtain ⟨y, hy, e⟩ := loop0 (L := fun n i s => L_X2_preferred_5 c x (fun z3 z4 => some z3) n s i) (E := fun s => some s) (N := 40) (by decide) (y := (-1 : Int32))
    (fun k s => (s = -1 ∧ ∀ g, g < k → grp m f g = false) ∨ ∃ b, b < k ∧ s = nI b ∧ grp m f b = true ∧ ∀ g, g < k → grp m f g = true → g ≠ b → pref m b g = true)
    (fun n y h => by show L_X2_preferred_5 _ _ _ _ _ _ = _; rw [L_X2_preferred_5, if_pos (by decide)])
    (fun k y hk h => by
      have hst : ∀ n, L_X2_preferred_5 c x (fun z3 z4 => some z3) (n + 1) y (nI k) = if b2 (grp m f k) = 0 then L_X2_preferred_5 c x (fun z3 z4 => some z3) n y (nI (k + 1)) else if y = -1 then L_X2_preferred_5 c x (fun z3 z4 => some z3) n (nI k) (nI (k + 1)) else (f_X2_beats c (nI k) y).bind fun r2 => if r2 = 0 then L_X2_preferred_5 c x (fun z3 z4 => some z3) n y (nI (k + 1)) else L_X2_preferred_5 c x (fun z3 z4 => some z3) n (nI k) (nI (k + 1)) := fun n => by
        rw [L_X2_preferred_5, if_neg (ngo (x := 40) (N := 40) rfl (by omega) (by decide)), holds_eq c x (by omega), hx k (by omega), decide_eq_true hk, Bool.true_and, Option.bind_some, nI_lit1]
      cases q : grp m f k with
      | false =>
        refine ⟨y, ?_, fun n => by show L_X2_preferred_5 _ _ _ _ _ _ = _; rw [hst, q, bF]⟩
        rcases h with ⟨h1, h2⟩ | ⟨b, hb, rfl, hbg, hbp⟩
        · refine Or.inl ⟨h1, fun g hg => ?_⟩
          rcases Nat.eq_or_lt_of_le (Nat.lt_succ_iff.mp hg) with w | w
          · subst w; exact q
          · exact h2 g w
        · refine Or.inr ⟨b, by omega, rfl, hbg, fun g hg hgg hne => hbp g ?_ hgg hne⟩
          rcases Nat.eq_or_lt_of_le (Nat.lt_succ_iff.mp hg) with w | w
          · subst w; rw [q] at hgg; cases hgg
          · exact w
      | true =>
        rcases h with ⟨h1, h2⟩ | ⟨b, hb, rfl, hbg, hbp⟩
        · refine ⟨nI k, Or.inr ⟨k, by omega, rfl, q, fun g hg hgg hne => ?_⟩, fun n => by show L_X2_preferred_5 _ _ _ _ _ _ = _; rw [hst, q, bT, if_pos h1]⟩
          rw [h2 g (by omega)] at hgg
          cases hgg
        · have hbt := beats_eq hO hV dV hk (grp_iff.mp q).1 hb (grp_iff.mp hbg).1
          cases q3 : pref m k b with
          | true =>
            refine ⟨nI k, Or.inr ⟨k, by omega, rfl, q, fun g hg hgg hne => ?_⟩, fun n => by show L_X2_preferred_5 _ _ _ _ _ _ = _; rw [hst, q, bT, if_neg (nI_ne_m1 (by omega)), hbt, q3]; rfl⟩
            by_cases q4 : g = b
            · subst q4; exact q3
            · exact pref_trans q3 (hbp g (by omega) hgg q4)
          | false =>
            refine ⟨nI b, Or.inr ⟨b, by omega, rfl, hbg, fun g hg hgg hne => ?_⟩, fun n => by show L_X2_preferred_5 _ _ _ _ _ _ = _; rw [hst, q, bT, if_neg (nI_ne_m1 (by omega)), hbt, q3]; rfl⟩
            by_cases q4 : g = k
            · subst q4; exact pref_total hne q3
            · exact hbp g (by omega) hgg hne)
    (Or.inl ⟨rfl, fun g hg => by omega⟩)
  rcases hy with ⟨h1, h2⟩ | ⟨b, hb, rfl, hbg, hbp⟩
  · have := h2 f hf
    rw [grp_iff.mpr ⟨hp, rfl⟩] at this
    cases this
  · exact ⟨b, e, hb, hbg, hbp⟩
theorem cnt40 {x : Int64} {p : Nat → Bool} (hx : ∀ k, k < 64 → hb x k = (decide (k < 40) && p k)) : fb_ct (hb x) 64 = fb_ct p 40 := by
  rw [show (64 : Nat) = 40 + 24 from rfl, fb_ct_split, (fb_ct_zero (p := fun k => hb x (40 + k)) (n := 24)).mpr (fun k hk => by rw [hx _ (by omega), decide_eq_false (by omega)]; rfl), Nat.add_zero]
  exact fb_ct_cong (fun k hk => by rw [hx k (by omega), decide_eq_true hk, Bool.true_and])
/-- keepers and duplicates, as sets -/
def DKee (c m : Sx) : Prop := ∀ k, k < 64 → (hb (gL c 9) k = true ↔ KP m k k) ∧ (hb (gL c 10) k = true ↔ k < 40 ∧ iF m k = true ∧ 1 < fb_ct (grp m k) 40)
def OnK (c c' : Sx) : Prop := gA c' = gA c ∧ gI c' = gI c ∧ gM c' = gM c ∧ ∀ k, k ≠ 9 → k ≠ 10 → gL c' k = gL c k
theorem regroup_eq {c m : Sx} (hO : WOrd m) (hV : WVal m) (rP : RPres c m) (rD : RDig c m) (dV : DVal c m) : ∃ c', f_X2_regroup c = some c' ∧ OnK c c' ∧ DKee c' m := by
  unfold f_X2_regroup f_X1_all
  simp only [bd_eq, Option.bind_some]
  obtain ⟨⟨w, y⟩, ⟨hw, hy, hk9, hk10⟩, e⟩ := loop0 (L := fun n i (s : Int64 × Sx) => L_X2_regroup_20 (fun z11 z12 t13 => some t13) n s.1 i s.2) (E := fun s => some s.2) (N := 40) (by decide) (y := (gL (pL (pL c 9 0) 10 0) 8, pL (pL c 9 0) 10 0))
    (fun k s => (∀ j, j < 64 → (hb s.1 j = true ↔ j < 40 ∧ iF m j = true ∧ ¬ ∃ i, i < k ∧ iF m i = true ∧ grp m i j = true)) ∧ OnK c s.2 ∧ (∀ j, j < 64 → (hb (gL s.2 9) j = true ↔ ∃ i, i < k ∧ iF m i = true ∧ KP m i j)) ∧ ∀ j, j < 64 → (hb (gL s.2 10) j = true ↔ j < 40 ∧ ∃ i, i < k ∧ iF m i = true ∧ grp m i j = true ∧ 1 < fb_ct (grp m i) 40))
    (fun n s h => by show L_X2_regroup_20 _ _ _ _ _ = _; rw [L_X2_regroup_20, if_pos (by decide)])
    (fun k s hk h => by
      obtain ⟨w, y⟩ := s
      obtain ⟨hw, hy, hk9, hk10⟩ := h
      dsimp only at hw hy hk9 hk10
      have rP' : RPres y m := rP.on (hy.2.2.2 8 (by decide) (by decide))
      have rD' : RDig y m := fun f hf hp => by rw [hy.1]; exact rD f hf hp
      have dV' : DVal y m := fun f hf hp => by rw [hy.1]; exact dV f hf hp
      have hst : ∀ n, L_X2_regroup_20 (fun z11 z12 t13 => some t13) (n + 1) w (nI k) y = if b2 (hb w k) = 0 then L_X2_regroup_20 (fun z11 z12 t13 => some t13) n w (nI (k + 1)) y else (f_X1_alike y (nI k)).bind fun r5 => (f_X2_preferred y (r5)).bind fun r6 => (f_X8_only y (r6)).bind fun r7 => bd (pL y 9 ((gL y 9) ||| r7)) fun t8 => (f_J13_bitCount_95d88 t8 (r5)).bind fun r9 => if r9 ≤ 1 then L_X2_regroup_20 (fun z11 z12 t13 => some t13) n ((w &&& (r5 ^^^ -1))) (nI (k + 1)) (t8) else bd (pL t8 10 ((gL t8 10) ||| r5)) fun t10 => L_X2_regroup_20 (fun z11 z12 t13 => some t13) n ((w &&& (r5 ^^^ -1))) (nI (k + 1)) (t10) := fun n => by
        rw [L_X2_regroup_20, if_neg (ngo (x := 40) (N := 40) rfl (by omega) (by decide)), holds_eq y w (by omega), Option.bind_some, nI_lit1]
      cases q : hb w k with
      | false =>
        have hq : iF m k = true → ∃ i, i < k ∧ iF m i = true ∧ grp m i k = true := fun hp => Classical.byContradiction fun hn => by
          have := (hw k (by omega)).mpr ⟨hk, hp, hn⟩
          rw [q] at this
          cases this
        refine ⟨(w, y), ⟨fun j hj => ?_, hy, fun j hj => ?_, fun j hj => ?_⟩, fun n => by show L_X2_regroup_20 _ _ _ _ _ = _; rw [hst, q, bF]⟩
        · rw [hw j hj]
          refine and_congr_right fun _ => and_congr_right fun _ => not_congr ⟨fun ⟨i, h1, h2, h3⟩ => ⟨i, by omega, h2, h3⟩, fun ⟨i, h1, h2, h3⟩ => ?_⟩
          by_cases hik : i = k
          · subst hik
            obtain ⟨i', g1, g2, g3⟩ := hq h2
            exact ⟨i', g1, g2, by rw [← grp_same g3]; exact h3⟩
          · exact ⟨i, by omega, h2, h3⟩
        · rw [hk9 j hj]
          refine ⟨fun ⟨i, h1, h2, h3⟩ => ⟨i, by omega, h2, h3⟩, fun ⟨i, h1, h2, h3⟩ => ?_⟩
          by_cases hik : i = k
          · subst hik
            obtain ⟨i', g1, g2, g3⟩ := hq h2
            exact ⟨i', g1, g2, (KP_same g3).mp h3⟩
          · exact ⟨i, by omega, h2, h3⟩
        · rw [hk10 j hj]
          refine and_congr_right fun _ => ⟨fun ⟨i, h1, h2, h3⟩ => ⟨i, by omega, h2, h3⟩, fun ⟨i, h1, h2, h3⟩ => ?_⟩
          by_cases hik : i = k
          · subst hik
            obtain ⟨i', g1, g2, g3⟩ := hq h2
            exact ⟨i', g1, g2, by rw [← grp_same g3]; exact h3⟩
          · exact ⟨i, by omega, h2, h3⟩
      | true =>
        obtain ⟨-, hp, hns⟩ := (hw k (by omega)).mp q
        obtain ⟨x, ex, hx⟩ := alike_eq rP' rD' hk hp
        obtain ⟨p, ep, hkp⟩ := preferred_eq hO hV dV' hk hp hx
        have hst2 : ∀ n, L_X2_regroup_20 (fun z11 z12 t13 => some t13) (n + 1) w (nI k) y = if 1 < fb_ct (grp m k) 40 then L_X2_regroup_20 (fun z11 z12 t13 => some t13) n (w &&& (x ^^^ -1)) (nI (k + 1)) (pL (pL y 9 (gL y 9 ||| shlL 1 (nI p))) 10 (gL y 10 ||| x)) else L_X2_regroup_20 (fun z11 z12 t13 => some t13) n (w &&& (x ^^^ -1)) (nI (k + 1)) (pL y 9 (gL y 9 ||| shlL 1 (nI p))) := fun n => by
          rw [hst, q, bT, ex, Option.bind_some, ep, Option.bind_some]
          unfold f_X8_only
          rw [Option.bind_some, bd_eq, bitCount_eq, Option.bind_some, cnt40 hx, bd_eq]
          have hle := fb_ct_le (grp m k) 40
          have := nle_lit (N := 1) (k := fb_ct (grp m k) 40) (x := 1) rfl (by decide) (by omega)
          by_cases q5 : 1 < fb_ct (grp m k) 40
          · rw [if_neg (by rw [this]; omega), if_pos q5, gL_pL, if_neg (by decide)]
          · rw [if_pos (by rw [this]; omega), if_neg q5]
        have w' : ∀ j, j < 64 → (hb (w &&& (x ^^^ -1)) j = true ↔ j < 40 ∧ iF m j = true ∧ ¬ ∃ i, i < k + 1 ∧ iF m i = true ∧ grp m i j = true) := fun j hj => by
          rw [hb_and, hb_not x hj, hx j hj, Bool.and_eq_true, hw j hj]
          constructor
          · intro ⟨⟨h1, h2, h3⟩, h4⟩
            refine ⟨h1, h2, fun ⟨i, g1, g2, g3⟩ => ?_⟩
            by_cases hik : i = k
            · subst hik
              rw [decide_eq_true h1, g3] at h4
              cases h4
            · exact h3 ⟨i, by omega, g2, g3⟩
          · intro ⟨h1, h2, h3⟩
            refine ⟨⟨h1, h2, fun ⟨i, g1, g2, g3⟩ => h3 ⟨i, by omega, g2, g3⟩⟩, ?_⟩
            rw [decide_eq_true h1, Bool.true_and]
            cases q6 : grp m k j with
            | false => rfl
            | true => exact absurd ⟨k, by omega, hp, q6⟩ h3
        have k9' : ∀ j, j < 64 → (hb (gL y 9 ||| shlL 1 (nI p)) j = true ↔ ∃ i, i < k + 1 ∧ iF m i = true ∧ KP m i j) := fun j hj => by
          rw [hb_or, hb_only (by have := hkp.1; omega) hj, Bool.or_eq_true, hk9 j hj, decide_eq_true_eq]
          constructor
          · intro h
            rcases h with ⟨i, g1, g2, g3⟩ | h
            · exact ⟨i, by omega, g2, g3⟩
            · subst h; exact ⟨k, by omega, hp, hkp⟩
          · intro ⟨i, g1, g2, g3⟩
            by_cases hik : i = k
            · subst hik; exact Or.inr (KP_one g3 hkp)
            · exact Or.inl ⟨i, by omega, g2, g3⟩
        by_cases q5 : 1 < fb_ct (grp m k) 40
        · refine ⟨(w &&& (x ^^^ -1), pL (pL y 9 (gL y 9 ||| shlL 1 (nI p))) 10 (gL y 10 ||| x)), ⟨w', ⟨hy.1, hy.2.1, hy.2.2.1, fun j h1 h2 => ?_⟩, fun j hj => ?_, fun j hj => ?_⟩, fun n => by show L_X2_regroup_20 _ _ _ _ _ = _; rw [hst2, if_pos q5]⟩
          · rw [gL_pL, if_neg h2, gL_pL, if_neg h1, hy.2.2.2 j h1 h2]
          · rw [gL_pL, if_neg (by decide), gL_pL, if_pos rfl]
            exact k9' j hj
          · rw [gL_pL, if_pos rfl, hb_or, Bool.or_eq_true, hk10 j hj, hx j hj]
            constructor
            · intro h
              rcases h with ⟨h0, i, g1, g2, g3⟩ | h
              · exact ⟨h0, i, by omega, g2, g3⟩
              · rw [Bool.and_eq_true, decide_eq_true_eq] at h
                exact ⟨h.1, k, by omega, hp, h.2, q5⟩
            · intro ⟨h0, i, g1, g2, g3, g4⟩
              by_cases hik : i = k
              · subst hik; exact Or.inr (by rw [decide_eq_true h0, g3]; rfl)
              · exact Or.inl ⟨h0, i, by omega, g2, g3, g4⟩
        · refine ⟨(w &&& (x ^^^ -1), pL y 9 (gL y 9 ||| shlL 1 (nI p))), ⟨w', ⟨hy.1, hy.2.1, hy.2.2.1, fun j h1 h2 => ?_⟩, fun j hj => ?_, fun j hj => ?_⟩, fun n => by show L_X2_regroup_20 _ _ _ _ _ = _; rw [hst2, if_neg q5]⟩
          · rw [gL_pL, if_neg h1, hy.2.2.2 j h1 h2]
          · rw [gL_pL, if_pos rfl]
            exact k9' j hj
          · rw [gL_pL, if_neg (by decide), hk10 j hj]
            refine and_congr_right fun _ => ⟨fun ⟨i, g1, g2, g3⟩ => ⟨i, by omega, g2, g3⟩, fun ⟨i, g1, g2, g3, g4⟩ => ?_⟩
            by_cases hik : i = k
            · subst hik; exact absurd g4 q5
            · exact ⟨i, by omega, g2, g3, g4⟩)
    (by
      refine ⟨fun j hj => ?_, ⟨rfl, rfl, rfl, fun j h1 h2 => by rw [gL_pL, if_neg h2, gL_pL, if_neg h1]⟩, fun j hj => ?_, fun j hj => ?_⟩
      · show hb (gL (pL (pL c 9 0) 10 0) 8) j = true ↔ _
        rw [gL_pL, if_neg (by decide), gL_pL, if_neg (by decide), rP j hj, Bool.and_eq_true, decide_eq_true_eq]
        exact ⟨fun h => ⟨h.1, h.2, fun ⟨i, hi, _⟩ => by omega⟩, fun h => ⟨h.1, h.2.1⟩⟩
      · show hb (gL (pL (pL c 9 0) 10 0) 9) j = true ↔ _
        rw [gL_pL, if_neg (by decide), gL_pL, if_pos rfl, hb_0]
        exact ⟨fun h => Bool.noConfusion h, fun ⟨i, hi, _⟩ => by omega⟩
      · show hb (gL (pL (pL c 9 0) 10 0) 10) j = true ↔ _
        rw [gL_pL, if_pos rfl, hb_0]
        exact ⟨fun h => Bool.noConfusion h, fun ⟨_, i, hi, _⟩ => by omega⟩)
  refine ⟨y, e, hy, fun k hk => ⟨?_, ?_⟩⟩
  · rw [hk9 k hk]
    constructor
    · intro ⟨i, h1, h2, h3⟩
      exact (KP_same h3.2.1).mpr h3
    · intro h
      exact ⟨k, h.1, (grp_iff.mp h.2.1).1, h⟩
  · rw [hk10 k hk]
    constructor
    · intro ⟨h0, i, h1, h2, h3, h4⟩
      exact ⟨h0, (grp_iff.mp h3).1, by rw [grp_same h3]; exact h4⟩
    · intro ⟨h0, h1, h2⟩
      exact ⟨h0, k, h0, h1, grp_iff.mpr ⟨h1, rfl⟩, h2⟩
end
section
/-! ===== stacks: who is in, covers ===== -/
def RStk (c m : Sx) : Prop := (∀ f, f < 40 → gA c 18 f = gA m 29 f) ∧ (∀ s, s < 10 → gA c 15 s = gA m 30 s) ∧ (∀ s, s < 10 → ∀ k, k < mn m s → gA c 14 (8 * s + k) = gA m 31 (8 * s + k)) ∧ (∀ s, s < 10 → 0 < mn m s → gA c 16 s = gA m 32 s ∧ gA c 17 s = b2 (decide (gA m 33 s ≠ 0))) ∧ (∀ k, k < 64 → (hb (gL c 11) k = true ↔ k < 40 ∧ gA m 29 k ≠ -1))
theorem wStk_mn {m : Sx} (h : WStk m) {s : Nat} (hs : s < 10) : gA m 30 s = nI (mn m s) ∧ mn m s ≤ 8 ∧ mn m s ≠ 1 := by
  obtain ⟨n, hn, e, h1⟩ := h.2.1 s hs
  have : mn m s = n := by unfold mn; rw [e, ix_nI (by omega)]
  rw [this]
  exact ⟨e, hn, h1⟩
/-- the file at a place of a stack -/
def fl (m : Sx) (s k : Nat) : Nat := ix (gA m 31 (8 * s + k))
theorem wStk_fl {m : Sx} (h : WStk m) {s k : Nat} (hs : s < 10) (hk : k < mn m s) : gA m 31 (8 * s + k) = nI (fl m s k) ∧ fl m s k < 40 ∧ gA m 29 (fl m s k) = nI s := by
  obtain ⟨f, hf, e, e2⟩ := h.2.2.1 s hs k hk
  have : fl m s k = f := by unfold fl; rw [e, ix_nI (by omega)]
  rw [this]
  exact ⟨e, hf, e2⟩
theorem wStk_in {m : Sx} (h : WStk m) {f s : Nat} (hf : f < 40) (e : gA m 29 f = nI s) (hs : s < 10) : iF m f = true ∧ ∃ k, k < mn m s ∧ fl m s k = f := by
  rcases h.1 f hf with q | ⟨s', hs', e', hp, k, hk, ek⟩
  · rw [q] at e
    exact absurd e.symm (nI_ne_m1 (by omega))
  · have : s = s' := by rw [e] at e'; exact (nI_eq_iff (by omega) (by omega)).mp e'
    subst this
    exact ⟨hp, k, hk, by unfold fl; rw [ek, ix_nI (by omega)]⟩
theorem wStk_fl_inj {m : Sx} (h : WStk m) {s j k : Nat} (hs : s < 10) (hj : j < mn m s) (hk : k < mn m s) (e : fl m s j = fl m s k) : j = k := by
  rcases Nat.lt_trichotomy j k with q | q | q
  · have := h.2.2.2.1 s hs j k q hk
    rw [(wStk_fl h hs hj).1, (wStk_fl h hs hk).1, e] at this
    exact absurd rfl this
  · exact q
  · have := h.2.2.2.1 s hs k j q hj
    rw [(wStk_fl h hs hj).1, (wStk_fl h hs hk).1, e] at this
    exact absurd rfl this
/-- the best of the places 0 .. k -/
def bst (m : Sx) (s : Nat) : Nat → Nat
  | 0 => fl m s 0
  | k + 1 => if rt m (fl m s (k + 1)) ≤ rt m (bst m s k) then bst m s k else fl m s (k + 1)
def cov (m : Sx) (s : Nat) : Nat := if gA m 32 s = -1 then bst m s (mn m s - 1) else ix (gA m 32 s)
theorem bst_in (m : Sx) (s : Nat) : ∀ k, ∃ j, j ≤ k ∧ bst m s k = fl m s j
  | 0 => ⟨0, Nat.le_refl _, rfl⟩
  | k + 1 => by
    rw [bst]
    by_cases q : rt m (fl m s (k + 1)) ≤ rt m (bst m s k)
    · rw [if_pos q]
      obtain ⟨j, hj, e⟩ := bst_in m s k
      exact ⟨j, by omega, e⟩
    · rw [if_neg q]
      exact ⟨k + 1, Nat.le_refl _, rfl⟩
theorem bst_ok {m : Sx} (h : WStk m) {s k : Nat} (hs : s < 10) (hk : k < mn m s) : bst m s k < 40 ∧ gA m 29 (bst m s k) = nI s := by
  obtain ⟨j, hj, e⟩ := bst_in m s k
  rw [e]
  exact (wStk_fl h hs (by omega)).2
theorem cov_ok {m : Sx} (h : WStk m) {s : Nat} (hs : s < 10) (hn : 0 < mn m s) : cov m s < 40 ∧ gA m 29 (cov m s) = nI s := by
  unfold cov
  by_cases q : gA m 32 s = -1
  · rw [if_pos q]; exact bst_ok h hs (by omega)
  · rw [if_neg q]
    rcases h.2.2.2.2 s hs hn with e | ⟨f, hf, e, e2⟩
    · exact absurd e q
    · rw [e, ix_nI (by omega)]; exact ⟨hf, e2⟩
theorem i8 (s k : Nat) : (8 * nI s) + nI k = nI (8 * s + k) := by
  rw [show (8 : Int32) = nI 8 from rfl, nI_mul, nI_add]
theorem i80 (s : Nat) : (8 * nI s) = nI (8 * s) := by
  rw [show (8 : Int32) = nI 8 from rfl, nI_mul]
theorem i8c (s k : Nat) : (nI s * 8) + nI k = nI (8 * s + k) := by
  rw [show (8 : Int32) = nI 8 from rfl, nI_mul, nI_add, Nat.mul_comm]
theorem spot_eq (c : Sx) (s k : Nat) : f_X6_spot c (nI s) (nI k) = some (nI (8 * s + k)) := by
  unfold f_X6_spot; rw [i8c]
theorem loopUp1 {σ Rt : Type} {L : Nat → Int32 → σ → Option Rt} {E : σ → Option Rt} {N k0 : Nat} (hN : N < 1000) (hk : k0 ≤ N) {y : σ} (I : Nat → σ → Prop)
    (hexit : ∀ n y, I N y → L (n + 1) (nI N) y = E y)
    (hstep : ∀ k y, k < N → I k y → ∃ y', I (k + 1) y' ∧ ∀ n, L (n + 1) (nI k) y = L n (nI (k + 1)) y') (h0 : I k0 y) : ∃ y', I N y' ∧ L FU (nI k0) y = E y' :=
  loopUp L E N I hexit hstep (N - k0) k0 FU y (by omega) (by rw [FU_eq]; omega) h0
theorem cover_eq {m : Sx} (hO : WOrd m) (hV : WVal m) (h : WStk m) {s : Nat} (hs : s < 10) (hn : 0 < mn m s) : f_X9_cover m (nI s) = some (nI (cov m s)) := by
  obtain ⟨en, hn8, -⟩ := wStk_mn h hs
  unfold f_X9_cover cov
  rw [gd_pos (vin_nI hs (by decide)), ix_nI (by omega), gd_pos (vin_nI hs (by decide))]
  rcases h.2.2.2.2 s hs hn with e | ⟨f, hf, e, e2⟩
  · rw [if_pos (by rw [e]; decide), if_pos e, i80, gd_pos (vin_nI (by omega) (by decide)), ix_nI (by omega), show gA m 31 (8 * s) = nI (fl m s 0) from (wStk_fl h hs hn).1, show (1 : Int32) = nI 1 from rfl]
    obtain ⟨y, hy, ee⟩ := loopUp1 (L := fun n i st => L_X9_cover_28 m (nI s) (fun z3 z4 => some z3) n st i) (E := fun st => some st) (N := mn m s) (k0 := 1) (by omega) (by omega) (y := nI (fl m s 0))
      (fun k st => 0 < k ∧ st = nI (bst m s (k - 1)))
      (fun n y hy => by show L_X9_cover_28 _ _ _ _ _ _ = _; rw [L_X9_cover_28, gd_pos (vin_nI hs (by decide)), ix_nI (by omega), en, if_pos (nI_le (Nat.le_refl _) (by omega))])
      (fun k y hk hy => by
        obtain ⟨hk0, rfl⟩ := hy
        obtain ⟨b1, b2'⟩ := bst_ok h hs (k := k - 1) (by omega)
        obtain ⟨g1, g2, g3⟩ := wStk_fl h hs hk
        have p4 : (vOr m (fl m s k) 1 (-1) ≤ vOr m (bst m s (k - 1)) 1 (-1)) ↔ rt m (fl m s k) ≤ rt m (bst m s (k - 1)) := i_le _ _
        have eb : bst m s k = if rt m (fl m s k) ≤ rt m (bst m s (k - 1)) then bst m s (k - 1) else fl m s k := by
          obtain ⟨q, rfl⟩ : ∃ q, k = q + 1 := ⟨k - 1, by omega⟩
          rw [bst]; rfl
        refine ⟨nI (bst m s k), ⟨by omega, rfl⟩, fun n => ?_⟩
        show L_X9_cover_28 _ _ _ _ _ _ = L_X9_cover_28 _ _ _ _ _ _
        rw [L_X9_cover_28, gd_pos (vin_nI hs (by decide)), ix_nI (by omega), en, if_neg (by rw [nI_le_iff (by omega) (by omega)]; omega), i8, gd_pos (vin_nI (by omega) (by decide)), ix_nI (by omega), g1, valueOr1 hO g2, Option.bind_some, valueOr1 hO b1, Option.bind_some, nI_lit1, eb]
        by_cases q : rt m (fl m s k) ≤ rt m (bst m s (k - 1))
        · rw [if_pos (p4.mpr q), if_pos q]
        · rw [if_neg (fun w => q (p4.mp w)), if_neg q])
      ⟨by omega, rfl⟩
    rw [ee, hy.2]
  · rw [e, if_neg (nI_pos (by omega)), if_neg (nI_ne_m1 (by omega)), ix_nI (by omega)]
theorem coverC_eq {c m : Sx} (hO : WOrd m) (hV : WVal m) (h : WStk m) (rS : RStk c m) (dV : DVal c m) {s : Nat} (hs : s < 10) (hn : 0 < mn m s) : f_X6_cover c (nI s) = some (nI (cov m s)) := by
  obtain ⟨en, hn8, -⟩ := wStk_mn h hs
  have rat : ∀ f, f < 40 → gA m 29 f = nI s → f_X1_settledValue c (nI f) 1 = some (vOr m f 1 (-1)) := fun f hf e => by
    rw [settledValue1 c hf, (dV f hf (wStk_in h hf e hs).1).1 1 (by decide)]
  unfold f_X6_cover cov
  rw [gd_pos (vin_nI hs (by decide)), ix_nI (by omega), gd_pos (vin_nI hs (by decide)), (rS.2.2.2.1 s hs hn).1]
  rcases h.2.2.2.2 s hs hn with e | ⟨f, hf, e, e2⟩
  · rw [if_pos e, if_pos e, show (0 : Int32) = nI 0 from rfl, spot_eq, Option.bind_some, gd_pos (vin_nI (by omega) (by decide)), ix_nI (by omega), rS.2.2.1 s hs 0 hn, (wStk_fl h hs hn).1, show (1 : Int32) = nI 1 from rfl]
    obtain ⟨y, hy, ee⟩ := loopUp1 (L := fun n i st => L_X6_cover_30 c (nI s) (fun z5 z6 => some z5) n st i) (E := fun st => some st) (N := mn m s) (k0 := 1) (by omega) (by omega) (y := nI (fl m s 0))
      (fun k st => 0 < k ∧ st = nI (bst m s (k - 1)))
      (fun n y hy => by show L_X6_cover_30 _ _ _ _ _ _ = _; rw [L_X6_cover_30, gd_pos (vin_nI hs (by decide)), ix_nI (by omega), rS.2.1 s hs, en, if_pos (nI_le (Nat.le_refl _) (by omega))])
      (fun k y hk hy => by
        obtain ⟨hk0, rfl⟩ := hy
        obtain ⟨b1, b2'⟩ := bst_ok h hs (k := k - 1) (by omega)
        obtain ⟨g1, g2, g3⟩ := wStk_fl h hs hk
        have p4 : (vOr m (fl m s k) 1 (-1) ≤ vOr m (bst m s (k - 1)) 1 (-1)) ↔ rt m (fl m s k) ≤ rt m (bst m s (k - 1)) := i_le _ _
        have eb : bst m s k = if rt m (fl m s k) ≤ rt m (bst m s (k - 1)) then bst m s (k - 1) else fl m s k := by
          obtain ⟨q, rfl⟩ : ∃ q, k = q + 1 := ⟨k - 1, by omega⟩
          rw [bst]; rfl
        refine ⟨nI (bst m s k), ⟨by omega, rfl⟩, fun n => ?_⟩
        show L_X6_cover_30 _ _ _ _ _ _ = L_X6_cover_30 _ _ _ _ _ _
        rw [L_X6_cover_30, gd_pos (vin_nI hs (by decide)), ix_nI (by omega), rS.2.1 s hs, en, if_neg (by rw [nI_le_iff (by omega) (by omega)]; omega), spot_eq, Option.bind_some, gd_pos (vin_nI (by omega) (by decide)), ix_nI (by omega), rS.2.2.1 s hs k hk, g1, rat _ g2 g3, Option.bind_some, rat _ b1 b2', Option.bind_some, nI_lit1, eb]
        by_cases q : rt m (fl m s k) ≤ rt m (bst m s (k - 1))
        · rw [if_pos (p4.mpr q), if_pos q]
        · rw [if_neg (fun w => q (p4.mp w)), if_neg q])
      ⟨by omega, rfl⟩
    rw [ee, hy.2]
  · rw [e, if_neg (nI_ne_m1 (by omega)), if_neg (nI_ne_m1 (by omega)), ix_nI (by omega)]
def isS (m : Sx) (s : Nat) : Bool := decide (0 < mn m s)
/-- a stack's number -/
def stn (m : Sx) (x : Int32) : Bool := inr x 0 9 && isS m (ix x)
theorem stn_nI {m : Sx} {s : Nat} (hs : s < 10) : stn m (nI s) = isS m s := by
  unfold stn
  rw [show (9 : Int32) = nI 9 from rfl, inr_nI (by omega) (by decide), ix_nI (by omega), decide_eq_true (by omega)]
  rfl
theorem stn_out {m : Sx} {x : Int32} (h : stn m x = true) : ∃ s, s < 10 ∧ x = nI s ∧ 0 < mn m s := by
  unfold stn at h
  rw [Bool.and_eq_true] at h
  obtain ⟨k, hk, rfl⟩ := inr_out (n := 9) (by decide) h.1
  refine ⟨k, by omega, rfl, ?_⟩
  rw [ix_nI (by omega)] at h
  exact of_decide_eq_true h.2
theorem isStack_eq {m : Sx} (h : WStk m) (x : Int32) : f_X9_isStack m x = some (b2 (stn m x)) := by
  unfold f_X9_isStack stn
  rw [in_eq, Option.bind_some]
  cases e : inr x 0 9 with
  | false => rfl
  | true =>
    obtain ⟨k, hk, rfl⟩ := inr_out (n := 9) (by decide) e
    obtain ⟨en, hn8, -⟩ := wStk_mn h (s := k) (by omega)
    rw [bT, gd_pos (vin_nI (by omega) (by decide)), ix_nI (by omega), en, show (0 : Int32) = nI 0 from rfl, Bool.true_and, isS]
    by_cases q : 0 < mn m k
    · rw [if_neg (by rw [nI_le_iff (by omega) (by decide)]; omega), decide_eq_true q]; rfl
    · rw [if_pos (nI_le (by omega) (by decide)), decide_eq_false q]; rfl
theorem hasS_eq {c m : Sx} (h : WStk m) (rS : RStk c m) (x : Int32) : f_X6_has c x = some (b2 (stn m x)) := by
  unfold f_X6_has stn
  rw [isWithin_eq, Option.bind_some]
  cases e : inr x 0 9 with
  | false => rfl
  | true =>
    obtain ⟨k, hk, rfl⟩ := inr_out (n := 9) (by decide) e
    obtain ⟨en, hn8, -⟩ := wStk_mn h (s := k) (by omega)
    rw [bT, gd_pos (vin_nI (by omega) (by decide)), ix_nI (by omega), rS.2.1 k (by omega), en, show (0 : Int32) = nI 0 from rfl, Bool.true_and, isS]
    by_cases q : 0 < mn m k
    · rw [if_neg (by rw [nI_le_iff (by omega) (by decide)]; omega), decide_eq_true q]; rfl
    · rw [if_pos (nI_le (by omega) (by decide)), decide_eq_false q]; rfl
def DCov (c m : Sx) : Prop := ∀ k, k < 64 → (hb (gL c 12) k = true ↔ ∃ s, s < 10 ∧ 0 < mn m s ∧ cov m s = k)
def OnV (c c' : Sx) : Prop := gA c' = gA c ∧ gI c' = gI c ∧ gM c' = gM c ∧ ∀ k, k ≠ 12 → gL c' k = gL c k
theorem findCovers_eq {c m : Sx} (hO : WOrd m) (hV : WVal m) (h : WStk m) (rS : RStk c m) (dV : DVal c m) : ∃ c', f_X6_findCovers c = some c' ∧ OnV c c' ∧ DCov c' m := by
  unfold f_X6_findCovers
  rw [bd_eq]
  obtain ⟨y, ⟨hy, hk⟩, e⟩ := loop0 (L := fun n i s => L_X6_findCovers_7 (fun z6 t7 => some t7) n i s) (E := fun s => some s) (N := 10) (by decide) (y := pL c 12 0)
    (fun k y => OnV c y ∧ ∀ j, j < 64 → (hb (gL y 12) j = true ↔ ∃ s, s < k ∧ 0 < mn m s ∧ cov m s = j))
    (fun n y hy => by show L_X6_findCovers_7 _ _ _ _ = _; rw [L_X6_findCovers_7, if_pos (by decide)])
    (fun k y hk hy => by
      obtain ⟨hy, hj⟩ := hy
      have rS' : RStk y m := ⟨fun f hf => by rw [hy.1]; exact rS.1 f hf, fun s hs => by rw [hy.1]; exact rS.2.1 s hs, fun s hs k hk => by rw [hy.1]; exact rS.2.2.1 s hs k hk, fun s hs hn => by rw [hy.1]; exact rS.2.2.2.1 s hs hn, fun k hk => by rw [hy.2.2.2 11 (by decide)]; exact rS.2.2.2.2 k hk⟩
      have dV' : DVal y m := fun f hf hp => by rw [hy.1]; exact dV f hf hp
      by_cases q : 0 < mn m k
      · obtain ⟨c1, c2⟩ := cov_ok h hk q
        refine ⟨pL y 12 (gL y 12 ||| shlL 1 (nI (cov m k))), ⟨⟨hy.1, hy.2.1, hy.2.2.1, fun i hi => by rw [gL_pL, if_neg hi, hy.2.2.2 i hi]⟩, fun j hj2 => ?_⟩, fun n => ?_⟩
        · rw [gL_pL, if_pos rfl, hb_or, Bool.or_eq_true, hj j hj2, hb_only (by omega) hj2, decide_eq_true_eq]
          constructor
          · intro w
            rcases w with ⟨s, h1, h2, h3⟩ | w
            · exact ⟨s, by omega, h2, h3⟩
            · exact ⟨k, by omega, q, w.symm⟩
          · intro ⟨s, h1, h2, h3⟩
            by_cases hsk : s = k
            · subst hsk; exact Or.inr h3.symm
            · exact Or.inl ⟨s, by omega, h2, h3⟩
        · show L_X6_findCovers_7 _ _ _ _ = L_X6_findCovers_7 _ _ _ _
          rw [L_X6_findCovers_7, if_neg (ngo (x := 10) (N := 10) rfl (by omega) (by decide)), hasS_eq h rS', Option.bind_some, stn_nI hk, isS, decide_eq_true q, bT, coverC_eq hO hV h rS' dV' hk q, Option.bind_some]
          unfold f_X8_only
          rw [Option.bind_some, bd_eq, nI_lit1]
      · refine ⟨y, ⟨hy, fun j hj2 => ?_⟩, fun n => ?_⟩
        · rw [hj j hj2]
          refine ⟨fun ⟨s, h1, h2, h3⟩ => ⟨s, by omega, h2, h3⟩, fun ⟨s, h1, h2, h3⟩ => ⟨s, ?_, h2, h3⟩⟩
          rcases Nat.eq_or_lt_of_le (Nat.lt_succ_iff.mp h1) with w | w
          · subst w; exact absurd h2 q
          · exact w
        · show L_X6_findCovers_7 _ _ _ _ = L_X6_findCovers_7 _ _ _ _
          rw [L_X6_findCovers_7, if_neg (ngo (x := 10) (N := 10) rfl (by omega) (by decide)), hasS_eq h rS', Option.bind_some, stn_nI hk, isS, decide_eq_false q, bF, nI_lit1])
    (by
      refine ⟨⟨rfl, rfl, rfl, fun k hk => by rw [gL_pL, if_neg hk]⟩, fun j hj => ?_⟩
      rw [gL_pL, if_pos rfl, hb_0]
      exact ⟨fun h => Bool.noConfusion h, fun ⟨s, hs, _⟩ => by omega⟩)
  exact ⟨y, e, hy, hk⟩
end
section
/-! ===== rules: the automaton ===== -/
def dgt (ch : Nat) : Bool := decide (48 ≤ ch) && decide (ch ≤ 57)
def fldc (ch : Nat) : Bool := ch == 107 || ch == 114 || ch == 121 || ch == 99 || ch == 100
/-- the state behind a character: 0 an item is due, 1 a comparison, 2 a number, 3 to 6 so many digits less two, 7 a digit, 8 behind an item; 99 it may not stand there -/
def nx (s ch op : Nat) : Nat :=
  if s = 0 then
    if ch = 33 ∨ (ch = 40 ∧ op < 10) then 0
    else if fldc ch = true then 1
    else if ch = 116 ∨ ch = 97 then 7
    else if ch = 115 ∨ ch = 118 ∨ ch = 117 ∨ ch = 98 then 8 else 99
  else if s = 1 then
    if ch = 60 ∨ ch = 61 ∨ ch = 62 then 2 else if ch = 63 then 8 else 99
  else if s = 2 then (if dgt ch = true then 3 else 99)
  else if s = 7 then (if dgt ch = true then 8 else 99)
  else if s < 8 ∧ dgt ch = true then (if s = 6 then 8 else s + 1)
  else if ch = 38 ∨ ch = 124 then 0
  else if ch = 41 ∧ 0 < op then 8 else 99
def rI (s : Nat) : Int32 := if s = 99 then -1 else nI s
/-- the class's states -/
def mp (s : Nat) : Nat := if s = 2 then 7 else if s = 3 then 8 else if s = 9 then 8 else if s < 4 then s else s - 2
theorem behind_tab : ((List.range 9).all fun s => (List.range 127).all fun ch => (List.range 11).all fun op => decide (f_X9_behind t00 (nI s) (nI ch) (nI op) = some (rI (nx s ch op)))) = true := by decide +kernel
theorem behind_t (t : Sx) (s ch op : Int32) : f_X9_behind t s ch op = f_X9_behind t00 s ch op := rfl
theorem behind_eq (t : Sx) {s ch op : Nat} (hs : s < 9) (hc : ch < 127) (ho : op < 11) : f_X9_behind t (nI s) (nI ch) (nI op) = some (rI (nx s ch op)) := by
  rw [behind_t]
  have h1 := List.all_eq_true.mp behind_tab s (List.mem_range.mpr hs)
  have h2 := List.all_eq_true.mp h1 ch (List.mem_range.mpr hc)
  exact of_decide_eq_true (List.all_eq_true.mp h2 op (List.mem_range.mpr ho))
theorem next_tab : ((List.range 10).all fun s => (List.range 127).all fun ch => (List.range 11).all fun op => if nx (mp s) ch op = 99 then decide (f_X5_next t00 (nI s) (nI ch) (nI op) = some (-1)) else (List.range 10).any fun s' => decide (f_X5_next t00 (nI s) (nI ch) (nI op) = some (nI s')) && (mp s' == nx (mp s) ch op)) = true := by decide +kernel
theorem next_t (t : Sx) (s ch op : Int32) : f_X5_next t s ch op = f_X5_next t00 s ch op := rfl
theorem next_eq (t : Sx) {s ch op : Nat} (hs : s < 10) (hc : ch < 127) (ho : op < 11) : (nx (mp s) ch op = 99 ∧ f_X5_next t (nI s) (nI ch) (nI op) = some (-1)) ∨ (nx (mp s) ch op ≠ 99 ∧ ∃ s', s' < 10 ∧ mp s' = nx (mp s) ch op ∧ f_X5_next t (nI s) (nI ch) (nI op) = some (nI s')) := by
  rw [next_t]
  have h1 := List.all_eq_true.mp next_tab s (List.mem_range.mpr hs)
  have h2 := List.all_eq_true.mp h1 ch (List.mem_range.mpr hc)
  have h3 := List.all_eq_true.mp h2 op (List.mem_range.mpr ho)
  by_cases q : nx (mp s) ch op = 99
  · rw [if_pos q] at h3
    exact Or.inl ⟨q, of_decide_eq_true h3⟩
  · rw [if_neg q] at h3
    obtain ⟨s', hs', h4⟩ := List.any_eq_true.mp h3
    rw [Bool.and_eq_true, beq_iff_eq] at h4
    exact Or.inr ⟨q, s', List.mem_range.mp hs', h4.2, of_decide_eq_true h4.1⟩
theorem nx_tab : ((List.range 9).all fun s => (List.range 127).all fun ch => (List.range 11).all fun op => nx s ch op == 99 || (decide (nx s ch op < 9) && (ch != 40 || decide (op < 10)) && (ch != 41 || decide (0 < op)))) = true := by decide +kernel
theorem nx_ok {s ch op : Nat} (hs : s < 9) (hc : ch < 127) (ho : op < 11) (h : nx s ch op ≠ 99) : nx s ch op < 9 ∧ (ch = 40 → op < 10) ∧ (ch = 41 → 0 < op) := by
  have h1 := List.all_eq_true.mp nx_tab s (List.mem_range.mpr hs)
  have h2 := List.all_eq_true.mp h1 ch (List.mem_range.mpr hc)
  have h3 := List.all_eq_true.mp h2 op (List.mem_range.mpr ho)
  rcases (Bool.or_eq_true _ _).mp h3 with h4 | h4
  · exact absurd (by simpa using h4) h
  · simp only [Bool.and_eq_true, Bool.or_eq_true, decide_eq_true_eq, bne_iff_ne, ne_eq] at h4
    refine ⟨h4.1.1, fun e => ?_, fun e => ?_⟩
    · rcases h4.1.2 with q | q
      · exact absurd e q
      · exact q
    · rcases h4.2 with q | q
      · exact absurd e q
      · exact q
end
section
/-! ===== rules: the run over a text, its fault ===== -/
/-- the run over a text: state and open parentheses behind k characters, none: one may not stand there -/
def rn (ch : Nat → Nat) : Nat → Option (Nat × Nat)
  | 0 => some (0, 0)
  | k + 1 => match rn ch k with
    | none => none
    | some (s, o) => if nx s (ch k) o = 99 then none else some (nx s (ch k) o, if ch k = 40 then o + 1 else if ch k = 41 then o - 1 else o)
def okc (ch : Nat → Nat) (n : Nat) : Prop := ∀ k, k < n → 33 ≤ ch k ∧ ch k ≤ 126
theorem rn_ok {ch : Nat → Nat} {n : Nat} (h : okc ch n) : ∀ (k : Nat), k ≤ n → ∀ s o, rn ch k = some (s, o) → s < 9 ∧ o < 11
  | 0, _, s, o, e => by cases e; exact ⟨by decide, by decide⟩
  | k + 1, hk, s, o, e => by
    rw [rn] at e
    cases e1 : rn ch k with
    | none => rw [e1] at e; cases e
    | some p =>
      obtain ⟨s1, o1⟩ := p
      rw [e1] at e
      dsimp only at e
      obtain ⟨g1, g2⟩ := rn_ok h k (by omega) s1 o1 e1
      obtain ⟨c1, c2⟩ := h k (by omega)
      by_cases q : nx s1 (ch k) o1 = 99
      · rw [if_pos q] at e; cases e
      · rw [if_neg q] at e
        obtain ⟨w1, w2, w3⟩ := nx_ok g1 (by omega) g2 q
        have e2 := Prod.mk.inj (Option.some.inj e)
        refine ⟨by rw [← e2.1]; exact w1, ?_⟩
        rw [← e2.2]
        by_cases c40 : ch k = 40
        · rw [if_pos c40]; have := w2 c40; omega
        · rw [if_neg c40]
          by_cases c41 : ch k = 41
          · rw [if_pos c41]; omega
          · rw [if_neg c41]; exact g2
theorem rn_le {ch : Nat → Nat} : ∀ {k j : Nat}, j ≤ k → rn ch j = none → rn ch k = none
  | 0, j, h, e => by
    obtain rfl : j = 0 := by omega
    exact e
  | k + 1, j, h, e => by
    rcases Nat.eq_or_lt_of_le h with q | q
    · rw [← q]; exact e
    · rw [rn, rn_le (Nat.lt_succ_iff.mp q) e]
/-- a whole rule -/
def vld (ch : Nat → Nat) (n : Nat) : Prop := ∃ s, rn ch n = some (s, 0) ∧ (s = 8 ∨ (3 ≤ s ∧ s ≤ 6))
/-- the text's fault; the text is no rule -/
def flt (ch : Nat → Nat) (n p : Nat) : Prop := (p < n ∧ (∃ q, rn ch p = some q) ∧ rn ch (p + 1) = none) ∨ (p = n ∧ (∃ q, rn ch n = some q) ∧ ¬ vld ch n)
def tpd (m : Sx) : Nat := ix (gI m 52)
def tch (m : Sx) (k : Nat) : Nat := ix (gA m 34 k)
def WTxt (m : Sx) : Prop := ∃ n, n ≤ 80 ∧ gI m 52 = nI n ∧ ∀ k, k < n → ∃ ch, 33 ≤ ch ∧ ch ≤ 126 ∧ gA m 34 k = nI ch
theorem wTxt_n {m : Sx} (h : WTxt m) : tpd m ≤ 80 ∧ gI m 52 = nI (tpd m) := by
  obtain ⟨n, hn, e, -⟩ := h
  have : tpd m = n := by unfold tpd; rw [e, ix_nI (by omega)]
  rw [this]
  exact ⟨hn, e⟩
theorem wTxt_c {m : Sx} (h : WTxt m) {k : Nat} (hk : k < tpd m) : 33 ≤ tch m k ∧ tch m k ≤ 126 ∧ gA m 34 k = nI (tch m k) := by
  obtain ⟨n, hn, e, hc⟩ := h
  have : tpd m = n := by unfold tpd; rw [e, ix_nI (by omega)]
  obtain ⟨c, h1, h2, h3⟩ := hc k (by omega)
  have : tch m k = c := by unfold tch; rw [h3, ix_nI (by omega)]
  rw [this]
  exact ⟨h1, h2, h3⟩
theorem wTxt_ok {m : Sx} (h : WTxt m) : okc (tch m) (tpd m) := fun k hk => ⟨(wTxt_c h hk).1, (wTxt_c h hk).2.1⟩
theorem rI_nI {s : Nat} (h : s ≠ 99) : rI s = nI s := if_neg h
theorem nI_sub1 {k : Nat} (h : 0 < k) : nI k + (-1) = nI (k - 1) := by
  obtain ⟨q, rfl⟩ : ∃ q, k = q + 1 := ⟨k - 1, by omega⟩
  rw [Nat.add_sub_cancel, ← nI_pred q]
  exact (Int32.sub_eq_add_neg _ _).symm
theorem fault_eq {m : Sx} (h : WTxt m) : (vld (tch m) (tpd m) ∧ f_X9_fault m = some (-4)) ∨ ∃ p, p ≤ 80 ∧ flt (tch m) (tpd m) p ∧ f_X9_fault m = some (nI p) := by
  obtain ⟨hn, en⟩ := wTxt_n h
  unfold f_X9_fault
  generalize hk : (fun z2 z3 z4 => if z3 = 0 then if z2 = 8 then if (1 : Int32) = 0 then some (gI m 52) else some (-4) else (f_X9_in m (z2) (3) (6)).bind fun r5 => if r5 = 0 then if (0 : Int32) = 0 then some (gI m 52) else some (-4) else if (1 : Int32) = 0 then some (gI m 52) else some (-4) else if (0 : Int32) = 0 then some (gI m 52) else some (-4) : Int32 → Int32 → Int32 → Option Int32) = kont
  have hkont : ∀ (s o : Nat), s < 9 → o < 11 → rn (tch m) (tpd m) = some (s, o) → (vld (tch m) (tpd m) ∧ kont (nI s) (nI o) (nI (tpd m)) = some (-4)) ∨ (flt (tch m) (tpd m) (tpd m) ∧ kont (nI s) (nI o) (nI (tpd m)) = some (nI (tpd m))) := by
    intro s o hs ho er
    rw [← hk]
    dsimp only
    have z0 : (nI o = 0) ↔ o = 0 := by rw [show (0 : Int32) = nI 0 from rfl]; exact nI_eq_iff (by omega) (by decide)
    have z8 : (nI s = 8) ↔ s = 8 := by rw [show (8 : Int32) = nI 8 from rfl]; exact nI_eq_iff (by omega) (by decide)
    by_cases q : o = 0
    · subst q
      rw [if_pos (z0.mpr rfl)]
      by_cases q8 : s = 8
      · subst q8
        rw [if_pos (z8.mpr rfl), if_neg (by decide)]
        exact Or.inl ⟨⟨8, er, Or.inl rfl⟩, rfl⟩
      · rw [if_neg (fun w => q8 (z8.mp w)), in_eq, Option.bind_some]
        have e36 : inr (nI s) 3 6 = decide (3 ≤ s ∧ s ≤ 6) := by
          unfold inr
          have a := nI_le_iff (a := 3) (b := s) (by decide) (by omega)
          have b := nI_le_iff (a := s) (b := 6) (by omega) (by decide)
          rw [show (3 : Int32) = nI 3 from rfl, show (6 : Int32) = nI 6 from rfl]
          by_cases w1 : 3 ≤ s <;> by_cases w2 : s ≤ 6 <;> simp [a, b, w1, w2]
        rw [e36]
        by_cases q36 : 3 ≤ s ∧ s ≤ 6
        · rw [decide_eq_true q36, bT, if_neg (by decide)]
          exact Or.inl ⟨⟨s, er, Or.inr q36⟩, rfl⟩
        · rw [decide_eq_false q36, bF, if_pos rfl, en]
          refine Or.inr ⟨Or.inr ⟨rfl, ⟨_, er⟩, fun ⟨s', e', w⟩ => ?_⟩, rfl⟩
          rw [er] at e'
          cases e'
          omega
    · rw [if_neg (fun w => q (z0.mp w)), if_pos rfl, en]
      refine Or.inr ⟨Or.inr ⟨rfl, ⟨_, er⟩, fun ⟨s', e', w⟩ => ?_⟩, rfl⟩
      rw [er] at e'
      cases e'
      exact q rfl
  rcases loop0E (L := fun n i (st : Int32 × Int32) => L_X9_fault_6 m kont n st.1 st.2 i) (E := fun st => kont st.1 st.2 (nI (tpd m))) (N := tpd m) (by omega) (y := ((0 : Int32), (0 : Int32)))
    (fun k st => ∃ s o, s < 9 ∧ o < 11 ∧ st = (nI s, nI o) ∧ rn (tch m) k = some (s, o))
    (fun k st r => rn (tch m) (k + 1) = none ∧ r = some (nI k))
    (fun n st hst => by
      show L_X9_fault_6 _ _ _ _ _ _ = _
      rw [L_X9_fault_6, en, if_pos (nI_le (Nat.le_refl _) (by omega))])
    (fun k st hk2 hst => by
      obtain ⟨s, o, hs, ho, rfl, er⟩ := hst
      obtain ⟨c1, c2, ec⟩ := wTxt_c h hk2
      have hst : ∀ n, L_X9_fault_6 m kont (n + 1) (nI s) (nI o) (nI k) = if 0 ≤ rI (nx s (tch m k) o) then if nI (tch m k) = 40 then L_X9_fault_6 m kont n (rI (nx s (tch m k) o)) (nI (o + 1)) (nI (k + 1)) else if nI (tch m k) = 41 then L_X9_fault_6 m kont n (rI (nx s (tch m k) o)) (nI o + (-1)) (nI (k + 1)) else L_X9_fault_6 m kont n (rI (nx s (tch m k) o)) (nI o) (nI (k + 1)) else some (nI k) := fun n => by
        rw [L_X9_fault_6, en, if_neg (by rw [nI_le_iff (by omega) (by omega)]; omega), gd_pos (vin_nI (by omega) (by decide)), ix_nI (by omega), ec, behind_eq m hs (by omega) ho, Option.bind_some, nI_lit1, nI_lit1, show nI o + 0 = nI o from by rw [show (0 : Int32) = nI 0 from rfl, nI_add, Nat.add_zero]]
      have z40 : (nI (tch m k) = 40) ↔ tch m k = 40 := by rw [show (40 : Int32) = nI 40 from rfl]; exact nI_eq_iff (by omega) (by decide)
      have z41 : (nI (tch m k) = 41) ↔ tch m k = 41 := by rw [show (41 : Int32) = nI 41 from rfl]; exact nI_eq_iff (by omega) (by decide)
      by_cases q : nx s (tch m k) o = 99
      · right
        refine ⟨some (nI k), ⟨by rw [rn, er]; dsimp only; rw [if_pos q], rfl⟩, fun n => ?_⟩
        show L_X9_fault_6 _ _ _ _ _ _ = _
        rw [hst, q, if_neg (by decide)]
      · left
        obtain ⟨w1, w2, w3⟩ := nx_ok hs (by omega) ho q
        have er' : rn (tch m) (k + 1) = some (nx s (tch m k) o, if tch m k = 40 then o + 1 else if tch m k = 41 then o - 1 else o) := by
          rw [rn, er]; dsimp only; rw [if_neg q]
        by_cases c40 : tch m k = 40
        · rw [if_pos c40] at er'
          refine ⟨(nI (nx s (tch m k) o), nI (o + 1)), ⟨_, _, w1, by have := w2 c40; omega, rfl, er'⟩, fun n => ?_⟩
          show L_X9_fault_6 _ _ _ _ _ _ = _
          rw [hst, rI_nI q, if_pos (nI_pos' (by omega)), if_pos (z40.mpr c40)]
        · rw [if_neg c40] at er'
          by_cases c41 : tch m k = 41
          · rw [if_pos c41] at er'
            refine ⟨(nI (nx s (tch m k) o), nI (o - 1)), ⟨_, _, w1, by omega, rfl, er'⟩, fun n => ?_⟩
            show L_X9_fault_6 _ _ _ _ _ _ = _
            rw [hst, rI_nI q, if_pos (nI_pos' (by omega)), if_neg (fun w => c40 (z40.mp w)), if_pos (z41.mpr c41), nI_sub1 (w3 c41)]
          · rw [if_neg c41] at er'
            refine ⟨(nI (nx s (tch m k) o), nI o), ⟨_, _, w1, ho, rfl, er'⟩, fun n => ?_⟩
            show L_X9_fault_6 _ _ _ _ _ _ = _
            rw [hst, rI_nI q, if_pos (nI_pos' (by omega)), if_neg (fun w => c40 (z40.mp w)), if_neg (fun w => c41 (z41.mp w))])
    ⟨0, 0, by decide, by decide, rfl, rfl⟩ with ⟨st, ⟨s, o, hs, ho, rfl, er⟩, e⟩ | ⟨k, st, r, hk2, ⟨s, o, hs, ho, rfl, er⟩, ⟨e1, rfl⟩, e2⟩
  · rcases hkont s o hs ho er with ⟨a1, a2⟩ | ⟨a1, a2⟩
    · exact Or.inl ⟨a1, e.trans a2⟩
    · exact Or.inr ⟨tpd m, hn, a1, e.trans a2⟩
  · exact Or.inr ⟨k, by omega, Or.inl ⟨hk2, ⟨_, er⟩, e1⟩, e2⟩
def RTxt (c m : Sx) : Prop := gI c 158 = gI m 52 ∧ ∀ k, k < tpd m → gA c 108 k = gA m 34 k
theorem mp_inv {s : Nat} (hs : s < 10) : (mp s < 9) ∧ ((mp s = 8 ∨ (3 ≤ mp s ∧ mp s ≤ 6)) ↔ (3 ≤ s ∧ s ≠ 4)) := by
  unfold mp
  rcases (show s = 0 ∨ s = 1 ∨ s = 2 ∨ s = 3 ∨ s = 4 ∨ s = 5 ∨ s = 6 ∨ s = 7 ∨ s = 8 ∨ s = 9 by omega) with rfl | rfl | rfl | rfl | rfl | rfl | rfl | rfl | rfl | rfl <;> decide
theorem faultC_eq {c m : Sx} (h : WTxt m) (rT : RTxt c m) : (vld (tch m) (tpd m) ∧ f_X5_firstFault c 8 = some (-1)) ∨ ∃ p, p ≤ 80 ∧ flt (tch m) (tpd m) p ∧ f_X5_firstFault c 8 = some (nI p) := by
  obtain ⟨hn, en⟩ := wTxt_n h
  have eg : gI c (150 + 8) = nI (tpd m) := rT.1.trans en
  unfold f_X5_firstFault
  generalize hk : (fun z2 z3 z4 => if z2 < 3 then some (gI c (150 + 8)) else if z2 = 4 then some (gI c (150 + 8)) else if z3 = 0 then some (-1) else some (gI c (150 + 8)) : Int32 → Int32 → Int32 → Option Int32) = kont
  have hkont : ∀ (s o : Nat), s < 10 → o < 11 → rn (tch m) (tpd m) = some (mp s, o) → (vld (tch m) (tpd m) ∧ kont (nI s) (nI o) (nI (tpd m)) = some (-1)) ∨ (flt (tch m) (tpd m) (tpd m) ∧ kont (nI s) (nI o) (nI (tpd m)) = some (nI (tpd m))) := by
    intro s o hs ho er
    rw [← hk]
    dsimp only
    rw [eg]
    have z0 : (nI o = 0) ↔ o = 0 := by rw [show (0 : Int32) = nI 0 from rfl]; exact nI_eq_iff (by omega) (by decide)
    have z4 : (nI s = 4) ↔ s = 4 := by rw [show (4 : Int32) = nI 4 from rfl]; exact nI_eq_iff (by omega) (by decide)
    have z3 : (nI s < 3) ↔ s < 3 := by rw [show (3 : Int32) = nI 3 from rfl]; exact nI_lt_iff (by omega) (by decide)
    obtain ⟨-, hm⟩ := mp_inv hs
    have bad : ¬ (3 ≤ s ∧ s ≠ 4 ∧ o = 0) → ¬ vld (tch m) (tpd m) := fun hb ⟨s', e', w⟩ => by
      rw [er] at e'
      have e2 := Prod.mk.inj (Option.some.inj e')
      rw [← e2.1] at w
      have := hm.mp w
      exact hb ⟨this.1, this.2, e2.2⟩
    by_cases q3 : s < 3
    · rw [if_pos (z3.mpr q3)]
      exact Or.inr ⟨Or.inr ⟨rfl, ⟨_, er⟩, bad (by omega)⟩, rfl⟩
    · rw [if_neg (fun w => q3 (z3.mp w))]
      by_cases q4 : s = 4
      · rw [if_pos (z4.mpr q4)]
        exact Or.inr ⟨Or.inr ⟨rfl, ⟨_, er⟩, bad (by omega)⟩, rfl⟩
      · rw [if_neg (fun w => q4 (z4.mp w))]
        by_cases q0 : o = 0
        · rw [if_pos (z0.mpr q0)]
          subst q0
          exact Or.inl ⟨⟨mp s, er, hm.mpr ⟨by omega, q4⟩⟩, rfl⟩
        · rw [if_neg (fun w => q0 (z0.mp w))]
          exact Or.inr ⟨Or.inr ⟨rfl, ⟨_, er⟩, bad (by omega)⟩, rfl⟩
  rcases loop0E (L := fun n i (st : Int32 × Int32) => L_X5_firstFault_6 c 8 kont n st.1 st.2 i) (E := fun st => kont st.1 st.2 (nI (tpd m))) (N := tpd m) (by omega) (y := ((0 : Int32), (0 : Int32)))
    (fun k st => ∃ s o, s < 10 ∧ o < 11 ∧ st = (nI s, nI o) ∧ rn (tch m) k = some (mp s, o))
    (fun k st r => rn (tch m) (k + 1) = none ∧ r = some (nI k))
    (fun n st hst => by
      show L_X5_firstFault_6 _ _ _ _ _ _ _ = _
      rw [L_X5_firstFault_6, eg, if_pos (nI_le (Nat.le_refl _) (by omega))])
    (fun k st hk2 hst => by
      obtain ⟨s, o, hs, ho, rfl, er⟩ := hst
      obtain ⟨c1, c2, ec⟩ := wTxt_c h hk2
      have ec' : gA c (100 + 8) k = nI (tch m k) := (rT.2 k hk2).trans ec
      have hst : ∀ n, L_X5_firstFault_6 c 8 kont (n + 1) (nI s) (nI o) (nI k) = (f_X5_next c (nI s) (nI (tch m k)) (nI o)).bind fun r1 => if r1 = (-1) then some (nI k) else if nI (tch m k) = 40 then L_X5_firstFault_6 c 8 kont n r1 (nI (o + 1)) (nI (k + 1)) else if nI (tch m k) = 41 then L_X5_firstFault_6 c 8 kont n r1 (nI o + (-1)) (nI (k + 1)) else L_X5_firstFault_6 c 8 kont n r1 (nI o) (nI (k + 1)) := fun n => by
        rw [L_X5_firstFault_6, eg, if_neg (by rw [nI_le_iff (by omega) (by omega)]; omega), gd_pos (vin_nI (by omega) (by decide)), ix_nI (by omega), ec', nI_lit1, nI_lit1]
      have z40 : (nI (tch m k) = 40) ↔ tch m k = 40 := by rw [show (40 : Int32) = nI 40 from rfl]; exact nI_eq_iff (by omega) (by decide)
      have z41 : (nI (tch m k) = 41) ↔ tch m k = 41 := by rw [show (41 : Int32) = nI 41 from rfl]; exact nI_eq_iff (by omega) (by decide)
      rcases next_eq c hs (ch := tch m k) (by omega) ho with ⟨q, eq⟩ | ⟨q, s', hs', em, eq⟩
      · right
        refine ⟨some (nI k), ⟨by rw [rn, er]; dsimp only; rw [if_pos q], rfl⟩, fun n => ?_⟩
        show L_X5_firstFault_6 _ _ _ _ _ _ _ = _
        rw [hst, eq, Option.bind_some, if_pos rfl]
      · left
        obtain ⟨w1, w2, w3⟩ := nx_ok (mp_inv hs).1 (by omega) ho q
        have er' : rn (tch m) (k + 1) = some (mp s', if tch m k = 40 then o + 1 else if tch m k = 41 then o - 1 else o) := by
          rw [rn, er]; dsimp only; rw [if_neg q, em]
        by_cases c40 : tch m k = 40
        · rw [if_pos c40] at er'
          refine ⟨(nI s', nI (o + 1)), ⟨_, _, hs', by have := w2 c40; omega, rfl, er'⟩, fun n => ?_⟩
          show L_X5_firstFault_6 _ _ _ _ _ _ _ = _
          rw [hst, eq, Option.bind_some, if_neg (nI_ne_m1 (by omega)), if_pos (z40.mpr c40)]
        · rw [if_neg c40] at er'
          by_cases c41 : tch m k = 41
          · rw [if_pos c41] at er'
            refine ⟨(nI s', nI (o - 1)), ⟨_, _, hs', by omega, rfl, er'⟩, fun n => ?_⟩
            show L_X5_firstFault_6 _ _ _ _ _ _ _ = _
            rw [hst, eq, Option.bind_some, if_neg (nI_ne_m1 (by omega)), if_neg (fun w => c40 (z40.mp w)), if_pos (z41.mpr c41), nI_sub1 (w3 c41)]
          · rw [if_neg c41] at er'
            refine ⟨(nI s', nI o), ⟨_, _, hs', ho, rfl, er'⟩, fun n => ?_⟩
            show L_X5_firstFault_6 _ _ _ _ _ _ _ = _
            rw [hst, eq, Option.bind_some, if_neg (nI_ne_m1 (by omega)), if_neg (fun w => c40 (z40.mp w)), if_neg (fun w => c41 (z41.mp w))])
    ⟨0, 0, by decide, by decide, rfl, rfl⟩ with ⟨st, ⟨s, o, hs, ho, rfl, er⟩, e⟩ | ⟨k, st, r, hk2, ⟨s, o, hs, ho, rfl, er⟩, ⟨e1, rfl⟩, e2⟩
  · rcases hkont s o hs ho er with ⟨a1, a2⟩ | ⟨a1, a2⟩
    · exact Or.inl ⟨a1, e.trans a2⟩
    · exact Or.inr ⟨tpd m, hn, a1, e.trans a2⟩
  · exact Or.inr ⟨k, by omega, Or.inl ⟨hk2, ⟨_, er⟩, e1⟩, e2⟩
theorem flt_one {ch : Nat → Nat} {n p q : Nat} (a : flt ch n p) (b : flt ch n q) : p = q := by
  rcases a with ⟨a1, ⟨r, a2⟩, a3⟩ | ⟨a1, ⟨r, a2⟩, a3⟩ <;> rcases b with ⟨b1, ⟨r', b2⟩, b3⟩ | ⟨b1, ⟨r', b2⟩, b3⟩
  · rcases Nat.lt_trichotomy p q with w | w | w
    · rw [rn_le (show p + 1 ≤ q by omega) a3] at b2; cases b2
    · exact w
    · rw [rn_le (show q + 1 ≤ p by omega) b3] at a2; cases a2
  · rw [rn_le (show p + 1 ≤ n by omega) a3] at b2; cases b2
  · rw [rn_le (show q + 1 ≤ n by omega) b3] at a2; cases a2
  · omega
theorem flt_vld {ch : Nat → Nat} {n p : Nat} (a : flt ch n p) : ¬ vld ch n := by
  rcases a with ⟨a1, ⟨r, a2⟩, a3⟩ | ⟨a1, ⟨r, a2⟩, a3⟩
  · intro ⟨s, e, _⟩
    rw [rn_le (show p + 1 ≤ n by omega) a3] at e
    cases e
  · exact a3
end
section
theorem fb_char {n : Nat} (h : n < 65536) : (nI n).toUInt32.toUInt16.toUInt32.toInt32 = nI n := by
  apply Int32.toBitVec_inj.1
  apply BitVec.eq_of_toNat_eq
  have e1 : (nI n).toBitVec.toNat = n := by
    show (BitVec.ofNat 32 n).toNat = n
    rw [BitVec.toNat_ofNat, Nat.mod_eq_of_lt (by omega)]
  have e2 : ((nI n).toUInt32.toUInt16.toUInt32).toNat = n := by
    rw [UInt16.toNat_toUInt32, UInt32.toNat_toUInt16]
    show (nI n).toBitVec.toNat % 2 ^ 16 = n
    rw [e1, Nat.mod_eq_of_lt (by omega)]
  rw [e1]
  exact e2
/-! ===== rules: what a file answers, character by character; the class's side ===== -/
abbrev Es : Type := Nat × (Nat → Bool) × (Nat → Bool) × (Nat → Bool)
def eTake (s : Es) (b : Bool) : Es := (s.1, s.2.1, upf s.2.2.1 s.1 (s.2.2.1 s.1 && (b != s.2.2.2 s.1)), upf s.2.2.2 s.1 false)
def eStep (cn : Nat → Bool) (ch : Nat → Nat) (k : Nat) (s : Es) : Es :=
  if 97 ≤ ch k ∧ ch k ≤ 122 then eTake s (cn k)
  else if ch k = 33 then (s.1, s.2.1, s.2.2.1, upf s.2.2.2 s.1 (!s.2.2.2 s.1))
  else if ch k = 40 then (s.1 + 1, upf s.2.1 (s.1 + 1) false, upf s.2.2.1 (s.1 + 1) true, upf s.2.2.2 (s.1 + 1) false)
  else if ch k = 41 then eTake (s.1 - 1, s.2.1, s.2.2.1, s.2.2.2) (s.2.1 s.1 || s.2.2.1 s.1)
  else if ch k = 124 then (s.1, upf s.2.1 s.1 (s.2.1 s.1 || s.2.2.1 s.1), upf s.2.2.1 s.1 true, s.2.2.2)
  else s
def eRun (cn : Nat → Bool) (ch : Nat → Nat) : Nat → Es
  | 0 => (0, fun _ => false, fun _ => true, fun _ => false)
  | k + 1 => eStep cn ch k (eRun cn ch k)
def eVal (cn : Nat → Bool) (ch : Nat → Nat) (n : Nat) : Bool := (eRun cn ch n).2.1 0 || (eRun cn ch n).2.2.1 0
theorem eLev {cn : Nat → Bool} {ch : Nat → Nat} : ∀ {k s o : Nat}, rn ch k = some (s, o) → (eRun cn ch k).1 = o
  | 0, s, o, e => by cases e; rfl
  | k + 1, s, o, e => by
    rw [rn] at e
    cases e1 : rn ch k with
    | none => rw [e1] at e; cases e
    | some p =>
      obtain ⟨s1, o1⟩ := p
      rw [e1] at e
      dsimp only at e
      have ih := eLev (cn := cn) e1
      by_cases q : nx s1 (ch k) o1 = 99
      · rw [if_pos q] at e; cases e
      · rw [if_neg q] at e
        have e2 := (Prod.mk.inj (Option.some.inj e)).2
        rw [← e2, eRun, eStep]
        by_cases c1 : 97 ≤ ch k ∧ ch k ≤ 122
        · rw [if_pos c1, if_neg (by omega), if_neg (by omega)]; exact ih
        · rw [if_neg c1]
          by_cases c2 : ch k = 33
          · rw [if_pos c2, if_neg (by omega), if_neg (by omega)]; exact ih
          · rw [if_neg c2]
            by_cases c3 : ch k = 40
            · rw [if_pos c3, if_pos c3]; show (eRun cn ch k).1 + 1 = _; rw [ih]
            · rw [if_neg c3, if_neg c3]
              by_cases c4 : ch k = 41
              · rw [if_pos c4, if_pos c4]; show (eRun cn ch k).1 - 1 = _; rw [ih]
              · rw [if_neg c4, if_neg c4]
                by_cases c5 : ch k = 124
                · rw [if_pos c5]; exact ih
                · rw [if_neg c5]; exact ih
/-- the "!" before an item don't ask what a condition says -/
theorem eNot (cn cn' : Nat → Bool) (ch : Nat → Nat) : ∀ k, (eRun cn ch k).1 = (eRun cn' ch k).1 ∧ (eRun cn ch k).2.2.2 = (eRun cn' ch k).2.2.2
  | 0 => ⟨rfl, rfl⟩
  | k + 1 => by
    obtain ⟨a, b⟩ := eNot cn cn' ch k
    rw [eRun, eRun, eStep, eStep]
    by_cases c1 : 97 ≤ ch k ∧ ch k ≤ 122
    · rw [if_pos c1, if_pos c1]; simp only [eTake, a, b, and_self]
    · rw [if_neg c1, if_neg c1]
      by_cases c2 : ch k = 33
      · rw [if_pos c2, if_pos c2]; simp only [a, b, and_self]
      · rw [if_neg c2, if_neg c2]
        by_cases c3 : ch k = 40
        · rw [if_pos c3, if_pos c3]; simp only [a, b, and_self]
        · rw [if_neg c3, if_neg c3]
          by_cases c4 : ch k = 41
          · rw [if_pos c4, if_pos c4]; simp only [eTake, a, b, and_self]
          · rw [if_neg c4, if_neg c4]
            by_cases c5 : ch k = 124
            · rw [if_pos c5, if_pos c5]; exact ⟨a, b⟩
            · rw [if_neg c5, if_neg c5]; exact ⟨a, b⟩
theorem gch_nI {n : Nat} (h : n < 65536) : gch (nI n) := by
  show narrow .char (.int (nI n)) = .int (nI n)
  show Value.int _ = Value.int _
  exact congrArg Value.int (fb_char h)
/-- text j of the class holds the n characters ch -/
def Tx (c : Sx) (j : Nat) (ch : Nat → Nat) (n : Nat) : Prop := n ≤ 80 ∧ gI c (150 + j) = nI n ∧ (∀ k, k < n → gA c (100 + j) k = nI (ch k)) ∧ okc ch n
theorem at_eq {c : Sx} {j : Nat} {ch : Nat → Nat} {n : Nat} (h : Tx c j ch n) {k : Nat} (hk : k < 2000) : f_X5_at c j (nI k) = some (if k < n then nI (ch k) else 0) := by
  obtain ⟨hn, en, ec, ho⟩ := h
  unfold f_X5_at
  rw [if_neg (nI_pos (by omega)), en]
  by_cases q : k < n
  · obtain ⟨h1, h2⟩ := ho k q
    rw [if_neg (by rw [nI_le_iff (by omega) (by omega)]; omega), gd_pos (vin_nI (by omega) (by decide)), ix_nI (by omega), ec k q, gd_pos (gch_nI (by omega)), if_pos q]
  · rw [if_pos (nI_le (by omega) (by omega)), if_neg q]
def OnJ (c c' : Sx) : Prop := (∀ a, a ≠ 19 → gA c' a = gA c a) ∧ (∀ k, k ≠ 51 → gI c' k = gI c k) ∧ gL c' = gL c ∧ ∀ a, 2 ≤ a → gM c' a = gM c a
theorem OnJ.rf (c : Sx) : OnJ c c := ⟨fun _ _ => rfl, fun _ _ => rfl, rfl, fun _ _ => rfl⟩
theorem OnJ.tr {a b c : Sx} (h : OnJ a b) (g : OnJ b c) : OnJ a c := ⟨fun i hi => (g.1 i hi).trans (h.1 i hi), fun i hi => (g.2.1 i hi).trans (h.2.1 i hi), g.2.2.1.trans h.2.2.1, fun i hi => (g.2.2.2 i hi).trans (h.2.2.2 i hi)⟩
theorem OnJ.pI {c : Sx} {v : Int32} : OnJ c (pI c 51 v) := ⟨fun _ _ => rfl, fun k hk => by rw [gI_pI, if_neg hk], rfl, fun _ _ => rfl⟩
theorem OnJ.pA {c : Sx} {k : Nat} {v : Int32} : OnJ c (pA c 19 k v) := ⟨fun a ha => gA_pA_ne ha, fun _ _ => rfl, rfl, fun _ _ => rfl⟩
theorem OnJ.pM {c : Sx} {a k : Nat} {v : Int64} (h : a < 2) : OnJ c (pM c a k v) := ⟨fun _ _ => rfl, fun _ _ => rfl, rfl, fun i hi => gM_pM_ne (by omega)⟩
theorem Tx.on {c y : Sx} {j : Nat} {ch : Nat → Nat} {n : Nat} (h : Tx c j ch n) (o : OnJ c y) : Tx y j ch n := ⟨h.1, by rw [o.2.1 _ (by omega)]; exact h.2.1, fun k hk => by rw [o.1 _ (by omega)]; exact h.2.2.1 k hk, h.2.2.2⟩
/-- the judge's rows show, for each file, what it answers so far -/
def Jd (y : Sx) (P : Nat → Bool) (E : Nat → Es) (o : Nat) : Prop := gI y 51 = nI o ∧ o < 11 ∧ (∀ f, (E f).1 = o) ∧ ∀ l, l ≤ o → (∀ f, f < 64 → hb (gM y 0 l) f = (P f && (E f).2.1 l)) ∧ (∀ f, f < 64 → hb (gM y 1 l) f = (P f && (E f).2.2.1 l)) ∧ ∀ f, gA y 19 l = b2 ((E f).2.2.2 l)
theorem take_eq {y : Sx} {P : Nat → Bool} {E : Nat → Es} {o : Nat} (h : Jd y P E o) {x : Int64} {b : Nat → Bool} (hx : ∀ f, f < 64 → P f = true → hb x f = b f) : ∃ y', f_X4_take y x = some y' ∧ OnJ y y' ∧ Jd y' P (fun f => eTake (E f) (b f)) o := by
  obtain ⟨e1, ho, eL, hl⟩ := h
  obtain ⟨-, hr, hn⟩ := hl o (Nat.le_refl _)
  have key : ∀ (w : Int64), (∀ f, f < 64 → P f = true → hb w f = (b f != (E f).2.2.2 o)) → OnJ y (pA (pM y 1 o (gM y 1 o &&& w)) 19 o 0) ∧ Jd (pA (pM y 1 o (gM y 1 o &&& w)) 19 o 0) P (fun f => eTake (E f) (b f)) o := by
    intro w hw
    refine ⟨(OnJ.pM (by decide)).tr OnJ.pA, e1, ho, eL, fun l hl2 => ⟨fun f hf => ?_, fun f hf => ?_, fun f => ?_⟩⟩
    · rw [gM_pA, gM_pM_ne (by decide)]
      exact (hl l hl2).1 f hf
    · rw [gM_pA, gM_pM_at]
      show _ = (P f && upf (E f).2.2.1 (E f).1 ((E f).2.2.1 (E f).1 && (b f != (E f).2.2.2 (E f).1)) l)
      unfold upf
      rw [eL f]
      by_cases q : l = o
      · subst q
        rw [if_pos rfl, if_pos rfl, hb_and, hr f hf]
        cases hp : P f with
        | false => rfl
        | true => rw [hw f hf hp]; rfl
      · rw [if_neg q, if_neg q]
        exact (hl l hl2).2.1 f hf
    · rw [gA_pA_at, gA_pM]
      show _ = b2 (upf (E f).2.2.2 (E f).1 false l)
      unfold upf
      rw [eL f]
      by_cases q : l = o
      · subst q; rw [if_pos rfl, if_pos rfl]; rfl
      · rw [if_neg q, if_neg q]; exact (hl l hl2).2.2 f
  have g11 : vp_in (gI y 51) 11 := by rw [e1]; exact vin_nI ho (by decide)
  have ixo : ix (gI y 51) = o := by rw [e1, ix_nI (by omega)]
  unfold f_X4_take
  rw [gd_pos g11, gd_pos g11, gd_pos g11, gd_pos g11, ixo]
  cases q : (E 0).2.2.2 o with
  | false =>
    rw [show gA y 19 o = 0 by rw [hn 0, q]; rfl, if_pos rfl, bd_eq, gI_pM, gd_pos g11, bd_eq, ixo]
    refine ⟨_, rfl, key x (fun f hf hp => ?_)⟩
    rw [hx f hf hp, show (E f).2.2.2 o = false by
      have := hn f
      rw [hn 0, q] at this
      exact (b2_inj.mp this).symm]
    cases b f <;> rfl
  | true =>
    rw [show gA y 19 o = 1 by rw [hn 0, q]; rfl, if_neg (by decide), bd_eq, gI_pM, gd_pos g11, bd_eq, ixo]
    refine ⟨_, rfl, key (x ^^^ -1) (fun f hf hp => ?_)⟩
    rw [hb_not x hf, hx f hf hp, show (E f).2.2.2 o = true by
      have := hn f
      rw [hn 0, q] at this
      exact (b2_inj.mp this).symm]
    cases b f <;> rfl
theorem begin_eq {y : Sx} {o : Nat} (e1 : gI y 51 = nI o) (ho : o < 11) : f_X4_beginLevel y = some (pA (pM (pM y 0 o 0) 1 o (gL y 8)) 19 o 0) := by
  have g11 : vp_in (gI y 51) 11 := by rw [e1]; exact vin_nI ho (by decide)
  have ixo : ix (gI y 51) = o := by rw [e1, ix_nI (by omega)]
  unfold f_X4_beginLevel f_X1_all
  rw [gd_pos g11, bd_eq, Option.bind_some, gI_pM, gd_pos g11, bd_eq, gI_pM, gI_pM, gd_pos g11, bd_eq, ixo, gL_pM]
/-- one character that is no letter -/
theorem operate_eq {y : Sx} {P : Nat → Bool} {E : Nat → Es} {o : Nat} (h : Jd y P E o) (hP : ∀ f, f < 64 → hb (gL y 8) f = P f) {ch : Nat → Nat} {k : Nat} (hc : ch k < 127) (hnl : ¬ (97 ≤ ch k ∧ ch k ≤ 122)) (h40 : ch k = 40 → o < 10) (h41 : ch k = 41 → 0 < o) (cn : Nat → Nat → Bool) : ∃ y' o', f_X4_operate y (nI (ch k)) = some y' ∧ OnJ y y' ∧ Jd y' P (fun f => eStep (cn f) ch k (E f)) o' := by
  have z : ∀ n, n < 2000 → ((nI (ch k) = nI n) ↔ ch k = n) := fun n hn => nI_eq_iff (by omega) (by omega)
  have z33 : (nI (ch k) = 33) ↔ ch k = 33 := z 33 (by decide)
  have z40 : (nI (ch k) = 40) ↔ ch k = 40 := z 40 (by decide)
  have z41 : (nI (ch k) = 41) ↔ ch k = 41 := z 41 (by decide)
  have z124 : (nI (ch k) = 124) ↔ ch k = 124 := z 124 (by decide)
  have g11 : vp_in (gI y 51) 11 := by rw [h.1]; exact vin_nI h.2.1 (by decide)
  have ixo : ix (gI y 51) = o := by rw [h.1, ix_nI (by have := h.2.1; omega)]
  unfold f_X4_operate
  by_cases c2 : ch k = 33
  · rw [if_pos (z33.mpr c2), gd_pos g11, gd_pos g11, gd_pos g11, ixo]
    have fin : ∀ v : Int32, (∀ f, v = b2 (!(E f).2.2.2 o)) → OnJ y (pA y 19 o v) ∧ Jd (pA y 19 o v) P (fun f => eStep (cn f) ch k (E f)) o := fun v hv => by
      refine ⟨OnJ.pA, h.1, h.2.1, fun f => ?_, fun l hl2 => ?_⟩
      · dsimp only; rw [eStep, if_neg hnl, if_pos c2]; exact h.2.2.1 f
      · obtain ⟨a1, a2, a3⟩ := h.2.2.2 l hl2
        refine ⟨fun f hf => ?_, fun f hf => ?_, fun f => ?_⟩
        · dsimp only; rw [eStep, if_neg hnl, if_pos c2]; exact a1 f hf
        · dsimp only; rw [eStep, if_neg hnl, if_pos c2]; exact a2 f hf
        · dsimp only; rw [eStep, if_neg hnl, if_pos c2, gA_pA_at]
          show _ = b2 (upf (E f).2.2.2 (E f).1 (!(E f).2.2.2 (E f).1) l)
          unfold upf
          rw [h.2.2.1 f]
          by_cases q : l = o
          · subst q; rw [if_pos rfl, if_pos rfl]; exact hv f
          · rw [if_neg q, if_neg q]; exact a3 f
    have hn := (h.2.2.2 o (Nat.le_refl _)).2.2
    have same : ∀ f, (E f).2.2.2 o = (E 0).2.2.2 o := fun f => by
      have := hn f
      rw [hn 0] at this
      exact (b2_inj.mp this).symm
    cases q : (E 0).2.2.2 o with
    | false =>
      rw [show gA y 19 o = 0 by rw [hn 0, q]; rfl, if_pos rfl, bd_eq]
      exact ⟨_, o, rfl, fin 1 (fun f => by rw [same f, q]; rfl)⟩
    | true =>
      rw [show gA y 19 o = 1 by rw [hn 0, q]; rfl, if_neg (by decide), bd_eq]
      exact ⟨_, o, rfl, fin 0 (fun f => by rw [same f, q]; rfl)⟩
  · rw [if_neg (fun w => c2 (z33.mp w))]
    by_cases c3 : ch k = 40
    · rw [if_pos (z40.mpr c3)]
      have ho := h40 c3
      unfold f_X4_openLevel
      rw [h.1, if_neg (by rw [show (10 : Int32) = nI 10 from rfl, nI_le_iff (by decide) (by omega)]; omega), bd_eq, nI_lit1, begin_eq (y := pI y 51 (nI (o + 1))) (o := o + 1) (by rw [gI_pI, if_pos rfl]) (by omega)]
      refine ⟨_, o + 1, rfl, OnJ.pI.tr ((OnJ.pM (by decide)).tr ((OnJ.pM (by decide)).tr OnJ.pA)), by rw [gI_pA, gI_pM, gI_pM, gI_pI, if_pos rfl], by omega, fun f => ?_, fun l hl2 => ?_⟩
      · dsimp only; rw [eStep, if_neg hnl, if_neg c2, if_pos c3]
        show (E f).1 + 1 = _
        rw [h.2.2.1 f]
      · refine ⟨fun f hf => ?_, fun f hf => ?_, fun f => ?_⟩
        · dsimp only; rw [eStep, if_neg hnl, if_neg c2, if_pos c3, gM_pA, gM_pM_ne (by decide), gM_pM_at]
          show _ = (P f && upf (E f).2.1 ((E f).1 + 1) false l)
          unfold upf
          rw [h.2.2.1 f]
          by_cases q : l = o + 1
          · subst q; rw [if_pos rfl, if_pos rfl, hb_0, Bool.and_false]
          · rw [if_neg q, if_neg q]; exact (h.2.2.2 l (by omega)).1 f hf
        · dsimp only; rw [eStep, if_neg hnl, if_neg c2, if_pos c3, gM_pA, gM_pM_at]
          show _ = (P f && upf (E f).2.2.1 ((E f).1 + 1) true l)
          unfold upf
          rw [h.2.2.1 f]
          by_cases q : l = o + 1
          · subst q; rw [if_pos rfl, if_pos rfl, Bool.and_true]; exact hP f hf
          · rw [if_neg q, if_neg q, gM_pM_ne (by decide)]; exact (h.2.2.2 l (by omega)).2.1 f hf
        · dsimp only; rw [eStep, if_neg hnl, if_neg c2, if_pos c3, gA_pA_at]
          show _ = b2 (upf (E f).2.2.2 ((E f).1 + 1) false l)
          unfold upf
          rw [h.2.2.1 f]
          by_cases q : l = o + 1
          · subst q; rw [if_pos rfl, if_pos rfl]; rfl
          · rw [if_neg q, if_neg q]; exact (h.2.2.2 l (by omega)).2.2 f
    · rw [if_neg (fun w => c3 (z40.mp w))]
      by_cases c4 : ch k = 41
      · rw [if_pos (z41.mpr c4)]
        have ho := h41 c4
        have ho2 := h.2.1
        unfold f_X4_closeLevel
        rw [gd_pos g11, gd_pos g11, ixo, h.1, if_neg (by rw [show (0 : Int32) = nI 0 from rfl, nI_le_iff (by omega) (by decide)]; omega), bd_eq, bd_eq]
        have e1 : nI o - 1 = nI (o - 1) := by
          obtain ⟨q, rfl⟩ : ∃ q, o = q + 1 := ⟨o - 1, by omega⟩
          rw [nI_pred]; rfl
        rw [e1]
        have hJ : Jd (pI y 51 (nI (o - 1))) P (fun f => ((E f).1 - 1, (E f).2.1, (E f).2.2.1, (E f).2.2.2)) (o - 1) := by
          refine ⟨by rw [gI_pI, if_pos rfl], by omega, fun f => ?_, fun l hl2 => h.2.2.2 l (by omega)⟩
          show (E f).1 - 1 = _
          rw [h.2.2.1 f]
        obtain ⟨a1, a2, a3⟩ := h.2.2.2 o (Nat.le_refl _)
        obtain ⟨y', h1, h2, h3⟩ := take_eq hJ (x := gM y 0 o ||| gM y 1 o) (b := fun f => (E f).2.1 (E f).1 || (E f).2.2.1 (E f).1) (fun f hf hp => by
          rw [hb_or, a1 f hf, a2 f hf, hp, h.2.2.1 f]; rfl)
        refine ⟨y', o - 1, by rw [h1]; rfl, OnJ.pI.tr h2, h3.1, h3.2.1, fun f => ?_, fun l hl2 => ?_⟩
        · dsimp only; rw [eStep, if_neg hnl, if_neg c2, if_neg c3, if_pos c4]; exact h3.2.2.1 f
        · obtain ⟨b1, b2', b3⟩ := h3.2.2.2 l hl2
          refine ⟨fun f hf => ?_, fun f hf => ?_, fun f => ?_⟩
          · dsimp only; rw [eStep, if_neg hnl, if_neg c2, if_neg c3, if_pos c4]; exact b1 f hf
          · dsimp only; rw [eStep, if_neg hnl, if_neg c2, if_neg c3, if_pos c4]; exact b2' f hf
          · dsimp only; rw [eStep, if_neg hnl, if_neg c2, if_neg c3, if_pos c4]; exact b3 f
      · rw [if_neg (fun w => c4 (z41.mp w))]
        by_cases c5 : ch k = 124
        · rw [if_pos (z124.mpr c5)]
          unfold f_X1_all
          rw [gd_pos g11, gd_pos g11, bd_eq, gd_pos g11, bd_eq, Option.bind_some, gI_pM, gd_pos g11, bd_eq, ixo, gL_pM]
          obtain ⟨a1, a2, a3⟩ := h.2.2.2 o (Nat.le_refl _)
          refine ⟨_, o, rfl, (OnJ.pM (by decide)).tr (OnJ.pM (by decide)), by rw [gI_pM, gI_pM]; exact h.1, h.2.1, fun f => ?_, fun l hl2 => ?_⟩
          · dsimp only; rw [eStep, if_neg hnl, if_neg c2, if_neg c3, if_neg c4, if_pos c5]; exact h.2.2.1 f
          · refine ⟨fun f hf => ?_, fun f hf => ?_, fun f => ?_⟩
            · dsimp only; rw [eStep, if_neg hnl, if_neg c2, if_neg c3, if_neg c4, if_pos c5, gM_pM_ne (by decide), gM_pM_at]
              show _ = (P f && upf (E f).2.1 (E f).1 ((E f).2.1 (E f).1 || (E f).2.2.1 (E f).1) l)
              unfold upf
              rw [h.2.2.1 f]
              by_cases q : l = o
              · subst q
                rw [if_pos rfl, if_pos rfl, hb_or, a1 f hf, a2 f hf]
                cases P f <;> rfl
              · rw [if_neg q, if_neg q]; exact (h.2.2.2 l hl2).1 f hf
            · dsimp only; rw [eStep, if_neg hnl, if_neg c2, if_neg c3, if_neg c4, if_pos c5, gM_pM_at]
              show _ = (P f && upf (E f).2.2.1 (E f).1 true l)
              unfold upf
              rw [h.2.2.1 f]
              by_cases q : l = o
              · subst q; rw [if_pos rfl, if_pos rfl, Bool.and_true]; exact hP f hf
              · rw [if_neg q, if_neg q, gM_pM_ne (by decide)]; exact (h.2.2.2 l hl2).2.1 f hf
            · dsimp only; rw [eStep, if_neg hnl, if_neg c2, if_neg c3, if_neg c4, if_pos c5]
              exact (h.2.2.2 l hl2).2.2 f
        · rw [if_neg (fun w => c5 (z124.mp w))]
          refine ⟨y, o, rfl, OnJ.rf _, h.1, h.2.1, fun f => ?_, fun l hl2 => ?_⟩
          · dsimp only; rw [eStep, if_neg hnl, if_neg c2, if_neg c3, if_neg c4, if_neg c5]; exact h.2.2.1 f
          · obtain ⟨a1, a2, a3⟩ := h.2.2.2 l hl2
            refine ⟨fun f hf => ?_, fun f hf => ?_, fun f => ?_⟩
            · dsimp only; rw [eStep, if_neg hnl, if_neg c2, if_neg c3, if_neg c4, if_neg c5]; exact a1 f hf
            · dsimp only; rw [eStep, if_neg hnl, if_neg c2, if_neg c3, if_neg c4, if_neg c5]; exact a2 f hf
            · dsimp only; rw [eStep, if_neg hnl, if_neg c2, if_neg c3, if_neg c4, if_neg c5]; exact a3 f
theorem filesFor_eq {c : Sx} {P : Nat → Bool} (hP : ∀ f, f < 64 → hb (gL c 8) f = P f) {j : Nat} {ch : Nat → Nat} {n : Nat} (hT : Tx c j ch n) {sn : Nat} (hv : rn ch n = some (sn, 0)) (cn : Nat → Nat → Bool)
    (hc : ∀ p, p < n → (97 ≤ ch p ∧ ch p ≤ 122) → ∀ y, OnJ c y → ∃ x, f_X4_condition y j (nI p) = some x ∧ ∀ f, f < 64 → P f = true → hb x f = cn f p) : ∃ x c', f_X4_filesFor c j = some (x, c') ∧ OnJ c c' ∧ ∀ f, f < 64 → hb x f = (P f && eVal (cn f) ch n) := by
  unfold f_X4_filesFor
  rw [bd_eq, begin_eq (y := pI c 51 0) (o := 0) (by rw [gI_pI, if_pos rfl]; rfl) (by decide), Option.bind_some]
  have hn := hT.1
  obtain ⟨y, ⟨hy, o, hj, eo⟩, e⟩ := loop0 (L := fun n i s => L_X4_filesFor_11 j (fun z9 t10 => gd (vp_in 0 11) (gd (vp_in 0 11) (some (((gM t10 0 (ix 0)) ||| (gM t10 1 (ix 0))), t10)))) n i s) (E := fun s => some ((gM s 0 0 ||| gM s 1 0), s)) (N := n) (by omega) (y := pA (pM (pM (pI c 51 0) 0 0 0) 1 0 (gL (pI c 51 0) 8)) 19 0 0)
    (fun k s => OnJ c s ∧ ∃ o, Jd s P (fun f => eRun (cn f) ch k) o ∧ ∃ st, rn ch k = some (st, o))
    (fun n' s h => by
      show L_X4_filesFor_11 _ _ _ _ _ = _
      rw [L_X4_filesFor_11]
      unfold f_X5_length
      rw [Option.bind_some, (hT.on h.1).2.1, if_pos (nI_le (Nat.le_refl _) (by omega)), gd_pos (show vp_in 0 11 from vin_nI (n := 0) (by decide) (by decide)), gd_pos (show vp_in 0 11 from vin_nI (n := 0) (by decide) (by decide))]
      rfl)
    (fun k s hk h => by
      obtain ⟨hy, o, hj, st, er⟩ := h
      have hTy := hT.on hy
      obtain ⟨c1, c2⟩ := hT.2.2.2 k hk
      have hst : ∀ n', L_X4_filesFor_11 j (fun z9 t10 => gd (vp_in 0 11) (gd (vp_in 0 11) (some (((gM t10 0 (ix 0)) ||| (gM t10 1 (ix 0))), t10)))) (n' + 1) (nI k) s = if 97 ≤ ch k ∧ ch k ≤ 122 then (f_X4_condition s j (nI k)).bind fun r7 => (f_X4_take s (r7)).bind fun r8 => L_X4_filesFor_11 j (fun z9 t10 => gd (vp_in 0 11) (gd (vp_in 0 11) (some (((gM t10 0 (ix 0)) ||| (gM t10 1 (ix 0))), t10)))) n' (nI (k + 1)) (r8) else (f_X4_operate s (nI (ch k))).bind fun r5 => L_X4_filesFor_11 j (fun z9 t10 => gd (vp_in 0 11) (gd (vp_in 0 11) (some (((gM t10 0 (ix 0)) ||| (gM t10 1 (ix 0))), t10)))) n' (nI (k + 1)) (r5) := fun n' => by
        rw [L_X4_filesFor_11]
        unfold f_X5_length
        rw [Option.bind_some, hTy.2.1, if_neg (by rw [nI_le_iff (by omega) (by omega)]; omega), at_eq hTy (by omega), if_pos hk, Option.bind_some, nI_lit1]
        have z97 : (nI (ch k) < 97) ↔ ch k < 97 := by rw [show (97 : Int32) = nI 97 from rfl]; exact nI_lt_iff (by omega) (by decide)
        have z122 : (122 < nI (ch k)) ↔ 122 < ch k := by rw [show (122 : Int32) = nI 122 from rfl]; exact nI_lt_iff (by decide) (by omega)
        by_cases q1 : ch k < 97
        · rw [if_pos (z97.mpr q1), if_neg (by omega)]
        · rw [if_neg (fun w => q1 (z97.mp w))]
          by_cases q2 : 122 < ch k
          · rw [if_pos (z122.mpr q2), if_neg (by omega)]
          · rw [if_neg (fun w => q2 (z122.mp w)), if_pos (by omega)]
      -- what the run says of this character
      have hnext : ∃ st' o', rn ch (k + 1) = some (st', o') := by
        cases e2 : rn ch (k + 1) with
        | none => rw [rn_le (show k + 1 ≤ n by omega) e2] at hv; cases hv
        | some p => exact ⟨p.1, p.2, rfl⟩
      obtain ⟨st', o', er'⟩ := hnext
      have hq : nx st (ch k) o ≠ 99 := fun q => by
        rw [rn, er] at er'
        dsimp only at er'
        rw [if_pos q] at er'
        cases er'
      obtain ⟨g1, g2⟩ := rn_ok hT.2.2.2 k (by omega) st o er
      obtain ⟨w1, w2, w3⟩ := nx_ok g1 (by omega) g2 hq
      have fin : ∀ y' o2, OnJ s y' → Jd y' P (fun f => eStep (cn f) ch k (eRun (cn f) ch k)) o2 → OnJ c y' ∧ ∃ o, Jd y' P (fun f => eRun (cn f) ch (k + 1)) o ∧ ∃ st, rn ch (k + 1) = some (st, o) := fun y' o2 h1 h2 => by
        refine ⟨hy.tr h1, o2, h2, st', ?_⟩
        have a := h2.2.2.1 0
        have b := eLev (cn := cn 0) er'
        have a' : (eRun (cn 0) ch (k + 1)).1 = o2 := a
        rw [b] at a'
        rw [← a']; exact er'
      by_cases q : 97 ≤ ch k ∧ ch k ≤ 122
      · obtain ⟨x, ex, hx⟩ := hc k hk q s hy
        obtain ⟨y', h1, h2, h3⟩ := take_eq hj (x := x) (b := fun f => cn f k) (fun f hf hp => hx f hf hp)
        refine ⟨y', fin y' o h2 ?_, fun n' => ?_⟩
        · have : (fun f => eStep (cn f) ch k (eRun (cn f) ch k)) = fun f => eTake (eRun (cn f) ch k) (cn f k) := by
            funext f; rw [eStep, if_pos q]
          rw [this]; exact h3
        · show L_X4_filesFor_11 _ _ _ _ _ = _
          rw [hst, if_pos q, ex, Option.bind_some, h1, Option.bind_some]
      · obtain ⟨y', o2, h1, h2, h3⟩ := operate_eq hj (by rw [hy.2.2.1]; exact hP) (ch := ch) (k := k) (by omega) q w2 w3 cn
        refine ⟨y', fin y' o2 h2 h3, fun n' => ?_⟩
        show L_X4_filesFor_11 _ _ _ _ _ = _
        rw [hst, if_neg q, h1, Option.bind_some])
    (by
      refine ⟨OnJ.pI.tr ((OnJ.pM (by decide)).tr ((OnJ.pM (by decide)).tr OnJ.pA)), 0, ⟨by rw [gI_pA, gI_pM, gI_pM, gI_pI, if_pos rfl]; rfl, by decide, fun f => rfl, fun l hl => ?_⟩, 0, rfl⟩
      obtain rfl : l = 0 := by omega
      refine ⟨fun f hf => ?_, fun f hf => ?_, fun f => ?_⟩
      · rw [gM_pA, gM_pM_ne (by decide), gM_pM_at, if_pos rfl, hb_0]
        show false = (P f && false)
        rw [Bool.and_false]
      · rw [gM_pA, gM_pM_at, if_pos rfl, gL_pI, hP f hf]
        show P f = (P f && true)
        rw [Bool.and_true]
      · rw [gA_pA_at, if_pos rfl]; rfl)
  obtain ⟨st, er⟩ := eo
  rw [hv] at er
  have eo0 : o = 0 := ((Prod.mk.inj (Option.some.inj er)).2).symm
  subst eo0
  refine ⟨_, y, e, hy, fun f hf => ?_⟩
  obtain ⟨a1, a2, -⟩ := hj.2.2.2 0 (Nat.le_refl _)
  rw [hb_or, a1 f hf, a2 f hf, eVal]
  cases P f <;> rfl
end
section
/-! ===== rules: conditions; what follows a letter in a rule ===== -/
theorem rn_at {ch : Nat → Nat} {n : Nat} (ho : okc ch n) {sn on : Nat} (hv : rn ch n = some (sn, on)) {p : Nat} (hp : p < n) : ∃ s o, rn ch p = some (s, o) ∧ s < 9 ∧ o < 11 ∧ nx s (ch p) o ≠ 99 ∧ rn ch (p + 1) = some (nx s (ch p) o, if ch p = 40 then o + 1 else if ch p = 41 then o - 1 else o) := by
  cases e : rn ch p with
  | none => rw [rn_le (show p ≤ n by omega) e] at hv; cases hv
  | some w =>
    obtain ⟨s, o⟩ := w
    obtain ⟨g1, g2⟩ := rn_ok ho p (by omega) s o e
    have hq : nx s (ch p) o ≠ 99 := fun q => by
      have : rn ch (p + 1) = none := by rw [rn, e]; dsimp only; rw [if_pos q]
      rw [rn_le (show p + 1 ≤ n by omega) this] at hv
      cases hv
    exact ⟨s, o, rfl, g1, g2, hq, by rw [rn, e]; dsimp only; rw [if_neg hq]⟩
/-- a whole rule of n characters -/
def Rul (ch : Nat → Nat) (n : Nat) : Prop := okc ch n ∧ vld ch n
theorem rul_at {ch : Nat → Nat} {n : Nat} (h : Rul ch n) {p s o : Nat} (hp : p ≤ n) (e : rn ch p = some (s, o)) (hs : s = 0 ∨ s = 1 ∨ s = 2 ∨ s = 7) : p < n := by
  rcases Nat.eq_or_lt_of_le hp with q | q
  · obtain ⟨s', e', w⟩ := h.2
    rw [← q, e] at e'
    cases e'
    omega
  · exact q
theorem lt_tab : ((List.range 9).all fun s => (List.range 127).all fun ch => (List.range 11).all fun op => nx s ch op == 99 || (!(decide (97 ≤ ch) && decide (ch ≤ 122))) || (s == 0 && ((fldc ch && nx s ch op == 1) || ((ch == 116 || ch == 97) && !(fldc ch) && nx s ch op == 7) || ((ch == 115 || ch == 118 || ch == 117 || ch == 98) && !(fldc ch) && nx s ch op == 8)))) = true := by decide +kernel
theorem lt_ok {s ch op : Nat} (hs : s < 9) (hc : ch < 127) (ho : op < 11) (h : nx s ch op ≠ 99) (hl : 97 ≤ ch ∧ ch ≤ 122) : s = 0 ∧ ((fldc ch = true ∧ nx s ch op = 1) ∨ ((ch = 116 ∨ ch = 97) ∧ fldc ch = false ∧ nx s ch op = 7) ∨ ((ch = 115 ∨ ch = 118 ∨ ch = 117 ∨ ch = 98) ∧ fldc ch = false ∧ nx s ch op = 8)) := by
  have h1 := List.all_eq_true.mp lt_tab s (List.mem_range.mpr hs)
  have h2 := List.all_eq_true.mp h1 ch (List.mem_range.mpr hc)
  have h3 := List.all_eq_true.mp h2 op (List.mem_range.mpr ho)
  simp only [Bool.or_eq_true, Bool.and_eq_true, beq_iff_eq, Bool.not_eq_true', Bool.and_eq_false_iff, decide_eq_false_iff_not] at h3
  rcases h3 with (h3 | h3) | h3
  · exact absurd h3 h
  · omega
  · refine ⟨h3.1, ?_⟩
    rcases h3.2 with (q | q) | q
    · exact Or.inl q
    · exact Or.inr (Or.inl ⟨q.1.1, q.1.2, q.2⟩)
    · exact Or.inr (Or.inr ⟨by omega, q.1.2, q.2⟩)
theorem nx1 {ch op : Nat} (h : nx 1 ch op ≠ 99) : ((ch = 60 ∨ ch = 61 ∨ ch = 62) ∧ nx 1 ch op = 2) ∨ (ch = 63 ∧ nx 1 ch op = 8) := by
  unfold nx at *
  simp only [show ¬ (1 : Nat) = 0 by decide, if_false, if_true] at *
  by_cases q : ch = 60 ∨ ch = 61 ∨ ch = 62
  · rw [if_pos q]; exact Or.inl ⟨q, rfl⟩
  · rw [if_neg q] at *
    by_cases q2 : ch = 63
    · rw [if_pos q2]; exact Or.inr ⟨q2, rfl⟩
    · rw [if_neg q2] at h; exact absurd rfl h
theorem nx2 {ch op : Nat} (h : nx 2 ch op ≠ 99) : dgt ch = true ∧ nx 2 ch op = 3 := by
  unfold nx at *
  simp only [show ¬ (2 : Nat) = 0 by decide, show ¬ (2 : Nat) = 1 by decide, if_false, if_true] at *
  by_cases q : dgt ch = true
  · rw [if_pos q]; exact ⟨q, rfl⟩
  · rw [if_neg q] at h; exact absurd rfl h
theorem nx7 {ch op : Nat} (h : nx 7 ch op ≠ 99) : dgt ch = true ∧ nx 7 ch op = 8 := by
  unfold nx at *
  simp only [show ¬ (7 : Nat) = 0 by decide, show ¬ (7 : Nat) = 1 by decide, show ¬ (7 : Nat) = 2 by decide, if_false, if_true] at *
  by_cases q : dgt ch = true
  · rw [if_pos q]; exact ⟨q, rfl⟩
  · rw [if_neg q] at h; exact absurd rfl h
theorem dgt_iff {ch : Nat} : dgt ch = true ↔ 48 ≤ ch ∧ ch ≤ 57 := by simp [dgt]
/-- behind some digits -/
def aft (s : Nat) : Prop := s = 8 ∨ (3 ≤ s ∧ s ≤ 6)
theorem nxA {s ch op : Nat} (hs : aft s) (hd : dgt ch = true) : nx s ch op = if s = 8 then 99 else if s = 6 then 8 else s + 1 := by
  have hd2 := dgt_iff.mp hd
  unfold nx
  rcases hs with rfl | ⟨a, b⟩
  · simp only [show ¬ (8 : Nat) = 0 by decide, show ¬ (8 : Nat) = 1 by decide, show ¬ (8 : Nat) = 2 by decide, show ¬ (8 : Nat) = 7 by decide, show ¬ (8 : Nat) < 8 by decide, false_and, if_false, if_true]
    rw [if_neg (by omega), if_neg (by omega)]
  · rw [if_neg (by omega), if_neg (by omega), if_neg (by omega), if_neg (by omega), if_pos ⟨by omega, hd⟩, if_neg (show ¬ s = 8 by omega)]
def nmb (ch : Nat → Nat) (n : Nat) : Nat → Nat → Nat → Nat
  | 0, _, a => a
  | k + 1, p, a => if p < n ∧ dgt (ch p) = true then nmb ch n k (p + 1) (10 * a + (ch p - 48)) else a
def nend (ch : Nat → Nat) (n : Nat) : Nat → Nat → Nat
  | 0, p => p
  | k + 1, p => if p < n ∧ dgt (ch p) = true then nend ch n k (p + 1) else p
theorem nend_ge (ch : Nat → Nat) (n : Nat) : ∀ k p, p ≤ nend ch n k p ∧ ∀ i, p ≤ i → i < nend ch n k p → dgt (ch i) = true
  | 0, p => ⟨Nat.le_refl _, fun i h1 h2 => by rw [nend] at h2; omega⟩
  | k + 1, p => by
    rw [nend]
    by_cases q : p < n ∧ dgt (ch p) = true
    · rw [if_pos q]
      obtain ⟨a, b⟩ := nend_ge ch n k (p + 1)
      refine ⟨by omega, fun i h1 h2 => ?_⟩
      rcases Nat.eq_or_lt_of_le h1 with w | w
      · rw [← w]; exact q.2
      · exact b i w h2
    · rw [if_neg q]
      exact ⟨Nat.le_refl _, fun i h1 h2 => by omega⟩
theorem nstop {ch : Nat → Nat} {n : Nat} : ∀ (k p a j : Nat), ¬ (nend ch n k p < n ∧ dgt (ch (nend ch n k p)) = true) → nmb ch n (k + j) p a = nmb ch n k p a ∧ nend ch n (k + j) p = nend ch n k p
  | 0, p, a, j, h => by
    rw [nend] at h
    cases j with
    | zero => exact ⟨rfl, rfl⟩
    | succ j =>
      have h1 : nmb ch n (j + 1) p a = a := by rw [nmb, if_neg h]
      have h2 : nend ch n (j + 1) p = p := by rw [nend, if_neg h]
      rw [Nat.zero_add]
      exact ⟨h1, h2⟩
  | k + 1, p, a, j, h => by
    rw [nend] at h
    rw [show k + 1 + j = (k + j) + 1 by omega, nmb, nmb, nend, nend]
    by_cases q : p < n ∧ dgt (ch p) = true
    · rw [if_pos q] at h
      rw [if_pos q, if_pos q, if_pos q, if_pos q]
      exact nstop k (p + 1) _ j h
    · rw [if_neg q, if_neg q, if_neg q, if_neg q]
      exact ⟨rfl, rfl⟩
/-- digits behind a state: where they end the rule stands well -/
theorem dend {ch : Nat → Nat} {n : Nat} (h : Rul ch n) : ∀ (k q s o : Nat), rn ch q = some (s, o) → aft s → (if s = 8 then 0 else 7 - s) ≤ k → q ≤ n → ∃ s', rn ch (nend ch n k q) = some (s', o) ∧ aft s' ∧ nend ch n k q ≤ n ∧ ¬ (nend ch n k q < n ∧ dgt (ch (nend ch n k q)) = true)
  | k, q, s, o, e, hs, hk, hq => by
    by_cases w : q < n ∧ dgt (ch q) = true
    · obtain ⟨sn, hv, -⟩ := h.2
      obtain ⟨s1, o1, e1, g1, g2, g3, g4⟩ := rn_at h.1 hv w.1
      rw [e] at e1
      cases e1
      rw [nxA hs w.2] at g3 g4
      have hd := dgt_iff.mp w.2
      by_cases q8 : s = 8
      · rw [if_pos q8] at g3; exact absurd rfl g3
      · rw [if_neg q8] at g3 g4 hk
        obtain ⟨k, rfl⟩ : ∃ r, k = r + 1 := ⟨k - 1, by rcases hs with a | a <;> omega⟩
        rw [nend, if_pos w]
        rw [if_neg (show ¬ ch q = 40 by omega), if_neg (show ¬ ch q = 41 by omega)] at g4
        refine dend h k (q + 1) _ o g4 ?_ ?_ (by omega)
        · by_cases q6 : s = 6
          · rw [if_pos q6]; exact Or.inl rfl
          · rw [if_neg q6]
            rcases hs with a | a
            · exact absurd a q8
            · exact Or.inr ⟨by omega, by omega⟩
        · by_cases q6 : s = 6
          · rw [if_pos q6, if_pos rfl]; omega
          · rw [if_neg q6]
            rcases hs with a | a
            · exact absurd a q8
            · rw [if_neg (by omega)]; omega
    · have : nend ch n k q = q := by
        cases k with
        | zero => rfl
        | succ k => rw [nend, if_neg w]
      rw [this]
      exact ⟨s, e, hs, hq, w⟩
noncomputable def pb (P : Prop) : Bool := @decide P (Classical.propDecidable P)
theorem pb_iff {P : Prop} : pb P = true ↔ P := by unfold pb; exact @decide_eq_true_iff P (Classical.propDecidable P)
theorem pb_eq {P : Prop} {b : Bool} (h : b = true ↔ P) : b = pb P := by
  cases e : pb P with
  | true => exact h.mpr (pb_iff.mp e)
  | false =>
    cases b with
    | false => rfl
    | true => rw [pb_iff.mpr (h.mp rfl)] at e; cases e
def fix (ch : Nat) : Nat := if ch = 107 then 0 else if ch = 114 then 1 else if ch = 121 then 2 else if ch = 99 then 3 else 4
theorem fix_lt (ch : Nat) : fix ch < 5 := by unfold fix; split <;> (try split) <;> (try split) <;> (try split) <;> omega
def cmpv (sg : Nat) (v : Int32) (q : Nat) : Bool := if sg = 60 then decide (v < nI q) else if sg = 61 then decide (v = nI q) else if sg = 62 then decide (nI q < v) else true
def tbit (m : Sx) (f d : Nat) : Bool := decide ((tgs m f >>> (nI d &&& 31)) &&& 1 = 1)
/-- whether a file satisfies the condition at p -/
noncomputable def cnd (m : Sx) (ch : Nat → Nat) (n f p : Nat) : Bool :=
  if fldc (ch p) = true then (src m f (fix (ch p))).isSome && cmpv (ch (p + 1)) (vOr m f (fix (ch p)) 0) (nmb ch n 5 (p + 2) 0)
  else if ch p = 116 then tbit m f (ch (p + 1) - 48)
  else if ch p = 97 then hb (gM m 2 (ch (p + 1) - 48)) f
  else if ch p = 115 then decide (gA m 29 f ≠ -1)
  else if ch p = 118 then decide (gA m 29 f ≠ -1) && decide (cov m (ix (gA m 29 f)) = f)
  else if ch p = 117 then decide (1 < fb_ct (grp m f) 40)
  else pb (KP m f f)
/-- the rule names only albums that there are -/
def nmd (m : Sx) (ch : Nat → Nat) (n : Nat) : Prop := ∀ p, p < n → ch p = 97 → ch (p + 1) - 48 < 8 ∧ iA m (ch (p + 1) - 48) = true
-- the class's reading of numbers
theorem isDigit_eq (t : Sx) {v : Nat} (h : v < 2000) : f_X5_isDigit t (nI v) = some (b2 (dgt v)) := by
  unfold f_X5_isDigit dgt
  have a : (nI v < 48) ↔ v < 48 := by rw [show (48 : Int32) = nI 48 from rfl]; exact nI_lt_iff (by omega) (by decide)
  have b : (57 < nI v) ↔ 57 < v := by rw [show (57 : Int32) = nI 57 from rfl]; exact nI_lt_iff (by decide) (by omega)
  by_cases q : v < 48
  · rw [if_pos (a.mpr q), decide_eq_false (by omega)]; rfl
  · rw [if_neg (fun w => q (a.mp w)), decide_eq_true (by omega)]
    by_cases q2 : 57 < v
    · rw [if_pos (b.mpr q2), decide_eq_false (by omega)]; rfl
    · rw [if_neg (fun w => q2 (b.mp w)), decide_eq_true (by omega)]; rfl
theorem isDigitM_eq (t : Sx) {v : Nat} (h : v < 2000) : f_X9_isDigit t (nI v) = some (b2 (dgt v)) := isDigit_eq t h
theorem num_add {a v : Nat} (hd : dgt v = true) : (10 * nI a) + (nI v - 48) = nI (10 * a + (v - 48)) := by
  obtain ⟨h1, h2⟩ := dgt_iff.mp hd
  obtain ⟨w, rfl⟩ : ∃ w, v = w + 48 := ⟨v - 48, by omega⟩
  rw [← nI_add w 48, show (48 : Int32) = nI 48 from rfl, show (10 : Int32) = nI 10 from rfl, nI_mul, Int32.add_sub_cancel, nI_add, Nat.add_sub_cancel]
theorem num_add' {a v : Nat} (hd : dgt v = true) : ((10 * nI a) + nI v) - 48 = nI (10 * a + (v - 48)) := by
  rw [← num_add hd, Int32.sub_eq_add_neg, Int32.sub_eq_add_neg, Int32.add_assoc]
theorem L_number {c : Sx} {j : Nat} {ch : Nat → Nat} {n : Nat} (hT : Tx c j ch n) {p : Nat} (hp : p < 100) (kont : Int32 → Int32 → Option Int32) : ∀ (k a q fu : Nat), q + k = p + 5 → k < fu → ∃ z, L_X5_numberAt_4 c j (nI p) kont fu (nI a) (nI q) = kont (nI (nmb ch n k q a)) z := by
  intro k
  induction k with
  | zero =>
    intro a q fu hq hf
    obtain ⟨fu, rfl⟩ : ∃ r, fu = r + 1 := ⟨fu - 1, by omega⟩
    refine ⟨nI q, ?_⟩
    rw [L_X5_numberAt_4, show nI p + 5 = nI (p + 5) by rw [show (5 : Int32) = nI 5 from rfl, nI_add], if_pos (nI_le (by omega) (by omega))]
    rfl
  | succ k ih =>
    intro a q fu hq hf
    obtain ⟨fu, rfl⟩ : ∃ r, fu = r + 1 := ⟨fu - 1, by omega⟩
    rw [L_X5_numberAt_4, show nI p + 5 = nI (p + 5) by rw [show (5 : Int32) = nI 5 from rfl, nI_add], if_neg (by rw [nI_le_iff (by omega) (by omega)]; omega), at_eq hT (by omega), Option.bind_some, nmb]
    by_cases hl : q < n
    · obtain ⟨c1, c2⟩ := hT.2.2.2 q hl
      rw [if_pos hl, isDigit_eq c (by omega), Option.bind_some]
      cases hd : dgt (ch q) with
      | false =>
        rw [bF, if_neg (by simp)]
        exact ⟨nI q, rfl⟩
      | true =>
        rw [bT, Option.bind_some, num_add hd, nI_lit1, if_pos ⟨hl, rfl⟩]
        exact ih _ (q + 1) fu (by omega) (by omega)
    · rw [if_neg hl, show (0 : Int32) = nI 0 from rfl, isDigit_eq c (by decide), Option.bind_some, show dgt 0 = false from rfl]
      refine ⟨nI q, ?_⟩
      rw [if_pos (show b2 false = nI 0 from rfl), if_neg (fun w => hl w.1)]
theorem numberAt_eq {c : Sx} {j : Nat} {ch : Nat → Nat} {n : Nat} (hT : Tx c j ch n) {p : Nat} (hp : p < 100) : f_X5_numberAt c j (nI p) = some (nI (nmb ch n 5 p 0)) := by
  unfold f_X5_numberAt
  obtain ⟨z, e⟩ := L_number hT hp (fun z4 z5 => some z4) 5 0 p FU (by omega) (by rw [FU_eq]; decide)
  rw [← nI_0, e]
-- the class's conditions
theorem fieldNamed_eq (t : Sx) {v : Nat} (h : fldc v = true) : f_X5_fieldNamed t (nI v) = some (nI (fix v)) := by
  simp only [fldc, Bool.or_eq_true, beq_iff_eq] at h
  rcases h with (((h | h) | h) | h) | h <;> subst h <;> rfl
theorem agrees_eq (t : Sx) (v : Int32) {sg q : Nat} (hs : sg < 2000) : f_X4_agrees t v (nI sg) (nI q) = some (b2 (decide (v ≠ -1) && cmpv sg v q)) := by
  unfold f_X4_agrees cmpv
  have z : ∀ k, k < 2000 → ((nI sg = nI k) ↔ sg = k) := fun k hk => nI_eq_iff (by omega) (by omega)
  have z60 : (nI sg = 60) ↔ sg = 60 := z 60 (by decide)
  have z61 : (nI sg = 61) ↔ sg = 61 := z 61 (by decide)
  have z62 : (nI sg = 62) ↔ sg = 62 := z 62 (by decide)
  have nle : ∀ x y : Int32, ¬ x ≤ y ↔ y < x := fun x y => by rw [i_le, i_lt]; omega
  by_cases q0 : v = -1
  · rw [if_pos q0, decide_eq_false (fun w => w q0)]; rfl
  · rw [if_neg q0, decide_eq_true q0, Bool.true_and]
    by_cases q1 : sg = 60
    · rw [if_pos (z60.mpr q1), if_pos q1]
      by_cases w : nI q ≤ v
      · rw [if_pos w, decide_eq_false (fun u => (nle _ _).mpr u w)]; rfl
      · rw [if_neg w, decide_eq_true ((nle _ _).mp w)]; rfl
    · rw [if_neg (fun w => q1 (z60.mp w)), if_neg q1]
      by_cases q2 : sg = 61
      · rw [if_pos (z61.mpr q2), if_pos q2]
        by_cases w : v = nI q
        · rw [if_pos w, decide_eq_true w]; rfl
        · rw [if_neg w, decide_eq_false w]; rfl
      · rw [if_neg (fun w => q2 (z61.mp w)), if_neg q2]
        by_cases q3 : sg = 62
        · rw [if_pos (z62.mpr q3), if_pos q3]
          by_cases w : v ≤ nI q
          · rw [if_pos w, decide_eq_false (fun u => (nle _ _).mpr u w)]; rfl
          · rw [if_neg w, decide_eq_true ((nle _ _).mp w)]; rfl
        · rw [if_neg (fun w => q3 (z62.mp w)), if_neg q3]; rfl
theorem dval_has {c m : Sx} (hO : WOrd m) (hV : WVal m) (dV : DVal c m) {f fld : Nat} (hf : f < 40) (hp : iF m f = true) (hl : fld < 5) (sg q : Nat) : (decide (gA c 12 (6 * f + fld) ≠ -1) && cmpv sg (gA c 12 (6 * f + fld)) q) = ((src m f fld).isSome && cmpv sg (vOr m f fld 0) q) := by
  rw [(dV f hf hp).1 fld hl]
  rcases vOr_cases hO hV hf (show fld < 6 by omega) with ⟨h1, h⟩ | ⟨v, hv, h1, h⟩
  · rw [h, h1, decide_eq_false (fun w => w rfl)]; rfl
  · rw [h, h, h1, decide_eq_true (nI_ne_m1 (by omega))]
theorem comparing_eq {c m : Sx} (hO : WOrd m) (hV : WVal m) (rP : RPres c m) (dV : DVal c m) {j : Nat} {ch : Nat → Nat} {n : Nat} (hT : Tx c j ch n) {p : Nat} (hp : p + 1 < n) (hfl : fldc (ch p) = true) : ∃ x, f_X4_comparing c j (nI p) = some x ∧ ∀ f, f < 64 → (decide (f < 40) && iF m f) = true → hb x f = ((src m f (fix (ch p))).isSome && cmpv (ch (p + 1)) (vOr m f (fix (ch p)) 0) (nmb ch n 5 (p + 2) 0)) := by
  have hn := hT.1
  obtain ⟨c1, c2⟩ := hT.2.2.2 (p + 1) hp
  have hx := fix_lt (ch p)
  unfold f_X4_comparing
  rw [at_eq hT (by omega), if_pos (by omega), Option.bind_some, fieldNamed_eq c hfl, Option.bind_some, if_neg (nI_ne_m1 (by omega)), nI_lit1, at_eq hT (by omega), if_pos hp, Option.bind_some, show nI p + 2 = nI (p + 2) by rw [show (2 : Int32) = nI 2 from rfl, nI_add], numberAt_eq hT (by omega), Option.bind_some]
  generalize nmb ch n 5 (p + 2) 0 = q
  obtain ⟨y, hy, e⟩ := loop0 (L := fun n' i s => L_X4_comparing_40 c j (nI p) (nI (fix (ch p))) (nI (ch (p + 1))) (nI q) (fun z10 z11 => some z10) n' s i) (E := fun s => some s) (N := 40) (by decide) (y := (0 : Int64))
    (fun k s => ∀ f, f < 64 → hb s f = (decide (f < k) && iF m f && ((src m f (fix (ch p))).isSome && cmpv (ch (p + 1)) (vOr m f (fix (ch p)) 0) q)))
    (fun n' y h => by show L_X4_comparing_40 _ _ _ _ _ _ _ _ _ _ = _; rw [L_X4_comparing_40, if_pos (by decide)])
    (fun k y hk h => by
      have hst : ∀ n', L_X4_comparing_40 c j (nI p) (nI (fix (ch p))) (nI (ch (p + 1))) (nI q) (fun z10 z11 => some z10) (n' + 1) y (nI k) = if (iF m k && ((src m k (fix (ch p))).isSome && cmpv (ch (p + 1)) (vOr m k (fix (ch p)) 0) q)) = true then L_X4_comparing_40 c j (nI p) (nI (fix (ch p))) (nI (ch (p + 1))) (nI q) (fun z10 z11 => some z10) n' (y ||| shlL 1 (nI k)) (nI (k + 1)) else L_X4_comparing_40 c j (nI p) (nI (fix (ch p))) (nI (ch (p + 1))) (nI q) (fun z10 z11 => some z10) n' y (nI (k + 1)) := fun n' => by
        rw [L_X4_comparing_40, if_neg (ngo (x := 40) (N := 40) rfl (by omega) (by decide)), settledValue_eq c hk (by omega), Option.bind_some]
        unfold f_X1_all
        rw [Option.bind_some, holds_pres rP hk, Option.bind_some, nI_lit1]
        cases q1 : iF m k with
        | false => rw [bF, if_neg (by simp)]
        | true =>
          rw [bT, agrees_eq c _ (by omega), Option.bind_some, dval_has hO hV dV hk q1 hx, Bool.true_and]
          unfold f_X8_only
          rw [Option.bind_some]
          cases (src m k (fix (ch p))).isSome && cmpv (ch (p + 1)) (vOr m k (fix (ch p)) 0) q with
          | false => rw [bF, if_neg (by simp)]
          | true => rw [bT, if_pos rfl]
      cases w : (iF m k && ((src m k (fix (ch p))).isSome && cmpv (ch (p + 1)) (vOr m k (fix (ch p)) 0) q)) with
      | true =>
        refine ⟨y ||| shlL 1 (nI k), fun f hf => ?_, fun n' => by show L_X4_comparing_40 _ _ _ _ _ _ _ _ _ _ = _; rw [hst, if_pos w]⟩
        rw [hb_or, h f hf, hb_only (by omega) hf]
        by_cases q2 : f = k
        · subst q2; rw [Bool.and_assoc, Bool.and_assoc, w]; simp
        · by_cases q3 : f < k
          · simp [q2, q3, show f < k + 1 by omega]
          · simp [q2, q3, show ¬ f < k + 1 by omega]
      | false =>
        refine ⟨y, fun f hf => ?_, fun n' => by show L_X4_comparing_40 _ _ _ _ _ _ _ _ _ _ = _; rw [hst, if_neg (by rw [w]; decide)]⟩
        rw [h f hf]
        by_cases q2 : f = k
        · subst q2; rw [Bool.and_assoc, Bool.and_assoc, w]; simp
        · by_cases q3 : f < k
          · simp [q3, show f < k + 1 by omega]
          · simp [q3, show ¬ f < k + 1 by omega])
    (fun f hf => by rw [hb_0]; simp)
  refine ⟨y, e, fun f hf hp2 => ?_⟩
  rw [hy f hf, hp2, Bool.true_and]
theorem ushI_bit (x : Int32) : ∀ d, d < 10 → ((ushI x (nI d) &&& 1 = 1) ↔ ((x >>> (nI d &&& 31)) &&& 1 = 1)) := by
  intro d hd
  have key : ushI x (nI d) &&& 1 = (x >>> (nI d &&& 31)) &&& 1 := by
    apply Int32.toBitVec_inj.mp
    apply BitVec.eq_of_getLsbD_eq
    intro i hi
    have a1 : ∀ d, d < 10 → ((nI d &&& 31).toBitVec.smod 32).toNat = d := by decide +kernel
    have a2 : ∀ d, d < 10 → (((nI d).toUInt32 &&& Int32.toUInt32 31).toBitVec % 32).toNat = d := by decide +kernel
    have b1 : ∀ i, i < 32 → (1 : Int32).toBitVec.getLsbD i = decide (i = 0) := by decide +kernel
    rw [Int32.toBitVec_and, Int32.toBitVec_and, BitVec.getLsbD_and, BitVec.getLsbD_and, b1 i hi]
    by_cases q : i = 0
    · subst q
      congr 1
      unfold ushI
      rw [Int32.toBitVec_shiftRight, BitVec.sshiftRight_eq', a1 d hd, BitVec.getLsbD_sshiftRight]
      show ((x.toUInt32 >>> ((nI d).toUInt32 &&& Int32.toUInt32 31)).toBitVec).getLsbD 0 = _
      rw [UInt32.toBitVec_shiftRight, BitVec.ushiftRight_eq', a2 d hd, BitVec.getLsbD_ushiftRight]
      simp [show d < 32 by omega]
    · simp [q]
  rw [key]
theorem tagged_eq {c m : Sx} (rP : RPres c m) (dV : DVal c m) {d : Nat} (hd : d < 10) : ∃ x, f_X4_tagged c (nI d) = some x ∧ ∀ f, f < 64 → (decide (f < 40) && iF m f) = true → hb x f = tbit m f d := by
  unfold f_X4_tagged
  obtain ⟨y, hy, e⟩ := loop0 (L := fun n' i s => L_X4_tagged_5 c (nI d) (fun z5 z6 => some z5) n' s i) (E := fun s => some s) (N := 40) (by decide) (y := (0 : Int64))
    (fun k s => ∀ f, f < 64 → hb s f = (decide (f < k) && iF m f && tbit m f d))
    (fun n' y h => by show L_X4_tagged_5 _ _ _ _ _ _ = _; rw [L_X4_tagged_5, if_pos (by decide)])
    (fun k y hk h => by
      have hst : ∀ n', L_X4_tagged_5 c (nI d) (fun z5 z6 => some z5) (n' + 1) y (nI k) = if (iF m k && tbit m k d) = true then L_X4_tagged_5 c (nI d) (fun z5 z6 => some z5) n' (y ||| shlL 1 (nI k)) (nI (k + 1)) else L_X4_tagged_5 c (nI d) (fun z5 z6 => some z5) n' y (nI (k + 1)) := fun n' => by
        rw [L_X4_tagged_5, if_neg (ngo (x := 40) (N := 40) rfl (by omega) (by decide))]
        unfold f_X1_all
        rw [Option.bind_some, holds_pres rP hk, Option.bind_some, nI_lit1, show (5 : Int32) = nI 5 from rfl, settledValue_eq c hk (by decide), Option.bind_some]
        cases q1 : iF m k with
        | false => rw [bF, if_neg (by simp)]
        | true =>
          rw [bT, (dV k hk q1).2, Bool.true_and]
          unfold f_X8_only
          rw [Option.bind_some]
          by_cases w : (tgs m k >>> (nI d &&& 31)) &&& 1 = 1
          · rw [if_pos ((ushI_bit _ d hd).mpr w), if_pos (by unfold tbit; exact decide_eq_true w)]
          · rw [if_neg (fun u => w ((ushI_bit _ d hd).mp u)), if_neg (by unfold tbit; rw [decide_eq_false w]; decide)]
      cases w : (iF m k && tbit m k d) with
      | true =>
        refine ⟨y ||| shlL 1 (nI k), fun f hf => ?_, fun n' => by show L_X4_tagged_5 _ _ _ _ _ _ = _; rw [hst, if_pos w]⟩
        rw [hb_or, h f hf, hb_only (by omega) hf]
        by_cases q2 : f = k
        · subst q2; rw [Bool.and_assoc, Bool.and_assoc, w]; simp
        · by_cases q3 : f < k
          · simp [q2, q3, show f < k + 1 by omega]
          · simp [q2, q3, show ¬ f < k + 1 by omega]
      | false =>
        refine ⟨y, fun f hf => ?_, fun n' => by show L_X4_tagged_5 _ _ _ _ _ _ = _; rw [hst, if_neg (by rw [w]; decide)]⟩
        rw [h f hf]
        by_cases q2 : f = k
        · subst q2; rw [Bool.and_assoc, Bool.and_assoc, w]; simp
        · by_cases q3 : f < k
          · simp [q3, show f < k + 1 by omega]
          · simp [q3, show ¬ f < k + 1 by omega])
    (fun f hf => by rw [hb_0]; simp)
  refine ⟨y, e, fun f hf hp2 => ?_⟩
  rw [hy f hf, hp2, Bool.true_and]
def RMem (c m : Sx) : Prop := ∀ a, a < 8 → iA m a = true → gL c (100 + a) = gM m 2 a
theorem membersOf_eq {c m : Sx} (rM : RMem c m) {d : Nat} (hd : d < 8) (ha : iA m d = true) : f_X4_membersOf c (nI d) = some (gM m 2 d) := by
  unfold f_X4_membersOf
  rw [isWithin_eq, Option.bind_some, show (7 : Int32) = nI 7 from rfl, inr_nI (by omega) (by decide), decide_eq_true (by omega), bT, gd_pos (vin_nI hd (by decide)), ix_nI (by omega)]
  unfold f_X0_members
  rw [Option.bind_some, rM d hd ha]
/-- the class's facts that conditions rest on -/
def CF (c m : Sx) : Prop := RPres c m ∧ DVal c m ∧ DKee c m ∧ DCov c m ∧ (∀ k, k < 64 → (hb (gL c 11) k = true ↔ k < 40 ∧ gA m 29 k ≠ -1)) ∧ RMem c m
theorem CF.on {c y m : Sx} (h : CF c m) (o : OnJ c y) : CF y m := ⟨h.1.on (by rw [o.2.2.1]), fun f hf hp => by rw [o.1 12 (by decide)]; exact h.2.1 f hf hp, fun k hk => by rw [o.2.2.1]; exact h.2.2.1 k hk, fun k hk => by rw [o.2.2.1]; exact h.2.2.2.1 k hk, fun k hk => by rw [o.2.2.1]; exact h.2.2.2.2.1 k hk, fun a ha hA => by rw [o.2.2.1]; exact h.2.2.2.2.2 a ha hA⟩
theorem one_digit {ch : Nat → Nat} {n : Nat} (h : Rul ch n) {p o : Nat} (e : rn ch (p + 1) = some (7, o)) (hp : p + 1 ≤ n) : p + 1 < n ∧ dgt (ch (p + 1)) = true ∧ rn ch (p + 2) = some (8, o) ∧ nmb ch n 5 (p + 1) 0 = ch (p + 1) - 48 := by
  have hp1 := rul_at h hp e (by omega)
  obtain ⟨sn, hv, hs⟩ := h.2
  obtain ⟨s1, o1, e1, g1, g2, g3, g4⟩ := rn_at h.1 hv hp1
  rw [e] at e1
  cases e1
  obtain ⟨hd, h8⟩ := nx7 g3
  have hd2 := dgt_iff.mp hd
  rw [h8, if_neg (by omega), if_neg (by omega)] at g4
  refine ⟨hp1, hd, g4, ?_⟩
  rw [nmb, if_pos ⟨hp1, hd⟩, nmb, if_neg]
  · omega
  · intro ⟨w1, w2⟩
    obtain ⟨s1, o1, e1, g1, g2, g3, g4'⟩ := rn_at h.1 hv w1
    rw [g4] at e1
    cases e1
    rw [nxA (Or.inl rfl) w2, if_pos rfl] at g3
    exact g3 rfl
theorem condition_eq {c m : Sx} (hO : WOrd m) (hV : WVal m) (wS : WStk m) (hC : CF c m) {j : Nat} {ch : Nat → Nat} {n : Nat} (hT : Tx c j ch n) (hR : Rul ch n) (hN : nmd m ch n) {p : Nat} (hp : p < n) (hl : 97 ≤ ch p ∧ ch p ≤ 122) : ∃ x, f_X4_condition c j (nI p) = some x ∧ ∀ f, f < 64 → (decide (f < 40) && iF m f) = true → hb x f = cnd m ch n f p := by
  obtain ⟨rP, dV, dK, dC, rS, rM⟩ := hC
  have hn := hT.1
  obtain ⟨sn, hv, -⟩ := id hR.2
  obtain ⟨s, o, e, g1, g2, g3, g4⟩ := rn_at hR.1 hv hp
  obtain ⟨rfl, hk⟩ := lt_ok g1 (by omega) g2 g3 hl
  have z : ∀ k, k < 2000 → ((nI (ch p) = nI k) ↔ ch p = k) := fun k hk => nI_eq_iff (by omega) (by omega)
  have z97 : (nI (ch p) = 97) ↔ ch p = 97 := z 97 (by decide)
  have z98 : (nI (ch p) = 98) ↔ ch p = 98 := z 98 (by decide)
  have z115 : (nI (ch p) = 115) ↔ ch p = 115 := z 115 (by decide)
  have z116 : (nI (ch p) = 116) ↔ ch p = 116 := z 116 (by decide)
  have z117 : (nI (ch p) = 117) ↔ ch p = 117 := z 117 (by decide)
  have z118 : (nI (ch p) = 118) ↔ ch p = 118 := z 118 (by decide)
  have in40 : ∀ f, (decide (f < 40) && iF m f) = true → f < 40 ∧ iF m f = true := fun f h => by rw [Bool.and_eq_true, decide_eq_true_eq] at h; exact h
  unfold f_X4_condition
  rw [at_eq hT (by omega), if_pos hp, Option.bind_some]
  rcases hk with ⟨q1, q2⟩ | ⟨q0, q1, q2⟩ | ⟨q0, q1, q2⟩
  · have q9 : ch p = 107 ∨ ch p = 114 ∨ ch p = 121 ∨ ch p = 99 ∨ ch p = 100 := by
      simp only [fldc, Bool.or_eq_true, beq_iff_eq] at q1
      omega
    rw [if_neg (fun w => by have := z97.mp w; omega), if_neg (fun w => by have := z98.mp w; omega), if_neg (fun w => by have := z115.mp w; omega), if_neg (fun w => by have := z116.mp w; omega), if_neg (fun w => by have := z117.mp w; omega), if_neg (fun w => by have := z118.mp w; omega)]
    rw [q2] at g4
    have hp1 := rul_at hR (show p + 1 ≤ n by omega) g4 (by omega)
    obtain ⟨x, ex, hx⟩ := comparing_eq hO hV rP dV hT hp1 q1
    rw [ex]
    refine ⟨x, rfl, fun f hf hp2 => ?_⟩
    rw [hx f hf hp2, cnd, if_pos q1]
  · rw [q2, if_neg (by omega), if_neg (by omega)] at g4
    obtain ⟨hp1, hd, -, en⟩ := one_digit hR g4 (by omega)
    have hd2 := dgt_iff.mp hd
    rcases q0 with q | q
    · rw [if_neg (fun w => by have := z97.mp w; omega), if_neg (fun w => by have := z98.mp w; omega), if_neg (fun w => by have := z115.mp w; omega), if_pos (z116.mpr q), nI_lit1, numberAt_eq hT (by omega), Option.bind_some, en]
      obtain ⟨x, ex, hx⟩ := tagged_eq (c := c) (m := m) rP dV (d := ch (p + 1) - 48) (by omega)
      rw [ex]
      refine ⟨x, rfl, fun f hf hp2 => ?_⟩
      rw [hx f hf hp2, cnd, if_neg (by rw [q1]; decide), if_pos q]
    · obtain ⟨w1, w2⟩ := hN p hp q
      rw [if_pos (z97.mpr q), nI_lit1, numberAt_eq hT (by omega), Option.bind_some, en, membersOf_eq rM w1 w2]
      refine ⟨_, rfl, fun f hf hp2 => ?_⟩
      rw [cnd, if_neg (by rw [q1]; decide), if_neg (by omega), if_pos q]
  · rcases q0 with q | q | q | q
    · rw [if_neg (fun w => by have := z97.mp w; omega), if_neg (fun w => by have := z98.mp w; omega), if_pos (z115.mpr q)]
      unfold f_X6_stacked
      refine ⟨_, rfl, fun f hf hp2 => ?_⟩
      rw [cnd, if_neg (by rw [q1]; decide), if_neg (by omega), if_neg (by omega), if_pos q]
      have := rS f hf
      by_cases w : gA m 29 f = -1
      · rw [decide_eq_false (fun u => u w)]
        cases hh : hb (gL c 11) f with
        | false => rfl
        | true => exact absurd w (this.mp hh).2
      · rw [decide_eq_true w, this.mpr ⟨(in40 f hp2).1, w⟩]
    · rw [if_neg (fun w => by have := z97.mp w; omega), if_neg (fun w => by have := z98.mp w; omega), if_neg (fun w => by have := z115.mp w; omega), if_neg (fun w => by have := z116.mp w; omega), if_neg (fun w => by have := z117.mp w; omega), if_pos (z118.mpr q)]
      unfold f_X6_covers
      refine ⟨_, rfl, fun f hf hp2 => ?_⟩
      rw [cnd, if_neg (by rw [q1]; decide), if_neg (by omega), if_neg (by omega), if_neg (by omega), if_pos q]
      have h1 := dC f hf
      have hf40 := (in40 f hp2).1
      by_cases w : gA m 29 f = -1
      · rw [decide_eq_false (fun u => u w), Bool.false_and]
        cases hh : hb (gL c 12) f with
        | false => rfl
        | true =>
          obtain ⟨s, hs, hn2, ec⟩ := h1.mp hh
          have := (cov_ok wS hs hn2).2
          rw [ec, w] at this
          exact absurd this.symm (nI_ne_m1 (by omega))
      · rw [decide_eq_true w, Bool.true_and]
        rcases wS.1 f hf40 with u | ⟨s, hs, es, hpf, k, hk, ek⟩
        · exact absurd u w
        · rw [es, ix_nI (by omega)]
          by_cases v : cov m s = f
          · rw [decide_eq_true v, h1.mpr ⟨s, hs, by omega, v⟩]
          · rw [decide_eq_false v]
            cases hh : hb (gL c 12) f with
            | false => rfl
            | true =>
              obtain ⟨s', hs', hn2, ec⟩ := h1.mp hh
              have := (cov_ok wS hs' hn2).2
              rw [ec, es] at this
              have := (nI_eq_iff (show s < 2 ^ 31 by omega) (show s' < 2 ^ 31 by omega)).mp this
              subst this
              exact absurd ec v
    · rw [if_neg (fun w => by have := z97.mp w; omega), if_neg (fun w => by have := z98.mp w; omega), if_neg (fun w => by have := z115.mp w; omega), if_neg (fun w => by have := z116.mp w; omega), if_pos (z117.mpr q)]
      unfold f_X2_duplicates
      refine ⟨_, rfl, fun f hf hp2 => ?_⟩
      rw [cnd, if_neg (by rw [q1]; decide), if_neg (by omega), if_neg (by omega), if_neg (by omega), if_neg (by omega), if_pos q]
      have h1 := (dK f hf).2
      by_cases w : 1 < fb_ct (grp m f) 40
      · rw [decide_eq_true w, h1.mpr ⟨(in40 f hp2).1, (in40 f hp2).2, w⟩]
      · rw [decide_eq_false w]
        cases hh : hb (gL c 10) f with
        | false => rfl
        | true => exact absurd (h1.mp hh).2.2 w
    · rw [if_neg (fun w => by have := z97.mp w; omega), if_pos (z98.mpr q)]
      unfold f_X2_keepers
      refine ⟨_, rfl, fun f hf hp2 => ?_⟩
      rw [cnd, if_neg (by rw [q1]; decide), if_neg (by omega), if_neg (by omega), if_neg (by omega), if_neg (by omega), if_neg (by omega)]
      exact pb_eq (dK f hf).1
end
section
/-! ===== rules: the reference's side ===== -/
def SameD (m y : Sx) : Prop := (∀ a, a < 40 → gA y a = gA m a) ∧ gM y 2 = gM m 2
section CG
variable {m y : Sx}
theorem cg_iF (h : SameD m y) : iF y = iF m := by funext f; unfold iF; rw [h.1 23 (by decide)]
theorem cg_iT (h : SameD m y) : iT y = iT m := by funext f; unfold iT; rw [h.1 26 (by decide)]
theorem cg_iA (h : SameD m y) : iA y = iA m := by funext f; unfold iA; rw [h.1 35 (by decide)]
theorem cg_od (h : SameD m y) : od y = od m := by funext f; unfold od; rw [h.1 28 (by decide)]
theorem cg_mn (h : SameD m y) : mn y = mn m := by funext f; unfold mn; rw [h.1 30 (by decide)]
theorem cg_fl (h : SameD m y) : fl y = fl m := by funext s k; unfold fl; rw [h.1 31 (by decide)]
theorem cg_src (h : SameD m y) : src y = src m := by funext f k; unfold src; rw [cg_iT h, cg_od h]
theorem cg_vOr (h : SameD m y) : vOr y = vOr m := by funext f k n; unfold vOr; rw [cg_src h, cg_od h, h.1 27 (by decide)]
theorem cg_tgR (h : SameD m y) : ∀ k f, tgR y f k = tgR m f k
  | 0, _ => rfl
  | k + 1, f => by rw [tgR, tgR, cg_tgR h k f, cg_iT h, h.1 27 (by decide)]
theorem cg_tgs (h : SameD m y) : tgs y = tgs m := by funext f; unfold tgs; rw [cg_tgR h]
theorem cg_rt (h : SameD m y) : rt y = rt m := by funext f; unfold rt; rw [cg_vOr h]
theorem cg_yr (h : SameD m y) : yr y = yr m := by funext f; unfold yr; rw [cg_vOr h]
theorem cg_pref (h : SameD m y) : pref y = pref m := by funext f g; unfold pref; rw [cg_rt h, cg_yr h]
theorem cg_grp (h : SameD m y) : grp y = grp m := by funext f g; unfold grp; rw [cg_iF h, h.1 24 (by decide)]
theorem cg_KP (h : SameD m y) : KP y = KP m := by funext f g; unfold KP; rw [cg_grp h, cg_pref h]
theorem cg_bst (h : SameD m y) : ∀ k s, bst y s k = bst m s k
  | 0, s => by rw [bst, bst, cg_fl h]
  | k + 1, s => by rw [bst, bst, cg_bst h k s, cg_fl h, cg_rt h]
theorem cg_cov (h : SameD m y) : cov y = cov m := by funext s; unfold cov; rw [cg_bst h, cg_mn h, h.1 32 (by decide)]
theorem cg_tbit (h : SameD m y) : tbit y = tbit m := by funext f d; unfold tbit; rw [cg_tgs h]
theorem cg_cnd (h : SameD m y) : cnd y = cnd m := by funext ch n f p; unfold cnd; rw [cg_src h, cg_vOr h, cg_tbit h, h.2, h.1 29 (by decide), cg_cov h, cg_grp h, cg_KP h]
theorem cg_WOrd (h : SameD m y) (w : WOrd m) : WOrd y := fun k hk => by rw [h.1 28 (by decide)]; exact w k hk
theorem cg_WVal (h : SameD m y) (w : WVal m) : WVal y := fun c hc hT => by rw [cg_iT h] at hT; rw [h.1 27 (by decide)]; exact w c hc hT
theorem cg_WStk (h : SameD m y) (w : WStk m) : WStk y := by
  unfold WStk at *
  rw [h.1 29 (by decide), h.1 30 (by decide), h.1 31 (by decide), h.1 32 (by decide), cg_iF h, cg_mn h]
  exact w
end CG
/-- what a rule asks of a file, but for the albums -/
def SameG (m y : Sx) : Prop := ∀ a, 23 ≤ a → a < 33 → gA y a = gA m a
section CE
variable {m y : Sx}
theorem ce_iF (h : SameG m y) : iF y = iF m := by funext f; unfold iF; rw [h 23 (by decide) (by decide)]
theorem ce_iT (h : SameG m y) : iT y = iT m := by funext f; unfold iT; rw [h 26 (by decide) (by decide)]
theorem ce_od (h : SameG m y) : od y = od m := by funext f; unfold od; rw [h 28 (by decide) (by decide)]
theorem ce_mn (h : SameG m y) : mn y = mn m := by funext f; unfold mn; rw [h 30 (by decide) (by decide)]
theorem ce_fl (h : SameG m y) : fl y = fl m := by funext s k; unfold fl; rw [h 31 (by decide) (by decide)]
theorem ce_src (h : SameG m y) : src y = src m := by funext f k; unfold src; rw [ce_iT h, ce_od h]
theorem ce_vOr (h : SameG m y) : vOr y = vOr m := by funext f k n; unfold vOr; rw [ce_src h, ce_od h, h 27 (by decide) (by decide)]
theorem ce_tgR (h : SameG m y) : ∀ k f, tgR y f k = tgR m f k
  | 0, _ => rfl
  | k + 1, f => by rw [tgR, tgR, ce_tgR h k f, ce_iT h, h 27 (by decide) (by decide)]
theorem ce_tgs (h : SameG m y) : tgs y = tgs m := by funext f; unfold tgs; rw [ce_tgR h]
theorem ce_rt (h : SameG m y) : rt y = rt m := by funext f; unfold rt; rw [ce_vOr h]
theorem ce_yr (h : SameG m y) : yr y = yr m := by funext f; unfold yr; rw [ce_vOr h]
theorem ce_pref (h : SameG m y) : pref y = pref m := by funext f g; unfold pref; rw [ce_rt h, ce_yr h]
theorem ce_grp (h : SameG m y) : grp y = grp m := by funext f g; unfold grp; rw [ce_iF h, h 24 (by decide) (by decide)]
theorem ce_KP (h : SameG m y) : KP y = KP m := by funext f g; unfold KP; rw [ce_grp h, ce_pref h]
theorem ce_bst (h : SameG m y) : ∀ k s, bst y s k = bst m s k
  | 0, s => by rw [bst, bst, ce_fl h]
  | k + 1, s => by rw [bst, bst, ce_bst h k s, ce_fl h, ce_rt h]
theorem ce_cov (h : SameG m y) : cov y = cov m := by funext s; unfold cov; rw [ce_bst h, ce_mn h, h 32 (by decide) (by decide)]
theorem ce_tbit (h : SameG m y) : tbit y = tbit m := by funext f d; unfold tbit; rw [ce_tgs h]
theorem ce_cnd (h : SameG m y) {ch : Nat → Nat} {n f p : Nat} (hM : ch p = 97 → gM y 2 (ch (p + 1) - 48) = gM m 2 (ch (p + 1) - 48)) : cnd y ch n f p = cnd m ch n f p := by
  unfold cnd
  rw [ce_src h, ce_vOr h, ce_tbit h, h 29 (by decide) (by decide), ce_cov h, ce_grp h, ce_KP h]
  by_cases q : ch p = 97
  · rw [hM q]
  · rw [if_neg q, if_neg q]
theorem eRun_cong {cn cn' : Nat → Bool} {ch : Nat → Nat} : ∀ {n : Nat}, (∀ p, p < n → cn p = cn' p) → eRun cn ch n = eRun cn' ch n
  | 0, _ => rfl
  | n + 1, h => by
    rw [eRun, eRun, eRun_cong (fun p hp => h p (by omega))]
    unfold eStep
    rw [h n (by omega)]
end CE
def OnE (m m' : Sx) : Prop := (∀ a, a ≠ 42 → a ≠ 43 → a ≠ 44 → gA m' a = gA m a) ∧ (∀ k, k ≠ 54 → gI m' k = gI m k) ∧ gL m' = gL m ∧ gM m' = gM m
theorem OnE.rf (m : Sx) : OnE m m := ⟨fun _ _ _ _ => rfl, fun _ _ => rfl, rfl, rfl⟩
theorem OnE.tr {a b c : Sx} (h : OnE a b) (g : OnE b c) : OnE a c := ⟨fun i h1 h2 h3 => (g.1 i h1 h2 h3).trans (h.1 i h1 h2 h3), fun i hi => (g.2.1 i hi).trans (h.2.1 i hi), g.2.2.1.trans h.2.2.1, g.2.2.2.trans h.2.2.2⟩
theorem OnE.pI {m : Sx} {v : Int32} : OnE m (pI m 54 v) := ⟨fun _ _ _ _ => rfl, fun k hk => by rw [gI_pI, if_neg hk], rfl, rfl⟩
theorem OnE.pA {m : Sx} {a k : Nat} {v : Int32} (h : a = 42 ∨ a = 43 ∨ a = 44) : OnE m (pA m a k v) := ⟨fun i h1 h2 h3 => gA_pA_ne (by omega), fun _ _ => rfl, rfl, rfl⟩
theorem OnE.sd {m y : Sx} (h : OnE m y) : SameD m y := ⟨fun a ha => h.1 a (by omega) (by omega) (by omega), by rw [h.2.2.2]⟩
/-- the reference's rows show what the file answers so far -/
def Me (y : Sx) (E : Es) (o : Nat) : Prop := gI y 54 = nI o ∧ o < 11 ∧ E.1 = o ∧ ∀ l, l ≤ o → gA y 42 l = b2 (E.2.1 l) ∧ gA y 43 l = b2 (E.2.2.1 l) ∧ gA y 44 l = b2 (E.2.2.2 l)
theorem b2_0 (b : Bool) : (b2 b = 0) ↔ b = false := b2_eq0 b
theorem tells_eq {y : Sx} {E : Es} {o : Nat} (h : Me y E o) (b : Bool) : ∃ y', f_X9_tells y (b2 b) = some y' ∧ OnE y y' ∧ Me y' (eTake E b) o := by
  obtain ⟨e1, ho, eL, hl⟩ := h
  obtain ⟨h42, h43, h44⟩ := hl o (Nat.le_refl _)
  have g12 : vp_in (gI y 54) 12 := by rw [e1]; exact vin_nI (by omega) (by decide)
  have ixo : ix (gI y 54) = o := by rw [e1, ix_nI (by omega)]
  have key : ∀ v : Bool, v = (E.2.2.1 o && (b != E.2.2.2 o)) → OnE y (pA (pA y 43 o (b2 v)) 44 o 0) ∧ Me (pA (pA y 43 o (b2 v)) 44 o 0) (eTake E b) o := fun v hv => by
    refine ⟨(OnE.pA (by omega)).tr (OnE.pA (by omega)), e1, ho, eL, fun l hl2 => ?_⟩
    obtain ⟨a1, a2, a3⟩ := hl l hl2
    refine ⟨?_, ?_, ?_⟩
    · rw [gA_pA_ne (by decide), gA_pA_ne (by decide)]; exact a1
    · rw [gA_pA_ne (by decide), gA_pA_at]
      show _ = b2 (upf E.2.2.1 E.1 (E.2.2.1 E.1 && (b != E.2.2.2 E.1)) l)
      unfold upf
      rw [eL]
      by_cases q : l = o
      · rw [if_pos q, if_pos q, hv]
      · rw [if_neg q, if_neg q]; exact a2
    · rw [gA_pA_at]
      show _ = b2 (upf E.2.2.2 E.1 false l)
      unfold upf
      rw [eL]
      by_cases q : l = o
      · rw [if_pos q, if_pos q]; rfl
      · rw [if_neg q, if_neg q, gA_pA_ne (by decide)]; exact a3
  unfold f_X9_tells
  rw [gd_pos g12, gd_pos g12, gd_pos g12, gd_pos g12, ixo, h43, h44]
  cases q1 : E.2.2.1 o with
  | false =>
    rw [bF, bd_eq, gI_pA, gd_pos g12, bd_eq, ixo]
    exact ⟨_, rfl, key false (by rw [q1]; rfl)⟩
  | true =>
    rw [bT]
    by_cases q2 : b2 b = b2 (E.2.2.2 o)
    · rw [if_pos q2, bd_eq, gI_pA, gd_pos g12, bd_eq, ixo]
      exact ⟨_, rfl, key false (by rw [q1, b2_inj.mp q2]; simp)⟩
    · rw [if_neg q2, bd_eq, gI_pA, gd_pos g12, bd_eq, ixo]
      refine ⟨_, rfl, key true ?_⟩
      rw [q1]
      have : b ≠ E.2.2.2 o := fun w => q2 (by rw [w])
      simp [this]
theorem enters_eq {y : Sx} {o : Nat} (e1 : gI y 54 = nI o) (ho : o < 11) : f_X9_enters y = some (pA (pA (pA y 42 o 0) 43 o 1) 44 o 0) := by
  have g12 : vp_in (gI y 54) 12 := by rw [e1]; exact vin_nI (by omega) (by decide)
  have ixo : ix (gI y 54) = o := by rw [e1, ix_nI (by omega)]
  unfold f_X9_enters
  rw [gd_pos g12, bd_eq, gI_pA, gd_pos g12, bd_eq, gI_pA, gI_pA, gd_pos g12, bd_eq, ixo]
/-- the rule that the reference works out -/
def Rx (y : Sx) (ch : Nat → Nat) (n : Nat) : Prop := n ≤ 80 ∧ gI y 55 = nI n ∧ ∀ k, k < n → gA y 45 k = nI (ch k)
theorem Rx.on {m y : Sx} {ch : Nat → Nat} {n : Nat} (h : Rx m ch n) (o : OnE m y) : Rx y ch n := ⟨h.1, by rw [o.2.1 55 (by decide)]; exact h.2.1, fun k hk => by rw [o.1 45 (by decide) (by decide) (by decide)]; exact h.2.2 k hk⟩
theorem L_asks {y : Sx} {ch : Nat → Nat} {n : Nat} (hX : Rx y ch n) (hok : okc ch n) (a b c d e g : Int32) (kont : Int32 → Int32 → Option (Int32 × Sx)) : ∀ (k q v fu : Nat), n - q ≤ k → q ≤ n → k < fu → L_X9_asks_102 y a b c d e g kont fu (nI v) (nI q) = kont (nI (nmb ch n k q v)) (nI (nend ch n k q)) := by
  have hn := hX.1
  intro k
  induction k with
  | zero =>
    intro q v fu hk hq hf
    obtain ⟨fu, rfl⟩ : ∃ r, fu = r + 1 := ⟨fu - 1, by omega⟩
    rw [L_X9_asks_102, hX.2.1, if_pos (nI_le (by omega) (by omega))]
    rfl
  | succ k ih =>
    intro q v fu hk hq hf
    obtain ⟨fu, rfl⟩ : ∃ r, fu = r + 1 := ⟨fu - 1, by omega⟩
    rw [L_X9_asks_102, hX.2.1, nmb, nend]
    by_cases hl : q < n
    · obtain ⟨c1, c2⟩ := hok q hl
      rw [if_neg (by rw [nI_le_iff (by omega) (by omega)]; omega), gd_pos (vin_nI (by omega) (by decide)), gd_pos (vin_nI (by omega) (by decide)), ix_nI (by omega), hX.2.2 q hl, isDigitM_eq y (by omega), Option.bind_some]
      cases hd : dgt (ch q) with
      | false => rw [bF, if_neg (by simp), if_neg (by simp)]
      | true => rw [bT, num_add' hd, nI_lit1, if_pos ⟨hl, rfl⟩, if_pos ⟨hl, rfl⟩, ih (q + 1) _ fu (by omega) (by omega) (by omega)]
    · rw [if_pos (nI_le (by omega) (by omega)), if_neg (fun w => hl w.1), if_neg (fun w => hl w.1)]
/-- what a field's condition is followed by -/
theorem field_tok {ch : Nat → Nat} {n : Nat} (h : Rul ch n) {p o : Nat} (e : rn ch (p + 1) = some (1, o)) (hp : p + 1 ≤ n) : p + 1 < n ∧ ((ch (p + 1) = 63 ∧ rn ch (p + 2) = some (8, o)) ∨ ((ch (p + 1) = 60 ∨ ch (p + 1) = 61 ∨ ch (p + 1) = 62) ∧ p + 2 < n ∧ dgt (ch (p + 2)) = true ∧ (∃ s', rn ch (nend ch n 5 (p + 2)) = some (s', o) ∧ aft s') ∧ nend ch n 5 (p + 2) ≤ n ∧ ¬ (nend ch n 5 (p + 2) < n ∧ dgt (ch (nend ch n 5 (p + 2))) = true))) := by
  have hp1 := rul_at h hp e (by omega)
  obtain ⟨sn, hv, -⟩ := id h.2
  obtain ⟨s1, o1, e1, g1, g2, g3, g4⟩ := rn_at h.1 hv hp1
  rw [e] at e1
  cases e1
  refine ⟨hp1, ?_⟩
  rcases nx1 g3 with ⟨q, w⟩ | ⟨q, w⟩
  · rw [w, if_neg (by omega), if_neg (by omega)] at g4
    have hp2 := rul_at h (show p + 2 ≤ n by omega) g4 (by omega)
    obtain ⟨s2, o2, e2, k1, k2, k3, k4⟩ := rn_at h.1 hv hp2
    rw [g4] at e2
    cases e2
    obtain ⟨hd, h3⟩ := nx2 k3
    have hd2 := dgt_iff.mp hd
    rw [h3, if_neg (by omega), if_neg (by omega)] at k4
    obtain ⟨s', a1, a2, a3, a4⟩ := dend h 4 (p + 3) 3 o k4 (Or.inr ⟨by omega, by omega⟩) (by decide) (by omega)
    have en : nend ch n 5 (p + 2) = nend ch n 4 (p + 3) := by rw [nend, if_pos ⟨hp2, hd⟩]
    rw [en]
    exact Or.inr ⟨q, hp2, hd, ⟨s', a1, a2⟩, a3, a4⟩
  · rw [w, if_neg (by omega), if_neg (by omega)] at g4
    exact Or.inl ⟨q, g4⟩
theorem asks_107 {y : Sx} (hO : WOrd y) (hV : WVal y) {ch : Nat → Nat} {n : Nat} (hX : Rx y ch n) (hR : Rul ch n) {f p o os : Nat} {E : Es} (hf : f < 40) (hM : Me y E o) (hp : p + 1 ≤ n) (e : rn ch (p + 1) = some (1, os)) (hc : ch p = 107) : ∃ y' q, f_X9_asks y (nI f) (nI p) = some (nI q, y') ∧ OnE y y' ∧ Me y' (eTake E (cnd y ch n f p)) o ∧ q = (if ch (p + 1) = 63 then p + 2 else nend ch n 5 (p + 2)) := by
  have hn := hX.1
  obtain ⟨hp1, htok⟩ := field_tok hR e hp
  obtain ⟨c1, c2⟩ := hR.1 (p + 1) hp1
  have es : f_X9_source y (nI f) 0 = match src y f 0 with
    | some j => some (gA y 28 j)
    | none => some (-4) := source_eq hO hf (fld := 0) (by decide)
  have ev : f_X9_valueOr y (nI f) 0 0 = some (vOr y f 0 0) := valueOr_eq hO hf (fld := 0) (by decide) 0
  have ep : gA y 45 p = 107 := by rw [hX.2.2 p (by omega), hc]; rfl
  have e1 : gA y 45 (p + 1) = nI (ch (p + 1)) := hX.2.2 (p + 1) hp1
  have z : ∀ k, k < 2000 → ((nI (ch (p + 1)) = nI k) ↔ ch (p + 1) = k) := fun k hk => nI_eq_iff (by omega) (by omega)
  have z63 : (nI (ch (p + 1)) = 63) ↔ ch (p + 1) = 63 := z 63 (by decide)
  have z60 : (nI (ch (p + 1)) = 60) ↔ ch (p + 1) = 60 := z 60 (by decide)
  have z61 : (nI (ch (p + 1)) = 61) ↔ ch (p + 1) = 61 := z 61 (by decide)
  have nle : ∀ u v : Int32, ¬ u ≤ v ↔ v < u := fun u v => by rw [i_le, i_lt]; omega
  have ec : cnd y ch n f p = ((src y f 0).isSome && cmpv (ch (p + 1)) (vOr y f 0 0) (nmb ch n 5 (p + 2) 0)) := by
    rw [cnd, if_pos (by rw [hc]; rfl), hc]; rfl
  have p2 : nI p + 2 = nI (p + 2) := by rw [show (2 : Int32) = nI 2 from rfl, nI_add]
  have hloop : ∀ (a b c d e g : Int32) (kont : Int32 → Int32 → Option (Int32 × Sx)), ¬ ch (p + 1) = 63 → L_X9_asks_102 y a b c d e g kont FU 0 (nI (p + 2)) = kont (nI (nmb ch n 5 (p + 2) 0)) (nI (nend ch n 5 (p + 2))) := fun a b c d e g kont h63 => by
    rcases htok with ⟨w, -⟩ | ⟨-, hp2, -, -, -, hs⟩
    · exact absurd w h63
    · obtain ⟨s1, s2⟩ := nstop (ch := ch) (n := n) 5 (p + 2) 0 80 hs
      rw [← s1, ← s2, ← nI_0]
      exact L_asks hX hR.1 a b c d e g kont 85 (p + 2) 0 FU (by omega) (by omega) (by rw [FU_eq]; decide)
  rw [ec]
  unfold f_X9_asks
  rw [gd_pos (vin_nI (by omega) (by decide)), ix_nI (by omega), ep, if_pos rfl, es]
  cases hs : src y f 0 with
  | none =>
    dsimp only
    rw [Option.bind_some, if_pos (by decide), nI_lit1, gd_pos (vin_nI (by omega) (by decide)), ix_nI (by omega), e1]
    by_cases q63 : ch (p + 1) = 63
    · obtain ⟨y', a1, a2, a3⟩ := tells_eq hM false
      rw [if_pos (z63.mpr q63), p2, show (0 : Int32) = b2 false from rfl, a1]
      exact ⟨y', p + 2, rfl, a2, a3, by rw [if_pos q63]⟩
    · obtain ⟨y', a1, a2, a3⟩ := tells_eq hM false
      rw [if_neg (fun w => q63 (z63.mp w)), p2, hloop _ _ _ _ _ _ _ q63, ev, Option.bind_some, if_pos rfl]
      rw [show f_X9_tells y 0 = some y' from a1]
      exact ⟨y', _, rfl, a2, a3, by rw [if_neg q63]⟩
  | some j =>
    obtain ⟨-, hj, hT, -⟩ := fst?_some hs
    obtain ⟨ee, ho⟩ := wOrd_at hO (k := j) (by omega)
    dsimp only
    rw [Option.bind_some, ee, if_neg (nI_pos (by omega)), nI_lit1, gd_pos (vin_nI (by omega) (by decide)), ix_nI (by omega), e1]
    by_cases q63 : ch (p + 1) = 63
    · obtain ⟨y', a1, a2, a3⟩ := tells_eq hM true
      rw [if_pos (z63.mpr q63), p2, show f_X9_tells y 1 = some y' from a1]
      refine ⟨y', p + 2, rfl, a2, ?_, by rw [if_pos q63]⟩
      have : cmpv (ch (p + 1)) (vOr y f 0 0) (nmb ch n 5 (p + 2) 0) = true := by unfold cmpv; rw [q63]; rfl
      rw [this]; exact a3
    · rw [if_neg (fun w => q63 (z63.mp w)), p2, hloop _ _ _ _ _ _ _ q63, ev, Option.bind_some, if_neg (by decide)]
      obtain ⟨y', a1, a2, a3⟩ := tells_eq hM (cmpv (ch (p + 1)) (vOr y f 0 0) (nmb ch n 5 (p + 2) 0))
      refine ⟨y', nend ch n 5 (p + 2), ?_, a2, a3, by rw [if_neg q63]⟩
      unfold cmpv at a1
      by_cases q60 : ch (p + 1) = 60
      · rw [if_pos q60] at a1
        rw [if_pos (z60.mpr q60)]
        by_cases w : nI (nmb ch n 5 (p + 2) 0) ≤ vOr y f 0 0
        · rw [decide_eq_false (fun u => (nle _ _).mpr u w)] at a1
          rw [if_pos w, show f_X9_tells y 0 = some y' from a1]; rfl
        · rw [decide_eq_true ((nle _ _).mp w)] at a1
          rw [if_neg w, show f_X9_tells y 1 = some y' from a1]; rfl
      · rw [if_neg q60] at a1
        rw [if_neg (fun w => q60 (z60.mp w))]
        by_cases q61 : ch (p + 1) = 61
        · rw [if_pos q61] at a1
          rw [if_pos (z61.mpr q61)]
          by_cases w : vOr y f 0 0 = nI (nmb ch n 5 (p + 2) 0)
          · rw [decide_eq_true w] at a1
            rw [if_pos w, show f_X9_tells y 1 = some y' from a1]; rfl
          · rw [decide_eq_false w] at a1
            rw [if_neg w, show f_X9_tells y 0 = some y' from a1]; rfl
        · rw [if_neg q61, if_pos (show ch (p + 1) = 62 by omega)] at a1
          rw [if_neg (fun w => q61 (z61.mp w))]
          by_cases w : vOr y f 0 0 ≤ nI (nmb ch n 5 (p + 2) 0)
          · rw [decide_eq_false (fun u => (nle _ _).mpr u w)] at a1
            rw [if_pos w, show f_X9_tells y 0 = some y' from a1]; rfl
          · rw [decide_eq_true ((nle _ _).mp w)] at a1
            rw [if_neg w, show f_X9_tells y 1 = some y' from a1]; rfl
theorem asks_114 {y : Sx} (hO : WOrd y) (hV : WVal y) {ch : Nat → Nat} {n : Nat} (hX : Rx y ch n) (hR : Rul ch n) {f p o os : Nat} {E : Es} (hf : f < 40) (hM : Me y E o) (hp : p + 1 ≤ n) (e : rn ch (p + 1) = some (1, os)) (hc : ch p = 114) : ∃ y' q, f_X9_asks y (nI f) (nI p) = some (nI q, y') ∧ OnE y y' ∧ Me y' (eTake E (cnd y ch n f p)) o ∧ q = (if ch (p + 1) = 63 then p + 2 else nend ch n 5 (p + 2)) := by
  have hn := hX.1
  obtain ⟨hp1, htok⟩ := field_tok hR e hp
  obtain ⟨c1, c2⟩ := hR.1 (p + 1) hp1
  have es : f_X9_source y (nI f) 1 = match src y f 1 with
    | some j => some (gA y 28 j)
    | none => some (-4) := source_eq hO hf (fld := 1) (by decide)
  have ev : f_X9_valueOr y (nI f) 1 0 = some (vOr y f 1 0) := valueOr_eq hO hf (fld := 1) (by decide) 0
  have ep : gA y 45 p = 114 := by rw [hX.2.2 p (by omega), hc]; rfl
  have e1 : gA y 45 (p + 1) = nI (ch (p + 1)) := hX.2.2 (p + 1) hp1
  have z : ∀ k, k < 2000 → ((nI (ch (p + 1)) = nI k) ↔ ch (p + 1) = k) := fun k hk => nI_eq_iff (by omega) (by omega)
  have z63 : (nI (ch (p + 1)) = 63) ↔ ch (p + 1) = 63 := z 63 (by decide)
  have z60 : (nI (ch (p + 1)) = 60) ↔ ch (p + 1) = 60 := z 60 (by decide)
  have z61 : (nI (ch (p + 1)) = 61) ↔ ch (p + 1) = 61 := z 61 (by decide)
  have nle : ∀ u v : Int32, ¬ u ≤ v ↔ v < u := fun u v => by rw [i_le, i_lt]; omega
  have ec : cnd y ch n f p = ((src y f 1).isSome && cmpv (ch (p + 1)) (vOr y f 1 0) (nmb ch n 5 (p + 2) 0)) := by
    rw [cnd, if_pos (by rw [hc]; rfl), hc]; rfl
  have p2 : nI p + 2 = nI (p + 2) := by rw [show (2 : Int32) = nI 2 from rfl, nI_add]
  have hloop : ∀ (a b c d e g : Int32) (kont : Int32 → Int32 → Option (Int32 × Sx)), ¬ ch (p + 1) = 63 → L_X9_asks_102 y a b c d e g kont FU 0 (nI (p + 2)) = kont (nI (nmb ch n 5 (p + 2) 0)) (nI (nend ch n 5 (p + 2))) := fun a b c d e g kont h63 => by
    rcases htok with ⟨w, -⟩ | ⟨-, hp2, -, -, -, hs⟩
    · exact absurd w h63
    · obtain ⟨s1, s2⟩ := nstop (ch := ch) (n := n) 5 (p + 2) 0 80 hs
      rw [← s1, ← s2, ← nI_0]
      exact L_asks hX hR.1 a b c d e g kont 85 (p + 2) 0 FU (by omega) (by omega) (by rw [FU_eq]; decide)
  rw [ec]
  unfold f_X9_asks
  rw [gd_pos (vin_nI (by omega) (by decide)), ix_nI (by omega), ep, if_neg (by decide), if_pos rfl, es]
  cases hs : src y f 1 with
  | none =>
    dsimp only
    rw [Option.bind_some, if_pos (by decide), nI_lit1, gd_pos (vin_nI (by omega) (by decide)), ix_nI (by omega), e1]
    by_cases q63 : ch (p + 1) = 63
    · obtain ⟨y', a1, a2, a3⟩ := tells_eq hM false
      rw [if_pos (z63.mpr q63), p2, show (0 : Int32) = b2 false from rfl, a1]
      exact ⟨y', p + 2, rfl, a2, a3, by rw [if_pos q63]⟩
    · obtain ⟨y', a1, a2, a3⟩ := tells_eq hM false
      rw [if_neg (fun w => q63 (z63.mp w)), p2, hloop _ _ _ _ _ _ _ q63, ev, Option.bind_some, if_pos rfl]
      rw [show f_X9_tells y 0 = some y' from a1]
      exact ⟨y', _, rfl, a2, a3, by rw [if_neg q63]⟩
  | some j =>
    obtain ⟨-, hj, hT, -⟩ := fst?_some hs
    obtain ⟨ee, ho⟩ := wOrd_at hO (k := j) (by omega)
    dsimp only
    rw [Option.bind_some, ee, if_neg (nI_pos (by omega)), nI_lit1, gd_pos (vin_nI (by omega) (by decide)), ix_nI (by omega), e1]
    by_cases q63 : ch (p + 1) = 63
    · obtain ⟨y', a1, a2, a3⟩ := tells_eq hM true
      rw [if_pos (z63.mpr q63), p2, show f_X9_tells y 1 = some y' from a1]
      refine ⟨y', p + 2, rfl, a2, ?_, by rw [if_pos q63]⟩
      have : cmpv (ch (p + 1)) (vOr y f 1 0) (nmb ch n 5 (p + 2) 0) = true := by unfold cmpv; rw [q63]; rfl
      rw [this]; exact a3
    · rw [if_neg (fun w => q63 (z63.mp w)), p2, hloop _ _ _ _ _ _ _ q63, ev, Option.bind_some, if_neg (by decide)]
      obtain ⟨y', a1, a2, a3⟩ := tells_eq hM (cmpv (ch (p + 1)) (vOr y f 1 0) (nmb ch n 5 (p + 2) 0))
      refine ⟨y', nend ch n 5 (p + 2), ?_, a2, a3, by rw [if_neg q63]⟩
      unfold cmpv at a1
      by_cases q60 : ch (p + 1) = 60
      · rw [if_pos q60] at a1
        rw [if_pos (z60.mpr q60)]
        by_cases w : nI (nmb ch n 5 (p + 2) 0) ≤ vOr y f 1 0
        · rw [decide_eq_false (fun u => (nle _ _).mpr u w)] at a1
          rw [if_pos w, show f_X9_tells y 0 = some y' from a1]; rfl
        · rw [decide_eq_true ((nle _ _).mp w)] at a1
          rw [if_neg w, show f_X9_tells y 1 = some y' from a1]; rfl
      · rw [if_neg q60] at a1
        rw [if_neg (fun w => q60 (z60.mp w))]
        by_cases q61 : ch (p + 1) = 61
        · rw [if_pos q61] at a1
          rw [if_pos (z61.mpr q61)]
          by_cases w : vOr y f 1 0 = nI (nmb ch n 5 (p + 2) 0)
          · rw [decide_eq_true w] at a1
            rw [if_pos w, show f_X9_tells y 1 = some y' from a1]; rfl
          · rw [decide_eq_false w] at a1
            rw [if_neg w, show f_X9_tells y 0 = some y' from a1]; rfl
        · rw [if_neg q61, if_pos (show ch (p + 1) = 62 by omega)] at a1
          rw [if_neg (fun w => q61 (z61.mp w))]
          by_cases w : vOr y f 1 0 ≤ nI (nmb ch n 5 (p + 2) 0)
          · rw [decide_eq_false (fun u => (nle _ _).mpr u w)] at a1
            rw [if_pos w, show f_X9_tells y 0 = some y' from a1]; rfl
          · rw [decide_eq_true ((nle _ _).mp w)] at a1
            rw [if_neg w, show f_X9_tells y 1 = some y' from a1]; rfl
theorem asks_121 {y : Sx} (hO : WOrd y) (hV : WVal y) {ch : Nat → Nat} {n : Nat} (hX : Rx y ch n) (hR : Rul ch n) {f p o os : Nat} {E : Es} (hf : f < 40) (hM : Me y E o) (hp : p + 1 ≤ n) (e : rn ch (p + 1) = some (1, os)) (hc : ch p = 121) : ∃ y' q, f_X9_asks y (nI f) (nI p) = some (nI q, y') ∧ OnE y y' ∧ Me y' (eTake E (cnd y ch n f p)) o ∧ q = (if ch (p + 1) = 63 then p + 2 else nend ch n 5 (p + 2)) := by
  have hn := hX.1
  obtain ⟨hp1, htok⟩ := field_tok hR e hp
  obtain ⟨c1, c2⟩ := hR.1 (p + 1) hp1
  have es : f_X9_source y (nI f) 2 = match src y f 2 with
    | some j => some (gA y 28 j)
    | none => some (-4) := source_eq hO hf (fld := 2) (by decide)
  have ev : f_X9_valueOr y (nI f) 2 0 = some (vOr y f 2 0) := valueOr_eq hO hf (fld := 2) (by decide) 0
  have ep : gA y 45 p = 121 := by rw [hX.2.2 p (by omega), hc]; rfl
  have e1 : gA y 45 (p + 1) = nI (ch (p + 1)) := hX.2.2 (p + 1) hp1
  have z : ∀ k, k < 2000 → ((nI (ch (p + 1)) = nI k) ↔ ch (p + 1) = k) := fun k hk => nI_eq_iff (by omega) (by omega)
  have z63 : (nI (ch (p + 1)) = 63) ↔ ch (p + 1) = 63 := z 63 (by decide)
  have z60 : (nI (ch (p + 1)) = 60) ↔ ch (p + 1) = 60 := z 60 (by decide)
  have z61 : (nI (ch (p + 1)) = 61) ↔ ch (p + 1) = 61 := z 61 (by decide)
  have nle : ∀ u v : Int32, ¬ u ≤ v ↔ v < u := fun u v => by rw [i_le, i_lt]; omega
  have ec : cnd y ch n f p = ((src y f 2).isSome && cmpv (ch (p + 1)) (vOr y f 2 0) (nmb ch n 5 (p + 2) 0)) := by
    rw [cnd, if_pos (by rw [hc]; rfl), hc]; rfl
  have p2 : nI p + 2 = nI (p + 2) := by rw [show (2 : Int32) = nI 2 from rfl, nI_add]
  have hloop : ∀ (a b c d e g : Int32) (kont : Int32 → Int32 → Option (Int32 × Sx)), ¬ ch (p + 1) = 63 → L_X9_asks_102 y a b c d e g kont FU 0 (nI (p + 2)) = kont (nI (nmb ch n 5 (p + 2) 0)) (nI (nend ch n 5 (p + 2))) := fun a b c d e g kont h63 => by
    rcases htok with ⟨w, -⟩ | ⟨-, hp2, -, -, -, hs⟩
    · exact absurd w h63
    · obtain ⟨s1, s2⟩ := nstop (ch := ch) (n := n) 5 (p + 2) 0 80 hs
      rw [← s1, ← s2, ← nI_0]
      exact L_asks hX hR.1 a b c d e g kont 85 (p + 2) 0 FU (by omega) (by omega) (by rw [FU_eq]; decide)
  rw [ec]
  unfold f_X9_asks
  rw [gd_pos (vin_nI (by omega) (by decide)), ix_nI (by omega), ep, if_neg (by decide), if_neg (by decide), if_pos rfl, es]
  cases hs : src y f 2 with
  | none =>
    dsimp only
    rw [Option.bind_some, if_pos (by decide), nI_lit1, gd_pos (vin_nI (by omega) (by decide)), ix_nI (by omega), e1]
    by_cases q63 : ch (p + 1) = 63
    · obtain ⟨y', a1, a2, a3⟩ := tells_eq hM false
      rw [if_pos (z63.mpr q63), p2, show (0 : Int32) = b2 false from rfl, a1]
      exact ⟨y', p + 2, rfl, a2, a3, by rw [if_pos q63]⟩
    · obtain ⟨y', a1, a2, a3⟩ := tells_eq hM false
      rw [if_neg (fun w => q63 (z63.mp w)), p2, hloop _ _ _ _ _ _ _ q63, ev, Option.bind_some, if_pos rfl]
      rw [show f_X9_tells y 0 = some y' from a1]
      exact ⟨y', _, rfl, a2, a3, by rw [if_neg q63]⟩
  | some j =>
    obtain ⟨-, hj, hT, -⟩ := fst?_some hs
    obtain ⟨ee, ho⟩ := wOrd_at hO (k := j) (by omega)
    dsimp only
    rw [Option.bind_some, ee, if_neg (nI_pos (by omega)), nI_lit1, gd_pos (vin_nI (by omega) (by decide)), ix_nI (by omega), e1]
    by_cases q63 : ch (p + 1) = 63
    · obtain ⟨y', a1, a2, a3⟩ := tells_eq hM true
      rw [if_pos (z63.mpr q63), p2, show f_X9_tells y 1 = some y' from a1]
      refine ⟨y', p + 2, rfl, a2, ?_, by rw [if_pos q63]⟩
      have : cmpv (ch (p + 1)) (vOr y f 2 0) (nmb ch n 5 (p + 2) 0) = true := by unfold cmpv; rw [q63]; rfl
      rw [this]; exact a3
    · rw [if_neg (fun w => q63 (z63.mp w)), p2, hloop _ _ _ _ _ _ _ q63, ev, Option.bind_some, if_neg (by decide)]
      obtain ⟨y', a1, a2, a3⟩ := tells_eq hM (cmpv (ch (p + 1)) (vOr y f 2 0) (nmb ch n 5 (p + 2) 0))
      refine ⟨y', nend ch n 5 (p + 2), ?_, a2, a3, by rw [if_neg q63]⟩
      unfold cmpv at a1
      by_cases q60 : ch (p + 1) = 60
      · rw [if_pos q60] at a1
        rw [if_pos (z60.mpr q60)]
        by_cases w : nI (nmb ch n 5 (p + 2) 0) ≤ vOr y f 2 0
        · rw [decide_eq_false (fun u => (nle _ _).mpr u w)] at a1
          rw [if_pos w, show f_X9_tells y 0 = some y' from a1]; rfl
        · rw [decide_eq_true ((nle _ _).mp w)] at a1
          rw [if_neg w, show f_X9_tells y 1 = some y' from a1]; rfl
      · rw [if_neg q60] at a1
        rw [if_neg (fun w => q60 (z60.mp w))]
        by_cases q61 : ch (p + 1) = 61
        · rw [if_pos q61] at a1
          rw [if_pos (z61.mpr q61)]
          by_cases w : vOr y f 2 0 = nI (nmb ch n 5 (p + 2) 0)
          · rw [decide_eq_true w] at a1
            rw [if_pos w, show f_X9_tells y 1 = some y' from a1]; rfl
          · rw [decide_eq_false w] at a1
            rw [if_neg w, show f_X9_tells y 0 = some y' from a1]; rfl
        · rw [if_neg q61, if_pos (show ch (p + 1) = 62 by omega)] at a1
          rw [if_neg (fun w => q61 (z61.mp w))]
          by_cases w : vOr y f 2 0 ≤ nI (nmb ch n 5 (p + 2) 0)
          · rw [decide_eq_false (fun u => (nle _ _).mpr u w)] at a1
            rw [if_pos w, show f_X9_tells y 0 = some y' from a1]; rfl
          · rw [decide_eq_true ((nle _ _).mp w)] at a1
            rw [if_neg w, show f_X9_tells y 1 = some y' from a1]; rfl
theorem asks_99 {y : Sx} (hO : WOrd y) (hV : WVal y) {ch : Nat → Nat} {n : Nat} (hX : Rx y ch n) (hR : Rul ch n) {f p o os : Nat} {E : Es} (hf : f < 40) (hM : Me y E o) (hp : p + 1 ≤ n) (e : rn ch (p + 1) = some (1, os)) (hc : ch p = 99) : ∃ y' q, f_X9_asks y (nI f) (nI p) = some (nI q, y') ∧ OnE y y' ∧ Me y' (eTake E (cnd y ch n f p)) o ∧ q = (if ch (p + 1) = 63 then p + 2 else nend ch n 5 (p + 2)) := by
  have hn := hX.1
  obtain ⟨hp1, htok⟩ := field_tok hR e hp
  obtain ⟨c1, c2⟩ := hR.1 (p + 1) hp1
  have es : f_X9_source y (nI f) 3 = match src y f 3 with
    | some j => some (gA y 28 j)
    | none => some (-4) := source_eq hO hf (fld := 3) (by decide)
  have ev : f_X9_valueOr y (nI f) 3 0 = some (vOr y f 3 0) := valueOr_eq hO hf (fld := 3) (by decide) 0
  have ep : gA y 45 p = 99 := by rw [hX.2.2 p (by omega), hc]; rfl
  have e1 : gA y 45 (p + 1) = nI (ch (p + 1)) := hX.2.2 (p + 1) hp1
  have z : ∀ k, k < 2000 → ((nI (ch (p + 1)) = nI k) ↔ ch (p + 1) = k) := fun k hk => nI_eq_iff (by omega) (by omega)
  have z63 : (nI (ch (p + 1)) = 63) ↔ ch (p + 1) = 63 := z 63 (by decide)
  have z60 : (nI (ch (p + 1)) = 60) ↔ ch (p + 1) = 60 := z 60 (by decide)
  have z61 : (nI (ch (p + 1)) = 61) ↔ ch (p + 1) = 61 := z 61 (by decide)
  have nle : ∀ u v : Int32, ¬ u ≤ v ↔ v < u := fun u v => by rw [i_le, i_lt]; omega
  have ec : cnd y ch n f p = ((src y f 3).isSome && cmpv (ch (p + 1)) (vOr y f 3 0) (nmb ch n 5 (p + 2) 0)) := by
    rw [cnd, if_pos (by rw [hc]; rfl), hc]; rfl
  have p2 : nI p + 2 = nI (p + 2) := by rw [show (2 : Int32) = nI 2 from rfl, nI_add]
  have hloop : ∀ (a b c d e g : Int32) (kont : Int32 → Int32 → Option (Int32 × Sx)), ¬ ch (p + 1) = 63 → L_X9_asks_102 y a b c d e g kont FU 0 (nI (p + 2)) = kont (nI (nmb ch n 5 (p + 2) 0)) (nI (nend ch n 5 (p + 2))) := fun a b c d e g kont h63 => by
    rcases htok with ⟨w, -⟩ | ⟨-, hp2, -, -, -, hs⟩
    · exact absurd w h63
    · obtain ⟨s1, s2⟩ := nstop (ch := ch) (n := n) 5 (p + 2) 0 80 hs
      rw [← s1, ← s2, ← nI_0]
      exact L_asks hX hR.1 a b c d e g kont 85 (p + 2) 0 FU (by omega) (by omega) (by rw [FU_eq]; decide)
  rw [ec]
  unfold f_X9_asks
  rw [gd_pos (vin_nI (by omega) (by decide)), ix_nI (by omega), ep, if_neg (by decide), if_neg (by decide), if_neg (by decide), if_pos rfl, es]
  cases hs : src y f 3 with
  | none =>
    dsimp only
    rw [Option.bind_some, if_pos (by decide), nI_lit1, gd_pos (vin_nI (by omega) (by decide)), ix_nI (by omega), e1]
    by_cases q63 : ch (p + 1) = 63
    · obtain ⟨y', a1, a2, a3⟩ := tells_eq hM false
      rw [if_pos (z63.mpr q63), p2, show (0 : Int32) = b2 false from rfl, a1]
      exact ⟨y', p + 2, rfl, a2, a3, by rw [if_pos q63]⟩
    · obtain ⟨y', a1, a2, a3⟩ := tells_eq hM false
      rw [if_neg (fun w => q63 (z63.mp w)), p2, hloop _ _ _ _ _ _ _ q63, ev, Option.bind_some, if_pos rfl]
      rw [show f_X9_tells y 0 = some y' from a1]
      exact ⟨y', _, rfl, a2, a3, by rw [if_neg q63]⟩
  | some j =>
    obtain ⟨-, hj, hT, -⟩ := fst?_some hs
    obtain ⟨ee, ho⟩ := wOrd_at hO (k := j) (by omega)
    dsimp only
    rw [Option.bind_some, ee, if_neg (nI_pos (by omega)), nI_lit1, gd_pos (vin_nI (by omega) (by decide)), ix_nI (by omega), e1]
    by_cases q63 : ch (p + 1) = 63
    · obtain ⟨y', a1, a2, a3⟩ := tells_eq hM true
      rw [if_pos (z63.mpr q63), p2, show f_X9_tells y 1 = some y' from a1]
      refine ⟨y', p + 2, rfl, a2, ?_, by rw [if_pos q63]⟩
      have : cmpv (ch (p + 1)) (vOr y f 3 0) (nmb ch n 5 (p + 2) 0) = true := by unfold cmpv; rw [q63]; rfl
      rw [this]; exact a3
    · rw [if_neg (fun w => q63 (z63.mp w)), p2, hloop _ _ _ _ _ _ _ q63, ev, Option.bind_some, if_neg (by decide)]
      obtain ⟨y', a1, a2, a3⟩ := tells_eq hM (cmpv (ch (p + 1)) (vOr y f 3 0) (nmb ch n 5 (p + 2) 0))
      refine ⟨y', nend ch n 5 (p + 2), ?_, a2, a3, by rw [if_neg q63]⟩
      unfold cmpv at a1
      by_cases q60 : ch (p + 1) = 60
      · rw [if_pos q60] at a1
        rw [if_pos (z60.mpr q60)]
        by_cases w : nI (nmb ch n 5 (p + 2) 0) ≤ vOr y f 3 0
        · rw [decide_eq_false (fun u => (nle _ _).mpr u w)] at a1
          rw [if_pos w, show f_X9_tells y 0 = some y' from a1]; rfl
        · rw [decide_eq_true ((nle _ _).mp w)] at a1
          rw [if_neg w, show f_X9_tells y 1 = some y' from a1]; rfl
      · rw [if_neg q60] at a1
        rw [if_neg (fun w => q60 (z60.mp w))]
        by_cases q61 : ch (p + 1) = 61
        · rw [if_pos q61] at a1
          rw [if_pos (z61.mpr q61)]
          by_cases w : vOr y f 3 0 = nI (nmb ch n 5 (p + 2) 0)
          · rw [decide_eq_true w] at a1
            rw [if_pos w, show f_X9_tells y 1 = some y' from a1]; rfl
          · rw [decide_eq_false w] at a1
            rw [if_neg w, show f_X9_tells y 0 = some y' from a1]; rfl
        · rw [if_neg q61, if_pos (show ch (p + 1) = 62 by omega)] at a1
          rw [if_neg (fun w => q61 (z61.mp w))]
          by_cases w : vOr y f 3 0 ≤ nI (nmb ch n 5 (p + 2) 0)
          · rw [decide_eq_false (fun u => (nle _ _).mpr u w)] at a1
            rw [if_pos w, show f_X9_tells y 0 = some y' from a1]; rfl
          · rw [decide_eq_true ((nle _ _).mp w)] at a1
            rw [if_neg w, show f_X9_tells y 1 = some y' from a1]; rfl
theorem asks_100 {y : Sx} (hO : WOrd y) (hV : WVal y) {ch : Nat → Nat} {n : Nat} (hX : Rx y ch n) (hR : Rul ch n) {f p o os : Nat} {E : Es} (hf : f < 40) (hM : Me y E o) (hp : p + 1 ≤ n) (e : rn ch (p + 1) = some (1, os)) (hc : ch p = 100) : ∃ y' q, f_X9_asks y (nI f) (nI p) = some (nI q, y') ∧ OnE y y' ∧ Me y' (eTake E (cnd y ch n f p)) o ∧ q = (if ch (p + 1) = 63 then p + 2 else nend ch n 5 (p + 2)) := by
  have hn := hX.1
  obtain ⟨hp1, htok⟩ := field_tok hR e hp
  obtain ⟨c1, c2⟩ := hR.1 (p + 1) hp1
  have es : f_X9_source y (nI f) 4 = match src y f 4 with
    | some j => some (gA y 28 j)
    | none => some (-4) := source_eq hO hf (fld := 4) (by decide)
  have ev : f_X9_valueOr y (nI f) 4 0 = some (vOr y f 4 0) := valueOr_eq hO hf (fld := 4) (by decide) 0
  have ep : gA y 45 p = 100 := by rw [hX.2.2 p (by omega), hc]; rfl
  have e1 : gA y 45 (p + 1) = nI (ch (p + 1)) := hX.2.2 (p + 1) hp1
  have z : ∀ k, k < 2000 → ((nI (ch (p + 1)) = nI k) ↔ ch (p + 1) = k) := fun k hk => nI_eq_iff (by omega) (by omega)
  have z63 : (nI (ch (p + 1)) = 63) ↔ ch (p + 1) = 63 := z 63 (by decide)
  have z60 : (nI (ch (p + 1)) = 60) ↔ ch (p + 1) = 60 := z 60 (by decide)
  have z61 : (nI (ch (p + 1)) = 61) ↔ ch (p + 1) = 61 := z 61 (by decide)
  have nle : ∀ u v : Int32, ¬ u ≤ v ↔ v < u := fun u v => by rw [i_le, i_lt]; omega
  have ec : cnd y ch n f p = ((src y f 4).isSome && cmpv (ch (p + 1)) (vOr y f 4 0) (nmb ch n 5 (p + 2) 0)) := by
    rw [cnd, if_pos (by rw [hc]; rfl), hc]; rfl
  have p2 : nI p + 2 = nI (p + 2) := by rw [show (2 : Int32) = nI 2 from rfl, nI_add]
  have hloop : ∀ (a b c d e g : Int32) (kont : Int32 → Int32 → Option (Int32 × Sx)), ¬ ch (p + 1) = 63 → L_X9_asks_102 y a b c d e g kont FU 0 (nI (p + 2)) = kont (nI (nmb ch n 5 (p + 2) 0)) (nI (nend ch n 5 (p + 2))) := fun a b c d e g kont h63 => by
    rcases htok with ⟨w, -⟩ | ⟨-, hp2, -, -, -, hs⟩
    · exact absurd w h63
    · obtain ⟨s1, s2⟩ := nstop (ch := ch) (n := n) 5 (p + 2) 0 80 hs
      rw [← s1, ← s2, ← nI_0]
      exact L_asks hX hR.1 a b c d e g kont 85 (p + 2) 0 FU (by omega) (by omega) (by rw [FU_eq]; decide)
  rw [ec]
  unfold f_X9_asks
  rw [gd_pos (vin_nI (by omega) (by decide)), ix_nI (by omega), ep, if_neg (by decide), if_neg (by decide), if_neg (by decide), if_neg (by decide), es]
  cases hs : src y f 4 with
  | none =>
    dsimp only
    rw [Option.bind_some, if_pos (by decide), nI_lit1, gd_pos (vin_nI (by omega) (by decide)), ix_nI (by omega), e1]
    by_cases q63 : ch (p + 1) = 63
    · obtain ⟨y', a1, a2, a3⟩ := tells_eq hM false
      rw [if_pos (z63.mpr q63), p2, show (0 : Int32) = b2 false from rfl, a1]
      exact ⟨y', p + 2, rfl, a2, a3, by rw [if_pos q63]⟩
    · obtain ⟨y', a1, a2, a3⟩ := tells_eq hM false
      rw [if_neg (fun w => q63 (z63.mp w)), p2, hloop _ _ _ _ _ _ _ q63, ev, Option.bind_some, if_pos rfl]
      rw [show f_X9_tells y 0 = some y' from a1]
      exact ⟨y', _, rfl, a2, a3, by rw [if_neg q63]⟩
  | some j =>
    obtain ⟨-, hj, hT, -⟩ := fst?_some hs
    obtain ⟨ee, ho⟩ := wOrd_at hO (k := j) (by omega)
    dsimp only
    rw [Option.bind_some, ee, if_neg (nI_pos (by omega)), nI_lit1, gd_pos (vin_nI (by omega) (by decide)), ix_nI (by omega), e1]
    by_cases q63 : ch (p + 1) = 63
    · obtain ⟨y', a1, a2, a3⟩ := tells_eq hM true
      rw [if_pos (z63.mpr q63), p2, show f_X9_tells y 1 = some y' from a1]
      refine ⟨y', p + 2, rfl, a2, ?_, by rw [if_pos q63]⟩
      have : cmpv (ch (p + 1)) (vOr y f 4 0) (nmb ch n 5 (p + 2) 0) = true := by unfold cmpv; rw [q63]; rfl
      rw [this]; exact a3
    · rw [if_neg (fun w => q63 (z63.mp w)), p2, hloop _ _ _ _ _ _ _ q63, ev, Option.bind_some, if_neg (by decide)]
      obtain ⟨y', a1, a2, a3⟩ := tells_eq hM (cmpv (ch (p + 1)) (vOr y f 4 0) (nmb ch n 5 (p + 2) 0))
      refine ⟨y', nend ch n 5 (p + 2), ?_, a2, a3, by rw [if_neg q63]⟩
      unfold cmpv at a1
      by_cases q60 : ch (p + 1) = 60
      · rw [if_pos q60] at a1
        rw [if_pos (z60.mpr q60)]
        by_cases w : nI (nmb ch n 5 (p + 2) 0) ≤ vOr y f 4 0
        · rw [decide_eq_false (fun u => (nle _ _).mpr u w)] at a1
          rw [if_pos w, show f_X9_tells y 0 = some y' from a1]; rfl
        · rw [decide_eq_true ((nle _ _).mp w)] at a1
          rw [if_neg w, show f_X9_tells y 1 = some y' from a1]; rfl
      · rw [if_neg q60] at a1
        rw [if_neg (fun w => q60 (z60.mp w))]
        by_cases q61 : ch (p + 1) = 61
        · rw [if_pos q61] at a1
          rw [if_pos (z61.mpr q61)]
          by_cases w : vOr y f 4 0 = nI (nmb ch n 5 (p + 2) 0)
          · rw [decide_eq_true w] at a1
            rw [if_pos w, show f_X9_tells y 1 = some y' from a1]; rfl
          · rw [decide_eq_false w] at a1
            rw [if_neg w, show f_X9_tells y 0 = some y' from a1]; rfl
        · rw [if_neg q61, if_pos (show ch (p + 1) = 62 by omega)] at a1
          rw [if_neg (fun w => q61 (z61.mp w))]
          by_cases w : vOr y f 4 0 ≤ nI (nmb ch n 5 (p + 2) 0)
          · rw [decide_eq_false (fun u => (nle _ _).mpr u w)] at a1
            rw [if_pos w, show f_X9_tells y 0 = some y' from a1]; rfl
          · rw [decide_eq_true ((nle _ _).mp w)] at a1
            rw [if_neg w, show f_X9_tells y 1 = some y' from a1]; rfl
end
section
/-! ===== rules: the reference works a rule out, token by token ===== -/
theorem isField_eq (t : Sx) {v : Nat} (h : v < 2000) : f_X9_isField t (nI v) = some (b2 (fldc v)) := by
  unfold f_X9_isField fldc
  have z : ∀ k, k < 2000 → ((nI v = nI k) ↔ v = k) := fun k hk => nI_eq_iff (by omega) (by omega)
  have z107 : (nI v = 107) ↔ v = 107 := z 107 (by decide)
  have z114 : (nI v = 114) ↔ v = 114 := z 114 (by decide)
  have z121 : (nI v = 121) ↔ v = 121 := z 121 (by decide)
  have z99 : (nI v = 99) ↔ v = 99 := z 99 (by decide)
  have z100 : (nI v = 100) ↔ v = 100 := z 100 (by decide)
  simp only [z107, z114, z121, z99, z100]
  by_cases a : v = 107
  · subst a; rfl
  · by_cases b : v = 114
    · subst b; rfl
    · by_cases c : v = 121
      · subst c; rfl
      · by_cases d : v = 99
        · subst d; rfl
        · by_cases e : v = 100
          · subst e; rfl
          · simp [a, b, c, d, e, b2]
theorem tk_tab : ((List.range 9).all fun s => (List.range 127).all fun ch => (List.range 11).all fun op => nx s ch op == 99 || !(s == 0 || s == 8 || (decide (3 ≤ s) && decide (s ≤ 6) && !dgt ch)) || (fldc ch && nx s ch op == 1 && decide (97 ≤ ch) && decide (ch ≤ 122)) || (ch == 33 && nx s ch op == 0) || (ch == 40 && nx s ch op == 0) || ((ch == 116 || ch == 97) && nx s ch op == 7) || ((ch == 115 || ch == 118 || ch == 117 || ch == 98) && nx s ch op == 8) || ((ch == 38 || ch == 124) && nx s ch op == 0) || (ch == 41 && nx s ch op == 8)) = true := by decide +kernel
theorem tk_ok {s ch op : Nat} (hs : s < 9) (hc : ch < 127) (ho : op < 11) (h : nx s ch op ≠ 99) (ht : s = 0 ∨ (aft s ∧ dgt ch = false)) : (fldc ch = true ∧ nx s ch op = 1 ∧ 97 ≤ ch ∧ ch ≤ 122) ∨ (fldc ch = false ∧ ((ch = 33 ∧ nx s ch op = 0) ∨ (ch = 40 ∧ nx s ch op = 0) ∨ ((ch = 116 ∨ ch = 97) ∧ nx s ch op = 7) ∨ ((ch = 115 ∨ ch = 118 ∨ ch = 117 ∨ ch = 98) ∧ nx s ch op = 8) ∨ ((ch = 38 ∨ ch = 124) ∧ nx s ch op = 0) ∨ (ch = 41 ∧ nx s ch op = 8))) := by
  have h1 := List.all_eq_true.mp tk_tab s (List.mem_range.mpr hs)
  have h2 := List.all_eq_true.mp h1 ch (List.mem_range.mpr hc)
  have h3 := List.all_eq_true.mp h2 op (List.mem_range.mpr ho)
  simp only [Bool.or_eq_true, Bool.and_eq_true, beq_iff_eq, Bool.not_eq_true', Bool.or_eq_false_iff, Bool.and_eq_false_iff, decide_eq_false_iff_not, decide_eq_true_eq, Bool.not_eq_false'] at h3
  have nf : ∀ {v : Nat}, v = ch → (v = 33 ∨ v = 40 ∨ v = 116 ∨ v = 97 ∨ v = 115 ∨ v = 118 ∨ v = 117 ∨ v = 98 ∨ v = 38 ∨ v = 124 ∨ v = 41) → fldc ch = false := fun e w => by
    subst e
    rcases w with rfl | rfl | rfl | rfl | rfl | rfl | rfl | rfl | rfl | rfl | rfl <;> rfl
  rcases h3 with (((((((h3 | h3) | h3) | h3) | h3) | h3) | h3) | h3) | h3
  · exact absurd h3 h
  · exfalso
    obtain ⟨⟨a, b⟩, c⟩ := h3
    rcases ht with w | ⟨w1 | w1, w2⟩
    · simp [w] at a
    · simp [w1] at b
    · rcases c with c | c
      · rcases c with c | c <;> omega
      · rw [w2] at c; cases c
  · exact Or.inl ⟨h3.1.1.1, h3.1.1.2, h3.1.2, h3.2⟩
  · exact Or.inr ⟨nf rfl (by omega), Or.inl h3⟩
  · exact Or.inr ⟨nf rfl (by omega), Or.inr (Or.inl h3)⟩
  · exact Or.inr ⟨nf rfl (by omega), Or.inr (Or.inr (Or.inl h3))⟩
  · exact Or.inr ⟨nf rfl (by omega), Or.inr (Or.inr (Or.inr (Or.inl ⟨by omega, h3.2⟩)))⟩
  · exact Or.inr ⟨nf rfl (by omega), Or.inr (Or.inr (Or.inr (Or.inr (Or.inl h3))))⟩
  · exact Or.inr ⟨nf rfl (by omega), Or.inr (Or.inr (Or.inr (Or.inr (Or.inr h3))))⟩
/-- where a token may begin -/
def tks (ch : Nat → Nat) (n q : Nat) : Prop := q ≤ n ∧ ∃ s o, rn ch q = some (s, o) ∧ (s = 0 ∨ (aft s ∧ ¬ (q < n ∧ dgt (ch q) = true)))
theorem eSkip (cn : Nat → Bool) (ch : Nat → Nat) {k : Nat} (h : 48 ≤ ch k ∧ ch k ≤ 63) : eRun cn ch (k + 1) = eRun cn ch k := by
  rw [eRun, eStep, if_neg (by omega), if_neg (by omega), if_neg (by omega), if_neg (by omega), if_neg (by omega)]
theorem eSkips (cn : Nat → Bool) (ch : Nat → Nat) : ∀ (d k : Nat), (∀ i, k ≤ i → i < k + d → 48 ≤ ch i ∧ ch i ≤ 63) → eRun cn ch (k + d) = eRun cn ch k
  | 0, k, _ => rfl
  | d + 1, k, h => by
    rw [← Nat.add_assoc, eSkip cn ch (h (k + d) (by omega) (by omega)), eSkips cn ch d k (fun i h1 h2 => h i h1 (by omega))]
theorem aft_stop {ch : Nat → Nat} {n : Nat} (hR : Rul ch n) {q o : Nat} (e : rn ch q = some (8, o)) : ¬ (q < n ∧ dgt (ch q) = true) := fun w => by
  obtain ⟨sn, hv, -⟩ := id hR.2
  obtain ⟨s1, o1, e1, g1, g2, g3, g4⟩ := rn_at hR.1 hv w.1
  rw [e] at e1
  cases e1
  rw [nxA (Or.inl rfl) w.2, if_pos rfl] at g3
  exact g3 rfl
theorem isSo_eq {y : Sx} (hO : WOrd y) (hV : WVal y) (wS : WStk y) {ch : Nat → Nat} {n f p : Nat} (hf : f < 40) (hp : iF y f = true) (hc : ch p = 115 ∨ ch p = 118 ∨ ch p = 117 ∨ ch p = 98) : f_X9_isSo y (nI f) (nI (ch p)) = some (b2 (cnd y ch n f p)) := by
  have h40 : vp_in (nI f) 40 := vin_nI hf (by decide)
  unfold f_X9_isSo
  rcases hc with q | q | q | q
  · have ec : cnd y ch n f p = decide (gA y 29 f ≠ -1) := by
      rw [cnd, q, if_neg (by decide), if_neg (by decide), if_neg (by decide), if_pos rfl]
    rw [q, ec, if_pos (show nI 115 = 115 from rfl), gd_pos h40, ix_nI (by omega)]
    rcases wS.1 f hf with u | ⟨s, hs, es, -⟩
    · rw [u, if_pos (by decide)]; rfl
    · rw [es, if_neg (nI_pos (by omega)), decide_eq_true (nI_ne_m1 (by omega))]; rfl
  · have ec : cnd y ch n f p = (decide (gA y 29 f ≠ -1) && decide (cov y (ix (gA y 29 f)) = f)) := by
      rw [cnd, q, if_neg (by decide), if_neg (by decide), if_neg (by decide), if_neg (by decide), if_pos rfl]
    rw [q, ec]
    rcases wS.1 f hf with u | ⟨s, hs, es, -, k, hk, -⟩
    · simp only [show (nI 118 = 115) ↔ False from by decide, show (nI 118 = 117) ↔ False from by decide, show (nI 118 = 118) ↔ True from by decide, show (nI 118 = 116) ↔ False from by decide, if_false, if_true]
      rw [gd_pos h40, ix_nI (by omega), u, if_pos (by decide)]; rfl
    · simp only [show (nI 118 = 115) ↔ False from by decide, show (nI 118 = 117) ↔ False from by decide, show (nI 118 = 118) ↔ True from by decide, show (nI 118 = 116) ↔ False from by decide, if_false, if_true]
      rw [gd_pos h40, ix_nI (by omega), es, if_neg (nI_pos (by omega)), gd_pos h40, cover_eq hO hV wS hs (by omega), Option.bind_some, decide_eq_true (nI_ne_m1 (by omega)), Bool.true_and, ix_nI (by omega)]
      have := (cov_ok wS hs (show 0 < mn y s by omega)).1
      by_cases w : cov y s = f
      · rw [if_pos (by rw [w]), decide_eq_true w]; rfl
      · rw [if_neg (fun u => w ((nI_eq_iff (by omega) (by omega)).mp u)), decide_eq_false w]; rfl
  · have ec : cnd y ch n f p = decide (1 < fb_ct (grp y f) 40) := by
      rw [cnd, q, if_neg (by decide), if_neg (by decide), if_neg (by decide), if_neg (by decide), if_neg (by decide), if_pos rfl]
    rw [q, ec]
    simp only [show (nI 117 = 115) ↔ False from by decide, show (nI 117 = 118) ↔ False from by decide, show (nI 117 = 117) ↔ True from by decide, show (nI 117 = 116) ↔ False from by decide, if_false, if_true]
    rw [group_eq hf, Option.bind_some]
    have hle := fb_ct_le (grp y f) 40
    have := nle_lit (N := 1) (k := fb_ct (grp y f) 40) (x := 1) rfl (by decide) (by omega)
    by_cases w : 1 < fb_ct (grp y f) 40
    · rw [if_neg (by rw [this]; omega), decide_eq_true w]; rfl
    · rw [if_pos (by rw [this]; omega), decide_eq_false w]; rfl
  · have ec : cnd y ch n f p = pb (KP y f f) := by
      rw [cnd, q, if_neg (by decide), if_neg (by decide), if_neg (by decide), if_neg (by decide), if_neg (by decide), if_neg (by decide)]
    rw [q, ec]
    simp only [show (nI 98 = 115) ↔ False from by decide, show (nI 98 = 118) ↔ False from by decide, show (nI 98 = 117) ↔ False from by decide, show (nI 98 = 116) ↔ False from by decide, if_false, if_true]
    obtain ⟨k, ek, hk⟩ := keeper_eq hO hV hf hp
    rw [ek, Option.bind_some]
    have := hk.1
    by_cases w : k = f
    · subst w
      rw [if_pos rfl, pb_iff.mpr hk]; rfl
    · rw [if_neg (fun u => w ((nI_eq_iff (by omega) (by omega)).mp u)), show pb (KP y f f) = false from by
        cases v : pb (KP y f f) with
        | false => rfl
        | true => exact absurd (KP_one hk (pb_iff.mp v)) w]
      rfl
theorem eLet {cn : Nat → Bool} {ch : Nat → Nat} {k : Nat} (h : 97 ≤ ch k ∧ ch k ≤ 122) : eRun cn ch (k + 1) = eTake (eRun cn ch k) (cn k) := by rw [eRun, eStep, if_pos h]
theorem shrL_c (x : Int64) {f : Nat} (hf : f < 64) : (lg_cmp (shrL x (nI f) &&& 1) 1 = 0) ↔ hb x f = true := by
  rw [lg_cmp_eq, s_bit x hf]
  cases hb x f <;> decide
theorem tbit_sub {v : Nat} (hd : dgt v = true) : nI v - 48 = nI (v - 48) := by
  obtain ⟨h1, h2⟩ := dgt_iff.mp hd
  obtain ⟨w, rfl⟩ : ∃ w, v = w + 48 := ⟨v - 48, by omega⟩
  rw [← nI_add w 48, show (48 : Int32) = nI 48 from rfl, Int32.add_sub_cancel, Nat.add_sub_cancel]
theorem works_eq {y : Sx} (hO : WOrd y) (hV : WVal y) (wS : WStk y) {ch : Nat → Nat} {n : Nat} (hX : Rx y ch n) (hR : Rul ch n) (hN : nmd y ch n) {f p : Nat} (hf : f < 40) (hpf : iF y f = true) {o0 : Nat} (hM : Me y (eRun (cnd y ch n f) ch p) o0) (ht : tks ch n p) (hp : p < n) : ∃ y' q o', f_X9_works y (nI f) (nI p) = some (nI q, y') ∧ p < q ∧ tks ch n q ∧ OnE y y' ∧ Me y' (eRun (cnd y ch n f) ch q) o' := by
  have hn := hX.1
  obtain ⟨sn, hv, -⟩ := id hR.2
  obtain ⟨s, o, e, g1, g2, g3, g4⟩ := rn_at hR.1 hv hp
  obtain ⟨c1, c2⟩ := hR.1 p hp
  have eo : o0 = o := by
    have := eLev (cn := cnd y ch n f) e
    rw [hM.2.2.1] at this
    exact this
  subst eo
  have hs : s = 0 ∨ (aft s ∧ dgt (ch p) = false) := by
    obtain ⟨-, s', o', e', w⟩ := ht
    rw [e] at e'
    cases e'
    rcases w with w | ⟨w1, w2⟩
    · exact Or.inl w
    · refine Or.inr ⟨w1, ?_⟩
      cases hd : dgt (ch p) with
      | false => rfl
      | true => exact absurd ⟨hp, hd⟩ w2
  have ep : gA y 45 p = nI (ch p) := hX.2.2 p hp
  have g80 : vp_in (nI p) 80 := vin_nI (by omega) (by decide)
  have g12 : vp_in (gI y 54) 12 := by rw [hM.1]; exact vin_nI (by have := hM.2.1; omega) (by decide)
  have ixo : ix (gI y 54) = o0 := by rw [hM.1, ix_nI (by have := hM.2.1; omega)]
  have z : ∀ k, k < 2000 → ((nI (ch p) = nI k) ↔ ch p = k) := fun k hk => nI_eq_iff (by omega) (by omega)
  have z33 : (nI (ch p) = 33) ↔ ch p = 33 := z 33 (by decide)
  have z38 : (nI (ch p) = 38) ↔ ch p = 38 := z 38 (by decide)
  have z40 : (nI (ch p) = 40) ↔ ch p = 40 := z 40 (by decide)
  have z41 : (nI (ch p) = 41) ↔ ch p = 41 := z 41 (by decide)
  have z97 : (nI (ch p) = 97) ↔ ch p = 97 := z 97 (by decide)
  have z116 : (nI (ch p) = 116) ↔ ch p = 116 := z 116 (by decide)
  have z124 : (nI (ch p) = 124) ↔ ch p = 124 := z 124 (by decide)
  unfold f_X9_works
  rw [gd_pos g80, ix_nI (by omega), ep, isField_eq y (by omega), Option.bind_some]
  rcases tk_ok g1 (by omega) g2 g3 hs with ⟨w1, w2, w3, w4⟩ | ⟨w1, hk⟩
  · rw [w2, if_neg (by omega), if_neg (by omega)] at g4
    have hc : ch p = 107 ∨ ch p = 114 ∨ ch p = 121 ∨ ch p = 99 ∨ ch p = 100 := by
      simp only [fldc, Bool.or_eq_true, beq_iff_eq] at w1
      omega
    have ha : ∃ y' q, f_X9_asks y (nI f) (nI p) = some (nI q, y') ∧ OnE y y' ∧ Me y' (eTake (eRun (cnd y ch n f) ch p) (cnd y ch n f p)) o0 ∧ q = (if ch (p + 1) = 63 then p + 2 else nend ch n 5 (p + 2)) := by
      rcases hc with h | h | h | h | h
      · exact asks_107 hO hV hX hR hf hM (by omega) g4 h
      · exact asks_114 hO hV hX hR hf hM (by omega) g4 h
      · exact asks_121 hO hV hX hR hf hM (by omega) g4 h
      · exact asks_99 hO hV hX hR hf hM (by omega) g4 h
      · exact asks_100 hO hV hX hR hf hM (by omega) g4 h
    obtain ⟨y', q, ea, a1, a2, eq⟩ := ha
    obtain ⟨hp1, htok⟩ := field_tok hR g4 (by omega)
    rw [w1, bT, ea, Option.bind_some]
    refine ⟨y', q, o0, rfl, ?_⟩
    rcases htok with ⟨h63, e2⟩ | ⟨h6, hp2, hd, ⟨s', e2, hs'⟩, hle, hstop⟩
    · rw [if_pos h63] at eq
      subst eq
      have e8 : eRun (cnd y ch n f) ch (p + 2) = eTake (eRun (cnd y ch n f) ch p) (cnd y ch n f p) := by
        rw [show p + 2 = p + 1 + 1 from rfl, eSkip _ ch (by omega), eLet ⟨w3, w4⟩]
      exact ⟨by omega, ⟨by omega, 8, o0, e2, Or.inr ⟨Or.inl rfl, aft_stop hR e2⟩⟩, a1, by rw [e8]; exact a2⟩
    · rw [if_neg (by omega)] at eq
      subst eq
      obtain ⟨n1, n2⟩ := nend_ge ch n 5 (p + 2)
      have e8 : eRun (cnd y ch n f) ch (nend ch n 5 (p + 2)) = eTake (eRun (cnd y ch n f) ch p) (cnd y ch n f p) := by
        obtain ⟨d, hd2⟩ : ∃ d, nend ch n 5 (p + 2) = p + 1 + d := ⟨nend ch n 5 (p + 2) - (p + 1), by omega⟩
        rw [hd2, eSkips _ ch d (p + 1) (fun i h1 h2 => ?_), eLet ⟨w3, w4⟩]
        rcases Nat.eq_or_lt_of_le h1 with u | u
        · rw [← u]; omega
        · have := dgt_iff.mp (n2 i (by omega) (by omega)); omega
      exact ⟨by omega, ⟨hle, s', o0, e2, Or.inr ⟨hs', hstop⟩⟩, a1, by rw [e8]; exact a2⟩
  · rw [w1, bF, bd_eq]
    rcases hk with ⟨q, qn⟩ | ⟨q, qn⟩ | ⟨q, qn⟩ | ⟨q, qn⟩ | ⟨q, qn⟩ | ⟨q, qn⟩
    · -- !
      rw [qn, if_neg (by omega), if_neg (by omega)] at g4
      have e8 : eRun (cnd y ch n f) ch (p + 1) = ((eRun (cnd y ch n f) ch p).1, (eRun (cnd y ch n f) ch p).2.1, (eRun (cnd y ch n f) ch p).2.2.1, upf (eRun (cnd y ch n f) ch p).2.2.2 (eRun (cnd y ch n f) ch p).1 (!(eRun (cnd y ch n f) ch p).2.2.2 (eRun (cnd y ch n f) ch p).1)) := by rw [eRun, eStep, if_neg (by omega), if_pos q]
      obtain ⟨m1, m2, m3, m4⟩ := hM
      have key : ∀ v : Bool, v = (!(eRun (cnd y ch n f) ch p).2.2.2 o0) → OnE y (pA y 44 o0 (b2 v)) ∧ Me (pA y 44 o0 (b2 v)) (eRun (cnd y ch n f) ch (p + 1)) o0 := fun v hv2 => by
        rw [e8]
        refine ⟨OnE.pA (by omega), m1, m2, m3, fun l hl => ?_⟩
        obtain ⟨a1, a2, a3⟩ := m4 l hl
        refine ⟨?_, ?_, ?_⟩
        · rw [gA_pA_ne (by decide)]; exact a1
        · rw [gA_pA_ne (by decide)]; exact a2
        · rw [gA_pA_at]
          show _ = b2 (upf _ _ _ l)
          unfold upf
          rw [m3]
          by_cases u : l = o0
          · rw [if_pos u, if_pos u, hv2]
          · rw [if_neg u, if_neg u]; exact a3
      rw [if_pos (z33.mpr q), gd_pos g12, gd_pos g12, gd_pos g12, ixo, (m4 o0 (Nat.le_refl _)).2.2, nI_lit1]
      cases u : (eRun (cnd y ch n f) ch p).2.2.2 o0 with
      | false =>
        rw [bF, bd_eq]
        obtain ⟨k1, k2⟩ := key true (by rw [u]; rfl)
        exact ⟨_, p + 1, o0, rfl, by omega, ⟨by omega, 0, o0, g4, Or.inl rfl⟩, k1, k2⟩
      | true =>
        rw [bT, bd_eq]
        obtain ⟨k1, k2⟩ := key false (by rw [u]; rfl)
        exact ⟨_, p + 1, o0, rfl, by omega, ⟨by omega, 0, o0, g4, Or.inl rfl⟩, k1, k2⟩
    · -- (
      have ho10 := (nx_ok g1 (show ch p < 127 by omega) g2 g3).2.1 q
      rw [qn, if_pos q] at g4
      have e8 : eRun (cnd y ch n f) ch (p + 1) = ((eRun (cnd y ch n f) ch p).1 + 1, upf (eRun (cnd y ch n f) ch p).2.1 ((eRun (cnd y ch n f) ch p).1 + 1) false, upf (eRun (cnd y ch n f) ch p).2.2.1 ((eRun (cnd y ch n f) ch p).1 + 1) true, upf (eRun (cnd y ch n f) ch p).2.2.2 ((eRun (cnd y ch n f) ch p).1 + 1) false) := by rw [eRun, eStep, if_neg (by omega), if_neg (by omega), if_pos q]
      obtain ⟨m1, m2, m3, m4⟩ := hM
      rw [if_neg (fun u => by have := z33.mp u; omega), if_neg (fun u => by have := z38.mp u; omega), if_pos (z40.mpr q), bd_eq, m1, nI_lit1, enters_eq (y := pI y 54 (nI (o0 + 1))) (o := o0 + 1) (by rw [gI_pI, if_pos rfl]) (by omega), Option.bind_some, nI_lit1]
      refine ⟨_, p + 1, o0 + 1, rfl, by omega, ⟨by omega, 0, o0 + 1, g4, Or.inl rfl⟩, OnE.pI.tr ((OnE.pA (by omega)).tr ((OnE.pA (by omega)).tr (OnE.pA (by omega)))), by rw [gI_pA, gI_pA, gI_pA, gI_pI, if_pos rfl], by omega, by rw [e8]; show _ + 1 = _; rw [m3], fun l hl => ?_⟩
      rw [e8]
      have hold := fun (h : l ≤ o0) => m4 l h
      refine ⟨?_, ?_, ?_⟩
      · rw [gA_pA_ne (by decide), gA_pA_ne (by decide), gA_pA_at]
        show _ = b2 (upf _ _ _ l)
        unfold upf
        rw [m3]
        by_cases u : l = o0 + 1
        · rw [if_pos u, if_pos u]; rfl
        · rw [if_neg u, if_neg u]; exact (hold (by omega)).1
      · rw [gA_pA_ne (by decide), gA_pA_at]
        show _ = b2 (upf _ _ _ l)
        unfold upf
        rw [m3]
        by_cases u : l = o0 + 1
        · rw [if_pos u, if_pos u]; rfl
        · rw [if_neg u, if_neg u, gA_pA_ne (by decide)]; exact (hold (by omega)).2.1
      · rw [gA_pA_at]
        show _ = b2 (upf _ _ _ l)
        unfold upf
        rw [m3]
        by_cases u : l = o0 + 1
        · rw [if_pos u, if_pos u]; rfl
        · rw [if_neg u, if_neg u, gA_pA_ne (by decide), gA_pA_ne (by decide)]; exact (hold (by omega)).2.2
    · -- t, a
      rw [qn, if_neg (by omega), if_neg (by omega)] at g4
      obtain ⟨hp1, hd, e2, -⟩ := one_digit hR g4 (by omega)
      have hd2 := dgt_iff.mp hd
      have e8 : eRun (cnd y ch n f) ch (p + 2) = eTake (eRun (cnd y ch n f) ch p) (cnd y ch n f p) := by
        rw [show p + 2 = p + 1 + 1 from rfl, eSkip _ ch (by omega), eLet (by omega)]
      have ep1 : gA y 45 (p + 1) = nI (ch (p + 1)) := hX.2.2 (p + 1) hp1
      have g81 : vp_in (nI (p + 1)) 80 := vin_nI (by omega) (by decide)
      have p2 : nI p + 2 = nI (p + 2) := by rw [show (2 : Int32) = nI 2 from rfl, nI_add]
      have htk : tks ch n (p + 2) := ⟨by omega, 8, o0, e2, Or.inr ⟨Or.inl rfl, aft_stop hR e2⟩⟩
      obtain ⟨y', a1, a2, a3⟩ := tells_eq hM (cnd y ch n f p)
      rcases q with q | q
      · have ec : cnd y ch n f p = tbit y f (ch (p + 1) - 48) := by rw [cnd, w1, if_neg (by decide), if_pos q]
        rw [if_neg (fun u => by have := z33.mp u; omega), if_neg (fun u => by have := z38.mp u; omega), if_neg (fun u => by have := z40.mp u; omega), if_neg (fun u => by have := z41.mp u; omega), if_neg (fun u => by have := z97.mp u; omega), if_pos (z116.mpr q), tags_eq hf, Option.bind_some, nI_lit1, gd_pos g81, ix_nI (by omega), ep1, tbit_sub hd, bd_eq, p2]
        refine ⟨y', p + 2, o0, ?_, by omega, htk, a2, by rw [e8]; exact a3⟩
        rw [ec] at a1
        unfold tbit at a1
        by_cases u : (tgs y f >>> (nI (ch (p + 1) - 48) &&& 31)) &&& 1 = 1
        · rw [decide_eq_true u] at a1
          rw [if_pos u, show f_X9_tells y 1 = some y' from a1]; rfl
        · rw [decide_eq_false u] at a1
          rw [if_neg u, show f_X9_tells y 0 = some y' from a1]; rfl
      · obtain ⟨v1, v2⟩ := hN p hp q
        have ec : cnd y ch n f p = hb (gM y 2 (ch (p + 1) - 48)) f := by rw [cnd, w1, if_neg (by decide), if_neg (by omega), if_pos q]
        rw [if_neg (fun u => by have := z33.mp u; omega), if_neg (fun u => by have := z38.mp u; omega), if_neg (fun u => by have := z40.mp u; omega), if_neg (fun u => by have := z41.mp u; omega), if_pos (z97.mpr q), nI_lit1, gd_pos g81, ix_nI (by omega), ep1, tbit_sub hd, gd_pos (vin_nI v1 (by decide)), ix_nI (by omega), bd_eq, p2]
        refine ⟨y', p + 2, o0, ?_, by omega, htk, a2, by rw [e8]; exact a3⟩
        rw [ec] at a1
        have hz := shrL_c (gM y 2 (ch (p + 1) - 48)) (f := f) (by omega)
        cases u : hb (gM y 2 (ch (p + 1) - 48)) f with
        | true =>
          rw [u] at a1
          rw [if_pos (hz.mpr u), show f_X9_tells y 1 = some y' from a1]; rfl
        | false =>
          rw [u] at a1
          rw [if_neg (fun k => by rw [hz.mp k] at u; cases u), show f_X9_tells y 0 = some y' from a1]; rfl
    · -- s, v, u, b
      rw [qn, if_neg (by omega), if_neg (by omega)] at g4
      have e8 : eRun (cnd y ch n f) ch (p + 1) = eTake (eRun (cnd y ch n f) ch p) (cnd y ch n f p) := eLet (by omega)
      obtain ⟨y', a1, a2, a3⟩ := tells_eq hM (cnd y ch n f p)
      rw [if_neg (fun u => by have := z33.mp u; omega), if_neg (fun u => by have := z38.mp u; omega), if_neg (fun u => by have := z40.mp u; omega), if_neg (fun u => by have := z41.mp u; omega), if_neg (fun u => by have := z97.mp u; omega), if_neg (fun u => by have := z116.mp u; omega), if_neg (fun u => by have := z124.mp u; omega), isSo_eq hO hV wS (ch := ch) (n := n) (p := p) hf hpf q, Option.bind_some, a1, Option.bind_some, nI_lit1]
      exact ⟨y', p + 1, o0, rfl, by omega, ⟨by omega, 8, o0, g4, Or.inr ⟨Or.inl rfl, aft_stop hR g4⟩⟩, a2, by rw [e8]; exact a3⟩
    · -- & |
      rw [qn, if_neg (by omega), if_neg (by omega)] at g4
      rcases q with q | q
      · have e8 : eRun (cnd y ch n f) ch (p + 1) = eRun (cnd y ch n f) ch p := by
          rw [eRun, eStep, if_neg (by omega), if_neg (by omega), if_neg (by omega), if_neg (by omega), if_neg (by omega)]
        rw [if_neg (fun u => by have := z33.mp u; omega), if_pos (z38.mpr q), nI_lit1]
        exact ⟨y, p + 1, o0, rfl, by omega, ⟨by omega, 0, o0, g4, Or.inl rfl⟩, OnE.rf _, by rw [e8]; exact hM⟩
      · have e8 : eRun (cnd y ch n f) ch (p + 1) = ((eRun (cnd y ch n f) ch p).1, upf (eRun (cnd y ch n f) ch p).2.1 (eRun (cnd y ch n f) ch p).1 ((eRun (cnd y ch n f) ch p).2.1 (eRun (cnd y ch n f) ch p).1 || (eRun (cnd y ch n f) ch p).2.2.1 (eRun (cnd y ch n f) ch p).1), upf (eRun (cnd y ch n f) ch p).2.2.1 (eRun (cnd y ch n f) ch p).1 true, (eRun (cnd y ch n f) ch p).2.2.2) := by rw [eRun, eStep, if_neg (by omega), if_neg (by omega), if_neg (by omega), if_neg (by omega), if_pos q]
        obtain ⟨m1, m2, m3, m4⟩ := hM
        obtain ⟨b1, b2', b3⟩ := m4 o0 (Nat.le_refl _)
        have key : ∀ v : Bool, v = ((eRun (cnd y ch n f) ch p).2.1 o0 || (eRun (cnd y ch n f) ch p).2.2.1 o0) → OnE y (pA (pA y 42 o0 (b2 v)) 43 o0 1) ∧ Me (pA (pA y 42 o0 (b2 v)) 43 o0 1) (eRun (cnd y ch n f) ch (p + 1)) o0 := fun v hv2 => by
          rw [e8]
          refine ⟨(OnE.pA (by omega)).tr (OnE.pA (by omega)), m1, m2, m3, fun l hl => ?_⟩
          obtain ⟨a1, a2, a3⟩ := m4 l hl
          refine ⟨?_, ?_, ?_⟩
          · rw [gA_pA_ne (by decide), gA_pA_at]
            show _ = b2 (upf _ _ _ l)
            unfold upf
            rw [m3]
            by_cases u : l = o0
            · rw [if_pos u, if_pos u, hv2]
            · rw [if_neg u, if_neg u]; exact a1
          · rw [gA_pA_at]
            show _ = b2 (upf _ _ _ l)
            unfold upf
            rw [m3]
            by_cases u : l = o0
            · rw [if_pos u, if_pos u]; rfl
            · rw [if_neg u, if_neg u, gA_pA_ne (by decide)]; exact a2
          · rw [gA_pA_ne (by decide), gA_pA_ne (by decide)]; exact a3
        rw [if_neg (fun u => by have := z33.mp u; omega), if_neg (fun u => by have := z38.mp u; omega), if_neg (fun u => by have := z40.mp u; omega), if_neg (fun u => by have := z41.mp u; omega), if_neg (fun u => by have := z97.mp u; omega), if_neg (fun u => by have := z116.mp u; omega), if_pos (z124.mpr q)]
        rw [gd_pos g12, gd_pos g12, gd_pos g12, gd_pos g12, ixo, b1, b2', nI_lit1]
        have ht2 : tks ch n (p + 1) := ⟨by omega, 0, o0, g4, Or.inl rfl⟩
        cases u1 : (eRun (cnd y ch n f) ch p).2.1 o0 with
        | true =>
          rw [bT, bd_eq, gI_pA, gd_pos g12, bd_eq, ixo]
          obtain ⟨k1, k2⟩ := key true (by rw [u1]; rfl)
          exact ⟨_, p + 1, o0, rfl, by omega, ht2, k1, k2⟩
        | false =>
          rw [bF]
          cases u2 : (eRun (cnd y ch n f) ch p).2.2.1 o0 with
          | true =>
            rw [bT, bd_eq, gI_pA, gd_pos g12, bd_eq, ixo]
            obtain ⟨k1, k2⟩ := key true (by rw [u1, u2]; rfl)
            exact ⟨_, p + 1, o0, rfl, by omega, ht2, k1, k2⟩
          | false =>
            rw [bF, bd_eq, gI_pA, gd_pos g12, bd_eq, ixo]
            obtain ⟨k1, k2⟩ := key false (by rw [u1, u2]; rfl)
            exact ⟨_, p + 1, o0, rfl, by omega, ht2, k1, k2⟩
    · -- )
      have ho1 := (nx_ok g1 (show ch p < 127 by omega) g2 g3).2.2 q
      rw [qn, if_neg (by omega), if_pos q] at g4
      have e8 : eRun (cnd y ch n f) ch (p + 1) = eTake ((eRun (cnd y ch n f) ch p).1 - 1, (eRun (cnd y ch n f) ch p).2.1, (eRun (cnd y ch n f) ch p).2.2.1, (eRun (cnd y ch n f) ch p).2.2.2) ((eRun (cnd y ch n f) ch p).2.1 (eRun (cnd y ch n f) ch p).1 || (eRun (cnd y ch n f) ch p).2.2.1 (eRun (cnd y ch n f) ch p).1) := by rw [eRun, eStep, if_neg (by omega), if_neg (by omega), if_neg (by omega), if_pos q]
      obtain ⟨m1, m2, m3, m4⟩ := hM
      obtain ⟨b1, b2', b3⟩ := m4 o0 (Nat.le_refl _)
      have eo1 : nI o0 - 1 = nI (o0 - 1) := by
        obtain ⟨q, rfl⟩ : ∃ q, o0 = q + 1 := ⟨o0 - 1, by omega⟩
        rw [nI_pred]; rfl
      have hM2 : Me (pI y 54 (nI (o0 - 1))) ((eRun (cnd y ch n f) ch p).1 - 1, (eRun (cnd y ch n f) ch p).2.1, (eRun (cnd y ch n f) ch p).2.2.1, (eRun (cnd y ch n f) ch p).2.2.2) (o0 - 1) := ⟨by rw [gI_pI, if_pos rfl], by omega, by show _ - 1 = _; rw [m3], fun l hl => m4 l (by omega)⟩
      obtain ⟨y', a1, a2, a3⟩ := tells_eq hM2 ((eRun (cnd y ch n f) ch p).2.1 o0 || (eRun (cnd y ch n f) ch p).2.2.1 o0)
      have gl : gI (pI y 54 (nI (o0 - 1))) 54 + 1 = nI o0 := by
        rw [gI_pI, if_pos rfl, nI_lit1, Nat.sub_add_cancel ho1]
      have g13 : vp_in (nI o0) 12 := vin_nI (by omega) (by decide)
      rw [if_neg (fun u => by have := z33.mp u; omega), if_neg (fun u => by have := z38.mp u; omega), if_neg (fun u => by have := z40.mp u; omega), if_pos (z41.mpr q), bd_eq, m1, eo1, gl, gd_pos g13, gd_pos g13, ix_nI (by omega), gA_pI, gA_pI, b1, b2', nI_lit1]
      refine ⟨y', p + 1, o0 - 1, ?_, by omega, ⟨by omega, 8, o0 - 1, g4, Or.inr ⟨Or.inl rfl, aft_stop hR g4⟩⟩, OnE.pI.tr a2, by rw [m3] at a3; rw [e8, m3]; exact a3⟩
      cases u1 : (eRun (cnd y ch n f) ch p).2.1 o0 with
      | true =>
        rw [u1] at a1
        rw [bT, show f_X9_tells (pI y 54 (nI (o0 - 1))) 1 = some y' from a1]; rfl
      | false =>
        rw [u1] at a1
        rw [bF]
        cases u2 : (eRun (cnd y ch n f) ch p).2.2.1 o0 with
        | true =>
          rw [u2] at a1
          rw [bT, show f_X9_tells (pI y 54 (nI (o0 - 1))) 1 = some y' from a1]; rfl
        | false =>
          rw [u2] at a1
          rw [bF, show f_X9_tells (pI y 54 (nI (o0 - 1))) 0 = some y' from a1]; rfl
theorem tks_n {ch : Nat → Nat} {n : Nat} (hR : Rul ch n) : ∃ s o, rn ch n = some (s, o) ∧ o = 0 := by
  obtain ⟨s, e, -⟩ := hR.2
  exact ⟨s, 0, e, rfl⟩
theorem L_isRight {m : Sx} (hO : WOrd m) (hV : WVal m) (wS : WStk m) {ch : Nat → Nat} {n : Nat} (hX : Rx m ch n) (hR : Rul ch n) (hN : nmd m ch n) {f : Nat} (hf : f < 40) (hpf : iF m f = true) (kont : Int32 → Sx → Option (Int32 × Sx)) : ∀ (d p fu : Nat) (y : Sx) (o : Nat), n - p ≤ d → d < fu → tks ch n p → OnE m y → Me y (eRun (cnd m ch n f) ch p) o → ∃ y' o', L_X9_isRight_11 (nI f) kont fu (nI p) y = kont (nI n) y' ∧ OnE m y' ∧ Me y' (eRun (cnd m ch n f) ch n) o' := by
  have hn := hX.1
  intro d
  induction d with
  | zero =>
    intro p fu y o hd hfu ht hE hM
    obtain ⟨fu, rfl⟩ : ∃ r, fu = r + 1 := ⟨fu - 1, by omega⟩
    obtain rfl : p = n := by have := ht.1; omega
    exact ⟨y, o, by rw [L_X9_isRight_11, (hX.on hE).2.1, if_pos (nI_le (Nat.le_refl _) (by omega))], hE, hM⟩
  | succ d ih =>
    intro p fu y o hd hfu ht hE hM
    obtain ⟨fu, rfl⟩ : ∃ r, fu = r + 1 := ⟨fu - 1, by omega⟩
    have sd := hE.sd
    rw [L_X9_isRight_11, (hX.on hE).2.1]
    by_cases hl : p < n
    · have ec := cg_cnd sd
      obtain ⟨y', q, o', e, hq, ht', hE', hM'⟩ := works_eq (cg_WOrd sd hO) (cg_WVal sd hV) (cg_WStk sd wS) (hX.on hE) hR (fun p hp h => by rw [cg_iA sd]; exact hN p hp h) hf (by rw [cg_iF sd]; exact hpf) (by rw [ec]; exact hM) ht hl
      rw [ec] at hM'
      rw [if_neg (by rw [nI_le_iff (by omega) (by omega)]; omega), e, Option.bind_some]
      exact ih q fu y' o' (by omega) (by omega) ht' (hE.tr hE') hM'
    · obtain rfl : p = n := by have := ht.1; omega
      exact ⟨y, o, by rw [if_pos (nI_le (Nat.le_refl _) (by omega))], hE, hM⟩
/-- whether a file satisfies a rule -/
noncomputable def sat (m : Sx) (ch : Nat → Nat) (n f : Nat) : Bool := eVal (cnd m ch n f) ch n
theorem isRight_eq {m : Sx} (hO : WOrd m) (hV : WVal m) (wS : WStk m) {ch : Nat → Nat} {n : Nat} (hX : Rx m ch n) (hR : Rul ch n) (hN : nmd m ch n) {f : Nat} (hf : f < 40) (hpf : iF m f = true) : ∃ m', f_X9_isRight m (nI f) = some (b2 (sat m ch n f), m') ∧ OnE m m' := by
  have hn := hX.1
  unfold f_X9_isRight
  rw [bd_eq, enters_eq (y := pI m 54 0) (o := 0) (by rw [gI_pI, if_pos rfl]; rfl) (by decide), Option.bind_some]
  have g0 : vp_in 0 12 := vin_nI (n := 0) (by decide) (by decide)
  have hE : OnE m (pA (pA (pA (pI m 54 0) 42 0 0) 43 0 1) 44 0 0) := OnE.pI.tr ((OnE.pA (by omega)).tr ((OnE.pA (by omega)).tr (OnE.pA (by omega))))
  obtain ⟨y, o, e, hE', hM⟩ := L_isRight hO hV wS hX hR hN hf hpf (fun z4 t5 => gd (vp_in 0 12) (if (gA t5 42 (ix 0)) = 0 then gd (vp_in 0 12) (if (gA t5 43 (ix 0)) = 0 then some (0, t5) else some (1, t5)) else some (1, t5))) 85 0 FU _ 0 (by omega) (by rw [FU_eq]; decide) ⟨by omega, 0, 0, rfl, Or.inl rfl⟩ hE (by
    refine ⟨by rw [gI_pA, gI_pA, gI_pA, gI_pI, if_pos rfl]; rfl, by decide, rfl, fun l hl => ?_⟩
    obtain rfl : l = 0 := by omega
    refine ⟨?_, ?_, ?_⟩
    · rw [gA_pA_ne (by decide), gA_pA_ne (by decide), gA_pA_at, if_pos rfl]; rfl
    · rw [gA_pA_ne (by decide), gA_pA_at, if_pos rfl]; rfl
    · rw [gA_pA_at, if_pos rfl]; rfl)
  rw [nI_0] at e
  rw [e]
  have i0 : ix 0 = 0 := rfl
  obtain ⟨a1, a2, -⟩ := hM.2.2.2 0 (Nat.zero_le _)
  rw [gd_pos g0, gd_pos g0, i0, a1, a2]
  refine ⟨y, ?_, hE'⟩
  unfold sat eVal
  cases (eRun (cnd m ch n f) ch n).2.1 0 with
  | true => rfl
  | false =>
    cases (eRun (cnd m ch n f) ch n).2.2.1 0 <;> rfl
end
section
/-! ===== the journal: a ring here, a shift there ===== -/
def row (lt i : Nat) : Nat := (lt + 24 - i) % 24
/-- both journals tell the same, the latest first -/
def RJ (c m : Sx) : Prop := ∃ e lt, e ≤ 24 ∧ lt < 24 ∧ gI c 49 = nI e ∧ gI m 53 = nI e ∧ gI c 50 = nI lt ∧ ∀ i, i < e → gA c 20 (row lt i) = gA m 41 (3 * i) ∧ gA c 21 (row lt i) = gA m 41 (3 * i + 1) ∧ gA c 22 (row lt i) = gA m 41 (3 * i + 2) ∧ gz (gA m 41 (3 * i + 2))
theorem lat_tab : ∀ lt, lt < 24 → ((nI lt + 1) - (nI lt + 1) / 24 * 24) = nI ((lt + 1) % 24) := by decide +kernel
theorem note_eq {c : Sx} {e lt a f : Nat} {j : Bool} (he : e ≤ 24) (hl : lt < 24) (e49 : gI c 49 = nI e) (e50 : gI c 50 = nI lt) : ∃ c', f_X3_note c (nI a) (nI f) (b2 j) = some c' ∧ (∀ k, k ≠ 49 → k ≠ 50 → gI c' k = gI c k) ∧ gL c' = gL c ∧ gM c' = gM c ∧ (∀ k, k ≠ 20 → k ≠ 21 → k ≠ 22 → gA c' k = gA c k) ∧ gI c' 49 = nI (if e < 24 then e + 1 else 24) ∧ gI c' 50 = nI ((lt + 1) % 24) ∧ ∀ i, gA c' 20 i = (if i = (lt + 1) % 24 then nI a else gA c 20 i) ∧ gA c' 21 i = (if i = (lt + 1) % 24 then nI f else gA c 21 i) ∧ gA c' 22 i = (if i = (lt + 1) % 24 then b2 j else gA c 22 i) := by
  have hm : (lt + 1) % 24 < 24 := Nat.mod_lt _ (by decide)
  have g24 : vp_in (nI ((lt + 1) % 24)) 24 := vin_nI hm (by decide)
  have hix : ix (nI ((lt + 1) % 24)) = (lt + 1) % 24 := ix_nI (by omega)
  unfold f_X3_note
  rw [gd_pos (by decide), bd_eq, e50, lat_tab lt hl]
  simp only [bd_eq, gI_pA, gI_pI, if_true, show ¬ (49 : Nat) = 50 by decide, if_false]
  rw [gd_pos g24, gd_pos g24, gd_pos (gz_b2 j), gd_pos g24, hix, e49, nI_lit1]
  refine ⟨_, rfl, ?_, ?_, ?_, ?_, ?_, ?_, ?_⟩
  · intro k h1 h2
    rw [gI_pI, if_neg h1, gI_pA, gI_pA, gI_pA, gI_pI, if_neg h2]
  · rfl
  · rfl
  · intro k h1 h2 h3
    rw [gA_pI, gA_pA_ne h3, gA_pA_ne h2, gA_pA_ne h1, gA_pI]
  · rw [gI_pI, if_pos rfl]
    have := lt_lit (N := 24) (k := e + 1) (x := 24) rfl (by decide) (by omega)
    by_cases q : e < 24
    · rw [if_neg (by rw [this]; omega), if_pos q]
    · rw [if_pos (by rw [this]; omega), if_neg q]; rfl
  · rw [gI_pI, if_neg (by decide), gI_pA, gI_pA, gI_pA, gI_pI, if_pos rfl]
  · intro i
    refine ⟨?_, ?_, ?_⟩
    · rw [gA_pI, gA_pA_ne (by decide), gA_pA_ne (by decide), gA_pA_at, gA_pI]
    · rw [gA_pI, gA_pA_ne (by decide), gA_pA_at, gA_pA_ne (by decide), gA_pI]
    · rw [gA_pI, gA_pA_at, gA_pA_ne (by decide), gA_pA_ne (by decide), gA_pI]
theorem m1_lt {k : Nat} (hk : k < 2000) : (nI k + (-1) < 0) ↔ k = 0 := by
  by_cases q : k = 0
  · subst q; exact ⟨fun _ => rfl, fun _ => by decide⟩
  · rw [nI_sub1 (by omega)]
    exact ⟨fun w => absurd w (nI_pos (by omega)), fun w => absurd w q⟩
theorem L_notes {m : Sx} (b1 b2 b3 b4 : Int32) {la : Nat} (hla : la ≤ 23) (kont : Int32 → Sx → Option Sx) : ∀ (k fu : Nat) (y : Sx), k ≤ 3 * la → k < fu → OnA 41 m y → (∀ i, gA y 41 i = if k + 3 ≤ i ∧ i < 3 * la + 3 then gA m 41 (i - 3) else gA m 41 i) → ∃ y', L_X9_notes_28 b1 b2 b3 b4 kont fu (nI k + (-1)) y = kont (-1) y' ∧ OnA 41 m y' ∧ ∀ i, gA y' 41 i = if 3 ≤ i ∧ i < 3 * la + 3 then gA m 41 (i - 3) else gA m 41 i := by
  intro k
  induction k with
  | zero =>
    intro fu y hk hfu ho hy
    obtain ⟨fu, rfl⟩ : ∃ r, fu = r + 1 := ⟨fu - 1, by omega⟩
    exact ⟨y, by rw [L_X9_notes_28, if_pos (by decide)]; rfl, ho, fun i => by rw [hy i, Nat.zero_add]⟩
  | succ k ih =>
    intro fu y hk hfu ho hy
    obtain ⟨fu, rfl⟩ : ∃ r, fu = r + 1 := ⟨fu - 1, by omega⟩
    rw [L_X9_notes_28, if_neg (fun w => by have := (m1_lt (by omega)).mp w; omega), nI_sub1 (by omega), Nat.add_sub_cancel, show nI k + 3 = nI (k + 3) by rw [show (3 : Int32) = nI 3 from rfl, nI_add], gd_pos (vin_nI (by omega) (by decide)), gd_pos (vin_nI (by omega) (by decide)), ix_nI (by omega), ix_nI (by omega), bd_eq]
    refine ih fu _ (by omega) (by omega) (ho.pA _ _) (fun i => ?_)
    have hyk : gA y 41 k = gA m 41 k := by rw [hy k, if_neg (by omega)]
    rw [gA_pA_at, hyk]
    by_cases q : i = k + 3
    · rw [if_pos q, if_pos ⟨by omega, by omega⟩, q, Nat.add_sub_cancel]
    · rw [if_neg q, hy i]
      by_cases q2 : k + 1 + 3 ≤ i ∧ i < 3 * la + 3
      · rw [if_pos q2, if_pos ⟨by omega, q2.2⟩]
      · rw [if_neg q2, if_neg (by omega)]
theorem notes_eq {m : Sx} {e a f : Nat} {j : Bool} (he : e ≤ 24) (ha : a < 8) (e53 : gI m 53 = nI e) : ∃ m', f_X9_notes m (nI a) (nI f) (b2 j) = some m' ∧ (∀ k, k ≠ 53 → gI m' k = gI m k) ∧ gL m' = gL m ∧ gM m' = gM m ∧ (∀ k, k ≠ 40 → k ≠ 41 → gA m' k = gA m k) ∧ gI m' 53 = nI (if e < 24 then e + 1 else 24) ∧ (∀ i, gA m' 40 i = if i = 2 * a + (if j = true then 1 else 0) then gA m 40 i + 1 else gA m 40 i) ∧ ∀ i, gA m' 41 i = if i = 0 then nI a else if i = 1 then nI f else if i = 2 then b2 j else if i < 3 * (if e < 24 then e else 23) + 3 then gA m 41 (i - 3) else gA m 41 i := by
  have eb : b2 j = nI (if j = true then 1 else 0) := by cases j <;> rfl
  have hmv : (2 * nI a) + b2 j = nI (2 * a + (if j = true then 1 else 0)) := by
    rw [eb, show (2 : Int32) = nI 2 from rfl, nI_mul, nI_add]
  have hj : (if j = true then 1 else 0) < 2 := by cases j <;> decide
  have hi : ix (nI (2 * a + (if j = true then 1 else 0))) = 2 * a + (if j = true then 1 else 0) := ix_nI (by omega)
  have g16 : vp_in (nI (2 * a + (if j = true then 1 else 0))) 16 := vin_nI (by omega) (by decide)
  have g0 : vp_in 0 72 := vin_nI (n := 0) (by decide) (by decide)
  have g1 : vp_in 1 72 := vin_nI (n := 1) (by decide) (by decide)
  have g2 : vp_in 2 72 := vin_nI (n := 2) (by decide) (by decide)
  have fin : ∀ (la : Nat) (y : Sx), OnA 41 m y → (∀ i, gA y 41 i = if 3 ≤ i ∧ i < 3 * la + 3 then gA m 41 (i - 3) else gA m 41 i) → ∀ v : Int32, (∀ k, k ≠ 53 → gI (pA (pI (pA (pA (pA y 41 0 (nI a)) 41 1 (nI f)) 41 2 (b2 j)) 53 v) 40 (2 * a + (if j = true then 1 else 0)) (gA m 40 (2 * a + (if j = true then 1 else 0)) + 1)) k = gI m k) ∧ gL (pA (pI (pA (pA (pA y 41 0 (nI a)) 41 1 (nI f)) 41 2 (b2 j)) 53 v) 40 (2 * a + (if j = true then 1 else 0)) (gA m 40 (2 * a + (if j = true then 1 else 0)) + 1)) = gL m ∧ gM (pA (pI (pA (pA (pA y 41 0 (nI a)) 41 1 (nI f)) 41 2 (b2 j)) 53 v) 40 (2 * a + (if j = true then 1 else 0)) (gA m 40 (2 * a + (if j = true then 1 else 0)) + 1)) = gM m ∧ (∀ k, k ≠ 40 → k ≠ 41 → gA (pA (pI (pA (pA (pA y 41 0 (nI a)) 41 1 (nI f)) 41 2 (b2 j)) 53 v) 40 (2 * a + (if j = true then 1 else 0)) (gA m 40 (2 * a + (if j = true then 1 else 0)) + 1)) k = gA m k) ∧ gI (pA (pI (pA (pA (pA y 41 0 (nI a)) 41 1 (nI f)) 41 2 (b2 j)) 53 v) 40 (2 * a + (if j = true then 1 else 0)) (gA m 40 (2 * a + (if j = true then 1 else 0)) + 1)) 53 = v ∧ (∀ i, gA (pA (pI (pA (pA (pA y 41 0 (nI a)) 41 1 (nI f)) 41 2 (b2 j)) 53 v) 40 (2 * a + (if j = true then 1 else 0)) (gA m 40 (2 * a + (if j = true then 1 else 0)) + 1)) 40 i = if i = 2 * a + (if j = true then 1 else 0) then gA m 40 i + 1 else gA m 40 i) ∧ ∀ i, gA (pA (pI (pA (pA (pA y 41 0 (nI a)) 41 1 (nI f)) 41 2 (b2 j)) 53 v) 40 (2 * a + (if j = true then 1 else 0)) (gA m 40 (2 * a + (if j = true then 1 else 0)) + 1)) 41 i = if i = 0 then nI a else if i = 1 then nI f else if i = 2 then b2 j else if i < 3 * la + 3 then gA m 41 (i - 3) else gA m 41 i := by
    intro la y ho hy v
    refine ⟨fun k hk => ?_, ?_, ?_, fun k h1 h2 => ?_, ?_, fun i => ?_, fun i => ?_⟩
    · rw [gI_pA, gI_pI, if_neg hk, gI_pA, gI_pA, gI_pA, ho.2.1]
    · show gL y = gL m; exact ho.2.2.1
    · show gM y = gM m; exact ho.2.2.2
    · rw [gA_pA_ne h1, gA_pI, gA_pA_ne h2, gA_pA_ne h2, gA_pA_ne h2, ho.1 k h2]
    · rw [gI_pA, gI_pI, if_pos rfl]
    · rw [gA_pA_at, gA_pI, gA_pA_ne (by decide), gA_pA_ne (by decide), gA_pA_ne (by decide), ho.1 40 (by decide)]
      by_cases q : i = 2 * a + (if j = true then 1 else 0)
      · rw [if_pos q, if_pos q, q]
      · rw [if_neg q, if_neg q]
    · rw [gA_pA_ne (by decide), gA_pI, gA_pA_at, gA_pA_at, gA_pA_at, hy i]
      by_cases q0 : i = 0
      · subst q0; rfl
      · by_cases q1 : i = 1
        · subst q1; rfl
        · by_cases q2 : i = 2
          · subst q2; rfl
          · rw [if_neg q2, if_neg q1, if_neg q0, if_neg q0, if_neg q1, if_neg q2]
            by_cases q3 : i < 3 * la + 3
            · rw [if_pos ⟨by omega, q3⟩, if_pos q3]
            · rw [if_neg (fun w => q3 w.2), if_neg q3]
  have run : ∀ (la : Nat) (bb v : Int32), la ≤ 23 → ∃ y, OnA 41 m y ∧ (∀ i, gA y 41 i = if 3 ≤ i ∧ i < 3 * la + 3 then gA m 41 (i - 3) else gA m 41 i) ∧ L_X9_notes_28 (nI a) (nI f) (b2 j) bb (fun z2 t3 => gd (vp_in 0 72) (bd (pA t3 41 (ix 0) (nI a)) fun t4 => gd (vp_in 1 72) (bd (pA t4 41 (ix 1) (nI f)) fun t5 => gd (vp_in 2 72) (bd (pA t5 41 (ix 2) (b2 j)) fun t6 => bd (pI t6 53 v) fun t7 => gd (vp_in ((2 * nI a) + b2 j) 16) (gd (vp_in ((2 * nI a) + b2 j) 16) (bd (pA t7 40 (ix ((2 * nI a) + b2 j)) ((gA t7 40 (ix ((2 * nI a) + b2 j))) + 1)) fun t8 => some t8)))))) FU (nI (3 * la) + (-1)) m = some (pA (pI (pA (pA (pA y 41 0 (nI a)) 41 1 (nI f)) 41 2 (b2 j)) 53 v) 40 (2 * a + (if j = true then 1 else 0)) (gA m 40 (2 * a + (if j = true then 1 else 0)) + 1)) := by
    intro la bb v hla
    obtain ⟨y, e1, h1, h2⟩ := L_notes (m := m) (nI a) (nI f) (b2 j) bb hla (fun z2 t3 => gd (vp_in 0 72) (bd (pA t3 41 (ix 0) (nI a)) fun t4 => gd (vp_in 1 72) (bd (pA t4 41 (ix 1) (nI f)) fun t5 => gd (vp_in 2 72) (bd (pA t5 41 (ix 2) (b2 j)) fun t6 => bd (pI t6 53 v) fun t7 => gd (vp_in ((2 * nI a) + b2 j) 16) (gd (vp_in ((2 * nI a) + b2 j) 16) (bd (pA t7 40 (ix ((2 * nI a) + b2 j)) ((gA t7 40 (ix ((2 * nI a) + b2 j))) + 1)) fun t8 => some t8)))))) (3 * la) FU m (Nat.le_refl _) (by rw [FU_eq]; omega) (OnA.rf _ _) (fun i => by rw [if_neg (by omega)])
    refine ⟨y, h1, h2, ?_⟩
    rw [e1]
    simp only [bd_eq]
    rw [gd_pos g0, gd_pos g1, gd_pos g2, hmv, gd_pos g16, gd_pos g16, hi]
    rw [gA_pI, gA_pA_ne (by decide), gA_pA_ne (by decide), gA_pA_ne (by decide), h1.1 40 (by decide)]
    rfl
  unfold f_X9_notes
  rw [e53]
  by_cases q : e < 24
  · rw [if_neg (ngo (x := 24) (N := 24) rfl q (by decide)), show (3 * nI e) - 1 = nI (3 * e) + (-1) by rw [show (3 : Int32) = nI 3 from rfl, nI_mul, Int32.sub_eq_add_neg], nI_lit1, if_pos q, if_pos q]
    obtain ⟨y, h1, h2, e1⟩ := run e (nI e) (nI (e + 1)) (by omega)
    rw [e1]
    obtain ⟨f1, f2, f3, f4, f5, f6, f7⟩ := fin e y h1 h2 (nI (e + 1))
    exact ⟨_, rfl, f1, f2, f3, f4, f5, f6, f7⟩
  · obtain rfl : e = 24 := by omega
    rw [if_pos (by decide), show ((3 : Int32) * 23) - 1 = nI (3 * 23) + (-1) by decide, show (23 : Int32) + 1 = nI 24 by decide, if_neg q, if_neg q]
    obtain ⟨y, h1, h2, e1⟩ := run 23 23 (nI 24) (by omega)
    rw [e1]
    obtain ⟨f1, f2, f3, f4, f5, f6, f7⟩ := fin 23 y h1 h2 (nI 24)
    exact ⟨_, rfl, f1, f2, f3, f4, f5, f6, f7⟩
/-- an entry on both sides -/
theorem note_pair {c m : Sx} {a f : Nat} {j : Bool} (ha : a < 8) (h : RJ c m) : ∃ c' m', f_X3_note c (nI a) (nI f) (b2 j) = some c' ∧ f_X9_notes m (nI a) (nI f) (b2 j) = some m' ∧ RJ c' m' ∧ (∀ k, k ≠ 49 → k ≠ 50 → gI c' k = gI c k) ∧ gL c' = gL c ∧ gM c' = gM c ∧ (∀ k, k ≠ 20 → k ≠ 21 → k ≠ 22 → gA c' k = gA c k) ∧ (∀ k, k ≠ 53 → gI m' k = gI m k) ∧ gL m' = gL m ∧ gM m' = gM m ∧ (∀ k, k ≠ 40 → k ≠ 41 → gA m' k = gA m k) ∧ (∀ i, gA m' 40 i = if i = 2 * a + (if j = true then 1 else 0) then gA m 40 i + 1 else gA m 40 i) := by
  obtain ⟨e, lt, he, hl, e49, e53, e50, hr⟩ := h
  obtain ⟨c', c0, c1, c2, c3, c4, c5, c6, c7⟩ := note_eq (a := a) (f := f) (j := j) he hl e49 e50
  obtain ⟨m', m0, m1, m2, m3, m4, m5, m6, m7⟩ := notes_eq (a := a) (f := f) (j := j) he ha e53
  refine ⟨c', m', c0, m0, ⟨if e < 24 then e + 1 else 24, (lt + 1) % 24, by split <;> omega, Nat.mod_lt _ (by decide), c5, m5, c6, fun i hi => ?_⟩, c1, c2, c3, c4, m1, m2, m3, m4, m6⟩
  have hi24 : i < 24 := by revert hi; split <;> omega
  cases i with
  | zero =>
    have r0 : row ((lt + 1) % 24) 0 = (lt + 1) % 24 := by unfold row; omega
    rw [r0, (c7 _).1, (c7 _).2.1, (c7 _).2.2, if_pos rfl, if_pos rfl, if_pos rfl, m7, m7, m7]
    exact ⟨rfl, rfl, rfl, gz_b2 j⟩
  | succ i =>
    have r1 : row ((lt + 1) % 24) (i + 1) = row lt i := by unfold row; omega
    have r2 : row lt i ≠ (lt + 1) % 24 := by unfold row; omega
    have hie : i < e := by revert hi; split <;> omega
    obtain ⟨h1, h2, h3, h4⟩ := hr i hie
    rw [r1, (c7 _).1, (c7 _).2.1, (c7 _).2.2, if_neg r2, if_neg r2, if_neg r2, m7, m7, m7]
    have hb : 3 * (i + 1) + 2 < 3 * (if e < 24 then e else 23) + 3 := by revert hi; split <;> omega
    rw [if_neg (by omega), if_neg (by omega), if_neg (by omega), if_pos (by omega), if_neg (by omega), if_neg (by omega), if_neg (by omega), if_pos (by omega), if_neg (by omega), if_neg (by omega), if_neg (by omega), if_pos hb]
    rw [show 3 * (i + 1) - 3 = 3 * i by omega, show 3 * (i + 1) + 1 - 3 = 3 * i + 1 by omega, show 3 * (i + 1) + 2 - 3 = 3 * i + 2 by omega]
    exact ⟨h1, h2, h3, h4⟩
end
section
/-! ===== albums: the relation, and settling as a pair ===== -/
/-- two loops side by side -/
theorem loopUp2 {σ τ Rs Rt : Type} (L1 : Nat → Int32 → σ → Rs) (E1 : σ → Rs) (L2 : Nat → Int32 → τ → Rt) (E2 : τ → Rt) (N : Nat) (I : Nat → σ → τ → Prop)
    (h1 : ∀ n y z, I N y z → L1 (n + 1) (nI N) y = E1 y) (h2 : ∀ n y z, I N y z → L2 (n + 1) (nI N) z = E2 z)
    (hstep : ∀ k y z, k < N → I k y z → ∃ y' z', I (k + 1) y' z' ∧ (∀ n, L1 (n + 1) (nI k) y = L1 n (nI (k + 1)) y') ∧ ∀ n, L2 (n + 1) (nI k) z = L2 n (nI (k + 1)) z') :
    ∀ (d k n n' : Nat) (y : σ) (z : τ), k + d = N → d < n → d < n' → I k y z → ∃ y' z', I N y' z' ∧ L1 n (nI k) y = E1 y' ∧ L2 n' (nI k) z = E2 z' := by
  intro d
  induction d with
  | zero =>
    intro k n n' y z hk hn hn' hI
    obtain ⟨n, rfl⟩ : ∃ q, n = q + 1 := ⟨n - 1, by omega⟩
    obtain ⟨n', rfl⟩ : ∃ q, n' = q + 1 := ⟨n' - 1, by omega⟩
    obtain rfl : k = N := by omega
    exact ⟨y, z, hI, h1 n y z hI, h2 n' y z hI⟩
  | succ d ih =>
    intro k n n' y z hk hn hn' hI
    obtain ⟨n, rfl⟩ : ∃ q, n = q + 1 := ⟨n - 1, by omega⟩
    obtain ⟨n', rfl⟩ : ∃ q, n' = q + 1 := ⟨n' - 1, by omega⟩
    obtain ⟨y', z', g1, g2, g3⟩ := hstep k y z (by omega) hI
    obtain ⟨y2, z2, g4, g5, g6⟩ := ih (k + 1) n n' y' z' (by omega) (by omega) (by omega) g1
    exact ⟨y2, z2, g4, by rw [g2, g5], by rw [g3, g6]⟩
theorem loop02 {σ τ Rs Rt : Type} {L1 : Nat → Int32 → σ → Rs} {E1 : σ → Rs} {L2 : Nat → Int32 → τ → Rt} {E2 : τ → Rt} {N : Nat} (hN : N < 2000) {y : σ} {z : τ} (I : Nat → σ → τ → Prop)
    (h1 : ∀ n y z, I N y z → L1 (n + 1) (nI N) y = E1 y) (h2 : ∀ n y z, I N y z → L2 (n + 1) (nI N) z = E2 z)
    (hstep : ∀ k y z, k < N → I k y z → ∃ y' z', I (k + 1) y' z' ∧ (∀ n, L1 (n + 1) (nI k) y = L1 n (nI (k + 1)) y') ∧ ∀ n, L2 (n + 1) (nI k) z = L2 n (nI (k + 1)) z') (h0 : I 0 y z) : ∃ y' z', I N y' z' ∧ L1 FU 0 y = E1 y' ∧ L2 FU 0 z = E2 z' := by
  rw [← nI_0]
  exact loopUp2 L1 E1 L2 E2 N I h1 h2 hstep N 0 FU FU y z (by omega) (by rw [FU_eq]; exact hN) (by rw [FU_eq]; exact hN) h0
/-- a loop from 0 whose value is of any kind -/
theorem loop0G {σ Rt : Type} {L : Nat → Int32 → σ → Rt} {E : σ → Rt} {N : Nat} (hN : N < 2000) {y : σ} (I : Nat → σ → Prop)
    (hexit : ∀ n y, I N y → L (n + 1) (nI N) y = E y)
    (hstep : ∀ k y, k < N → I k y → ∃ y', I (k + 1) y' ∧ ∀ n, L (n + 1) (nI k) y = L n (nI (k + 1)) y') (h0 : I 0 y) : ∃ y', I N y' ∧ L FU 0 y = E y' := by
  obtain ⟨y', -, h1, h2, -⟩ := loop02 (L1 := L) (E1 := E) (L2 := fun _ _ (_ : Unit) => ()) (E2 := fun _ => ()) hN (y := y) (z := ()) (fun k y _ => I k y) (fun n y _ h => hexit n y h) (fun _ _ _ _ => rfl) (fun k y _ hk h => by
    obtain ⟨y', g1, g2⟩ := hstep k y hk h
    exact ⟨y', (), g1, g2, fun _ => rfl⟩) h0
  exact ⟨y', h1, h2⟩
/-- what an album's change touches, here and there -/
def OnB (a : Nat) (c c' : Sx) : Prop := (∀ k, k ≠ 49 → k ≠ 50 → k ≠ 130 + a → k ≠ 140 + a → gI c' k = gI c k) ∧ (∀ k, k ≠ 100 + a → gL c' k = gL c k) ∧ gM c' = gM c ∧ ∀ k, k ≠ 20 → k ≠ 21 → k ≠ 22 → gA c' k = gA c k
def OnN (a : Nat) (m m' : Sx) : Prop := (∀ k, k ≠ 53 → gI m' k = gI m k) ∧ gL m' = gL m ∧ gM m' = gM m ∧ (∀ k, k ≠ 40 → k ≠ 41 → gA m' k = gA m k) ∧ ∀ i, i ≠ 2 * a → i ≠ 2 * a + 1 → gA m' 40 i = gA m 40 i
theorem OnB.rf (a : Nat) (c : Sx) : OnB a c c := ⟨fun _ _ _ _ _ => rfl, fun _ _ => rfl, rfl, fun _ _ _ _ => rfl⟩
theorem OnN.rf (a : Nat) (c : Sx) : OnN a c c := ⟨fun _ _ => rfl, rfl, rfl, fun _ _ _ => rfl, fun _ _ _ => rfl⟩
theorem hb_x (x y : Int64) (k : Nat) : hb (x ^^^ y) k = decide (hb x k ≠ hb y k) := by
  rw [hb_xor]
  cases hb x k <;> cases hb y k <;> rfl
theorem mv_0 (d x y : Int32) : d + (x - y) = d + ((x + 1) - (y + 1)) := by grind
theorem mv_1 (a b d x y : Int32) (h : a - b = d + (x - y)) : (a + 1) - b = d + ((x + 1) - y) := by grind
theorem mv_2 (a b d x y : Int32) (h : a - b = d + (x - y)) : a - (b + 1) = d + (x - (y + 1)) := by grind
theorem mv_z (d : Int32) : d = d + (nI 0 - nI 0) := by
  show d = d + (0 - 0)
  grind
theorem become_pair {c m : Sx} {a : Nat} {x : Int64} (ha : a < 8) (hA : iA m a = true) (h : RJ c m) (hM : gL c (100 + a) = gM m 2 a) (hj : gI c (130 + a) = gA m 40 (2 * a + 1)) (hl : gI c (140 + a) = gA m 40 (2 * a)) : ∃ c' m', f_X0_become c a x (nI a) = some c' ∧ (∀ kont : Int32 → Sx → Option Sx, L_X9_settles_78 (nI a) x kont FU 0 m = kont (nI 40) m') ∧ RJ c' m' ∧ OnB a c c' ∧ OnN a m m' ∧ gL c' (100 + a) = x ∧ gI c' (130 + a) = gA m' 40 (2 * a + 1) ∧ gI c' (140 + a) = gA m' 40 (2 * a) ∧ gA m' 40 (2 * a + 1) - gA m' 40 (2 * a) = gA m 40 (2 * a + 1) - gA m 40 (2 * a) + (nI (fb_ct (hb x) 40) - nI (fb_ct (hb (gM m 2 a)) 40)) := by
  unfold f_X0_become
  have hA' : ¬ gA m 35 a = 0 := by simpa [iA] using hA
  obtain ⟨y, z, ⟨i1, i2, i3, i4, i5, i6, i7⟩, e1, e2⟩ := loop02 (L1 := fun n i s => L_X0_become_11 a x (nI a) (gL c (100 + a) ^^^ x) (fun z10 t11 => bd (pL t11 (100 + a) x) fun t12 => some t12) n i s) (E1 := fun s => some (pL s (100 + a) x)) (L2 := fun n i s (kont : Int32 → Sx → Option Sx) => L_X9_settles_78 (nI a) x kont n i s) (E2 := fun s kont => kont (nI 40) s) (N := 40) (by decide) (y := c) (z := m)
    (fun k y z => RJ y z ∧ OnB a c y ∧ OnN a m z ∧ gL y = gL c ∧ gI y (130 + a) = gA z 40 (2 * a + 1) ∧ gI y (140 + a) = gA z 40 (2 * a) ∧ gA z 40 (2 * a + 1) - gA z 40 (2 * a) = gA m 40 (2 * a + 1) - gA m 40 (2 * a) + (nI (fb_ct (hb x) k) - nI (fb_ct (hb (gM m 2 a)) k)))
    (fun n y z _ => by
      show L_X0_become_11 _ _ _ _ _ _ _ _ = _
      rw [L_X0_become_11, if_pos (by decide)]; rfl)
    (fun n y z _ => by
      funext kont
      show L_X9_settles_78 _ _ _ _ _ _ = _
      rw [L_X9_settles_78, if_pos (by decide)])
    (fun k y z hk hI => by
      obtain ⟨i1, i2, i3, i4, i5, i6, i7⟩ := hI
      have s1 : ∀ n, L_X0_become_11 a x (nI a) (gL c (100 + a) ^^^ x) (fun z10 t11 => bd (pL t11 (100 + a) x) fun t12 => some t12) (n + 1) (nI k) y = if b2 (decide (hb (gL c (100 + a)) k ≠ hb x k)) = 0 then L_X0_become_11 a x (nI a) (gL c (100 + a) ^^^ x) (fun z10 t11 => bd (pL t11 (100 + a) x) fun t12 => some t12) n (nI (k + 1)) y else (f_X3_note y (nI a) (nI k) (b2 (hb x k))).bind fun r3 => L_X0_become_11 a x (nI a) (gL c (100 + a) ^^^ x) (fun z10 t11 => bd (pL t11 (100 + a) x) fun t12 => some t12) n (nI (k + 1)) (pI (pI r3 (130 + a) (gI r3 (130 + a) + if hb x k = true then 1 else 0)) (140 + a) (gI r3 (140 + a) + if hb x k = true then 0 else 1)) := fun n => by
        rw [L_X0_become_11, if_neg (ngo (x := 40) (N := 40) rfl hk (by decide)), holds_eq y _ (by omega), hb_x, Option.bind_some, nI_lit1]
        by_cases q : hb (gL c (100 + a)) k ≠ hb x k
        · rw [decide_eq_true q, if_neg (by decide), if_neg (by decide), holds_eq y _ (by omega), Option.bind_some]
          congr 1
          funext r3
          cases hb x k with
          | true => rw [b2_t]; simp only [bd_eq, gI_pI, if_neg (show ¬ (1 : Int32) = 0 by decide), if_neg (show ¬ (140 + a = 130 + a) by omega), if_true]
          | false => rw [b2_f]; simp only [bd_eq, gI_pI, if_true, if_neg (show ¬ (140 + a = 130 + a) by omega), Bool.false_eq_true, if_false]
        · rw [decide_eq_false q, if_pos b2_f, if_pos b2_f]
      have s2 : ∀ (kont : Int32 → Sx → Option Sx) n, L_X9_settles_78 (nI a) x kont (n + 1) (nI k) z = if b2 (hb x k) = b2 (hb (gM m 2 a) k) then L_X9_settles_78 (nI a) x kont n (nI (k + 1)) z else (f_X9_notes z (nI a) (nI k) (b2 (hb x k))).bind fun r6 => L_X9_settles_78 (nI a) x kont n (nI (k + 1)) r6 := fun kont n => by
        rw [L_X9_settles_78, if_neg (ngo (x := 40) (N := 40) rfl hk (by decide)), gd_pos (vin_nI ha (by decide)), gd_pos (vin_nI ha (by decide)), ix_nI (by omega), i3.2.2.2.1 35 (by decide) (by decide), if_neg hA', bd_eq, i3.2.2.1, s_bitI _ (by omega), s_bitI _ (by omega), nI_lit1]
      by_cases q : hb x k = hb (gM m 2 a) k
      · refine ⟨y, z, ⟨i1, i2, i3, i4, i5, i6, ?_⟩, fun n => ?_, fun n => ?_⟩
        · rw [i7, fb_ct_succ, fb_ct_succ, q]
          cases hb (gM m 2 a) k with
          | false => rfl
          | true =>
            simp only [if_true]
            rw [← nI_lit1, ← nI_lit1]
            exact mv_0 _ _ _
        · show L_X0_become_11 _ _ _ _ _ _ _ _ = _
          rw [s1, hM, q, decide_eq_false (fun w => w rfl), if_pos b2_f]
        · funext kont
          show L_X9_settles_78 _ _ _ _ _ _ = _
          rw [s2, q, if_pos rfl]
      · obtain ⟨y', z', n0, n1, n2, n3, n4, n5, n6, n7, n8, n9, n10, n11⟩ := note_pair (a := a) (f := k) (j := hb x k) ha i1
        have e130 : gI y' (130 + a) = gI y (130 + a) := n3 _ (by omega) (by omega)
        have e140 : gI y' (140 + a) = gI y (140 + a) := n3 _ (by omega) (by omega)
        refine ⟨pI (pI y' (130 + a) (gI y' (130 + a) + if hb x k = true then 1 else 0)) (140 + a) (gI y' (140 + a) + if hb x k = true then 0 else 1), z', ⟨?_, ?_, ?_, ?_, ?_, ?_, ?_⟩, fun n => ?_, fun n => ?_⟩
        · obtain ⟨e, lt, j1, j2, j3, j4, j5, j6⟩ := n2
          exact ⟨e, lt, j1, j2, by rw [gI_pI, if_neg (by omega), gI_pI, if_neg (by omega)]; exact j3, j4, by rw [gI_pI, if_neg (by omega), gI_pI, if_neg (by omega)]; exact j5, j6⟩
        · refine ⟨fun i h1 h2 h3 h4 => ?_, fun i hi => ?_, ?_, fun i h1 h2 h3 => ?_⟩
          · rw [gI_pI, if_neg h4, gI_pI, if_neg h3, n3 i h1 h2, i2.1 i h1 h2 h3 h4]
          · show gL y' i = _; rw [n4, i2.2.1 i hi]
          · show gM y' = _; rw [n5, i2.2.2.1]
          · show gA y' i = _; rw [n6 i h1 h2 h3, i2.2.2.2 i h1 h2 h3]
        · refine ⟨fun i h1 => ?_, ?_, ?_, fun i h1 h2 => ?_, fun i h1 h2 => ?_⟩
          · rw [n7 i h1, i3.1 i h1]
          · rw [n8, i3.2.1]
          · rw [n9, i3.2.2.1]
          · rw [n10 i h1 h2, i3.2.2.2.1 i h1 h2]
          · rw [n11, if_neg (by split <;> omega), i3.2.2.2.2 i h1 h2]
        · show gL y' = _; rw [n4, i4]
        · rw [gI_pI, if_neg (by omega), gI_pI, if_pos rfl, e130, i5, n11]
          cases hb x k with
          | true => rw [if_pos rfl, if_pos (by simp)]
          | false => rw [if_neg (by decide), if_neg (by simp), Int32.add_zero]
        · rw [gI_pI, if_pos rfl, e140, i6, n11]
          cases hb x k with
          | true => rw [if_pos rfl, if_neg (by simp), Int32.add_zero]
          | false => rw [if_neg (by decide), if_pos (by simp)]
        · rw [n11, n11, fb_ct_succ, fb_ct_succ]
          cases hx : hb x k with
          | true =>
            have hm : hb (gM m 2 a) k = false := by
              cases w : hb (gM m 2 a) k with
              | false => rfl
              | true => exact absurd (hx.trans w.symm) q
            rw [hm, if_pos (by simp), if_neg (by simp)]
            simp only [if_true, Bool.false_eq_true, if_false]
            rw [← nI_lit1]
            exact mv_1 _ _ _ _ _ i7
          | false =>
            have hm : hb (gM m 2 a) k = true := by
              cases w : hb (gM m 2 a) k with
              | true => rfl
              | false => exact absurd (hx.trans w.symm) q
            rw [hm, if_neg (by simp), if_pos (by simp)]
            simp only [if_true, Bool.false_eq_true, if_false]
            rw [← nI_lit1]
            exact mv_2 _ _ _ _ _ i7
        · show L_X0_become_11 _ _ _ _ _ _ _ _ = _
          rw [s1, hM, decide_eq_true (show hb (gM m 2 a) k ≠ hb x k from fun w => q w.symm), if_neg (by decide), n0, Option.bind_some]
        · funext kont
          show L_X9_settles_78 _ _ _ _ _ _ = _
          rw [s2, if_neg (fun w => q (b2_inj.mp w)), n1, Option.bind_some])
    ⟨h, OnB.rf _ _, OnN.rf _ _, rfl, hj, hl, by show _ = _ + (nI (fb_ct (hb x) 0) - nI (fb_ct (hb (gM m 2 a)) 0)); exact mv_z _⟩
  refine ⟨_, z, e1, fun kont => congrFun e2 kont, ?_, ?_, i3, ?_, ?_, ?_, i7⟩
  · exact i1
  · exact ⟨i2.1, fun k hk => by rw [gL_pL, if_neg hk]; exact i2.2.1 k hk, i2.2.2.1, i2.2.2.2⟩
  · rw [gL_pL, if_pos rfl]
  · exact i5
  · exact i6
end
section
/-! ===== settling, both sides ===== -/
def OnR (m m' : Sx) : Prop := (∀ a, a ≠ 45 → gA m' a = gA m a) ∧ (∀ k, k ≠ 55 → gI m' k = gI m k) ∧ gL m' = gL m ∧ gM m' = gM m
theorem i80a (a k : Nat) : (80 * nI a) + nI k = nI (80 * a + k) := by
  rw [show (80 : Int32) = nI 80 from rfl, nI_mul, nI_add]
theorem takesAlbum_eq {m : Sx} {a n : Nat} {ch : Nat → Nat} (ha : a < 8) (hn : n ≤ 80) (h36 : gA m 36 a = nI n) (h37 : ∀ k, k < n → gA m 37 (80 * a + k) = nI (ch k)) (hok : okc ch n) : ∃ m', f_X9_takesAlbum m (nI a) = some m' ∧ OnR m m' ∧ Rx m' ch n := by
  unfold f_X9_takesAlbum
  rw [gd_pos (vin_nI ha (by decide)), bd_eq, ix_nI (by omega), h36]
  obtain ⟨y, ⟨hy, e⟩, r⟩ := loop0 (L := fun i x s => L_X9_takesAlbum_12 (nI a) (fun z3 t4 => some t4) i x s) (E := fun s => some s) (N := n) (by omega) (y := pI m 55 (nI n))
    (fun k s => OnA 45 (pI m 55 (nI n)) s ∧ ∀ j, j < k → gA s 45 j = nI (ch j))
    (fun i s h => by
      show L_X9_takesAlbum_12 _ _ _ _ _ = _
      rw [L_X9_takesAlbum_12, h.1.2.1, gI_pI, if_pos rfl, if_pos (nI_le (Nat.le_refl _) (by omega))])
    (fun k s hk h => by
      have e37 : gA s 37 (80 * a + k) = nI (ch k) := by rw [h.1.1 37 (by decide), gA_pI]; exact h37 k hk
      refine ⟨pA s 45 k (nI (ch k)), ⟨h.1.pA _ _, fun j hj => ?_⟩, fun i => ?_⟩
      · rw [gA_pA_at]
        by_cases q : j = k
        · rw [if_pos q, q]
        · rw [if_neg q]; exact h.2 j (by omega)
      · show L_X9_takesAlbum_12 _ _ _ _ _ = _
        have c1 := hok k hk
        rw [L_X9_takesAlbum_12, h.1.2.1, gI_pI, if_pos rfl, if_neg (by rw [nI_le_iff (by omega) (by omega)]; omega), i80a, gd_pos (vin_nI (by omega) (by decide)), ix_nI (by omega), e37, gd_pos (gch_nI (by omega)), gd_pos (vin_nI (by omega) (by decide)), ix_nI (by omega), bd_eq, nI_lit1])
    ⟨OnA.rf _ _, fun j hj => absurd hj (by omega)⟩
  refine ⟨y, r, ⟨fun i hi => by rw [hy.1 i hi, gA_pI], fun k hk => by rw [hy.2.1, gI_pI, if_neg hk], by rw [hy.2.2.1]; rfl, by rw [hy.2.2.2]; rfl⟩, hn, by rw [hy.2.1, gI_pI, if_pos rfl], e⟩
theorem cg_sat {m y : Sx} (h : SameD m y) : sat y = sat m := by funext ch n f; unfold sat; rw [cg_cnd h]
theorem cg_nmd {m y : Sx} (h : SameD m y) {ch : Nat → Nat} {n : Nat} (w : nmd m ch n) : nmd y ch n := fun p hp e => by rw [cg_iA h]; exact w p hp e
theorem hb_orx (x : Int64) {k f : Nat} (hk : k < 64) (hf : f < 64) : hb (x ||| shlL 1 (nI k)) f = (hb x f || decide (f = k)) := by rw [hb_or, hb_only hk hf]
/-- the reference's members of an album -/
theorem now_eq {m : Sx} (hO : WOrd m) (hV : WVal m) (wS : WStk m) {ch : Nat → Nat} {n a : Nat} (hX : Rx m ch n) (hR : Rul ch n) (hN : nmd m ch n) (ha : a < 8) (hA : iA m a = true) : ∃ x y, (∀ kont : Int64 → Int32 → Sx → Option Sx, L_X9_settles_27 (nI a) kont FU 0 0 m = kont x (nI 40) y) ∧ OnE m y ∧ ∀ f, f < 64 → hb x f = ((decide (f < 40) && iF m f) && sat m ch n f) := by
  have hA' : ¬ gA m 35 a = 0 := by simpa [iA] using hA
  obtain ⟨s, ⟨hE, hs⟩, r⟩ := loop0G (L := fun i x (s : Int64 × Sx) (kont : Int64 → Int32 → Sx → Option Sx) => L_X9_settles_27 (nI a) kont i s.1 x s.2) (E := fun s kont => kont s.1 (nI 40) s.2) (N := 40) (by decide) (y := ((0 : Int64), m))
    (fun k s => OnE m s.2 ∧ ∀ f, f < 64 → hb s.1 f = ((decide (f < k) && iF m f) && sat m ch n f))
    (fun i s h => by
      funext kont
      show L_X9_settles_27 _ _ _ _ _ _ = _
      rw [L_X9_settles_27, if_pos (by decide)])
    (fun k s hk h => by
      obtain ⟨h1, h2⟩ := h
      have sd := h1.sd
      have step : ∀ (kont : Int64 → Int32 → Sx → Option Sx) i, L_X9_settles_27 (nI a) kont (i + 1) s.1 (nI k) s.2 = if gA m 23 k = 0 then L_X9_settles_27 (nI a) kont i s.1 (nI (k + 1)) s.2 else (f_X9_isRight s.2 (nI k)).bind fun r1 => if r1.1 = 0 then L_X9_settles_27 (nI a) kont i s.1 (nI (k + 1)) r1.2 else L_X9_settles_27 (nI a) kont i (s.1 ||| shlL 1 (nI k)) (nI (k + 1)) r1.2 := fun kont i => by
        rw [L_X9_settles_27, if_neg (ngo (x := 40) (N := 40) rfl hk (by decide)), gd_pos (vin_nI ha (by decide)), ix_nI (by omega), sd.1 35 (by decide), if_neg hA', gd_pos (vin_nI hk (by decide)), ix_nI (by omega), sd.1 23 (by decide), nI_lit1]
      cases hp : iF m k with
      | false =>
        refine ⟨s, ⟨h1, fun f hf => ?_⟩, fun i => ?_⟩
        · rw [h2 f hf]
          by_cases q : f = k
          · subst q; rw [hp, Bool.and_false, Bool.and_false]
          · rw [decide_eq_decide.mpr (show f < k ↔ f < k + 1 by omega)]
        · funext kont
          show L_X9_settles_27 _ _ _ _ _ _ = _
          rw [step, if_pos (iF_dec.mpr hp)]
      | true =>
        obtain ⟨y', e, hE⟩ := isRight_eq (cg_WOrd sd hO) (cg_WVal sd hV) (cg_WStk sd wS) (hX.on h1) hR (cg_nmd sd hN) hk (by rw [cg_iF sd]; exact hp)
        have e0 : ¬ gA m 23 k = 0 := fun w => by rw [iF_dec.mp w] at hp; cases hp
        rw [cg_sat sd] at e
        refine ⟨(if sat m ch n k = true then s.1 ||| shlL 1 (nI k) else s.1, y'), ⟨h1.tr hE, fun f hf => ?_⟩, fun i => ?_⟩
        · dsimp only
          by_cases q : f = k
          · subst q
            rw [hp]
            cases hs : sat m ch n f with
            | true => rw [if_pos rfl, hb_orx _ hf hf, decide_eq_true rfl, Bool.or_true, decide_eq_true (by omega)]; rfl
            | false => rw [if_neg (by decide), h2 f hf, hs, Bool.and_false, Bool.and_false]
          · rw [decide_eq_decide.mpr (show f < k + 1 ↔ f < k by omega), ← h2 f hf]
            split
            · rw [hb_orx _ (by omega) hf, decide_eq_false q, Bool.or_false]
            · rfl
        · funext kont
          show L_X9_settles_27 _ _ _ _ _ _ = L_X9_settles_27 _ _ _ _ _ _
          rw [step, if_neg e0, e, Option.bind_some]
          cases hs : sat m ch n k with
          | true => rw [if_pos rfl]; exact if_neg (show ¬ (1 : Int32) = 0 by decide)
          | false => rw [if_pos b2_f, if_neg (by decide)])
    ⟨OnE.rf m, fun f hf => by rw [hb_0, decide_eq_false (by omega)]; rfl⟩
  exact ⟨s.1, s.2, fun kont => congrFun r kont, hE, hs⟩
/-- where there is no album -/
theorem now_none {m : Sx} {a : Nat} (ha : a < 8) (hA : iA m a = false) (kont : Int64 → Int32 → Sx → Option Sx) : L_X9_settles_27 (nI a) kont FU 0 0 m = kont 0 (nI 40) m := by
  have hA' : gA m 35 a = 0 := by simpa [iA] using hA
  obtain ⟨s, hs, r⟩ := loop0 (L := fun i x (s : Int64 × Sx) => L_X9_settles_27 (nI a) kont i s.1 x s.2) (E := fun s => kont s.1 (nI 40) s.2) (N := 40) (by decide) (y := ((0 : Int64), m))
    (fun k s => s = (0, m))
    (fun i s h => by
      show L_X9_settles_27 _ _ _ _ _ _ = _
      rw [L_X9_settles_27, if_pos (by decide)])
    (fun k s hk h => by
      subst h
      refine ⟨_, rfl, fun i => ?_⟩
      show L_X9_settles_27 _ _ _ _ _ _ = _
      rw [L_X9_settles_27, if_neg (ngo (x := 40) (N := 40) rfl hk (by decide)), gd_pos (vin_nI ha (by decide)), ix_nI (by omega), hA', if_pos rfl, nI_lit1]) rfl
  subst hs
  exact r
theorem notes_none {m : Sx} {a : Nat} (ha : a < 8) (hA : iA m a = false) (x : Int64) (kont : Int32 → Sx → Option Sx) : L_X9_settles_78 (nI a) x kont FU 0 m = kont 0 m := by
  have hA' : gA m 35 a = 0 := by simpa [iA] using hA
  obtain ⟨fu, e⟩ := FU_ge (n := 1) (by decide)
  rw [e, L_X9_settles_78, if_neg (by decide), gd_pos (vin_nI ha (by decide)), ix_nI (by omega), hA', if_pos rfl]
/-- the base and what follows of it, but for the albums -/
def WTg (m : Sx) : Prop := ∀ f, f < 40 → ∀ s, s < 3 → iT m (18 * f + 6 * s + 5) = true → ∃ v, v ≤ 1023 ∧ gA m 27 (18 * f + 6 * s + 5) = nI v
def Ba (c m : Sx) : Prop := WOrd m ∧ WVal m ∧ WStk m ∧ WTxt m ∧ RPres c m ∧ RDig c m ∧ RVal c m ∧ ROrd c m ∧ RStk c m ∧ RTxt c m ∧ WTg m
def De (c m : Sx) : Prop := DVal c m ∧ DKee c m ∧ DCov c m
theorem Ba.onC {c c' m : Sx} (h : Ba c m) (hA : ∀ a, a < 19 → a ≠ 12 → gA c' a = gA c a) (h108 : gA c' 108 = gA c 108) (h8 : gL c' 8 = gL c 8) (h11 : gL c' 11 = gL c 11) (hI : gI c' 158 = gI c 158) : Ba c' m := by
  obtain ⟨h1, h2, h3, h4, h5, h6, h7, h8', h9, h10, h11'⟩ := h
  refine ⟨h1, h2, h3, h4, h5.on h8, fun f hf hp => ?_, h7.on (hA 11 (by decide) (by decide)), h8'.on (hA 13 (by decide) (by decide)), ?_, ?_, h11'⟩
  · rw [hA 9 (by decide) (by decide), hA 10 (by decide) (by decide)]; exact h6 f hf hp
  · obtain ⟨a1, a2, a3, a4, a5⟩ := h9
    refine ⟨fun f hf => ?_, fun s hs => ?_, fun s hs k hk => ?_, fun s hs hn => ?_, fun k hk => ?_⟩
    · rw [hA 18 (by decide) (by decide)]; exact a1 f hf
    · rw [hA 15 (by decide) (by decide)]; exact a2 s hs
    · rw [hA 14 (by decide) (by decide)]; exact a3 s hs k hk
    · rw [hA 16 (by decide) (by decide), hA 17 (by decide) (by decide)]; exact a4 s hs hn
    · rw [h11]; exact a5 k hk
  · exact ⟨by rw [hI]; exact h10.1, fun k hk => by rw [h108]; exact h10.2 k hk⟩
theorem De.onC {c c' m : Sx} (h : De c m) (h12 : gA c' 12 = gA c 12) (hL : ∀ k, k = 9 ∨ k = 10 ∨ k = 12 → gL c' k = gL c k) : De c' m := by
  obtain ⟨h1, h2, h3⟩ := h
  refine ⟨fun f hf hp => ?_, fun k hk => ?_, fun k hk => ?_⟩
  · rw [h12]; exact h1 f hf hp
  · rw [hL 9 (by omega), hL 10 (by omega)]; exact h2 k hk
  · rw [hL 12 (by omega)]; exact h3 k hk
theorem Ba.onD {c m m' : Sx} (h : Ba c m) (s : SameD m m') (h52 : gI m' 52 = gI m 52) : Ba c m' := by
  obtain ⟨h1, h2, h3, h4, h5, h6, h7, h8, h9, h10, h11⟩ := h
  have et : tpd m' = tpd m := by unfold tpd; rw [h52]
  refine ⟨cg_WOrd s h1, cg_WVal s h2, cg_WStk s h3, ?_, fun k hk => ?_, fun f hf hp => ?_, fun f hf hp j hj => ?_, fun k hk => ?_, ?_, ?_, ?_⟩
  · unfold WTxt; rw [h52, s.1 34 (by decide)]; exact h4
  · rw [cg_iF s]; exact h5 k hk
  · rw [cg_iF s] at hp; rw [s.1 24 (by decide), s.1 25 (by decide)]; exact h6 f hf hp
  · rw [cg_iF s] at hp; rw [cg_iT s, s.1 27 (by decide)]; exact h7 f hf hp j hj
  · rw [s.1 28 (by decide)]; exact h8 k hk
  · unfold RStk; rw [cg_mn s, s.1 29 (by decide), s.1 30 (by decide), s.1 31 (by decide), s.1 32 (by decide), s.1 33 (by decide)]; exact h9
  · unfold RTxt; rw [h52, et, s.1 34 (by decide)]; exact h10
  · unfold WTg; rw [cg_iT s, s.1 27 (by decide)]; exact h11
theorem De.onD {c m m' : Sx} (h : De c m) (s : SameD m m') : De c m' := by
  obtain ⟨h1, h2, h3⟩ := h
  refine ⟨?_, ?_, ?_⟩
  · unfold DVal; rw [cg_iF s, cg_vOr s, cg_tgs s]; exact h1
  · unfold DKee; rw [cg_KP s, cg_iF s, cg_grp s]; exact h2
  · unfold DCov; rw [cg_mn s, cg_cov s]; exact h3
/-- the same numbers, but the members as they were -/
def mixM (m m' : Sx) : Sx := (m'.1, m'.2.1, m'.2.2.1, m.2.2.2)
theorem mix_bst (m m' : Sx) : ∀ k s, bst (mixM m m') s k = bst m' s k
  | 0, _ => rfl
  | k + 1, s => by rw [bst, bst, mix_bst m m' k s]; rfl
theorem mix_cov (m m' : Sx) : cov (mixM m m') = cov m' := by funext s; unfold cov; rw [mix_bst]; rfl
theorem Ba.onM {c m m' : Sx} (h : Ba c m) (s : ∀ a, a < 40 → gA m' a = gA m a) (h52 : gI m' 52 = gI m 52) : Ba c m' :=
  (show Ba c (mixM m m') from h.onD ⟨s, rfl⟩ h52)
theorem De.onM {c m m' : Sx} (h : De c m) (s : ∀ a, a < 40 → gA m' a = gA m a) : De c m' := by
  have g : De c (mixM m m') := h.onD ⟨s, rfl⟩
  refine ⟨g.1, g.2.1, ?_⟩
  have := g.2.2
  unfold DCov at this
  rw [mix_cov] at this
  exact this
end
section
/-! ===== the albums' relation, and settling ===== -/
def AlW (c m : Sx) (a : Nat) (ch : Nat → Nat) (n : Nat) : Prop := Tx c a ch n ∧ gA m 36 a = nI n ∧ (∀ k, k < n → gA m 37 (80 * a + k) = nI (ch k)) ∧ Rul ch n ∧ ∀ p, p < n → ch p = 97 → ch (p + 1) - 48 < a ∧ iA m (ch (p + 1) - 48) = true
def AlD (c m : Sx) (a : Nat) : Prop := gL c (100 + a) = gM m 2 a ∧ (∃ fld, fld < 5 ∧ gI c (110 + a) = nI fld ∧ gA m 38 a = nI fld) ∧ gI c (120 + a) = b2 (decide (gA m 39 a ≠ 0)) ∧ gI c (130 + a) = gA m 40 (2 * a + 1) ∧ gI c (140 + a) = gA m 40 (2 * a)
def RAl (c m : Sx) : Prop := ∀ a, a < 8 → gI c (100 + a) = b2 (iA m a) ∧ (iA m a = true → (∃ ch n, AlW c m a ch n) ∧ AlD c m a)
/-- the members of an album are the files that satisfy its rule -/
def DMa (m : Sx) (a : Nat) : Prop := ∃ ch n, okc ch n ∧ n ≤ 80 ∧ gA m 36 a = nI n ∧ (∀ k, k < n → gA m 37 (80 * a + k) = nI (ch k)) ∧ (∀ p, p < n → ch p = 97 → ch (p + 1) - 48 < a) ∧ ∀ f, f < 64 → hb (gM m 2 a) f = ((decide (f < 40) && iF m f) && sat m ch n f)
def Mp (m : Sx) (k : Nat) : Prop := ∀ a, a < k → iA m a = true → DMa m a
theorem ce_sat {m y : Sx} (h : SameG m y) {ch : Nat → Nat} {n f : Nat} (hM : ∀ p, p < n → ch p = 97 → gM y 2 (ch (p + 1) - 48) = gM m 2 (ch (p + 1) - 48)) : sat y ch n f = sat m ch n f := by
  unfold sat eVal
  rw [eRun_cong (fun p hp => ce_cnd h (hM p hp))]
theorem DMa.on {m y : Sx} {a : Nat} (h : DMa m a) (s : SameG m y) (e36 : gA y 36 a = gA m 36 a) (e37 : gA y 37 = gA m 37) (eM : ∀ b, b ≤ a → gM y 2 b = gM m 2 b) : DMa y a := by
  obtain ⟨ch, n, h1, h2, h3, h4, h5, h6⟩ := h
  refine ⟨ch, n, h1, h2, e36.trans h3, fun k hk => by rw [e37]; exact h4 k hk, h5, fun f hf => ?_⟩
  rw [eM a (Nat.le_refl _), h6 f hf, ce_iF s, ce_sat s (fun p hp e => eM _ (by have := h5 p hp e; omega))]
theorem Mp.out {m : Sx} {k : Nat} (h : Mp m k) : ∀ a, a < k → iA m a = true → ∀ f, f < 64 → hb (gM m 2 a) f = true → f < 40 ∧ iF m f = true := fun a ha hA f hf w => by
  obtain ⟨ch, n, -, -, -, -, -, h6⟩ := h a ha hA
  rw [h6 f hf] at w
  have := (Bool.and_eq_true _ _).mp ((Bool.and_eq_true _ _).mp w).1
  exact ⟨of_decide_eq_true this.1, this.2⟩
def alm (m : Sx) (x : Int32) : Bool := inr x 0 7 && iA m (ix x)
theorem alm_nI {m : Sx} {a : Nat} (ha : a < 8) : alm m (nI a) = iA m a := by
  unfold alm
  rw [show (7 : Int32) = nI 7 from rfl, inr_nI (by omega) (by decide), decide_eq_true (by omega), ix_nI (by omega), Bool.true_and]
theorem alm_out {m : Sx} {x : Int32} (h : alm m x = true) : ∃ a, a < 8 ∧ x = nI a ∧ iA m a = true := by
  unfold alm at h
  obtain ⟨h1, h2⟩ := (Bool.and_eq_true _ _).mp h
  obtain ⟨a, ha, rfl⟩ := inr_out (n := 7) (by decide) h1
  rw [ix_nI (by omega)] at h2
  exact ⟨a, by omega, rfl, h2⟩
theorem hasAlbum_eq {c m : Sx} (h : RAl c m) (x : Int32) : f_X8_hasAlbum c x = some (b2 (alm m x)) := by
  unfold f_X8_hasAlbum
  rw [isWithin_eq, Option.bind_some]
  unfold alm
  cases q : inr x 0 7 with
  | false => rw [bF, Bool.false_and]; rfl
  | true =>
    obtain ⟨a, ha, rfl⟩ := inr_out (n := 7) (by decide) q
    rw [bT, Bool.true_and, gd_pos (vin_nI (by omega) (by decide)), ix_nI (by omega)]
    unfold f_X0_exists
    rw [(h a (by omega)).1, gd_pos (gz_b2 _), Option.bind_some]
    cases iA m a <;> rfl
theorem there8_eq (m : Sx) (x : Int32) : f_X9_there8 m x = some (b2 (alm m x)) := by
  unfold f_X9_there8
  rw [in_eq, Option.bind_some]
  unfold alm
  cases q : inr x 0 7 with
  | false => rw [bF, Bool.false_and]; rfl
  | true =>
    obtain ⟨a, ha, rfl⟩ := inr_out (n := 7) (by decide) q
    rw [bT, Bool.true_and, gd_pos (vin_nI (by omega) (by decide)), ix_nI (by omega)]
    unfold iA
    by_cases q : gA m 35 a = 0
    · rw [if_pos q, decide_eq_false (fun w => w q)]; rfl
    · rw [if_neg q, decide_eq_true q]; rfl
theorem RJ.on {c m c' m' : Sx} (h : RJ c m) (e49 : gI c' 49 = gI c 49) (e50 : gI c' 50 = gI c 50) (e53 : gI m' 53 = gI m 53) (e20 : gA c' 20 = gA c 20) (e21 : gA c' 21 = gA c 21) (e22 : gA c' 22 = gA c 22) (e41 : gA m' 41 = gA m 41) : RJ c' m' := by
  unfold RJ
  rw [e49, e50, e53, e20, e21, e22, e41]
  exact h
/-- all but the albums' members settled -/
def Pre (c m : Sx) : Prop := Ba c m ∧ RAl c m ∧ RJ c m
def Inv (c m : Sx) : Prop := Ba c m ∧ De c m ∧ RAl c m ∧ RJ c m ∧ Mp m 8
theorem RMem.of {c m : Sx} (h : RAl c m) : RMem c m := fun a ha hA => ((h a ha).2 hA).2.1
theorem CF.of {c m : Sx} (b : Ba c m) (d : De c m) (h : RAl c m) : CF c m := ⟨b.2.2.2.2.1, d.1, d.2.1, d.2.2, b.2.2.2.2.2.2.2.2.1.2.2.2.2, RMem.of h⟩
theorem AlW.nmd {c m : Sx} {a : Nat} {ch : Nat → Nat} {n : Nat} (ha : a < 8) (h : AlW c m a ch n) : nmd m ch n := fun p hp e => ⟨by have := (h.2.2.2.2 p hp e).1; omega, (h.2.2.2.2 p hp e).2⟩
def SI (c m : Sx) (k : Nat) (y z : Sx) : Prop := Ba y z ∧ De y z ∧ RAl y z ∧ RJ y z ∧ Mp z k ∧ FrM c y ∧ FrC m z ∧ (∀ a, a < 40 → gA z a = gA m a) ∧ gI z 52 = gI m 52
theorem settle_none {c m y z : Sx} {k : Nat} (hk : k < 8) (h : SI c m k y z) (hA : iA z k = false) : SI c m (k + 1) y (pM z 2 k 0) := by
  obtain ⟨h1, h2, h3, h4, h5, h6, h7, h8, h9⟩ := h
  refine ⟨h1.onM (fun a _ => rfl) rfl, h2.onM (fun a _ => rfl), fun a ha => ⟨(h3 a ha).1, fun hA' => ?_⟩, h4.on rfl rfl rfl rfl rfl rfl rfl, fun a ha hA' => ?_, h6, h7.tr ⟨fun _ _ => rfl, fun _ _ => rfl, fun _ => rfl, gM_pM_ne (by decide), gM_pM_ne (by decide), fun w => ⟨fun a ha hA' => ?_, w.2⟩⟩, h8, h9⟩
  · obtain ⟨g1, g2⟩ := (h3 a ha).2 hA'
    have ne : a ≠ k := fun w => by subst w; rw [show iA (pM z 2 a 0) a = iA z a from rfl, hA] at hA'; cases hA'
    refine ⟨g1, ?_, g2.2⟩
    rw [gM_pM_at, if_neg ne]; exact g2.1
  · have ne : a ≠ k := fun w => by subst w; rw [show iA (pM z 2 a 0) a = iA z a from rfl, hA] at hA'; cases hA'
    refine (h5 a (by omega) hA').on (fun _ _ _ => rfl) rfl rfl (fun b hb' => ?_)
    rw [gM_pM_at, if_neg (by omega)]
  · have ne : a ≠ k := fun w => by subst w; rw [show iA (pM z 2 a 0) a = iA z a from rfl, hA] at hA'; cases hA'
    rw [gM_pM_at, if_neg ne]
    exact w.1 a ha hA'
theorem settle_some {c m y z : Sx} {k : Nat} (hk : k < 8) (h : SI c m k y z) (hA : iA z k = true) : ∃ x y1 y2 z1 z3, f_X4_filesFor y k = some (x, y1) ∧ f_X0_become y1 k x (nI k) = some y2 ∧ f_X9_takesAlbum z (nI k) = some z1 ∧ (∀ kont : Int32 → Int64 → Sx → Option Sx, L_X9_settles_27 (nI k) (fun z2 z3 t4 => L_X9_settles_78 (nI k) z2 (fun z7 t8 => kont z7 z2 t8) FU 0 t4) FU 0 0 z1 = kont (nI 40) x z3) ∧ SI c m (k + 1) y2 (pM z3 2 k x) := by
  obtain ⟨h1, h2, h3, h4, h5, h6, h7, h8, h9⟩ := h
  obtain ⟨⟨ch, n, hw⟩, hd⟩ := (h3 k hk).2 hA
  obtain ⟨hT, h36, h37, hR, hlow⟩ := hw
  have hN : nmd z ch n := AlW.nmd hk ⟨hT, h36, h37, hR, hlow⟩
  have hC := CF.of h1 h2 h3
  obtain ⟨sn, hv, -⟩ := hR.2
  obtain ⟨x, y1, e1, o1, b1⟩ := filesFor_eq (c := y) (P := fun f => decide (f < 40) && iF z f) h1.2.2.2.2.1 hT hv (fun f p => cnd z ch n f p) (fun p hp hl y' hy' => condition_eq h1.1 h1.2.1 h1.2.2.1 (hC.on hy') (hT.on hy') hR hN hp hl)
  obtain ⟨z1, e2, o2, hX⟩ := takesAlbum_eq (m := z) hk hT.1 h36 h37 hR.1
  have s1 : SameD z z1 := ⟨fun a ha => o2.1 a (by omega), by rw [o2.2.2.2]⟩
  have hA1 : iA z1 k = true := by rw [cg_iA s1]; exact hA
  obtain ⟨x', z2, e3, o3, b3⟩ := now_eq (cg_WOrd s1 h1.1) (cg_WVal s1 h1.2.1) (cg_WStk s1 h1.2.2.1) hX hR (cg_nmd s1 hN) hk hA1
  have hx : x' = x := hb_ext fun f hf => by rw [b3 f hf, b1 f hf, cg_iF s1, cg_sat s1]; rfl
  subst hx
  have s2 : SameD z z2 := ⟨fun a ha => (o3.sd.1 a ha).trans (s1.1 a ha), o3.sd.2.trans s1.2⟩
  have r40 : gA z2 40 = gA z 40 := by rw [o3.1 40 (by decide) (by decide) (by decide), o2.1 40 (by decide)]
  have r41 : gA z2 41 = gA z 41 := by rw [o3.1 41 (by decide) (by decide) (by decide), o2.1 41 (by decide)]
  have hJ : RJ y1 z2 := h4.on (o1.2.1 49 (by decide)) (o1.2.1 50 (by decide)) (by rw [o3.2.1 53 (by decide), o2.2.1 53 (by decide)]) (o1.1 20 (by decide)) (o1.1 21 (by decide)) (o1.1 22 (by decide)) r41
  obtain ⟨y2, z3, e4, e5, hJ2, oB, oN, gx, g130, g140, gmv⟩ := become_pair (c := y1) (m := z2) (a := k) (x := x') hk (by rw [cg_iA s2]; exact hA) hJ (by rw [o1.2.2.1, s2.2]; exact hd.1) (by rw [o1.2.1 _ (by omega), r40]; exact hd.2.2.2.1) (by rw [o1.2.1 _ (by omega), r40]; exact hd.2.2.2.2)
  refine ⟨x', y1, y2, z1, z3, e1, e4, e2, fun kont => by rw [e3, e5], ?_⟩
  -- what has changed
  have cA : ∀ i, i ≠ 19 → i ≠ 20 → i ≠ 21 → i ≠ 22 → gA y2 i = gA y i := fun i q1 q2 q3 q4 => by rw [oB.2.2.2 i q2 q3 q4, o1.1 i q1]
  have cI : ∀ i, i ≠ 49 → i ≠ 50 → i ≠ 51 → i ≠ 130 + k → i ≠ 140 + k → gI y2 i = gI y i := fun i q1 q2 q3 q4 q5 => by rw [oB.1 i q1 q2 q4 q5, o1.2.1 i q3]
  have cL : ∀ i, i ≠ 100 + k → gL y2 i = gL y i := fun i q => by rw [oB.2.1 i q, o1.2.2.1]
  have mA : ∀ i, i ≠ 40 → i ≠ 41 → i ≠ 42 → i ≠ 43 → i ≠ 44 → i ≠ 45 → gA z3 i = gA z i := fun i q1 q2 q3 q4 q5 q6 => by rw [oN.2.2.2.1 i q1 q2, o3.1 i q3 q4 q5, o2.1 i q6]
  have mI : ∀ i, i ≠ 53 → i ≠ 54 → i ≠ 55 → gI z3 i = gI z i := fun i q1 q2 q3 => by rw [oN.1 i q1, o3.2.1 i q2, o2.2.1 i q3]
  have mM : gM z3 = gM z := by rw [oN.2.2.1, o3.2.2.2, o2.2.2.2]
  have mL : gL z3 = gL z := by rw [oN.2.1, o3.2.2.1, o2.2.2.1]
  have m40 : ∀ i, i ≠ 2 * k → i ≠ 2 * k + 1 → gA z3 40 i = gA z 40 i := fun i q1 q2 => by rw [oN.2.2.2.2 i q1 q2, r40]
  have sA : ∀ a, a < 40 → gA (pM z3 2 k x') a = gA z a := fun a ha => by rw [gA_pM]; exact mA a (by omega) (by omega) (by omega) (by omega) (by omega) (by omega)
  have s52 : gI (pM z3 2 k x') 52 = gI z 52 := by rw [gI_pM]; exact mI 52 (by decide) (by decide) (by decide)
  have iAe : iA (pM z3 2 k x') = iA z := by funext a; unfold iA; rw [sA 35 (by decide)]
  have iFe : iF (pM z3 2 k x') = iF z := by funext a; unfold iF; rw [sA 23 (by decide)]
  refine ⟨?_, ?_, fun a ha => ⟨?_, fun hA' => ⟨?_, ?_⟩⟩, ?_, fun a ha hA' => ?_, ?_, ?_, ?_, ?_⟩
  · exact (h1.onC (fun a ha _ => cA a (by omega) (by omega) (by omega) (by omega)) (cA 108 (by decide) (by decide) (by decide) (by decide)) (cL 8 (by omega)) (cL 11 (by omega)) (cI 158 (by decide) (by decide) (by decide) (by omega) (by omega))).onM sA s52
  · exact (h2.onC (cA 12 (by decide) (by decide) (by decide) (by decide)) (fun i hi => cL i (by omega))).onM sA
  · rw [iAe, cI _ (by omega) (by omega) (by omega) (by omega) (by omega)]; exact (h3 a ha).1
  · rw [iAe] at hA'
    obtain ⟨⟨ch', n', w1, w2, w3, w4, w5⟩, -⟩ := (h3 a ha).2 hA'
    refine ⟨ch', n', ⟨w1.1, ?_, fun i hi => ?_, w1.2.2.2⟩, ?_, fun i hi => ?_, w4, fun p hp e => ?_⟩
    · rw [cI _ (by omega) (by omega) (by omega) (by omega) (by omega)]; exact w1.2.1
    · rw [cA _ (by omega) (by omega) (by omega) (by omega)]; exact w1.2.2.1 i hi
    · rw [sA 36 (by decide)]; exact w2
    · rw [sA 37 (by decide)]; exact w3 i hi
    · rw [iAe]; exact w5 p hp e
  · rw [iAe] at hA'
    obtain ⟨-, d1, ⟨fld, d2, d3, d4⟩, d5, d6, d7⟩ := (h3 a ha).2 hA'
    by_cases q : a = k
    · subst q
      refine ⟨?_, ⟨fld, d2, ?_, ?_⟩, ?_, ?_, ?_⟩
      · rw [gM_pM_at, if_pos rfl, gx]
      · rw [cI _ (by omega) (by omega) (by omega) (by omega) (by omega)]; exact d3
      · rw [sA 38 (by decide)]; exact d4
      · rw [cI _ (by omega) (by omega) (by omega) (by omega) (by omega), sA 39 (by decide)]; exact d5
      · rw [gA_pM]; exact g130
      · rw [gA_pM]; exact g140
    · refine ⟨?_, ⟨fld, d2, ?_, ?_⟩, ?_, ?_, ?_⟩
      · rw [gM_pM_at, if_neg q, cL _ (by omega), mM]; exact d1
      · rw [cI _ (by omega) (by omega) (by omega) (by omega) (by omega)]; exact d3
      · rw [sA 38 (by decide)]; exact d4
      · rw [cI _ (by omega) (by omega) (by omega) (by omega) (by omega), sA 39 (by decide)]; exact d5
      · rw [gA_pM, cI _ (by omega) (by omega) (by omega) (by omega) (by omega), m40 _ (by omega) (by omega)]; exact d6
      · rw [gA_pM, cI _ (by omega) (by omega) (by omega) (by omega) (by omega), m40 _ (by omega) (by omega)]; exact d7
  · exact hJ2.on rfl rfl rfl rfl rfl rfl rfl
  · rw [iAe] at hA'
    by_cases q : a = k
    · subst q
      refine ⟨ch, n, hT.2.2.2, hT.1, by rw [sA 36 (by decide)]; exact h36, fun i hi => by rw [sA 37 (by decide)]; exact h37 i hi, fun p hp e => (hlow p hp e).1, fun f hf => ?_⟩
      rw [gM_pM_at, if_pos rfl, b1 f hf, iFe, ce_sat (m := z) (fun i _ hi => sA i (by omega)) (fun p hp e => ?_)]
      · rfl
      · have := (hlow p hp e).1
        rw [gM_pM_at, if_neg (by omega), mM]
    · refine (h5 a (by omega) hA').on (fun i _ hi => sA i (by omega)) (by rw [sA 36 (by decide)]) (sA 37 (by decide)) (fun b hb' => ?_)
      rw [gM_pM_at, if_neg (by omega), mM]
  · exact h6.tr ⟨fun i q1 q2 => cA i (by omega) (by omega) (by omega) (by omega), fun i q1 q2 => cI i (by omega) (by omega) (by omega) (by omega) (by omega), by rw [oB.2.2.1, o1.2.2.2 2 (by decide)]⟩
  · refine h7.tr ⟨fun i q => by rw [gA_pM]; exact mA i (by omega) (by omega) (by omega) (by omega) (by omega) (by omega), fun i q => by rw [gI_pM]; exact mI i (by omega) (by omega) (by omega), fun i => by show gL z3 i = _; rw [mL], by rw [gM_pM_ne (by decide), mM], by rw [gM_pM_ne (by decide), mM], fun w => ⟨fun a ha hA' => ?_, ?_, ?_⟩⟩
    · rw [iAe] at hA'
      rw [gA_pM, gM_pM_at]
      by_cases q : a = k
      · subst q
        rw [if_pos rfl, gmv, r40, s2.2, w.1 a ha hA']
        grind
      · rw [if_neg q, m40 _ (by omega) (by omega), m40 _ (by omega) (by omega), mM]
        exact w.1 a ha hA'
    · unfold Dg; rw [sA 24 (by decide)]; exact w.2.1
    · unfold Op; rw [sA 28 (by decide)]; exact w.2.2
  · intro a ha; rw [sA a ha]; exact h8 a ha
  · rw [s52]; exact h9
/-- what is sure of a state that has been settled -/
def St (m m' : Sx) : Prop := (∀ a, a < 40 → gA m' a = gA m a) ∧ gI m' 52 = gI m 52
theorem settle_pair {c m : Sx} (h : Pre c m) : ∃ c' m', f_X8_settle c = some c' ∧ f_X9_settles m = some m' ∧ Inv c' m' ∧ FrM c c' ∧ FrC m m' ∧ St m m' := by
  obtain ⟨hB, hA, hJ⟩ := h
  obtain ⟨w1, w2, w3, w4, r1, r2, r3, r4, r5, r6, -⟩ := id hB
  unfold f_X8_settle f_X9_settles
  obtain ⟨c1, e1, o1, dV⟩ := settleValues_eq w1 w2 r1 r4 r3
  have b1 : Ba c1 m := hB.onC (fun a ha hn => o1.1 a hn) (o1.1 108 (by decide)) (by rw [o1.2.2.1]) (by rw [o1.2.2.1]) (by rw [o1.2.1])
  obtain ⟨c2, e2, o2, dK⟩ := regroup_eq w1 w2 b1.2.2.2.2.1 b1.2.2.2.2.2.1 dV
  have b2' : Ba c2 m := b1.onC (fun a ha hn => by rw [o2.1]) (by rw [o2.1]) (o2.2.2.2 8 (by decide) (by decide)) (o2.2.2.2 11 (by decide) (by decide)) (by rw [o2.2.1])
  have dV2 : DVal c2 m := fun f hf hp => by rw [o2.1]; exact dV f hf hp
  obtain ⟨c3, e3, o3, dC⟩ := findCovers_eq w1 w2 w3 b2'.2.2.2.2.2.2.2.2.1 dV2
  have b3 : Ba c3 m := b2'.onC (fun a ha hn => by rw [o3.1]) (by rw [o3.1]) (o3.2.2.2 8 (by decide)) (o3.2.2.2 11 (by decide)) (by rw [o3.2.1])
  have d3 : De c3 m := ⟨fun f hf hp => by rw [o3.1]; exact dV2 f hf hp, fun k hk => by rw [o3.2.2.2 9 (by decide), o3.2.2.2 10 (by decide)]; exact dK k hk, dC⟩
  have cA : ∀ i, i ≠ 12 → gA c3 i = gA c i := fun i hi => by rw [o3.1, o2.1, o1.1 i hi]
  have cI : gI c3 = gI c := by rw [o3.2.1, o2.2.1, o1.2.1]
  have cM : gM c3 = gM c := by rw [o3.2.2.1, o2.2.2.1, o1.2.2.2]
  have cL : ∀ i, i ≠ 9 → i ≠ 10 → i ≠ 12 → gL c3 i = gL c i := fun i q1 q2 q3 => by rw [o3.2.2.2 i q3, o2.2.2.2 i q1 q2, o1.2.2.1]
  have a3 : RAl c3 m := fun a ha => by
    obtain ⟨g1, g2⟩ := hA a ha
    refine ⟨by rw [cI]; exact g1, fun hA' => ?_⟩
    obtain ⟨⟨ch, n, u1, u2⟩, d1, d2, d3, d4, d5⟩ := g2 hA'
    exact ⟨⟨ch, n, ⟨u1.1, by rw [cI]; exact u1.2.1, fun k hk => by rw [cA _ (by omega)]; exact u1.2.2.1 k hk, u1.2.2.2⟩, u2⟩, by rw [cL _ (by omega) (by omega) (by omega)]; exact d1, by rw [cI]; exact d2, by rw [cI]; exact d3, by rw [cI]; exact d4, by rw [cI]; exact d5⟩
  have j3 : RJ c3 m := hJ.on (by rw [cI]) (by rw [cI]) rfl (cA 20 (by decide)) (cA 21 (by decide)) (cA 22 (by decide)) rfl
  have f3 : FrM c c3 := ⟨fun i q1 q2 => cA i (by omega), fun i _ _ => by rw [cI], by rw [cM]⟩
  rw [e1, Option.bind_some, e2, Option.bind_some, e3, Option.bind_some]
  obtain ⟨y, z, hS, p1, p2⟩ := loop02 (L1 := fun n i s => L_X8_settle_23 (fun z10 t11 => some t11) n i s) (E1 := fun s => some s) (L2 := fun n i s => L_X9_settles_2 (fun z17 t18 => some t18) n i s) (E2 := fun s => some s) (N := 8) (by decide) (y := c3) (z := m)
    (fun k y z => SI c m k y z)
    (fun n y z _ => by
      show L_X8_settle_23 _ _ _ _ = _
      rw [L_X8_settle_23, if_pos (by decide)])
    (fun n y z _ => by
      show L_X9_settles_2 _ _ _ _ = _
      rw [L_X9_settles_2, if_pos (by decide)])
    (fun k y z hk hS => by
      have l1 : ∀ n, L_X8_settle_23 (fun z10 t11 => some t11) (n + 1) (nI k) y = if b2 (iA z k) = 0 then L_X8_settle_23 (fun z10 t11 => some t11) n (nI (k + 1)) y else (f_X4_filesFor y k).bind fun r7 => (f_X0_become r7.2 k r7.1 (nI k)).bind fun r9 => L_X8_settle_23 (fun z10 t11 => some t11) n (nI (k + 1)) r9 := fun n => by
        rw [L_X8_settle_23, if_neg (ngo (x := 8) (N := 8) rfl hk (by decide)), hasAlbum_eq hS.2.2.1, alm_nI hk, Option.bind_some, gd_pos (vin_nI hk (by decide)), ix_nI (by omega), nI_lit1]
        simp only [gd_pos (vin_nI hk (by decide : 8 < 2 ^ 31))]
      cases hA' : iA z k with
      | false =>
        have q : gA z 35 k = 0 := by simpa [iA] using hA'
        refine ⟨y, pM z 2 k 0, settle_none hk hS hA', fun n => ?_, fun n => ?_⟩
        · show L_X8_settle_23 _ _ _ _ = _
          rw [l1, hA', if_pos b2_f]
        · show L_X9_settles_2 _ _ _ _ = _
          rw [L_X9_settles_2, if_neg (ngo (x := 8) (N := 8) rfl hk (by decide)), gd_pos (vin_nI hk (by decide)), ix_nI (by omega), if_pos q, now_none hk hA', notes_none hk hA', gd_pos (vin_nI hk (by decide)), bd_eq, nI_lit1]
      | true =>
        have q : ¬ gA z 35 k = 0 := by simpa [iA] using hA'
        obtain ⟨x, y1, y2, z1, z3, g1, g2, g3, g4, g5⟩ := settle_some hk hS hA'
        refine ⟨y2, pM z3 2 k x, g5, fun n => ?_, fun n => ?_⟩
        · show L_X8_settle_23 _ _ _ _ = _
          rw [l1, hA', if_neg (by decide), g1, Option.bind_some, g2, Option.bind_some]
        · show L_X9_settles_2 _ _ _ _ = _
          rw [L_X9_settles_2, if_neg (ngo (x := 8) (N := 8) rfl hk (by decide)), gd_pos (vin_nI hk (by decide)), ix_nI (by omega), if_neg q, g3, Option.bind_some, nI_lit1]
          simp only [gd_pos (vin_nI hk (by decide : 8 < 2 ^ 31)), bd_eq]
          exact g4 (fun _ z2 t8 => L_X9_settles_2 (fun z17 t18 => some t18) n (nI (k + 1)) (pM t8 2 k z2)))
    ⟨b3, d3, a3, j3, fun a ha => absurd ha (by omega), f3, FrC.rf m, fun _ _ => rfl, rfl⟩
  exact ⟨y, z, p1, p2, ⟨hS.1, hS.2.1, hS.2.2.1, hS.2.2.2.1, hS.2.2.2.2.1⟩, hS.2.2.2.2.2.1, hS.2.2.2.2.2.2.1, hS.2.2.2.2.2.2.2⟩
end
section
/-! ===== calls that only ask ===== -/
section BA
variable {c m : Sx}
theorem Ba.wO (h : Ba c m) : WOrd m := h.1
theorem Ba.wV (h : Ba c m) : WVal m := h.2.1
theorem Ba.wS (h : Ba c m) : WStk m := h.2.2.1
theorem Ba.wT (h : Ba c m) : WTxt m := h.2.2.2.1
theorem Ba.rP (h : Ba c m) : RPres c m := h.2.2.2.2.1
theorem Ba.rD (h : Ba c m) : RDig c m := h.2.2.2.2.2.1
theorem Ba.rV (h : Ba c m) : RVal c m := h.2.2.2.2.2.2.1
theorem Ba.rO (h : Ba c m) : ROrd c m := h.2.2.2.2.2.2.2.1
theorem Ba.rS (h : Ba c m) : RStk c m := h.2.2.2.2.2.2.2.2.1
theorem Ba.rT (h : Ba c m) : RTxt c m := h.2.2.2.2.2.2.2.2.2.1
theorem Ba.wG (h : Ba c m) : WTg m := h.2.2.2.2.2.2.2.2.2.2
theorem hasC (h : Ba c m) (x : Int32) : f_X1_has c x = some (b2 (fil (iF m) x)) := by rw [has_eq, fil_pres h.rP]
end BA
def Ask (F G : Sx → Option Int32) : Prop := ∀ c m, Inv c m → ∃ r, F c = some r ∧ G m = some r
/-- a loop that counts -/
theorem cnt0 {Rt : Type} {L : Nat → Int32 → Int32 → Rt} {E : Int32 → Rt} {p : Nat → Bool} {N : Nat} (hN : N < 2000) (hexit : ∀ n s, L (n + 1) (nI N) s = E s)
    (hstep : ∀ n k s, k < N → L (n + 1) (nI k) s = L n (nI (k + 1)) (if p k = true then s + 1 else s)) : L FU 0 0 = E (nI (fb_ct p N)) := by
  obtain ⟨s, hs, e⟩ := loop0G (L := L) (E := E) hN (y := (0 : Int32)) (fun k s => s = nI (fb_ct p k)) (fun n y _ => hexit n y) (fun k s hk h => by
    refine ⟨if p k = true then s + 1 else s, ?_, fun n => hstep n k s hk⟩
    rw [h, fb_ct_succ]
    cases p k with
    | true => rw [if_pos rfl, if_pos rfl, nI_lit1]
    | false => rw [if_neg (by decide), if_neg (by decide)]; rfl) rfl
  rw [e, hs]
/-- a loop that adds up -/
def smR (p : Nat → Bool) (v : Nat → Int32) : Nat → Int32
  | 0 => 0
  | k + 1 => if p k = true then smR p v k + v k else smR p v k
theorem smR_cong {p q : Nat → Bool} {v w : Nat → Int32} : ∀ {n : Nat}, (∀ k, k < n → p k = q k ∧ (q k = true → v k = w k)) → smR p v n = smR q w n
  | 0, _ => rfl
  | n + 1, h => by
    rw [smR, smR, smR_cong (fun k hk => h k (by omega)), (h n (by omega)).1]
    by_cases q' : q n = true
    · rw [if_pos q', if_pos q', (h n (by omega)).2 q']
    · rw [if_neg q', if_neg q']
theorem sum0 {Rt : Type} {L : Nat → Int32 → Int32 → Rt} {E : Int32 → Rt} {p : Nat → Bool} {v : Nat → Int32} {N : Nat} (hN : N < 2000) (hexit : ∀ n s, L (n + 1) (nI N) s = E s)
    (hstep : ∀ n k s, k < N → L (n + 1) (nI k) s = L n (nI (k + 1)) (if p k = true then s + v k else s)) : L FU 0 0 = E (smR p v N) := by
  obtain ⟨s, hs, e⟩ := loop0G (L := L) (E := E) hN (y := (0 : Int32)) (fun k s => s = smR p v k) (fun n y _ => hexit n y) (fun k s hk h => by
    refine ⟨if p k = true then s + v k else s, ?_, fun n => hstep n k s hk⟩
    rw [h, smR]) rfl
  rw [e, hs]
theorem howMany_eq {c m : Sx} (h : RPres c m) : f_X1_howMany c = some (nI (fb_ct (iF m) 40)) := by
  unfold f_X1_howMany
  rw [bitCount_eq, Option.bind_some, cnt40 h]
theorem fileCountM (m : Sx) : f_X9_fileCount m = some (nI (fb_ct (iF m) 40)) := by
  unfold f_X9_fileCount
  exact cnt0 (L := fun n i s => L_X9_fileCount_4 m (fun z1 z2 => some z1) n s i) (E := fun s => some s) (p := iF m) (N := 40) (by decide) (fun n s => by
    show L_X9_fileCount_4 _ _ _ _ _ = _
    rw [L_X9_fileCount_4, if_pos (by decide)]) (fun n k s hk => by
    show L_X9_fileCount_4 _ _ _ _ _ = L_X9_fileCount_4 _ _ _ _ _
    rw [L_X9_fileCount_4, if_neg (ngo (x := 40) (N := 40) rfl hk (by decide)), gd_pos (vin_nI hk (by decide)), ix_nI (by omega), nI_lit1]
    cases q : iF m k with
    | false => rw [if_pos (iF_dec.mpr q), if_neg (by decide), Int32.add_zero]
    | true => rw [if_neg (fun w => by rw [iF_dec.mp w] at q; cases q), if_pos rfl])
theorem ask_fileCount : Ask (fun t => f_X8_fileCount t) (fun t => f_X9_fileCount t) := fun c m h => by
  refine ⟨nI (fb_ct (iF m) 40), ?_, fileCountM m⟩
  show f_X8_fileCount c = _
  unfold f_X8_fileCount
  rw [howMany_eq h.1.rP, Option.bind_some]
theorem sumOfSizes_eq (c : Sx) (x : Int64) : f_X1_sumOfSizes c x = some (smR (hb x) (gA c 10) 40) := by
  unfold f_X1_sumOfSizes
  exact sum0 (L := fun n i s => L_X1_sumOfSizes_5 c x (fun z2 z3 => some z2) n s i) (E := fun s => some s) (p := hb x) (v := gA c 10) (N := 40) (by decide) (fun n s => by
    show L_X1_sumOfSizes_5 _ _ _ _ _ _ = _
    rw [L_X1_sumOfSizes_5, if_pos (by decide)]) (fun n k s hk => by
    show L_X1_sumOfSizes_5 _ _ _ _ _ _ = L_X1_sumOfSizes_5 _ _ _ _ _ _
    rw [L_X1_sumOfSizes_5, if_neg (ngo (x := 40) (N := 40) rfl hk (by decide)), holds_eq _ _ (by omega), Option.bind_some, nI_lit1]
    cases q : hb x k with
    | false => rw [bF, if_neg (by decide)]
    | true => rw [bT, if_pos rfl, gd_pos (vin_nI hk (by decide)), ix_nI (by omega)])
theorem orNF (c : Sx) (x : Int32) : f_X8_orNotFound c x = some (if x = -1 then -4 else x) := by
  unfold f_X8_orNotFound
  split <;> rfl
theorem nI_not_m1 {n : Nat} (h : n < 2 ^ 31) : (if nI n = -1 then (-4 : Int32) else nI n) = nI n := if_neg (nI_ne_m1 h)
theorem nI_or (a b : Nat) : nI a ||| nI b = nI (a ||| b) := by
  apply Int32.toBitVec_inj.mp
  rw [Int32.toBitVec_or]
  show BitVec.ofNat 32 a ||| BitVec.ofNat 32 b = BitVec.ofNat 32 (a ||| b)
  rw [BitVec.ofNat_or]
theorem tgs_small {m : Sx} (h : WTg m) {f : Nat} (hf : f < 40) : ∃ v, v < 1024 ∧ tgs m f = nI v := by
  have g : ∀ k, k ≤ 3 → ∃ v, v < 2 ^ 10 ∧ tgR m f k = nI v := by
    intro k
    induction k with
    | zero => intro _; exact ⟨0, by decide, rfl⟩
    | succ k ih =>
      intro hk
      obtain ⟨v, hv, e⟩ := ih (by omega)
      rw [tgR, e]
      cases q : iT m (18 * f + 6 * k + 5) with
      | false => exact ⟨v, hv, by rw [if_neg (by decide)]; show nI v ||| nI 0 = nI v; rw [nI_or, Nat.or_zero]⟩
      | true =>
        obtain ⟨w, hw, e2⟩ := h f hf k (by omega) q
        exact ⟨v ||| w, Nat.or_lt_two_pow hv (by omega), by rw [if_pos rfl, e2, nI_or]⟩
  exact g 3 (Nat.le_refl _)
theorem ask_value (a1 a2 : Int32) : Ask (fun t => f_X8_value t a1 a2) (fun t => f_X9_value t a1 a2) := fun c m h => by
  show ∃ r, f_X8_value c a1 a2 = some r ∧ f_X9_value m a1 a2 = some r
  unfold f_X8_value f_X9_value
  rw [hasC h.1, there_eq, Option.bind_some, Option.bind_some]
  cases q : fil (iF m) a1 with
  | false => exact ⟨-1, by rw [bF], by rw [bF]⟩
  | true =>
    obtain ⟨f, hf, rfl, hp⟩ := fil_out q
    rw [bT, bT, isWithin_eq, in_eq, Option.bind_some, Option.bind_some]
    cases q2 : inr a2 0 7 with
    | false => exact ⟨-1, by rw [bF], by rw [bF]⟩
    | true =>
      obtain ⟨k, hk, rfl⟩ := inr_out (n := 7) (by decide) q2
      rw [bT, bT]
      obtain ⟨d1, d2⟩ := h.1.rD f hf hp
      obtain ⟨v1, v2⟩ := h.2.1.1 f hf hp
      rcases (show k < 5 ∨ k = 5 ∨ k = 6 ∨ k = 7 by omega) with w | w | w | w
      · rw [if_neg (by rw [show (6 : Int32) = nI 6 from rfl, nI_eq_iff (by omega) (by decide)]; omega), if_neg (by rw [show (7 : Int32) = nI 7 from rfl, nI_eq_iff (by omega) (by decide)]; omega), if_neg (ngo (x := 5) (N := 5) rfl w (by decide)), settledValue_eq c hf (by omega), Option.bind_some, orNF, Option.bind_some, valueOr_eq h.1.wO hf (by omega), Option.bind_some, v1 k w]
        refine ⟨_, rfl, ?_⟩
        rcases vOr_cases h.1.wO h.1.wV hf (show k < 6 by omega) with ⟨_, e⟩ | ⟨v, hv, _, e⟩
        · rw [e, e]; rfl
        · rw [e, e, nI_not_m1 (by omega)]
      · subst w
        rw [if_neg (by decide), if_neg (by decide), if_pos (by decide), if_pos (by decide), settledValue_eq c hf (by omega), Option.bind_some, orNF, Option.bind_some, tags_eq hf, Option.bind_some, v2]
        refine ⟨_, rfl, ?_⟩
        congr 1
        refine (if_neg fun w => ?_).symm
        obtain ⟨v, hv, e⟩ := tgs_small h.1.wG hf
        rw [e] at w
        exact nI_ne_m1 (by omega) w
      · subst w
        rw [if_pos (by decide), if_pos (by decide), if_neg (by decide), if_pos (by decide)]
        unfold f_X1_digest
        rw [gd_pos (vin_nI hf (by decide)), gd_pos (vin_nI hf (by decide)), ix_nI (by omega), d1]
        exact ⟨_, rfl, rfl⟩
      · subst w
        rw [if_neg (by decide), if_pos (by decide), if_pos (by decide), if_neg (by decide), if_neg (by decide)]
        unfold f_X1_bytes
        rw [gd_pos (vin_nI hf (by decide)), gd_pos (vin_nI hf (by decide)), ix_nI (by omega), d2]
        exact ⟨_, rfl, rfl⟩
end
section
/-! ===== more that only ask ===== -/
theorem ask_sourceOf (a1 a2 : Int32) : Ask (fun t => f_X8_sourceOf t a1 a2) (fun t => f_X9_sourceOf t a1 a2) := fun c m h => by
  show ∃ r, f_X8_sourceOf c a1 a2 = some r ∧ f_X9_sourceOf m a1 a2 = some r
  unfold f_X8_sourceOf f_X9_sourceOf
  rw [hasC h.1, there_eq, Option.bind_some, Option.bind_some]
  cases q : fil (iF m) a1 with
  | false => exact ⟨-1, by rw [bF], by rw [bF]⟩
  | true =>
    obtain ⟨f, hf, rfl, hp⟩ := fil_out q
    rw [bT, bT, isWithin_eq, in_eq, Option.bind_some, Option.bind_some]
    cases q2 : inr a2 0 4 with
    | false => exact ⟨-1, by rw [bF], by rw [bF]⟩
    | true =>
      obtain ⟨k, hk, rfl⟩ := inr_out (n := 4) (by decide) q2
      rw [bT, bT, firstTeller_eq h.1.wO h.1.wV h.1.rO h.1.rV hf hp (by omega), source_eq h.1.wO hf (by omega)]
      cases e : src m f k with
      | none => exact ⟨-4, rfl, rfl⟩
      | some j =>
        have hj := (fst?_some e).2.1
        obtain ⟨g1, g2⟩ := wOrd_at h.1.wO (k := j) (by omega)
        refine ⟨nI (od m j), ?_, by show some (gA m 28 j) = _; rw [g1]⟩
        show (f_X8_orNotFound c (gA m 28 j)).bind _ = _
        rw [orNF, g1, nI_not_m1 (by omega)]
        rfl
theorem keeperC {c m : Sx} (h : Ba c m) (d : DVal c m) {f : Nat} (hf : f < 40) (hp : iF m f = true) : ∃ k, f_X2_keeper c (nI f) = some (nI k) ∧ KP m f k := by
  unfold f_X2_keeper
  obtain ⟨x, e, hx⟩ := alike_eq h.rP h.rD hf hp
  obtain ⟨k, e2, hk⟩ := preferred_eq h.wO h.wV d hf hp hx
  exact ⟨k, by rw [e, Option.bind_some, e2]; rfl, hk⟩
theorem ask_keeperOf (a1 : Int32) : Ask (fun t => f_X8_keeperOf t a1) (fun t => f_X9_keeperOf t a1) := fun c m h => by
  show ∃ r, f_X8_keeperOf c a1 = some r ∧ f_X9_keeperOf m a1 = some r
  unfold f_X8_keeperOf f_X9_keeperOf
  rw [hasC h.1, there_eq, Option.bind_some, Option.bind_some]
  cases q : fil (iF m) a1 with
  | false => exact ⟨-1, by rw [bF], by rw [bF]⟩
  | true =>
    obtain ⟨f, hf, rfl, hp⟩ := fil_out q
    obtain ⟨k, e1, k1⟩ := keeperC h.1 h.2.1.1 hf hp
    obtain ⟨j, e2, k2⟩ := keeper_eq h.1.wO h.1.wV hf hp
    obtain rfl := KP_one k1 k2
    rw [bT, bT, e1, e2]
    exact ⟨_, rfl, rfl⟩
theorem ask_groupSize (a1 : Int32) : Ask (fun t => f_X8_groupSize t a1) (fun t => f_X9_groupSize t a1) := fun c m h => by
  show ∃ r, f_X8_groupSize c a1 = some r ∧ f_X9_groupSize m a1 = some r
  unfold f_X8_groupSize f_X9_groupSize
  rw [hasC h.1, there_eq, Option.bind_some, Option.bind_some]
  cases q : fil (iF m) a1 with
  | false => exact ⟨-1, by rw [bF], by rw [bF]⟩
  | true =>
    obtain ⟨f, hf, rfl, hp⟩ := fil_out q
    obtain ⟨x, e1, hx⟩ := alike_eq h.1.rP h.1.rD hf hp
    rw [bT, bT, e1, Option.bind_some, bitCount_eq, cnt40 hx, group_eq hf]
    exact ⟨_, rfl, rfl⟩
theorem kp_iF {m : Sx} {f k : Nat} (h : KP m f k) : iF m k = true := (grp_iff.mp h.2.1).1
theorem ask_wasted : Ask (fun t => f_X8_wasted t) (fun t => f_X9_wasted t) := fun c m h => by
  refine ⟨smR (fun k => iF m k && !pb (KP m k k)) (gA m 25) 40, ?_, ?_⟩
  · show f_X8_wasted c = _
    unfold f_X8_wasted f_X1_all f_X2_keepers
    rw [Option.bind_some, Option.bind_some, sumOfSizes_eq, Option.bind_some]
    refine congrArg some (smR_cong fun k hk => ⟨?_, fun q => ?_⟩)
    · rw [hb_and, hb_not _ (by omega), h.1.rP k (by omega), decide_eq_true hk, Bool.true_and, pb_eq (h.2.1.2.1 k (by omega)).1]
    · exact (h.1.rD k hk ((Bool.and_eq_true _ _).mp q).1).2
  · show f_X9_wasted m = _
    unfold f_X9_wasted
    exact sum0 (L := fun n i s => L_X9_wasted_4 m (fun z2 z3 => some z2) n s i) (E := fun s => some s) (p := fun k => iF m k && !pb (KP m k k)) (v := gA m 25) (N := 40) (by decide) (fun n s => by
      show L_X9_wasted_4 _ _ _ _ _ = _
      rw [L_X9_wasted_4, if_pos (by decide)]) (fun n k s hk => by
      show L_X9_wasted_4 _ _ _ _ _ = L_X9_wasted_4 _ _ _ _ _
      rw [L_X9_wasted_4, if_neg (ngo (x := 40) (N := 40) rfl hk (by decide)), gd_pos (vin_nI hk (by decide)), ix_nI (by omega), nI_lit1]
      cases q : iF m k with
      | false => rw [if_pos (iF_dec.mpr q), Int32.add_zero]; rfl
      | true =>
        rw [if_neg (fun w => by rw [iF_dec.mp w] at q; cases q)]
        obtain ⟨j, e, hj⟩ := keeper_eq h.1.wO h.1.wV hk q
        rw [e, Option.bind_some, Int32.add_zero]
        by_cases w : j = k
        · subst w
          rw [if_pos rfl, pb_iff.mpr hj]; rfl
        · have : pb (KP m k k) = false := by
            cases z : pb (KP m k k) with
            | false => rfl
            | true => exact absurd (KP_one hj (pb_iff.mp z)) w
          rw [if_neg (by rw [nI_eq_iff (by have := hj.1; omega) (by omega)]; exact w), gd_pos (vin_nI hk (by decide)), this]; rfl)
theorem wStk_home {m : Sx} (h : WStk m) {f : Nat} (hf : f < 40) : gA m 29 f = -1 ∨ ∃ s, s < 10 ∧ gA m 29 f = nI s ∧ 0 < mn m s ∧ iF m f = true := by
  rcases h.1 f hf with q | ⟨s, hs, e, hp, k, hk, _⟩
  · exact Or.inl q
  · exact Or.inr ⟨s, hs, e, by omega, hp⟩
theorem ask_stackOf (a1 : Int32) : Ask (fun t => f_X8_stackOf t a1) (fun t => f_X9_stackOf t a1) := fun c m h => by
  show ∃ r, f_X8_stackOf c a1 = some r ∧ f_X9_stackOf m a1 = some r
  unfold f_X8_stackOf f_X9_stackOf f_X6_home
  rw [hasC h.1, there_eq, Option.bind_some, Option.bind_some]
  cases q : fil (iF m) a1 with
  | false => exact ⟨-1, by rw [bF], by rw [bF]⟩
  | true =>
    obtain ⟨f, hf, rfl, hp⟩ := fil_out q
    have g := vin_nI (n := f) (N := 40) hf (by decide)
    rw [bT, bT, gd_pos g, gd_pos g, ix_nI (by omega), Option.bind_some, h.1.rS.1 f hf, orNF]
    rcases wStk_home h.1.wS hf with e | ⟨s, hs, e, -, -⟩
    · rw [e]; exact ⟨-4, rfl, rfl⟩
    · rw [e, nI_not_m1 (by omega), if_pos (nI_pos' (by omega)), gd_pos g]
      exact ⟨_, rfl, rfl⟩
theorem ask_coverOf (a1 : Int32) : Ask (fun t => f_X8_coverOf t a1) (fun t => f_X9_coverOf t a1) := fun c m h => by
  show ∃ r, f_X8_coverOf c a1 = some r ∧ f_X9_coverOf m a1 = some r
  unfold f_X8_coverOf f_X9_coverOf
  rw [hasS_eq h.1.wS h.1.rS, isStack_eq h.1.wS, Option.bind_some, Option.bind_some]
  cases q : stn m a1 with
  | false => exact ⟨-1, by rw [bF], by rw [bF]⟩
  | true =>
    obtain ⟨s, hs, rfl, hn⟩ := stn_out q
    rw [bT, bT, cover_eq h.1.wO h.1.wV h.1.wS hs hn, coverC_eq h.1.wO h.1.wV h.1.wS h.1.rS h.2.1.1 hs hn]
    exact ⟨_, rfl, rfl⟩
theorem ask_stackAt (a1 a2 : Int32) : Ask (fun t => f_X8_stackAt t a1 a2) (fun t => f_X9_stackAt t a1 a2) := fun c m h => by
  show ∃ r, f_X8_stackAt c a1 a2 = some r ∧ f_X9_stackAt m a1 a2 = some r
  unfold f_X8_stackAt f_X9_stackAt f_X6_fileAt
  rw [hasS_eq h.1.wS h.1.rS, isStack_eq h.1.wS, Option.bind_some, Option.bind_some]
  cases q : stn m a1 with
  | false => exact ⟨-1, by rw [bF], by rw [bF]⟩
  | true =>
    obtain ⟨s, hs, rfl, hn⟩ := stn_out q
    obtain ⟨en, h8, -⟩ := wStk_mn h.1.wS hs
    have g := vin_nI (n := s) (N := 10) hs (by decide)
    rw [bT, bT]
    by_cases w : 0 ≤ a2
    · rw [if_pos w, if_pos w, gd_pos g, gd_pos g, ix_nI (by omega), h.1.rS.2.1 s hs, en]
      by_cases w2 : nI (mn m s) ≤ a2
      · rw [if_pos w2, if_pos w2]; exact ⟨-4, rfl, rfl⟩
      · have w3 : a2 ≤ nI (mn m s) := by rw [i_le] at w2 ⊢; omega
        obtain ⟨k, hk, rfl⟩ := nI_frm w w3 (by omega)
        rw [nI_le_iff (by omega) (by omega)] at w2
        have hk' : k < mn m s := by omega
        have g2 : vp_in (nI (8 * s + k)) 80 := vin_nI (by omega) (by decide)
        rw [if_neg (by rw [nI_le_iff (by omega) (by omega)]; omega), if_neg (by rw [nI_le_iff (by omega) (by omega)]; omega), spot_eq, Option.bind_some, i8, gd_pos g2, gd_pos g2, ix_nI (by omega), h.1.rS.2.2.1 s hs k hk', Option.bind_some, orNF]
        obtain ⟨e, hl, -⟩ := wStk_fl h.1.wS hs hk'
        rw [e, nI_not_m1 (by omega)]
        exact ⟨_, rfl, rfl⟩
    · rw [if_neg w, if_neg w]; exact ⟨_, rfl, rfl⟩
theorem ask_fault : Ask (fun t => f_X8_fault t) (fun t => f_X9_fault t) := fun c m h => by
  show ∃ r, f_X8_fault c = some r ∧ f_X9_fault m = some r
  unfold f_X8_fault
  rcases fault_eq h.1.wT with ⟨v, e⟩ | ⟨p, hp, fl1, e⟩
  · rcases faultC_eq h.1.wT h.1.rT with ⟨_, e2⟩ | ⟨p2, _, fl2, e2⟩
    · rw [e, e2, Option.bind_some, orNF]; exact ⟨-4, rfl, rfl⟩
    · exact absurd v (flt_vld fl2)
  · rcases faultC_eq h.1.wT h.1.rT with ⟨v, e2⟩ | ⟨p2, _, fl2, e2⟩
    · exact absurd v (flt_vld fl1)
    · obtain rfl := flt_one fl1 fl2
      rw [e, e2, Option.bind_some, orNF, nI_not_m1 (by omega)]
      exact ⟨_, rfl, rfl⟩
theorem count40_eq (m : Sx) (x : Int64) : f_X9_count40 m x = some (nI (fb_ct (hb x) 40)) := by
  unfold f_X9_count40
  exact cnt0 (L := fun n i s => L_X9_count40_5 m x (fun z1 z2 => some z1) n s i) (E := fun s => some s) (p := hb x) (N := 40) (by decide) (fun n s => by
    show L_X9_count40_5 _ _ _ _ _ _ = _
    rw [L_X9_count40_5, if_pos (by decide)]) (fun n k s hk => by
    show L_X9_count40_5 _ _ _ _ _ _ = L_X9_count40_5 _ _ _ _ _ _
    rw [L_X9_count40_5, if_neg (ngo (x := 40) (N := 40) rfl hk (by decide)), s_bitI _ (by omega), nI_lit1]
    cases q : hb x k with
    | false => rw [if_neg (by decide), b2_f, Int32.add_zero]
    | true => rw [if_pos rfl, b2_t])
theorem memC {c m : Sx} (h : Inv c m) {a : Nat} (ha : a < 8) (hA : iA m a = true) (t : Sx) : f_J13_bitCount_95d88 t (gM m 2 a) = some (nI (fb_ct (hb (gM m 2 a)) 40)) := by
  rw [bitCount_eq, cnt40 (p := hb (gM m 2 a)) (fun k hk => by
    cases q : hb (gM m 2 a) k with
    | false => rw [Bool.and_false]
    | true => rw [decide_eq_true (Mp.out h.2.2.2.2 a ha hA k hk q).1]; rfl)]
theorem ask_albumSize (a1 : Int32) : Ask (fun t => f_X8_albumSize t a1) (fun t => f_X9_albumSize t a1) := fun c m h => by
  show ∃ r, f_X8_albumSize c a1 = some r ∧ f_X9_albumSize m a1 = some r
  unfold f_X8_albumSize f_X9_albumSize f_X0_members
  rw [hasAlbum_eq h.2.2.1, there8_eq]
  simp only [Option.bind_some]
  cases q : alm m a1 with
  | false => exact ⟨-1, by rw [bF], by rw [bF]⟩
  | true =>
    obtain ⟨a, ha, rfl, hA⟩ := alm_out q
    have g := vin_nI (n := a) (N := 8) ha (by decide)
    rw [bT, bT, gd_pos g, gd_pos g, ix_nI (by omega), RMem.of h.2.2.1 a ha hA, memC h ha hA, count40_eq]
    exact ⟨_, rfl, rfl⟩
theorem ask_isIn (a1 a2 : Int32) : Ask (fun t => f_X8_isIn t a1 a2) (fun t => f_X9_isIn t a1 a2) := fun c m h => by
  show ∃ r, f_X8_isIn c a1 a2 = some r ∧ f_X9_isIn m a1 a2 = some r
  unfold f_X8_isIn f_X9_isIn f_X0_members
  rw [hasAlbum_eq h.2.2.1, there8_eq]
  simp only [Option.bind_some]
  cases q : alm m a1 with
  | false => exact ⟨-1, by rw [bF], by rw [bF]⟩
  | true =>
    obtain ⟨a, ha, rfl, hA⟩ := alm_out q
    have g := vin_nI (n := a) (N := 8) ha (by decide)
    rw [bT, bT, hasC h.1, there_eq, Option.bind_some, Option.bind_some]
    cases q2 : fil (iF m) a2 with
    | false => exact ⟨-1, by rw [bF], by rw [bF]⟩
    | true =>
      obtain ⟨f, hf, rfl, hp⟩ := fil_out q2
      rw [bT, bT, gd_pos g, gd_pos g, ix_nI (by omega), holds_eq _ _ (by omega), Option.bind_some, RMem.of h.2.2.1 a ha hA, s_bitI _ (by omega), bd_eq]
      refine ⟨_, ?_, rfl⟩
      cases hb (gM m 2 a) f <;> rfl
theorem ask_journalSize : Ask (fun t => f_X8_journalSize t) (fun t => f_X9_journalSize t) := fun c m h => by
  obtain ⟨e, lt, -, -, e1, e2, -⟩ := h.2.2.2.1
  refine ⟨nI e, ?_, ?_⟩
  · show f_X8_journalSize c = _; unfold f_X8_journalSize f_X3_length; rw [e1]; rfl
  · show f_X9_journalSize m = _; unfold f_X9_journalSize; rw [e2]
theorem row_tab : ∀ lt, lt < 24 → ∀ i, i < 24 → (if 0 ≤ ((nI lt - nI i) ^^^ 24) then some ((nI lt - nI i) - (nI lt - nI i) / 24 * 24) else if ((nI lt - nI i) - (nI lt - nI i) / 24 * 24) = 0 then some ((nI lt - nI i) - (nI lt - nI i) / 24 * 24) else some (((nI lt - nI i) - (nI lt - nI i) / 24 * 24) + 24)) = some (nI (row lt i)) := by decide +kernel
theorem rowC {c : Sx} {lt i : Nat} (hl : lt < 24) (hi : i < 24) (e : gI c 50 = nI lt) : f_X3_row c (nI i) = some (nI (row lt i)) := by
  unfold f_X3_row f_J9_floorMod_7cf53
  rw [gd_pos (by decide), e, row_tab lt hl i hi]
  rfl
theorem row_lt (lt i : Nat) : row lt i < 24 := Nat.mod_lt _ (by decide)
theorem ask_journalAt (a1 a2 : Int32) : Ask (fun t => f_X8_journalAt t a1 a2) (fun t => f_X9_journalAt t a1 a2) := fun c m h => by
  show ∃ r, f_X8_journalAt c a1 a2 = some r ∧ f_X9_journalAt m a1 a2 = some r
  unfold f_X8_journalAt f_X9_journalAt f_X3_length
  obtain ⟨e, lt, he, hl, e1, e2, e3, hr⟩ := h.2.2.2.1
  by_cases w : a1 < 0
  · rw [if_pos w, if_pos w]; exact ⟨_, rfl, rfl⟩
  · rw [if_neg w, if_neg w, isWithin_eq, in_eq, e1, e2]
    simp only [Option.bind_some]
    cases q2 : inr a2 0 2 with
    | false => exact ⟨-1, by rw [bF], by rw [bF]⟩
    | true =>
      obtain ⟨k, hk, rfl⟩ := inr_out (n := 2) (by decide) q2
      rw [bT, bT]
      by_cases w2 : a1 < nI e
      · have w0 : 0 ≤ a1 := by rw [i_le]; rw [i_lt] at w; omega
        have w3 : a1 ≤ nI e := by rw [i_le]; rw [i_lt] at w2; omega
        obtain ⟨i, hi, rfl⟩ := nI_frm w0 w3 (by omega)
        have hie : i < e := by rw [nI_lt_iff (by omega) (by omega)] at w2; exact w2
        have g : vp_in (nI (row lt i)) 24 := vin_nI (row_lt lt i) (by decide)
        have hx : ix (nI (row lt i)) = row lt i := ix_nI (by have := row_lt lt i; omega)
        obtain ⟨r1, r2, r3, r4⟩ := hr i hie
        have ei : (3 * nI i) + nI k = nI (3 * i + k) := by rw [show (3 : Int32) = nI 3 from rfl, nI_mul, nI_add]
        rw [if_pos w2, if_neg (show ¬ nI e ≤ nI i by rw [nI_le_iff (by omega) (by omega)]; omega), ei, gd_pos (vin_nI (by omega) (by decide)), ix_nI (by omega)]
        refine ⟨_, ?_, rfl⟩
        rcases (show k = 0 ∨ k = 1 ∨ k = 2 by omega) with z | z | z
        · subst z
          rw [if_pos (by decide)]
          unfold f_X3_album
          rw [rowC hl (by omega) e3, Option.bind_some, gd_pos g, hx, r1]; rfl
        · subst z
          rw [if_neg (by decide), if_pos (by decide)]
          unfold f_X3_file
          rw [rowC hl (by omega) e3, Option.bind_some, gd_pos g, hx, r2]; rfl
        · subst z
          rw [if_neg (by decide), if_neg (by decide)]
          unfold f_X3_hasJoined
          rw [rowC hl (by omega) e3, Option.bind_some, gd_pos g, hx, r3, gd_pos r4, Option.bind_some]
          rcases r4 with u | u <;> rw [u] <;> rfl
      · rw [if_neg w2, if_pos (by rw [i_le]; rw [i_lt] at w2; omega)]
        exact ⟨_, rfl, rfl⟩
theorem ask_turnover (a1 a2 : Int32) : Ask (fun t => f_X8_turnover t a1 a2) (fun t => f_X9_turnover t a1 a2) := fun c m h => by
  show ∃ r, f_X8_turnover c a1 a2 = some r ∧ f_X9_turnover m a1 a2 = some r
  unfold f_X8_turnover f_X9_turnover f_X0_joined f_X0_left
  rw [hasAlbum_eq h.2.2.1, there8_eq]
  simp only [Option.bind_some]
  cases q : alm m a1 with
  | false => exact ⟨-1, by rw [bF], by rw [bF]⟩
  | true =>
    obtain ⟨a, ha, rfl, hA⟩ := alm_out q
    have g := vin_nI (n := a) (N := 8) ha (by decide)
    rw [bT, bT, isWithin_eq, in_eq, Option.bind_some, Option.bind_some]
    cases q2 : inr a2 0 1 with
    | false => exact ⟨-1, by rw [bF], by rw [bF]⟩
    | true =>
      obtain ⟨k, hk, rfl⟩ := inr_out (n := 1) (by decide) q2
      obtain ⟨-, d1, d2, d3, d4, d5⟩ := (h.2.2.1 a ha).2 hA
      have ei : (2 * nI a) + nI k = nI (2 * a + k) := by rw [show (2 : Int32) = nI 2 from rfl, nI_mul, nI_add]
      rw [bT, bT, ei, gd_pos g, gd_pos g, ix_nI (by omega), d4, d5, gd_pos (vin_nI (by omega) (by decide)), ix_nI (by omega)]
      refine ⟨_, ?_, rfl⟩
      rcases (show k = 0 ∨ k = 1 by omega) with z | z <;> subst z
      · rw [if_neg (by decide)]; rfl
      · rw [if_pos (by decide)]
theorem howManyS_eq {c m : Sx} (h : WStk m) (rS : RStk c m) : f_X6_howMany c = some (nI (fb_ct (isS m) 10)) := by
  unfold f_X6_howMany
  exact cnt0 (L := fun n i s => L_X6_howMany_4 c (fun z2 z3 => some z2) n s i) (E := fun s => some s) (p := isS m) (N := 10) (by decide) (fun n s => by
    show L_X6_howMany_4 _ _ _ _ _ = _
    rw [L_X6_howMany_4, if_pos (by decide)]) (fun n k s hk => by
    show L_X6_howMany_4 _ _ _ _ _ = L_X6_howMany_4 _ _ _ _ _
    rw [L_X6_howMany_4, if_neg (ngo (x := 10) (N := 10) rfl hk (by decide)), hasS_eq h rS, stn_nI hk, Option.bind_some, nI_lit1]
    cases q : isS m k with
    | false => rw [bF, if_neg (by decide)]
    | true => rw [bT, if_pos rfl])
theorem albumCount_eq {c m : Sx} (h : RAl c m) : f_X8_albumCount c = some (nI (fb_ct (iA m) 8)) := by
  unfold f_X8_albumCount
  exact cnt0 (L := fun n i s => L_X8_albumCount_4 c (fun z2 z3 => some z2) n s i) (E := fun s => some s) (p := iA m) (N := 8) (by decide) (fun n s => by
    show L_X8_albumCount_4 _ _ _ _ _ = _
    rw [L_X8_albumCount_4, if_pos (by decide)]) (fun n k s hk => by
    show L_X8_albumCount_4 _ _ _ _ _ = L_X8_albumCount_4 _ _ _ _ _
    rw [L_X8_albumCount_4, if_neg (ngo (x := 8) (N := 8) rfl hk (by decide)), hasAlbum_eq h, alm_nI hk, Option.bind_some, nI_lit1]
    cases q : iA m k with
    | false => rw [bF, if_neg (by decide)]
    | true => rw [bT, if_pos rfl])
theorem ct_cut (p : Nat → Bool) {n : Nat} (hn : n ≤ 40) : fb_ct (fun k => decide (k < n) && p k) 40 = fb_ct p n := by
  have e : 40 = n + (40 - n) := by omega
  rw [e, fb_ct_split]
  rw [fb_ct_cong (p := fun k => decide (k < n) && p k) (q := p) (n := n) (fun k hk => by rw [decide_eq_true hk, Bool.true_and])]
  have z : fb_ct (fun k => decide (n + k < n) && p (n + k)) (40 - n) = 0 := fb_ct_zero.mpr (fun k hk => by rw [decide_eq_false (by omega)]; rfl)
  rw [z, Nat.add_zero]
theorem cntM {m : Sx} {w : Int32} {p : Nat → Bool} (hstep : ∀ n k s, k < 40 → L_X9_count_4 m w (fun z8 z9 => some z8) (n + 1) s (nI k) = L_X9_count_4 m w (fun z8 z9 => some z8) n (if p k = true then s + 1 else s) (nI (k + 1))) : f_X9_count m w = some (nI (fb_ct p 40)) := by
  unfold f_X9_count
  exact cnt0 (L := fun n i s => L_X9_count_4 m w (fun z8 z9 => some z8) n s i) (E := fun s => some s) (p := p) (N := 40) (by decide) (fun n s => by
    show L_X9_count_4 _ _ _ _ _ _ = _
    rw [L_X9_count_4, if_pos (by decide)]) (fun n k s hk => hstep n k s hk)
theorem iF_ne {m : Sx} {k : Nat} (h : iF m k = true) : ¬ gA m 23 k = 0 := fun w => by rw [iF_dec.mp w] at h; cases h
theorem ask_count (a1 : Int32) : Ask (fun t => f_X8_count t a1) (fun t => f_X9_count t a1) := fun c m h => by
  show ∃ r, f_X8_count c a1 = some r ∧ f_X9_count m a1 = some r
  have go : ∀ k, k < 40 → ¬ (40 : Int32) ≤ nI k := fun k hk => ngo (x := 40) (N := 40) rfl hk (by decide)
  have g40 : ∀ k, k < 40 → vp_in (nI k) 40 := fun k hk => vin_nI hk (by decide)
  have x40 : ∀ k, k < 40 → ix (nI k) = k := fun k hk => ix_nI (by omega)
  unfold f_X8_count
  by_cases q0 : a1 = 0
  · subst q0
    rw [if_pos rfl, howManyS_eq h.1.wS h.1.rS, Option.bind_some]
    refine ⟨_, rfl, ?_⟩
    rw [← ct_cut (isS m) (n := 10) (by decide)]
    refine cntM fun n k s hk => ?_
    rw [L_X9_count_4, if_neg (go k hk), if_pos rfl, nI_lit1]
    by_cases w : k < 10
    · obtain ⟨en, h8, -⟩ := wStk_mn h.1.wS w
      rw [if_neg (ngo (x := 10) (N := 10) rfl w (by decide)), gd_pos (vin_nI w (by decide)), x40 k hk, en, decide_eq_true w, Bool.true_and, isS]
      by_cases w2 : 0 < mn m k
      · rw [if_neg (by rw [show (0 : Int32) = nI 0 from rfl, nI_le_iff (by omega) (by decide)]; omega), decide_eq_true w2, if_pos rfl]
      · rw [if_pos (by rw [show (0 : Int32) = nI 0 from rfl, nI_le_iff (by omega) (by decide)]; omega), decide_eq_false w2, if_neg (by decide), Int32.add_zero]
    · rw [if_pos (by rw [show (10 : Int32) = nI 10 from rfl, nI_le_iff (by decide) (by omega)]; omega), decide_eq_false w, Bool.false_and, if_neg (by decide), Int32.add_zero]
  · rw [if_neg q0]
    by_cases q1 : a1 = 1
    · subst q1
      rw [if_pos rfl, albumCount_eq h.2.2.1, Option.bind_some]
      refine ⟨_, rfl, ?_⟩
      rw [← ct_cut (iA m) (n := 8) (by decide)]
      refine cntM fun n k s hk => ?_
      rw [L_X9_count_4, if_neg (go k hk), if_neg (by decide), if_pos rfl, nI_lit1]
      by_cases w : k < 8
      · rw [if_neg (ngo (x := 8) (N := 8) rfl w (by decide)), gd_pos (vin_nI w (by decide)), x40 k hk, decide_eq_true w, Bool.true_and, iA]
        by_cases w2 : gA m 35 k = 0
        · rw [if_pos w2, decide_eq_false (fun u => u w2), if_neg (by decide), Int32.add_zero]
        · rw [if_neg w2, decide_eq_true w2, if_pos rfl]
      · rw [if_pos (by rw [show (8 : Int32) = nI 8 from rfl, nI_le_iff (by decide) (by omega)]; omega), decide_eq_false w, Bool.false_and, if_neg (by decide), Int32.add_zero]
    · rw [if_neg q1]
      by_cases q2 : a1 = 2
      · subst q2
        unfold f_X2_keepers f_X2_duplicates
        simp only [Option.bind_some]
        rw [if_pos trivial, bitCount_eq, cnt40 (p := fun k => iF m k && (pb (KP m k k) && decide (1 < fb_ct (grp m k) 40))) (fun k hk => by
          obtain ⟨d1, d2⟩ := h.2.1.2.1 k hk
          rw [hb_and, pb_eq d1]
          cases z : hb (gL c 10) k with
          | true =>
            obtain ⟨y1, y2, y3⟩ := d2.mp z
            rw [decide_eq_true y1, y2, decide_eq_true y3, Bool.and_true, Bool.true_and, Bool.true_and]
          | false =>
            rw [Bool.and_false]
            cases y1 : iF m k with
            | false => rw [Bool.false_and, Bool.and_false]
            | true =>
              by_cases y2 : k < 40
              · rw [decide_eq_false (p := 1 < fb_ct (grp m k) 40) (fun y3 => by rw [d2.mpr ⟨y2, y1, y3⟩] at z; cases z), Bool.and_false, Bool.and_false, Bool.and_false]
              · rw [decide_eq_false y2, Bool.false_and]), Option.bind_some]
        refine ⟨_, rfl, ?_⟩
        refine cntM fun n k s hk => ?_
        rw [L_X9_count_4, if_neg (go k hk), if_neg (by decide), if_neg (by decide), if_pos rfl, gd_pos (g40 k hk), x40 k hk, nI_lit1]
        cases y1 : iF m k with
        | false => rw [if_pos (iF_dec.mpr y1), Int32.add_zero]; rfl
        | true =>
          rw [if_neg (iF_ne y1)]
          obtain ⟨j, e, hj⟩ := keeper_eq h.1.wO h.1.wV hk y1
          rw [e, Option.bind_some, group_eq hk, Option.bind_some, Int32.add_zero]
          by_cases w : j = k
          · subst w
            rw [if_pos rfl, pb_iff.mpr hj]
            by_cases w2 : 1 < fb_ct (grp m j) 40
            · rw [if_neg (by rw [show (1 : Int32) = nI 1 from rfl, nI_le_iff (by have := fb_ct_le (grp m j) 40; omega) (by decide)]; omega), decide_eq_true w2]; rfl
            · rw [if_pos (by rw [show (1 : Int32) = nI 1 from rfl, nI_le_iff (by have := fb_ct_le (grp m j) 40; omega) (by decide)]; omega), decide_eq_false w2]; rfl
          · have : pb (KP m k k) = false := by
              cases z : pb (KP m k k) with
              | false => rfl
              | true => exact absurd (KP_one hj (pb_iff.mp z)) w
            rw [if_neg (by rw [nI_eq_iff (by have := hj.1; omega) (by omega)]; exact w), this]; rfl
      · rw [if_neg q2]
        by_cases q3 : a1 = 3
        · subst q3
          unfold f_X6_stacked
          simp only [Option.bind_some]
          rw [if_pos trivial, bitCount_eq, cnt40 (p := fun k => decide (gA m 29 k ≠ -1)) (fun k hk => by
            have d := h.1.rS.2.2.2.2 k hk
            cases z : hb (gL c 11) k with
            | true => obtain ⟨y1, y2⟩ := d.mp z; rw [decide_eq_true y1, decide_eq_true y2]; rfl
            | false =>
              by_cases y1 : k < 40
              · rw [decide_eq_false (p := gA m 29 k ≠ -1) (fun y2 => by rw [d.mpr ⟨y1, y2⟩] at z; cases z), Bool.and_false]
              · rw [decide_eq_false y1, Bool.false_and]), Option.bind_some]
          refine ⟨_, rfl, ?_⟩
          refine cntM fun n k s hk => ?_
          rw [L_X9_count_4, if_neg (go k hk), if_neg (by decide), if_neg (by decide), if_neg (by decide), if_pos rfl, gd_pos (g40 k hk), gd_pos (g40 k hk), x40 k hk, nI_lit1]
          rcases wStk_home h.1.wS hk with e | ⟨j, hj, e, -, y1⟩
          · rw [e, if_pos (show (-1 : Int32) < 0 by decide), Int32.add_zero, show decide ((-1 : Int32) ≠ -1) = false by decide]
            split <;> rfl
          · rw [if_neg (iF_ne y1), e, if_neg (nI_pos (by omega)), decide_eq_true (nI_ne_m1 (by omega)), if_pos rfl]
        · rw [if_neg q3]
          by_cases q4 : a1 = 4
          · subst q4
            unfold f_X1_all
            simp only [Option.bind_some]
            rw [if_pos trivial, sumOfSizes_eq, Option.bind_some, smR_cong (q := iF m) (w := gA m 25) (fun k hk => ⟨by rw [h.1.rP k (by omega), decide_eq_true hk, Bool.true_and], fun q => (h.1.rD k hk q).2⟩)]
            refine ⟨_, rfl, ?_⟩
            unfold f_X9_count
            exact sum0 (L := fun n i s => L_X9_count_4 m 4 (fun z8 z9 => some z8) n s i) (E := fun s => some s) (p := iF m) (v := gA m 25) (N := 40) (by decide) (fun n s => by
              show L_X9_count_4 _ _ _ _ _ _ = _
              rw [L_X9_count_4, if_pos (by decide)]) (fun n k s hk => by
              show L_X9_count_4 _ _ _ _ _ _ = L_X9_count_4 _ _ _ _ _ _
              rw [L_X9_count_4, if_neg (go k hk), if_neg (by decide), if_neg (by decide), if_neg (by decide), if_neg (by decide), if_pos rfl, gd_pos (g40 k hk), x40 k hk, nI_lit1]
              cases y1 : iF m k with
              | false => rw [if_pos (iF_dec.mpr y1), Int32.add_zero]; rfl
              | true => rw [if_neg (iF_ne y1), gd_pos (g40 k hk), if_pos rfl])
          · rw [if_neg q4]
            refine ⟨_, rfl, ?_⟩
            unfold f_X9_count
            obtain ⟨fu, e⟩ := FU_ge (n := 1) (by decide)
            rw [e, L_X9_count_4, if_neg (by decide), if_neg q0, if_neg q1, if_neg q2, if_neg q3, if_neg q4]
end
section
/-! ===== what each relation rests on ===== -/
section ON
variable {c c' m m' : Sx}
theorem iF_on (e : gA m' 23 = gA m 23) : iF m' = iF m := by funext f; unfold iF; rw [e]
theorem iT_on (e : gA m' 26 = gA m 26) : iT m' = iT m := by funext f; unfold iT; rw [e]
theorem mn_on (e : gA m' 30 = gA m 30) : mn m' = mn m := by funext f; unfold mn; rw [e]
theorem iA_on (e : gA m' 35 = gA m 35) : iA m' = iA m := by funext f; unfold iA; rw [e]
theorem WOrd.on (h : WOrd m) (e : gA m' 28 = gA m 28) : WOrd m' := by unfold WOrd; rw [e]; exact h
theorem WVal.on (h : WVal m) (e : gA m' 26 = gA m 26) (e2 : gA m' 27 = gA m 27) : WVal m' := by unfold WVal; rw [iT_on e, e2]; exact h
theorem WTg.on (h : WTg m) (e : gA m' 26 = gA m 26) (e2 : gA m' 27 = gA m 27) : WTg m' := by unfold WTg; rw [iT_on e, e2]; exact h
theorem WStk.on (h : WStk m) (e23 : gA m' 23 = gA m 23) (e29 : gA m' 29 = gA m 29) (e30 : gA m' 30 = gA m 30) (e31 : gA m' 31 = gA m 31) (e32 : gA m' 32 = gA m 32) : WStk m' := by unfold WStk; rw [iF_on e23, mn_on e30, e29, e30, e31, e32]; exact h
theorem WTxt.on (h : WTxt m) (e : gI m' 52 = gI m 52) (e2 : gA m' 34 = gA m 34) : WTxt m' := by unfold WTxt; rw [e, e2]; exact h
theorem RPres.onM (h : RPres c m) (e : gA m' 23 = gA m 23) : RPres c m' := by unfold RPres; rw [iF_on e]; exact h
theorem RDig.onM (h : RDig c m) (e : gA m' 23 = gA m 23) (e2 : gA m' 24 = gA m 24) (e3 : gA m' 25 = gA m 25) : RDig c m' := by unfold RDig; rw [iF_on e, e2, e3]; exact h
theorem RDig.onC (h : RDig c m) (e2 : gA c' 9 = gA c 9) (e3 : gA c' 10 = gA c 10) : RDig c' m := by unfold RDig; rw [e2, e3]; exact h
theorem RVal.onM (h : RVal c m) (e : gA m' 23 = gA m 23) (e2 : gA m' 26 = gA m 26) (e3 : gA m' 27 = gA m 27) : RVal c m' := by unfold RVal; rw [iF_on e, iT_on e2, e3]; exact h
theorem ROrd.onM (h : ROrd c m) (e : gA m' 28 = gA m 28) : ROrd c m' := by unfold ROrd; rw [e]; exact h
theorem RStk.onM (h : RStk c m) (e29 : gA m' 29 = gA m 29) (e30 : gA m' 30 = gA m 30) (e31 : gA m' 31 = gA m 31) (e32 : gA m' 32 = gA m 32) (e33 : gA m' 33 = gA m 33) : RStk c m' := by unfold RStk; rw [mn_on e30, e29, e30, e31, e32, e33]; exact h
theorem RStk.onC (h : RStk c m) (e14 : gA c' 14 = gA c 14) (e15 : gA c' 15 = gA c 15) (e16 : gA c' 16 = gA c 16) (e17 : gA c' 17 = gA c 17) (e18 : gA c' 18 = gA c 18) (e11 : gL c' 11 = gL c 11) : RStk c' m := by unfold RStk; rw [e14, e15, e16, e17, e18, e11]; exact h
theorem RTxt.onM (h : RTxt c m) (e : gI m' 52 = gI m 52) (e2 : gA m' 34 = gA m 34) : RTxt c m' := by unfold RTxt tpd; rw [e, e2]; exact h
theorem RTxt.onC (h : RTxt c m) (e : gI c' 158 = gI c 158) (e2 : gA c' 108 = gA c 108) : RTxt c' m := by unfold RTxt; rw [e, e2]; exact h
theorem RAl.on (h : RAl c m) (eI : ∀ k, 100 ≤ k → k ≠ 158 → gI c' k = gI c k) (eA : ∀ a, 100 ≤ a → a ≠ 108 → gA c' a = gA c a) (eL : ∀ k, 100 ≤ k → gL c' k = gL c k) (mA : ∀ a, 35 ≤ a → a ≤ 40 → gA m' a = gA m a) (mM : gM m' 2 = gM m 2) : RAl c' m' := fun a ha => by
  have ei := iA_on (mA 35 (by omega) (by omega))
  rw [ei, eI _ (by omega) (by omega)]
  refine ⟨(h a ha).1, fun hA => ?_⟩
  obtain ⟨⟨ch, n, w1, w2, w3, w4, w5⟩, d1, d2, d3, d4, d5⟩ := (h a ha).2 hA
  refine ⟨⟨ch, n, ⟨w1.1, ?_, ?_, w1.2.2.2⟩, ?_, ?_, w4, ?_⟩, ?_, ?_, ?_, ?_, ?_⟩
  · rw [eI _ (by omega) (by omega)]; exact w1.2.1
  · rw [eA _ (by omega) (by omega)]; exact w1.2.2.1
  · rw [mA 36 (by omega) (by omega)]; exact w2
  · rw [mA 37 (by omega) (by omega)]; exact w3
  · rw [ei]; exact w5
  · rw [eL _ (by omega), mM]; exact d1
  · rw [eI _ (by omega) (by omega), mA 38 (by omega) (by omega)]; exact d2
  · rw [eI _ (by omega) (by omega), mA 39 (by omega) (by omega)]; exact d3
  · rw [eI _ (by omega) (by omega), mA 40 (by omega) (by omega)]; exact d4
  · rw [eI _ (by omega) (by omega), mA 40 (by omega) (by omega)]; exact d5
end ON
/-! ===== calls that change something ===== -/
/-- what a call answers is no less than lo, where the state is as it should be -/
def Cal (lo : Int32) (F G : Sx → Option (Int32 × Sx)) : Prop := ∀ c m, Inv c m → ∃ r c' m', F c = some (r, c') ∧ G m = some (r, m') ∧ Inv c' m' ∧ FrM c c' ∧ FrC m m' ∧ (Xs m → lo ≤ r)
theorem Inv.err {c m : Sx} (h : Inv c m) (r : Int32) {lo : Int32} {F G : Option (Int32 × Sx)} (e1 : F = some (r, c)) (e2 : G = some (r, m)) (hlo : Xs m → lo ≤ r := by intro _; decide) : ∃ r c' m', F = some (r, c') ∧ G = some (r, m') ∧ Inv c' m' ∧ FrM c c' ∧ FrC m m' ∧ (Xs m → lo ≤ r) := ⟨r, c, m, e1, e2, h, FrM.rf _, FrC.rf _, hlo⟩
theorem lo_nI {lo : Int32} (h : lo ≤ 0) {n : Nat} (hn : n < 2 ^ 31) : lo ≤ nI n := Int32.le_trans h (nI_pos' hn)
theorem fin_settle {c m c1 m1 : Sx} (h : Pre c1 m1) (f1 : FrM c c1) (f2 : FrC m m1) : ∃ c' m', f_X8_settle c1 = some c' ∧ (∀ r, f_X9_settled m1 r = some (r, m')) ∧ Inv c' m' ∧ FrM c c' ∧ FrC m m' ∧ St m1 m' := by
  obtain ⟨c', m', e1, e2, h1, h2, h3, h4⟩ := settle_pair h
  exact ⟨c', m', e1, fun r => by unfold f_X9_settled; rw [e2]; rfl, h1, f1.tr h2, f2.tr h3, h4⟩
theorem cal_setDigest (a1 a2 : Int32) : Cal (-1) (fun t => f_X8_setDigest t a1 a2) (fun t => f_X9_setDigest t a1 a2) := fun c m h => by
  show ∃ r c' m', f_X8_setDigest c a1 a2 = some (r, c') ∧ f_X9_setDigest m a1 a2 = some (r, m') ∧ _
  unfold f_X8_setDigest f_X9_setDigest f_X1_digest f_X1_changeDigest
  rw [hasC h.1, there_eq]
  simp only [Option.bind_some]
  cases q : fil (iF m) a1 with
  | false => exact h.err (-1) (by rw [bF]) (by rw [bF])
  | true =>
    obtain ⟨f, hf, rfl, hp⟩ := fil_out q
    rw [bT, bT, isWithin_eq, in_eq]
    simp only [Option.bind_some]
    cases q2 : inr a2 0 9999 with
    | false => exact h.err (-1) (by rw [bF]) (by rw [bF])
    | true =>
      have g := vin_nI (n := f) (N := 40) hf (by decide)
      obtain ⟨hB, hD, hA, hJ, hM⟩ := h
      have b1 : Ba (pA c 9 f a2) (pA m 24 f a2) := ⟨hB.wO.on rfl, hB.wV.on rfl rfl, hB.wS.on rfl rfl rfl rfl rfl, hB.wT.on rfl rfl, (hB.rP.on (y := pA c 9 f a2) rfl).onM rfl, fun g hg hpg => by
          rw [iF_on (m := m) (by rfl)] at hpg
          rw [gA_pA_at, gA_pA_at, gA_pA_ne (by decide), gA_pA_ne (by decide)]
          obtain ⟨d1, d2⟩ := hB.rD g hg hpg
          exact ⟨by rw [d1], d2⟩, (hB.rV.on (y := pA c 9 f a2) rfl).onM rfl rfl rfl, (hB.rO.on (y := pA c 9 f a2) rfl).onM rfl, (hB.rS.onC (c' := pA c 9 f a2) rfl rfl rfl rfl rfl rfl).onM rfl rfl rfl rfl rfl, (hB.rT.onC (c' := pA c 9 f a2) rfl rfl).onM rfl rfl, hB.wG.on rfl rfl⟩
      have p1 : Pre (pA c 9 f a2) (pA m 24 f a2) := ⟨b1, hA.on (fun _ _ _ => rfl) (fun a _ _ => gA_pA_ne (by omega)) (fun _ _ => rfl) (fun a _ _ => gA_pA_ne (by omega)) rfl, hJ.on rfl rfl rfl (gA_pA_ne (by decide)) (gA_pA_ne (by decide)) (gA_pA_ne (by decide)) (gA_pA_ne (by decide))⟩
      obtain ⟨c', m', e1, e2, i1, i2, i3, -⟩ := fin_settle p1 (FrM.pA (t := c) (by omega)) (frC_pA24 (t := m) (inr_iff.mp q2).1)
      rw [bT, bT, gd_pos g, gd_pos g, gd_pos g, gd_pos g, ix_nI (by omega)]
      simp only [Option.bind_some, bd_eq]
      rw [e1, e2, (hB.rD f hf hp).1]
      exact ⟨_, c', m', rfl, rfl, i1, i2, i3, fun w => Int32.le_trans (by decide) (w.2.1 f hf)⟩
end
section
section ON2
variable {c c' m m' : Sx}
theorem od_on (e : gA m' 28 = gA m 28) : od m' = od m := by funext f; unfold od; rw [e]
theorem src_on (e26 : gA m' 26 = gA m 26) (e28 : gA m' 28 = gA m 28) : src m' = src m := by funext f k; unfold src; rw [iT_on e26, od_on e28]
theorem vOr_on (e26 : gA m' 26 = gA m 26) (e27 : gA m' 27 = gA m 27) (e28 : gA m' 28 = gA m 28) : vOr m' = vOr m := by funext f k n; unfold vOr; rw [src_on e26 e28, od_on e28, e27]
theorem tgR_on (e26 : gA m' 26 = gA m 26) (e27 : gA m' 27 = gA m 27) (f : Nat) : ∀ k, tgR m' f k = tgR m f k
  | 0 => rfl
  | k + 1 => by rw [tgR, tgR, tgR_on e26 e27 f k, iT_on e26, e27]
theorem tgs_on (e26 : gA m' 26 = gA m 26) (e27 : gA m' 27 = gA m 27) : tgs m' = tgs m := by funext f; unfold tgs; rw [tgR_on e26 e27]
theorem rt_on (e : vOr m' = vOr m) : rt m' = rt m := by funext f; unfold rt; rw [e]
theorem yr_on (e : vOr m' = vOr m) : yr m' = yr m := by funext f; unfold yr; rw [e]
theorem pref_on (e : vOr m' = vOr m) : pref m' = pref m := by funext f g; unfold pref; rw [rt_on e, yr_on e]
theorem grp_on (e23 : gA m' 23 = gA m 23) (e24 : gA m' 24 = gA m 24) : grp m' = grp m := by funext f g; unfold grp; rw [iF_on e23, e24]
theorem KP_on (e : vOr m' = vOr m) (e23 : gA m' 23 = gA m 23) (e24 : gA m' 24 = gA m 24) : KP m' = KP m := by funext f g; unfold KP; rw [pref_on e, grp_on e23 e24]
theorem fl_on (e31 : gA m' 31 = gA m 31) : fl m' = fl m := by funext s k; unfold fl; rw [e31]
theorem bst_on (e : vOr m' = vOr m) (e31 : gA m' 31 = gA m 31) (s : Nat) : ∀ k, bst m' s k = bst m s k
  | 0 => by rw [bst, bst, fl_on e31]
  | k + 1 => by rw [bst, bst, bst_on e e31 s k, fl_on e31, rt_on e]
theorem cov_on (e : vOr m' = vOr m) (e30 : gA m' 30 = gA m 30) (e31 : gA m' 31 = gA m 31) (e32 : gA m' 32 = gA m 32) : cov m' = cov m := by funext s; unfold cov; rw [bst_on e e31, mn_on e30, e32]
theorem De.gen (h : De c m) (k12 : gA c' 12 = gA c 12) (k9 : gL c' 9 = gL c 9) (k10 : gL c' 10 = gL c 10) (k12' : gL c' 12 = gL c 12) (e23 : gA m' 23 = gA m 23) (e24 : gA m' 24 = gA m 24) (e26 : gA m' 26 = gA m 26) (e27 : gA m' 27 = gA m 27) (e28 : gA m' 28 = gA m 28) (e30 : gA m' 30 = gA m 30) (e31 : gA m' 31 = gA m 31) (e32 : gA m' 32 = gA m 32) : De c' m' := by
  have ev := vOr_on e26 e27 e28
  obtain ⟨h1, h2, h3⟩ := h
  refine ⟨?_, ?_, ?_⟩
  · unfold DVal; rw [k12, iF_on e23, ev, tgs_on e26 e27]; exact h1
  · unfold DKee; rw [k9, k10, KP_on ev e23 e24, iF_on e23, grp_on e23 e24]; exact h2
  · unfold DCov; rw [k12', mn_on e30, cov_on ev e30 e31 e32]; exact h3
theorem Mp.on {k : Nat} (h : Mp m k) (s : SameG m m') (e35 : gA m' 35 = gA m 35) (e36 : gA m' 36 = gA m 36) (e37 : gA m' 37 = gA m 37) (eM : gM m' 2 = gM m 2) : Mp m' k := fun a ha hA => (h a ha (by rw [← iA_on e35]; exact hA)).on s (by rw [e36]) e37 (fun b _ => by rw [eM])
theorem St.cov (s : St m m') : cov m' = cov m := cov_on (vOr_on (s.1 26 (by decide)) (s.1 27 (by decide)) (s.1 28 (by decide))) (s.1 30 (by decide)) (s.1 31 (by decide)) (s.1 32 (by decide))
end ON2
theorem isSlot_eq {c m : Sx} (h : Ba c m) (a1 a2 a3 : Int32) : f_X8_isSlot c a1 a2 a3 = some (b2 (fil (iF m) a1 && (inr a2 0 2 && inr a3 0 5))) := by
  unfold f_X8_isSlot
  rw [hasC h, Option.bind_some]
  cases fil (iF m) a1 with
  | false => rw [bF]; rfl
  | true =>
    rw [bT, isSource_eq, Option.bind_some]
    cases inr a2 0 2 with
    | false => rw [bF]; rfl
    | true =>
      rw [bT, isWithin_eq, Option.bind_some]
      cases inr a3 0 5 <;> rfl
theorem isCell_eq (m : Sx) (a1 a2 a3 : Int32) : f_X9_isCell m a1 a2 a3 = some (b2 (fil (iF m) a1 && (inr a2 0 2 && inr a3 0 5))) := by
  unfold f_X9_isCell
  rw [there_eq, Option.bind_some]
  cases fil (iF m) a1 with
  | false => rw [bF]; rfl
  | true =>
    rw [bT, in_eq, Option.bind_some]
    cases inr a2 0 2 with
    | false => rw [bF]; rfl
    | true =>
      rw [bT, in_eq, Option.bind_some]
      cases inr a3 0 5 <;> rfl
theorem fits_eq (m : Sx) {k : Nat} (hk : k < 6) (v : Int32) : f_X9_fits m (nI k) v = some (b2 (inr v (lstV k) (grtV k))) := by
  unfold f_X9_fits
  rcases (show k = 0 ∨ k = 1 ∨ k = 2 ∨ k = 3 ∨ k = 4 ∨ k = 5 by omega) with rfl | rfl | rfl | rfl | rfl | rfl
  · rw [if_pos (by decide), in_eq, Option.bind_some, gd_pos (gz_b2 _)]; rfl
  · rw [if_neg (by decide), if_pos (by decide), in_eq, Option.bind_some, gd_pos (gz_b2 _)]; rfl
  · rw [if_neg (by decide), if_neg (by decide), if_pos (by decide), in_eq, Option.bind_some, gd_pos (gz_b2 _)]; rfl
  · rw [if_neg (by decide), if_neg (by decide), if_neg (by decide), if_pos (by decide), in_eq, Option.bind_some, gd_pos (gz_b2 _)]; rfl
  · rw [if_neg (by decide), if_neg (by decide), if_neg (by decide), if_neg (by decide), if_pos (by decide), in_eq, Option.bind_some, gd_pos (gz_b2 _)]; rfl
  · rw [if_neg (by decide), if_neg (by decide), if_neg (by decide), if_neg (by decide), if_neg (by decide), in_eq, Option.bind_some, gd_pos (gz_b2 _)]; rfl
theorem val_rng {k : Nat} (hk : k < 6) {x : Int32} (h : inr x (lstV k) (grtV k) = true) : ∃ v, v ≤ 9999 ∧ x = nI v ∧ (k = 5 → v ≤ 1023) := by
  obtain ⟨h1, h2⟩ := inr_iff.mp h
  have l : (0 : Int32) ≤ lstV k ∧ grtV k ≤ nI 9999 := (by decide +kernel : ∀ k, k < 6 → (0 : Int32) ≤ lstV k ∧ grtV k ≤ nI 9999) k hk
  rw [i_le] at h1 h2
  obtain ⟨v, hv, rfl⟩ := nI_frm (x := x) (n := 9999) (by have := l.1; rw [i_le] at this ⊢; omega) (by have := l.2; rw [i_le] at this ⊢; omega) (by decide)
  refine ⟨v, hv, rfl, fun e => ?_⟩
  subst e
  have h3 : nI v ≤ nI 1023 := by rw [i_le]; exact h2
  exact (nI_le_iff (by omega) (by decide)).mp h3
theorem iT_put (m : Sx) (p : Nat) (v w : Int32) (k : Nat) : iT (pA (pA m 26 p v) 27 p w) k = if k = p then decide (v ≠ 0) else iT m k := by
  unfold iT
  rw [gA_pA_ne (by decide), gA_pA_at]
  split <;> rfl
theorem iT_put' (m : Sx) (p : Nat) (v : Int32) (k : Nat) : iT (pA m 26 p v) k = if k = p then decide (v ≠ 0) else iT m k := by
  unfold iT
  rw [gA_pA_at]
  split <;> rfl
theorem pre_set {c m : Sx} (hB : Ba c m) (hA : RAl c m) (hJ : RJ c m) {f s k v : Nat} (hf : f < 40) (hs : s < 3) (hk : k < 6) (hv : v ≤ 9999) (h5 : k = 5 → v ≤ 1023) : Pre (pA c 11 (18 * f + 6 * s + k) (nI v)) (pA (pA m 26 (18 * f + 6 * s + k) 1) 27 (18 * f + 6 * s + k) (nI v)) := by
  have t1 : decide ((1 : Int32) ≠ 0) = true := by decide
  refine ⟨⟨hB.wO.on rfl, fun i hi ht => ?_, hB.wS.on rfl rfl rfl rfl rfl, hB.wT.on rfl rfl, (hB.rP.on (y := pA c 11 (18 * f + 6 * s + k) (nI v)) rfl).onM rfl, (hB.rD.onC (c' := pA c 11 (18 * f + 6 * s + k) (nI v)) rfl rfl).onM rfl rfl rfl, fun g hg hpg j hj => ?_, (hB.rO.on (y := pA c 11 (18 * f + 6 * s + k) (nI v)) rfl).onM rfl, (hB.rS.onC (c' := pA c 11 (18 * f + 6 * s + k) (nI v)) rfl rfl rfl rfl rfl rfl).onM rfl rfl rfl rfl rfl, (hB.rT.onC (c' := pA c 11 (18 * f + 6 * s + k) (nI v)) rfl rfl).onM rfl rfl, fun g hg i hi ht => ?_⟩, hA.on (fun _ _ _ => rfl) (fun a _ _ => gA_pA_ne (by omega)) (fun _ _ => rfl) (fun a _ _ => by rw [gA_pA_ne (by omega), gA_pA_ne (by omega)]) rfl, hJ.on rfl rfl rfl rfl rfl rfl rfl⟩
  · rw [iT_put] at ht
    rw [gA_pA_at]
    by_cases q : i = 18 * f + 6 * s + k
    · rw [if_pos q]; exact ⟨v, hv, rfl⟩
    · rw [if_neg q] at ht ⊢; exact hB.wV i hi ht
  · rw [gA_pA_at, iT_put, gA_pA_at]
    by_cases q : 18 * g + j = 18 * f + 6 * s + k
    · rw [if_pos q, if_pos q, if_pos q, t1, if_pos rfl]
    · rw [if_neg q, if_neg q, if_neg q]; exact hB.rV g hg hpg j hj
  · rw [iT_put] at ht
    rw [gA_pA_at]
    by_cases q : 18 * g + 6 * i + 5 = 18 * f + 6 * s + k
    · rw [if_pos q]; exact ⟨v, h5 (by omega), rfl⟩
    · rw [if_neg q] at ht ⊢; exact hB.wG g hg i hi ht
theorem cal_setValue (a1 a2 a3 a4 : Int32) : Cal (-4) (fun t => f_X8_setValue t a1 a2 a3 a4) (fun t => f_X9_setValue t a1 a2 a3 a4) := fun c m h => by
  show ∃ r c' m', f_X8_setValue c a1 a2 a3 a4 = some (r, c') ∧ f_X9_setValue m a1 a2 a3 a4 = some (r, m') ∧ _
  unfold f_X8_setValue f_X9_setValue
  rw [isSlot_eq h.1, isCell_eq]
  simp only [Option.bind_some]
  cases q : (fil (iF m) a1 && (inr a2 0 2 && inr a3 0 5)) with
  | false => exact h.err (-1) (by rw [bF]) (by rw [bF])
  | true =>
    obtain ⟨q1, q'⟩ := (Bool.and_eq_true _ _).mp q
    obtain ⟨q2, q3⟩ := (Bool.and_eq_true _ _).mp q'
    obtain ⟨f, hf, rfl, hp⟩ := fil_out q1
    obtain ⟨s, hs, rfl⟩ := inr_out (n := 2) (by decide) q2
    obtain ⟨k, hk, rfl⟩ := inr_out (n := 5) (by decide) q3
    have g6 : vp_in (nI k) 6 := vin_nI (by omega) (by decide)
    rw [bT, bT, gd_pos g6, gd_pos g6, ix_nI (by omega), isWithin_eq, fits_eq m (by omega)]
    simp only [Option.bind_some]
    cases q4 : inr a4 (lstV k) (grtV k) with
    | false => exact h.err (-1) (by rw [bF]) (by rw [bF])
    | true =>
      obtain ⟨v, hv, rfl, h5⟩ := val_rng (by omega) q4
      obtain ⟨hB, hD, hA, hJ, hM⟩ := h
      obtain ⟨c', m', e1, e2, i1, i2, i3, -⟩ := fin_settle (c := c) (m := m) (pre_set hB hA hJ hf (show s < 3 by omega) (show k < 6 by omega) hv h5) (FrM.pA (by omega)) ((FrC.pA (by omega)).tr (FrC.pA (by omega)))
      have gi : vp_in (nI (18 * f + 6 * s + k)) 720 := vin_nI (by omega) (by decide)
      rw [bT, bT, told_eq c hf (by omega) (by omega), Option.bind_some, tell_eq c hf (by omega) (by omega), Option.bind_some, e1, Option.bind_some, orNF, Option.bind_some, i18, gd_pos gi, gd_pos gi, gd_pos gi, gd_pos gi, ix_nI (by omega)]
      simp only [bd_eq]
      rw [gd_pos gi, gd_pos gi, e2, e2]
      have hr := hB.rV f hf hp (6 * s + k) (by omega)
      rw [← Nat.add_assoc] at hr
      refine ⟨_, c', m', rfl, ?_, i1, i2, i3, fun _ => ?_⟩
      cases ht : iT m (18 * f + 6 * s + k) with
      | false =>
        have z : gA m 26 (18 * f + 6 * s + k) = 0 := by simpa [iT] using ht
        rw [if_pos z, hr, ht]; rfl
      | true =>
        have z : ¬ gA m 26 (18 * f + 6 * s + k) = 0 := by simpa [iT] using ht
        obtain ⟨w, hw, ew⟩ := hB.wV _ (by omega) ht
        rw [if_neg z, hr, ht, if_pos rfl, ew, nI_not_m1 (by omega)]; rfl
      split
      · decide
      · rename_i nz
        cases ht : iT m (18 * f + 6 * s + k) with
        | false => rw [ht] at hr; exact absurd hr nz
        | true =>
          obtain ⟨w, hw, ew⟩ := hB.wV _ (by omega) ht
          rw [hr, ht, if_pos rfl, ew]; exact lo_nI (by decide) (by omega)
theorem pre_clr {c m : Sx} (hB : Ba c m) (hA : RAl c m) (hJ : RJ c m) {f s k : Nat} (hf : f < 40) (hs : s < 3) (hk : k < 6) : Pre (pA c 11 (18 * f + 6 * s + k) (-1)) (pA m 26 (18 * f + 6 * s + k) 0) := by
  have t0 : decide ((0 : Int32) ≠ 0) = false := by decide
  refine ⟨⟨hB.wO.on rfl, fun i hi ht => ?_, hB.wS.on rfl rfl rfl rfl rfl, hB.wT.on rfl rfl, (hB.rP.on (y := pA c 11 (18 * f + 6 * s + k) (-1)) rfl).onM rfl, (hB.rD.onC (c' := pA c 11 (18 * f + 6 * s + k) (-1)) rfl rfl).onM rfl rfl rfl, fun g hg hpg j hj => ?_, (hB.rO.on (y := pA c 11 (18 * f + 6 * s + k) (-1)) rfl).onM rfl, (hB.rS.onC (c' := pA c 11 (18 * f + 6 * s + k) (-1)) rfl rfl rfl rfl rfl rfl).onM rfl rfl rfl rfl rfl, (hB.rT.onC (c' := pA c 11 (18 * f + 6 * s + k) (-1)) rfl rfl).onM rfl rfl, fun g hg i hi ht => ?_⟩, hA.on (fun _ _ _ => rfl) (fun a _ _ => gA_pA_ne (by omega)) (fun _ _ => rfl) (fun a _ _ => by rw [gA_pA_ne (by omega)]) rfl, hJ.on rfl rfl rfl rfl rfl rfl rfl⟩
  · rw [iT_put', t0] at ht
    rw [gA_pA_ne (by decide)]
    by_cases q : i = 18 * f + 6 * s + k
    · rw [if_pos q] at ht; cases ht
    · rw [if_neg q] at ht; exact hB.wV i hi ht
  · rw [gA_pA_at, iT_put', gA_pA_ne (by decide)]
    by_cases q : 18 * g + j = 18 * f + 6 * s + k
    · rw [if_pos q, if_pos q, t0, if_neg (by decide)]
    · rw [if_neg q, if_neg q]; exact hB.rV g hg hpg j hj
  · rw [iT_put', t0] at ht
    rw [gA_pA_ne (by decide)]
    by_cases q : 18 * g + 6 * i + 5 = 18 * f + 6 * s + k
    · rw [if_pos q] at ht; cases ht
    · rw [if_neg q] at ht; exact hB.wG g hg i hi ht
theorem cal_clearValue (a1 a2 a3 : Int32) : Cal (-4) (fun t => f_X8_clearValue t a1 a2 a3) (fun t => f_X9_clearValue t a1 a2 a3) := fun c m h => by
  show ∃ r c' m', f_X8_clearValue c a1 a2 a3 = some (r, c') ∧ f_X9_clearValue m a1 a2 a3 = some (r, m') ∧ _
  unfold f_X8_clearValue f_X9_clearValue
  rw [isSlot_eq h.1, isCell_eq]
  simp only [Option.bind_some]
  cases q : (fil (iF m) a1 && (inr a2 0 2 && inr a3 0 5)) with
  | false => exact h.err (-1) (by rw [bF]) (by rw [bF])
  | true =>
    obtain ⟨q1, q'⟩ := (Bool.and_eq_true _ _).mp q
    obtain ⟨q2, q3⟩ := (Bool.and_eq_true _ _).mp q'
    obtain ⟨f, hf, rfl, hp⟩ := fil_out q1
    obtain ⟨s, hs, rfl⟩ := inr_out (n := 2) (by decide) q2
    obtain ⟨k, hk, rfl⟩ := inr_out (n := 5) (by decide) q3
    have gi : vp_in (nI (18 * f + 6 * s + k)) 720 := vin_nI (by omega) (by decide)
    have hr := h.1.rV f hf hp (6 * s + k) (by omega)
    rw [← Nat.add_assoc] at hr
    rw [bT, bT, told_eq c hf (by omega) (by omega), Option.bind_some, i18, gd_pos gi, ix_nI (by omega), hr]
    cases ht : iT m (18 * f + 6 * s + k) with
    | false =>
      have z : gA m 26 (18 * f + 6 * s + k) = 0 := by simpa [iT] using ht
      exact h.err (-4) (by rfl) (by rw [if_pos z])
    | true =>
      have z : ¬ gA m 26 (18 * f + 6 * s + k) = 0 := by simpa [iT] using ht
      obtain ⟨w, hw, ew⟩ := h.1.wV _ (by omega) ht
      obtain ⟨hB, hD, hA, hJ, hM⟩ := h
      obtain ⟨c', m', e1, e2, i1, i2, i3, -⟩ := fin_settle (c := c) (m := m) (pre_clr hB hA hJ hf (show s < 3 by omega) (show k < 6 by omega)) (FrM.pA (by omega)) (FrC.pA (by omega))
      rw [if_pos rfl, if_neg z, ew, if_neg (nI_ne_m1 (by omega)), tell_eq c hf (by omega) (by omega), Option.bind_some, e1, Option.bind_some, gd_pos gi]
      simp only [bd_eq]
      rw [gd_pos gi, e2, gA_pA_ne (by decide), ew]
      exact ⟨_, c', m', rfl, rfl, i1, i2, i3, fun _ => lo_nI (by decide) (by omega)⟩
theorem frC_ord {m : Sx} {k1 k2 k3 : Nat} (h1 : k1 ≤ 2) (h2 : k2 ≤ 2) (h3 : k3 ≤ 2) (w1 : ¬ nI k1 = nI k2) (w2 : ¬ nI k1 = nI k3) (w3 : ¬ nI k2 = nI k3) : FrC m (pA (pA (pA m 28 0 (nI k1)) 28 1 (nI k2)) 28 2 (nI k3)) := by
  refine ⟨fun j h => by rw [gA_pA_ne (by omega), gA_pA_ne (by omega), gA_pA_ne (by omega)], fun _ _ => rfl, fun _ => rfl, rfl, rfl, fun w => ⟨w.1, w.2.1, k1, k2, k3, by omega, by omega, by omega, fun e => w1 (by rw [e]), fun e => w2 (by rw [e]), fun e => w3 (by rw [e]), ?_, ?_, ?_⟩⟩
  · rw [gA_pA_at, gA_pA_at, gA_pA_at]; rfl
  · rw [gA_pA_at, gA_pA_at, gA_pA_at]; rfl
  · rw [gA_pA_at, gA_pA_at, gA_pA_at]; rfl
theorem ord_tab (x : Nat) (hx : x < 3) (y : Nat) (hy : y < 3) (z : Nat) (hz : z < 3) (h1 : x ≠ y) (h2 : x ≠ z) (h3 : y ≠ z) : (12 : Int32) ≤ ((100 * nI x) + (10 * nI y)) + nI z := by
  rcases (show (x = 0 ∧ y = 1 ∧ z = 2) ∨ (x = 0 ∧ y = 2 ∧ z = 1) ∨ (x = 1 ∧ y = 0 ∧ z = 2) ∨ (x = 1 ∧ y = 2 ∧ z = 0) ∨ (x = 2 ∧ y = 0 ∧ z = 1) ∨ (x = 2 ∧ y = 1 ∧ z = 0) by omega) with ⟨rfl, rfl, rfl⟩ | ⟨rfl, rfl, rfl⟩ | ⟨rfl, rfl, rfl⟩ | ⟨rfl, rfl, rfl⟩ | ⟨rfl, rfl, rfl⟩ | ⟨rfl, rfl, rfl⟩ <;> decide
theorem ord_12 {m : Sx} (h : Op m) : (12 : Int32) ≤ ((100 * gA m 28 0) + (10 * gA m 28 1)) + gA m 28 2 := by
  obtain ⟨x, y, z, h1, h2, h3, h4, h5, h6, e1, e2, e3⟩ := h
  rw [e1, e2, e3]
  exact ord_tab x h1 y h2 z h3 h4 h5 h6
theorem ord_lo {m : Sx} (h : Op m) : (-1 : Int32) ≤ ((100 * gA m 28 0) + (10 * gA m 28 1)) + gA m 28 2 := Int32.le_trans (by decide) (ord_12 h)
theorem cal_setOrder (a1 a2 a3 : Int32) : Cal (-1) (fun t => f_X8_setOrder t a1 a2 a3) (fun t => f_X9_setOrder t a1 a2 a3) := fun c m h => by
  show ∃ r c' m', f_X8_setOrder c a1 a2 a3 = some (r, c') ∧ f_X9_setOrder m a1 a2 a3 = some (r, m') ∧ _
  unfold f_X8_setOrder f_X9_setOrder
  simp only [isSource_eq, in_eq, Option.bind_some]
  cases q1 : inr a1 0 2 with
  | false => exact h.err (-1) (by rw [bF]) (by rw [bF, if_pos trivial])
  | true =>
    rw [bT, bT]
    cases q2 : inr a2 0 2 with
    | false => exact h.err (-1) (by rw [bF]) (by rw [bF, if_pos trivial])
    | true =>
      rw [bT, bT]
      cases q3 : inr a3 0 2 with
      | false => exact h.err (-1) (by rw [bF]) (by rw [bF, if_pos trivial])
      | true =>
        rw [bT, bT, if_neg (show ¬ (1 : Int32) = 0 by decide)]
        by_cases w1 : a1 = a2
        · rw [if_pos w1, if_pos w1]; exact h.err (-1) rfl rfl
        · rw [if_neg w1, if_neg w1]
          by_cases w2 : a1 = a3
          · rw [if_pos w2, if_pos w2]; exact h.err (-1) rfl rfl
          · rw [if_neg w2, if_neg w2]
            by_cases w3 : a2 = a3
            · rw [if_pos w3, if_pos w3]; exact h.err (-1) rfl rfl
            · rw [if_neg w3, if_neg w3]
              obtain ⟨k1, h1, rfl⟩ := inr_out (n := 2) (by decide) q1
              obtain ⟨k2, h2, rfl⟩ := inr_out (n := 2) (by decide) q2
              obtain ⟨k3, h3, rfl⟩ := inr_out (n := 2) (by decide) q3
              obtain ⟨hB, hD, hA, hJ, hM⟩ := h
              have p1 : Pre (pA (pA (pA c 13 0 (nI k1)) 13 1 (nI k2)) 13 2 (nI k3)) (pA (pA (pA m 28 0 (nI k1)) 28 1 (nI k2)) 28 2 (nI k3)) := by
                refine ⟨⟨fun k hk => ?_, hB.wV.on rfl rfl, hB.wS.on rfl rfl rfl rfl rfl, hB.wT.on rfl rfl, (hB.rP.on (y := pA (pA (pA c 13 0 (nI k1)) 13 1 (nI k2)) 13 2 (nI k3)) rfl).onM rfl, (hB.rD.onC (c' := pA (pA (pA c 13 0 (nI k1)) 13 1 (nI k2)) 13 2 (nI k3)) rfl rfl).onM rfl rfl rfl, (hB.rV.on (y := pA (pA (pA c 13 0 (nI k1)) 13 1 (nI k2)) 13 2 (nI k3)) rfl).onM rfl rfl rfl, fun k hk => ?_, (hB.rS.onC (c' := pA (pA (pA c 13 0 (nI k1)) 13 1 (nI k2)) 13 2 (nI k3)) rfl rfl rfl rfl rfl rfl).onM rfl rfl rfl rfl rfl, (hB.rT.onC (c' := pA (pA (pA c 13 0 (nI k1)) 13 1 (nI k2)) 13 2 (nI k3)) rfl rfl).onM rfl rfl, hB.wG.on rfl rfl⟩, hA.on (fun _ _ _ => rfl) (fun a _ _ => by rw [gA_pA_ne (by omega), gA_pA_ne (by omega), gA_pA_ne (by omega)]) (fun _ _ => rfl) (fun a _ _ => by rw [gA_pA_ne (by omega), gA_pA_ne (by omega), gA_pA_ne (by omega)]) rfl, hJ.on rfl rfl rfl rfl rfl rfl rfl⟩
                · rw [gA_pA_at, gA_pA_at, gA_pA_at]
                  rcases (show k = 0 ∨ k = 1 ∨ k = 2 by omega) with rfl | rfl | rfl
                  · exact ⟨k1, by omega, rfl⟩
                  · exact ⟨k2, by omega, rfl⟩
                  · exact ⟨k3, by omega, rfl⟩
                · rw [gA_pA_at, gA_pA_at, gA_pA_at, gA_pA_at, gA_pA_at, gA_pA_at]
                  rcases (show k = 0 ∨ k = 1 ∨ k = 2 by omega) with rfl | rfl | rfl <;> rfl
              obtain ⟨c', m', e1, e2, i1, i2, i3, -⟩ := fin_settle (c := c) (m := m) p1 ((FrM.pA (by omega)).tr ((FrM.pA (by omega)).tr (FrM.pA (by omega)))) (frC_ord h1 h2 h3 w1 w2 w3)
              unfold f_X1_orderCode f_X1_reorder
              have g0 : vp_in 0 3 := vin_nI (n := 0) (by decide) (by decide)
              have g1 : vp_in 1 3 := vin_nI (n := 1) (by decide) (by decide)
              have g2 : vp_in 2 3 := vin_nI (n := 2) (by decide) (by decide)
              have x0 : ix 0 = 0 := rfl
              have x1 : ix 1 = 1 := rfl
              have x2 : ix 2 = 2 := rfl
              simp only [gd_pos g0, gd_pos g1, gd_pos g2, bd_eq, x0, x1, x2, Option.bind_some, e1, e2]
              rw [hB.rO 0 (by decide), hB.rO 1 (by decide), hB.rO 2 (by decide)]
              exact ⟨_, c', m', rfl, rfl, i1, i2, i3, fun w => ord_lo w.2.2⟩
theorem cal_collapse (a1 a2 : Int32) : Cal (-1) (fun t => f_X8_collapse t a1 a2) (fun t => f_X9_collapse t a1 a2) := fun c m h => by
  show ∃ r c' m', f_X8_collapse c a1 a2 = some (r, c') ∧ f_X9_collapse m a1 a2 = some (r, m') ∧ _
  unfold f_X8_collapse f_X9_collapse f_X6_isCollapsed f_X6_fold
  rw [hasS_eq h.1.wS h.1.rS, isStack_eq h.1.wS]
  simp only [Option.bind_some]
  cases q : stn m a1 with
  | false => exact h.err (-1) (by rw [bF]) (by rw [bF])
  | true =>
    obtain ⟨s, hs, rfl, hn⟩ := stn_out q
    rw [bT, bT, isWithin_eq, in_eq]
    simp only [Option.bind_some]
    cases q2 : inr a2 0 1 with
    | false => exact h.err (-1) (by rw [bF]) (by rw [bF])
    | true =>
      obtain ⟨k, hk, rfl⟩ := inr_out (n := 1) (by decide) q2
      have g : vp_in (nI s) 10 := vin_nI hs (by decide)
      have fin : ∀ b : Bool, Inv (pA c 17 s (b2 b)) (pA m 33 s (b2 b)) := fun b => by
        obtain ⟨hB, hD, hA, hJ, hM⟩ := h
        refine ⟨⟨hB.wO.on rfl, hB.wV.on rfl rfl, hB.wS.on rfl rfl rfl rfl rfl, hB.wT.on rfl rfl, (hB.rP.on (y := pA c 17 s (b2 b)) rfl).onM rfl, (hB.rD.onC (c' := pA c 17 s (b2 b)) rfl rfl).onM rfl rfl rfl, (hB.rV.on (y := pA c 17 s (b2 b)) rfl).onM rfl rfl rfl, (hB.rO.on (y := pA c 17 s (b2 b)) rfl).onM rfl, ?_, (hB.rT.onC (c' := pA c 17 s (b2 b)) rfl rfl).onM rfl rfl, hB.wG.on rfl rfl⟩, hD.gen rfl rfl rfl rfl rfl rfl rfl rfl rfl rfl rfl rfl, hA.on (fun _ _ _ => rfl) (fun a _ _ => by rw [gA_pA_ne (by omega)]) (fun _ _ => rfl) (fun a _ _ => by rw [gA_pA_ne (by omega)]) rfl, hJ.on rfl rfl rfl rfl rfl rfl rfl, hM.on (fun a _ ha => gA_pA_ne (by omega)) rfl rfl rfl rfl⟩
        obtain ⟨s1, s2, s3, s4, s5⟩ := hB.rS
        refine ⟨s1, s2, s3, fun s' hs' hn' => ⟨(s4 s' hs' hn').1, ?_⟩, s5⟩
        rw [gA_pA_at, gA_pA_at]
        by_cases w : s' = s
        · rw [if_pos w, if_pos w]; cases b <;> rfl
        · rw [if_neg w, if_neg w]; exact (s4 s' hs' hn').2
      have f1 : ∀ v, FrM c (pA c 17 s v) := fun v => FrM.pA (by omega)
      have f2 : ∀ v, FrC m (pA m 33 s v) := fun v => FrC.pA (by omega)
      have e17 := (h.1.rS.2.2.2.1 s hs hn).2
      have z1 : gz 1 := Or.inr rfl
      have z0 : gz 0 := Or.inl rfl
      rw [bT, bT, gd_pos g, gd_pos g, ix_nI (by omega), e17, gd_pos (gz_b2 _)]
      simp only [Option.bind_some, gd_pos g, gd_pos z1, gd_pos z0, bd_eq]
      rcases (show k = 0 ∨ k = 1 by omega) with rfl | rfl
      · rw [if_neg (show ¬ nI 0 = 1 by decide)]
        by_cases w : gA m 33 s = 0
        · rw [if_pos w, show decide (gA m 33 s ≠ 0) = false from decide_eq_false (fun u => u w), if_pos b2_f]
          exact ⟨_, _, _, rfl, rfl, fin false, f1 _, f2 _, fun _ => by decide⟩
        · rw [if_neg w, show decide (gA m 33 s ≠ 0) = true from decide_eq_true w, if_neg (by decide)]
          exact ⟨_, _, _, rfl, rfl, fin false, f1 _, f2 _, fun _ => by decide⟩
      · rw [if_pos (show nI 1 = 1 by decide)]
        by_cases w : gA m 33 s = 0
        · rw [if_pos w, show decide (gA m 33 s ≠ 0) = false from decide_eq_false (fun u => u w), if_pos b2_f]
          exact ⟨_, _, _, rfl, rfl, fin true, f1 _, f2 _, fun _ => by decide⟩
        · rw [if_neg w, show decide (gA m 33 s ≠ 0) = true from decide_eq_true w, if_neg (by decide)]
          exact ⟨_, _, _, rfl, rfl, fin true, f1 _, f2 _, fun _ => by decide⟩
end
section
theorem pre_choose {c m : Sx} (hB : Ba c m) (hA : RAl c m) (hJ : RJ c m) {s : Nat} (hs : s < 10) {v : Int32} (hv : v = -1 ∨ ∃ f, f < 40 ∧ v = nI f ∧ gA m 29 f = nI s) : Pre (pA c 16 s v) (pA m 32 s v) := by
  refine ⟨⟨hB.wO.on rfl, hB.wV.on rfl rfl, ?_, hB.wT.on rfl rfl, (hB.rP.on (y := pA c 16 s v) rfl).onM rfl, (hB.rD.onC (c' := pA c 16 s v) rfl rfl).onM rfl rfl rfl, (hB.rV.on (y := pA c 16 s v) rfl).onM rfl rfl rfl, (hB.rO.on (y := pA c 16 s v) rfl).onM rfl, ?_, (hB.rT.onC (c' := pA c 16 s v) rfl rfl).onM rfl rfl, hB.wG.on rfl rfl⟩, hA.on (fun _ _ _ => rfl) (fun a _ _ => by rw [gA_pA_ne (by omega)]) (fun _ _ => rfl) (fun a _ _ => by rw [gA_pA_ne (by omega)]) rfl, hJ.on rfl rfl rfl rfl rfl rfl rfl⟩
  · obtain ⟨s1, s2, s3, s4, s5⟩ := hB.wS
    refine ⟨s1, s2, s3, s4, fun s' hs' hn' => ?_⟩
    rw [gA_pA_at]
    by_cases w : s' = s
    · rw [if_pos w, w]; exact hv
    · rw [if_neg w]; exact s5 s' hs' hn'
  · obtain ⟨s1, s2, s3, s4, s5⟩ := hB.rS
    refine ⟨s1, s2, s3, fun s' hs' hn' => ⟨?_, (s4 s' hs' hn').2⟩, s5⟩
    rw [gA_pA_at, gA_pA_at]
    by_cases w : s' = s
    · rw [if_pos w, if_pos w]
    · rw [if_neg w, if_neg w]; exact (s4 s' hs' hn').1
theorem cal_chooseCover (a1 a2 : Int32) : Cal (-2) (fun t => f_X8_chooseCover t a1 a2) (fun t => f_X9_chooseCover t a1 a2) := fun c m h => by
  show ∃ r c' m', f_X8_chooseCover c a1 a2 = some (r, c') ∧ f_X9_chooseCover m a1 a2 = some (r, m') ∧ _
  unfold f_X8_chooseCover f_X9_chooseCover f_X6_choose f_X6_home
  rw [hasS_eq h.1.wS h.1.rS, isStack_eq h.1.wS]
  simp only [Option.bind_some]
  cases q : stn m a1 with
  | false => exact h.err (-1) (by rw [bF]) (by rw [bF])
  | true =>
    obtain ⟨s, hs, rfl, hn⟩ := stn_out q
    have g : vp_in (nI s) 10 := vin_nI hs (by decide)
    have fin : ∀ v, (v = -1 ∨ ∃ f, f < 40 ∧ v = nI f ∧ gA m 29 f = nI s) → ∃ c' m' k, f_X8_settle (pA c 16 s v) = some c' ∧ f_X6_cover c' (nI s) = some (nI k) ∧ k < 40 ∧ f_X9_cover (pA m 32 s v) (nI s) = some (nI k) ∧ (∀ r, f_X9_settled (pA m 32 s v) r = some (r, m')) ∧ Inv c' m' ∧ FrM c c' ∧ FrC m m' := fun v hv => by
      obtain ⟨hB, hD, hA, hJ, hM⟩ := h
      have p1 := pre_choose hB hA hJ hs hv
      obtain ⟨c', m', e1, e2, i1, i2, i3, i4⟩ := fin_settle (c := c) (m := m) p1 (FrM.pA (by omega)) (FrC.pA (by omega))
      refine ⟨c', m', cov (pA m 32 s v) s, e1, ?_, (cov_ok p1.1.wS hs hn).1, cover_eq p1.1.wO p1.1.wV p1.1.wS hs hn, e2, i1, i2, i3⟩
      have en : mn m' = mn m := by rw [mn_on (i4.1 30 (by decide))]; rfl
      rw [coverC_eq i1.1.wO i1.1.wV i1.1.wS i1.1.rS i1.2.1.1 hs (by rw [en]; exact hn), i4.cov]
    rw [bT, bT]
    by_cases w : a2 = -1
    · subst w
      rw [if_pos rfl, if_pos rfl, if_pos rfl, if_pos (by decide)]
      obtain ⟨c', m', k, e1, e2, k40, e3, e4, i1, i2, i3⟩ := fin (-1) (Or.inl rfl)
      rw [gd_pos g, gd_pos g, ix_nI (by omega)]
      simp only [bd_eq, Option.bind_some, e1, e2, e3, e4]
      exact ⟨_, c', m', rfl, rfl, i1, i2, i3, fun _ => lo_nI (by decide) (by omega)⟩
    · simp only [if_neg w]
      rw [hasC h.1, there_eq]
      simp only [Option.bind_some]
      cases q2 : fil (iF m) a2 with
      | false => exact h.err (-1) (by rw [bF]) (by rw [bF])
      | true =>
        obtain ⟨f, hf, rfl, hp⟩ := fil_out q2
        have gf : vp_in (nI f) 40 := vin_nI hf (by decide)
        rw [bT, bT, if_neg (nI_pos (by omega)), gd_pos gf, gd_pos gf, ix_nI (by omega), ix_nI (by omega), h.1.rS.1 f hf, gd_pos g, gd_pos g]
        simp only [Option.bind_some]
        by_cases w2 : gA m 29 f = nI s
        · obtain ⟨c', m', k, e1, e2, k40, e3, e4, i1, i2, i3⟩ := fin (nI f) (Or.inr ⟨f, hf, rfl, w2⟩)
          rw [if_pos w2, if_pos w2]
          simp only [bd_eq, Option.bind_some, e1, e2, e3, e4]
          exact ⟨_, c', m', rfl, rfl, i1, i2, i3, fun _ => lo_nI (by decide) (by omega)⟩
        · rw [if_neg w2, if_neg w2]
          exact h.err (-2) rfl rfl
theorem i2c_tab : ∀ k, k < 127 → i2c (nI k) = nI k := by decide +kernel
theorem cal_type (a1 : Int32) : Cal (-3) (fun t => f_X8_type t a1) (fun t => f_X9_type t a1) := fun c m h => by
  show ∃ r c' m', f_X8_type c a1 = some (r, c') ∧ f_X9_type m a1 = some (r, m') ∧ _
  unfold f_X8_type f_X9_type f_X5_length
  rw [isWithin_eq, in_eq]
  simp only [Option.bind_some]
  cases q : inr a1 33 126 with
  | false => exact h.err (-1) (by rw [bF]) (by rw [bF])
  | true =>
    obtain ⟨q1, q2⟩ := inr_iff.mp q
    obtain ⟨ch, hch, rfl⟩ := nI_frm (x := a1) (n := 126) (by rw [i_le] at q1 ⊢; exact Int.le_trans (by decide) q1) q2 (by decide)
    have h33 : 33 ≤ ch := by rw [show (33 : Int32) = nI 33 from rfl, nI_le_iff (by decide) (by omega)] at q1; exact q1
    obtain ⟨t80, et⟩ := wTxt_n h.1.wT
    have ec : gI c 158 = nI (tpd m) := by rw [h.1.rT.1, et]
    rw [bT, bT, ec, et]
    by_cases w : tpd m = 80
    · rw [w, if_pos (by decide), if_pos (by decide)]
      exact h.err (-3) rfl rfl
    · have w' : ¬ nI (tpd m) = 80 := by rw [show (80 : Int32) = nI 80 from rfl, nI_eq_iff (by omega) (by decide)]; exact w
      have g : vp_in (nI (tpd m)) 80 := vin_nI (by omega) (by decide)
      rw [if_neg w', if_neg w', i2c_tab ch (by omega), gd_pos (gch_nI (by omega)), gd_pos g, ix_nI (by omega)]
      unfold f_X5_append
      rw [ec, if_neg (ngo (x := 80) (N := 80) rfl (by omega) (by decide)), gd_pos (gch_nI (by omega)), gd_pos g, ix_nI (by omega)]
      simp only [bd_eq, Option.bind_some, gI_pI, gI_pA, if_true, ec, et, nI_lit1]
      refine ⟨_, _, _, rfl, rfl, ?_, (FrM.pA (by omega)).tr (FrM.pI (by omega)), (FrC.pA (by omega)).tr (FrC.pI (by omega)), fun _ => lo_nI (by decide) (by omega)⟩
      obtain ⟨hB, hD, hA, hJ, hM⟩ := h
      have ntp : tpd (pI (pA m 34 (tpd m) (nI ch)) 52 (nI (tpd m + 1))) = tpd m + 1 := by unfold tpd; rw [gI_pI, if_pos rfl, ix_nI (by unfold tpd at *; omega)]
      refine ⟨⟨hB.wO.on rfl, hB.wV.on rfl rfl, hB.wS.on rfl rfl rfl rfl rfl, ⟨tpd m + 1, by omega, rfl, fun k hk => ?_⟩, (hB.rP.on (y := pI (pA c 108 (tpd m) (nI ch)) 158 (nI (tpd m + 1))) rfl).onM rfl, (hB.rD.onC (c' := pI (pA c 108 (tpd m) (nI ch)) 158 (nI (tpd m + 1))) rfl rfl).onM rfl rfl rfl, (hB.rV.on (y := pI (pA c 108 (tpd m) (nI ch)) 158 (nI (tpd m + 1))) rfl).onM rfl rfl rfl, (hB.rO.on (y := pI (pA c 108 (tpd m) (nI ch)) 158 (nI (tpd m + 1))) rfl).onM rfl, (hB.rS.onC (c' := pI (pA c 108 (tpd m) (nI ch)) 158 (nI (tpd m + 1))) rfl rfl rfl rfl rfl rfl).onM rfl rfl rfl rfl rfl, ⟨rfl, fun k hk => ?_⟩, hB.wG.on rfl rfl⟩, hD.gen rfl rfl rfl rfl rfl rfl rfl rfl rfl rfl rfl rfl, hA.on (fun k _ hk => by show gI (pI (pA c 108 (tpd m) (nI ch)) 158 (nI (tpd m + 1))) k = _; rw [gI_pI, if_neg hk, gI_pA]) (fun a _ ha => by show gA (pI (pA c 108 (tpd m) (nI ch)) 158 (nI (tpd m + 1))) a = _; rw [gA_pI, gA_pA_ne ha]) (fun _ _ => rfl) (fun a _ _ => by rw [gA_pI, gA_pA_ne (by omega)]) rfl, hJ.on rfl rfl rfl rfl rfl rfl rfl, hM.on (fun a _ ha => by rw [gA_pI, gA_pA_ne (by omega)]) rfl rfl rfl rfl⟩
      · rw [gA_pI, gA_pA_at]
        by_cases z : k = tpd m
        · rw [if_pos z]; exact ⟨ch, h33, by omega, rfl⟩
        · rw [if_neg z]
          obtain ⟨n, hn, e0, hc⟩ := hB.wT
          have en : n = tpd m := by
            have := e0.symm.trans et
            rw [nI_eq_iff (by omega) (by omega)] at this; exact this
          exact hc k (by omega)
      · rw [ntp] at hk
        show gA (pI (pA c 108 (tpd m) (nI ch)) 158 (nI (tpd m + 1))) 108 k = _
        rw [gA_pI, gA_pI, gA_pA_at, gA_pA_at]
        by_cases z : k = tpd m
        · rw [if_pos z, if_pos z]
        · rw [if_neg z, if_neg z]; exact hB.rT.2 k (by omega)
theorem cal_clearRule : Cal 0 (fun t => f_X8_clearRule t) (fun t => f_X9_clearRule t) := fun c m h => by
  show ∃ r c' m', f_X8_clearRule c = some (r, c') ∧ f_X9_clearRule m = some (r, m') ∧ _
  unfold f_X8_clearRule f_X9_clearRule f_X5_length f_X5_empty
  simp only [Option.bind_some, bd_eq]
  refine ⟨gI m 52, pI c 158 0, pI m 52 0, by rw [h.1.rT.1], rfl, ?_, FrM.pI (by omega), FrC.pI (by omega), fun _ => by rw [(wTxt_n h.1.wT).2]; exact lo_nI (by decide) (by have := (wTxt_n h.1.wT).1; omega)⟩
  obtain ⟨hB, hD, hA, hJ, hM⟩ := h
  have ntp : tpd (pI m 52 0) = 0 := rfl
  exact ⟨⟨hB.wO.on rfl, hB.wV.on rfl rfl, hB.wS.on rfl rfl rfl rfl rfl, ⟨0, by omega, rfl, fun k hk => absurd hk (by omega)⟩, (hB.rP.on (y := pI c 158 0) rfl).onM rfl, (hB.rD.onC (c' := pI c 158 0) rfl rfl).onM rfl rfl rfl, (hB.rV.on (y := pI c 158 0) rfl).onM rfl rfl rfl, (hB.rO.on (y := pI c 158 0) rfl).onM rfl, (hB.rS.onC (c' := pI c 158 0) rfl rfl rfl rfl rfl rfl).onM rfl rfl rfl rfl rfl, ⟨rfl, fun k hk => absurd hk (by rw [ntp]; omega)⟩, hB.wG.on rfl rfl⟩, hD.gen rfl rfl rfl rfl rfl rfl rfl rfl rfl rfl rfl rfl, hA.on (fun k _ hk => by rw [gI_pI, if_neg hk]) (fun a _ ha => rfl) (fun _ _ => rfl) (fun a _ _ => rfl) rfl, hJ.on rfl rfl rfl rfl rfl rfl rfl, hM.on (fun _ _ _ => rfl) rfl rfl rfl rfl⟩
end
section
/-- a loop that looks for the first -/
theorem findUp {Rt : Type} {L : Nat → Int32 → Rt} {p : Nat → Bool} {N : Nat} {A : Rt} {B : Nat → Rt} (hexit : ∀ n, L (n + 1) (nI N) = A) (hstep : ∀ n k, k < N → L (n + 1) (nI k) = if p k = true then B k else L n (nI (k + 1))) : ∀ (d k n : Nat), k + d = N → d < n → L n (nI k) = match fst? p k d with
    | some k => B k
    | none => A := by
  intro d
  induction d with
  | zero =>
    intro k n hk hn
    obtain ⟨n, rfl⟩ : ∃ q, n = q + 1 := ⟨n - 1, by omega⟩
    obtain rfl : k = N := by omega
    exact hexit n
  | succ d ih =>
    intro k n hk hn
    obtain ⟨n, rfl⟩ : ∃ q, n = q + 1 := ⟨n - 1, by omega⟩
    rw [hstep n k (by omega), fst?]
    cases q : p k with
    | true => rw [if_pos rfl, if_pos rfl]
    | false => rw [if_neg (by decide), if_neg (by decide)]; exact ih (k + 1) n (by omega) (by omega)
theorem find0 {Rt : Type} {L : Nat → Int32 → Rt} {p : Nat → Bool} {N : Nat} (hN : N < 2000) {A : Rt} {B : Nat → Rt} (hexit : ∀ n, L (n + 1) (nI N) = A) (hstep : ∀ n k, k < N → L (n + 1) (nI k) = if p k = true then B k else L n (nI (k + 1))) : L FU 0 = match fst? p 0 N with
    | some k => B k
    | none => A := by
  rw [← nI_0]
  exact findUp hexit hstep N 0 FU (by omega) (by rw [FU_eq]; exact hN)
theorem freeNumber_eq {c m : Sx} (h : RPres c m) : f_X1_freeNumber c = match fst? (fun k => !iF m k) 0 40 with
    | some k => some (nI k)
    | none => some (-1) := by
  unfold f_X1_freeNumber
  exact find0 (L := fun n i => L_X1_freeNumber_2 c (fun z2 => some (-1)) n i) (p := fun k => !iF m k) (N := 40) (by decide) (fun n => by
    show L_X1_freeNumber_2 _ _ _ _ = _
    rw [L_X1_freeNumber_2, if_pos (by decide)]) (fun n k hk => by
    show L_X1_freeNumber_2 _ _ _ _ = _
    rw [L_X1_freeNumber_2, if_neg (ngo (x := 40) (N := 40) rfl hk (by decide)), holds_pres h hk, Option.bind_some, nI_lit1]
    cases iF m k <;> rfl)
theorem addM_eq (m : Sx) (b1 b2 : Int32) (kont : Int32 → Option (Int32 × Sx)) : L_X9_add_25 m b1 b2 kont FU 0 = match fst? (fun k => !iF m k) 0 40 with
    | some k => kont (nI k)
    | none => kont (nI 40) := by
  exact find0 (L := fun n i => L_X9_add_25 m b1 b2 kont n i) (p := fun k => !iF m k) (N := 40) (by decide) (fun n => by
    show L_X9_add_25 _ _ _ _ _ _ = _
    rw [L_X9_add_25, if_pos (by decide)]) (fun n k hk => by
    show L_X9_add_25 _ _ _ _ _ _ = _
    rw [L_X9_add_25, if_neg (ngo (x := 40) (N := 40) rfl hk (by decide)), gd_pos (vin_nI hk (by decide)), ix_nI (by omega), nI_lit1]
    cases q : iF m k with
    | false => rw [if_pos (iF_dec.mpr q)]; rfl
    | true => rw [if_neg (iF_ne q)]; rfl)
theorem fill_eq (c : Sx) {f : Nat} (hf : f < 40) : ∃ c', f_J7_fill_fda19 c (nI (18 * f)) (nI (18 * f + 18)) (-1) = some c' ∧ OnA 11 c c' ∧ ∀ j, gA c' 11 j = if 18 * f ≤ j ∧ j < 18 * f + 18 then -1 else gA c 11 j := by
  unfold f_J7_fill_fda19 f_J7_rangeCheck_23922
  rw [if_pos (nI_le (by omega) (by omega)), if_pos (nI_pos' (by omega)), if_pos (by rw [show (720 : Int32) = nI 720 from rfl]; exact nI_le (by omega) (by decide)), Option.bind_some]
  obtain ⟨y, ⟨-, h1, h2⟩, e⟩ := loopUp (L := fun n i s => L_J7_fill_fda19_10 (nI (18 * f)) (nI (18 * f + 18)) (-1) (fun z3 t4 => some t4) n i s) (E := fun s => some s) (N := 18 * f + 18)
    (fun k s => 18 * f ≤ k ∧ OnA 11 c s ∧ ∀ j, gA s 11 j = if 18 * f ≤ j ∧ j < k then -1 else gA c 11 j)
    (fun n s _ => by
      show L_J7_fill_fda19_10 _ _ _ _ _ _ _ = _
      rw [L_J7_fill_fda19_10, if_pos (nI_le (Nat.le_refl _) (by omega))])
    (fun k s hk h => by
      obtain ⟨q, h1, h2⟩ := h
      refine ⟨pA s 11 k (-1), ⟨by omega, h1.pA _ _, fun j => ?_⟩, fun n => ?_⟩
      · rw [gA_pA_at, h2 j]
        by_cases w : j = k
        · rw [if_pos w, if_pos (by omega)]
        · rw [if_neg w]
          by_cases w2 : 18 * f ≤ j ∧ j < k
          · rw [if_pos w2, if_pos (by omega)]
          · rw [if_neg w2, if_neg (by omega)]
      · show L_J7_fill_fda19_10 _ _ _ _ _ _ _ = _
        rw [L_J7_fill_fda19_10, if_neg (by rw [nI_le_iff (by omega) (by omega)]; omega), gd_pos (vin_nI (by omega) (by decide)), bd_eq, ix_nI (by omega), nI_lit1])
    18 (18 * f) FU c (by omega) (by rw [FU_eq]; decide) ⟨Nat.le_refl _, OnA.rf _ _, fun j => by rw [if_neg (by omega)]⟩
  exact ⟨y, e, h1, h2⟩
theorem i18a (f k : Nat) : (18 * nI f) + nI k = nI (18 * f + k) := by rw [show (18 : Int32) = nI 18 from rfl, nI_mul, nI_add]
theorem clearM_eq (m : Sx) (b1 b2 : Int32) {f : Nat} (hf : f < 40) (kont : Int32 → Sx → Option (Int32 × Sx)) : ∃ m', L_X9_add_86 b1 b2 (nI f) kont FU 0 m = kont (nI 18) m' ∧ OnA 26 m m' ∧ ∀ j, gA m' 26 j = if 18 * f ≤ j ∧ j < 18 * f + 18 then 0 else gA m 26 j := by
  obtain ⟨y, ⟨h1, h2⟩, e⟩ := loop0 (L := fun n i s => L_X9_add_86 b1 b2 (nI f) kont n i s) (E := fun s => kont (nI 18) s) (N := 18) (by decide) (y := m)
    (fun k s => OnA 26 m s ∧ ∀ j, gA s 26 j = if 18 * f ≤ j ∧ j < 18 * f + k then 0 else gA m 26 j)
    (fun n s _ => by
      show L_X9_add_86 _ _ _ _ _ _ _ = _
      rw [L_X9_add_86, if_pos (by decide)])
    (fun k s hk h => by
      obtain ⟨h1, h2⟩ := h
      refine ⟨pA s 26 (18 * f + k) 0, ⟨h1.pA _ _, fun j => ?_⟩, fun n => ?_⟩
      · rw [gA_pA_at, h2 j]
        by_cases w : j = 18 * f + k
        · rw [if_pos w, if_pos (by omega)]
        · rw [if_neg w]
          by_cases w2 : 18 * f ≤ j ∧ j < 18 * f + k
          · rw [if_pos w2, if_pos (by omega)]
          · rw [if_neg w2, if_neg (by omega)]
      · show L_X9_add_86 _ _ _ _ _ _ _ = _
        rw [L_X9_add_86, if_neg (ngo (x := 18) (N := 18) rfl hk (by decide)), i18a, gd_pos (vin_nI (by omega) (by decide)), bd_eq, ix_nI (by omega), nI_lit1])
    ⟨OnA.rf _ _, fun j => by rw [if_neg (by omega)]⟩
  exact ⟨y, e, h1, h2⟩
theorem enter_eq (c : Sx) {f : Nat} (hf : f < 40) (d z : Int32) : ∃ c', f_X1_enter c (nI f) d z = some c' ∧ FrM c c' ∧ (∀ k, k < 64 → hb (gL c' 8) k = (hb (gL c 8) k || decide (k = f))) ∧ (∀ k, k ≠ 8 → gL c' k = gL c k) ∧ (∀ a, a ≠ 9 → a ≠ 10 → a ≠ 11 → gA c' a = gA c a) ∧ gI c' = gI c ∧ (∀ k, gA c' 9 k = if k = f then d else gA c 9 k) ∧ (∀ k, gA c' 10 k = if k = f then z else gA c 10 k) ∧ ∀ j, gA c' 11 j = if 18 * f ≤ j ∧ j < 18 * f + 18 then -1 else gA c 11 j := by
  unfold f_X1_enter f_X8_only f_X1_slot
  have g : vp_in (nI f) 40 := vin_nI hf (by decide)
  have s0 : (((nI f * 3) + 0) * 6) + 0 = nI (18 * f) := i18c f 0 0
  have s1 : ((((nI f + 1) * 3) + 0) * 6) + 0 = nI (18 * f + 18) := by rw [nI_lit1]; have := i18c (f + 1) 0 0; rw [show 18 * (f + 1) + 6 * 0 + 0 = 18 * f + 18 by omega] at this; exact this
  simp only [Option.bind_some, bd_eq, gd_pos g, s0, s1]
  rw [ix_nI (by omega)]
  obtain ⟨c', e, o, hj⟩ := fill_eq (pA (pA (pL c 8 (gL c 8 ||| shlL 1 (nI f))) 9 f d) 10 f z) hf
  rw [e]
  refine ⟨c', rfl, ?_, ?_, ?_, ?_, ?_, ?_, ?_, ?_⟩
  · exact (FrM.pL).tr ((FrM.pA (by omega)).tr ((FrM.pA (by omega)).tr (o.frM (by omega))))
  · intro k hk
    rw [o.2.2.1, gL_pA, gL_pA, gL_pL, if_pos rfl, hb_orx _ (by omega) hk]
  · intro k hk
    rw [o.2.2.1, gL_pA, gL_pA, gL_pL, if_neg hk]
  · intro a h1 h2 h3
    rw [o.1 a h3, gA_pA_ne h2, gA_pA_ne h1, gA_pL]
  · rw [o.2.1]; rfl
  · intro k
    rw [o.1 9 (by decide), gA_pA_ne (by decide), gA_pA_at, gA_pL]
  · intro k
    rw [o.1 10 (by decide), gA_pA_at, gA_pA_ne (by decide), gA_pL]
  · intro j
    rw [hj, gA_pA_ne (by decide), gA_pA_ne (by decide), gA_pL]
theorem cal_add (a1 a2 : Int32) : Cal (-3) (fun t => f_X8_add t a1 a2) (fun t => f_X9_add t a1 a2) := fun c m h => by
  show ∃ r c' m', f_X8_add c a1 a2 = some (r, c') ∧ f_X9_add m a1 a2 = some (r, m') ∧ _
  unfold f_X8_add f_X9_add
  simp only [isWithin_eq, in_eq, Option.bind_some]
  cases q1 : inr a1 0 9999 with
  | false => exact h.err (-1) (by rw [bF]) (by rw [bF])
  | true =>
    rw [bT, bT]
    cases q2 : inr a2 1 100000 with
    | false => exact h.err (-1) (by rw [bF]) (by rw [bF])
    | true =>
      rw [bT, bT, freeNumber_eq h.1.rP, addM_eq]
      cases e : fst? (fun k => !iF m k) 0 40 with
      | none => exact h.err (-3) (by rfl) (by dsimp only; rw [if_pos (by decide)])
      | some f =>
        obtain ⟨-, hf, hnf, -⟩ := fst?_some e
        have hf : f < 40 := by omega
        have hp : iF m f = false := by simpa using hnf
        have g : vp_in (nI f) 40 := vin_nI hf (by decide)
        dsimp only
        rw [Option.bind_some, if_neg (nI_ne_m1 (by omega)), if_neg (by rw [show (40 : Int32) = nI 40 from rfl, nI_eq_iff (by omega) (by decide)]; omega)]
        simp only [gd_pos g, bd_eq]
        rw [ix_nI (by omega)]
        obtain ⟨c1, e1, fr1, l8, l, o, oI, k9, k10, k11⟩ := enter_eq c hf a1 a2
        obtain ⟨m1, e2, o2, k26⟩ := clearM_eq (pA (pA (pA (pA m 23 f 1) 24 f a1) 25 f a2) 29 f (-1)) a1 a2 hf (fun z9 t10 => (f_X9_settled t10 (nI f)).bind fun r11 => some (r11.1, r11.2))
        rw [e1, Option.bind_some, e2]
        obtain ⟨hB, hD, hA, hJ, hM⟩ := h
        have h29 : gA m 29 f = -1 := by
          rcases wStk_home hB.wS hf with w | ⟨s, _, _, _, w⟩
          · exact w
          · rw [hp] at w; cases w
        have m23 : ∀ k, gA m1 23 k = if k = f then 1 else gA m 23 k := fun k => by rw [o2.1 23 (by decide), gA_pA_ne (by decide), gA_pA_ne (by decide), gA_pA_ne (by decide), gA_pA_at]
        have m24 : ∀ k, gA m1 24 k = if k = f then a1 else gA m 24 k := fun k => by rw [o2.1 24 (by decide), gA_pA_ne (by decide), gA_pA_ne (by decide), gA_pA_at, gA_pA_ne (by decide)]
        have m25 : ∀ k, gA m1 25 k = if k = f then a2 else gA m 25 k := fun k => by rw [o2.1 25 (by decide), gA_pA_ne (by decide), gA_pA_at, gA_pA_ne (by decide), gA_pA_ne (by decide)]
        have m29 : gA m1 29 = gA m 29 := by
          funext k
          rw [o2.1 29 (by decide), gA_pA_at, gA_pA_ne (by decide), gA_pA_ne (by decide), gA_pA_ne (by decide)]
          split
          · rename_i w; rw [w, h29]
          · rfl
        have mA : ∀ a, a ≠ 23 → a ≠ 24 → a ≠ 25 → a ≠ 26 → a ≠ 29 → gA m1 a = gA m a := fun a w1 w2 w3 w4 w5 => by rw [o2.1 a w4, gA_pA_ne w5, gA_pA_ne w3, gA_pA_ne w2, gA_pA_ne w1]
        have mI : gI m1 = gI m := by rw [o2.2.1]; rfl
        have mM : gM m1 = gM m := by rw [o2.2.2.2]; rfl
        have m26 : ∀ j, gA m1 26 j = if 18 * f ≤ j ∧ j < 18 * f + 18 then 0 else gA m 26 j := fun j => by rw [k26, gA_pA_ne (by decide), gA_pA_ne (by decide), gA_pA_ne (by decide), gA_pA_ne (by decide)]
        have eF : ∀ k, iF m1 k = if k = f then true else iF m k := fun k => by
          unfold iF; rw [m23]; split <;> rfl
        have eT : ∀ j, iT m1 j = if 18 * f ≤ j ∧ j < 18 * f + 18 then false else iT m j := fun j => by
          unfold iT; rw [m26]; split <;> rfl
        have emn : mn m1 = mn m := mn_on (mA 30 (by decide) (by decide) (by decide) (by decide) (by decide))
        have p1 : Pre c1 m1 := by
          refine ⟨⟨hB.wO.on (mA 28 (by decide) (by decide) (by decide) (by decide) (by decide)), fun i hi ht => ?_, ?_, hB.wT.on (by rw [mI]) (mA 34 (by decide) (by decide) (by decide) (by decide) (by decide)), fun k hk => ?_, fun k hk hpk => ?_, fun k hk hpk j hj => ?_, (hB.rO.on (o 13 (by decide) (by decide) (by decide))).onM (mA 28 (by decide) (by decide) (by decide) (by decide) (by decide)), ?_, (hB.rT.onC (by rw [oI]) (o 108 (by decide) (by decide) (by decide))).onM (by rw [mI]) (mA 34 (by decide) (by decide) (by decide) (by decide) (by decide)), fun k hk s hs ht => ?_⟩, hA.on (fun k _ _ => by rw [oI]) (fun a ha _ => o a (by omega) (by omega) (by omega)) (fun k hk => l k (by omega)) (fun a ha _ => mA a (by omega) (by omega) (by omega) (by omega) (by omega)) (by rw [mM]), hJ.on (by rw [oI]) (by rw [oI]) (by rw [mI]) (o 20 (by decide) (by decide) (by decide)) (o 21 (by decide) (by decide) (by decide)) (o 22 (by decide) (by decide) (by decide)) (mA 41 (by decide) (by decide) (by decide) (by decide) (by decide))⟩
          · rw [eT] at ht
            rw [mA 27 (by decide) (by decide) (by decide) (by decide) (by decide)]
            by_cases w : 18 * f ≤ i ∧ i < 18 * f + 18
            · rw [if_pos w] at ht; cases ht
            · rw [if_neg w] at ht; exact hB.wV i hi ht
          · obtain ⟨s1, s2, s3, s4, s5⟩ := hB.wS
            unfold WStk
            rw [emn, m29, mA 30 (by decide) (by decide) (by decide) (by decide) (by decide), mA 31 (by decide) (by decide) (by decide) (by decide) (by decide), mA 32 (by decide) (by decide) (by decide) (by decide) (by decide)]
            refine ⟨fun k hk => ?_, s2, s3, s4, s5⟩
            rcases s1 k hk with w | ⟨s, w1, w2, w3, w4⟩
            · exact Or.inl w
            · exact Or.inr ⟨s, w1, w2, by rw [eF]; split; · rfl
                                          · exact w3, w4⟩
          · rw [l8 k hk, hB.rP k hk, eF]
            by_cases w : k = f
            · rw [if_pos w, decide_eq_true w, Bool.or_true, decide_eq_true (by omega)]; rfl
            · rw [if_neg w, decide_eq_false w, Bool.or_false]
          · rw [eF] at hpk
            rw [k9, k10, m24, m25]
            by_cases w : k = f
            · rw [if_pos w, if_pos w, if_pos w, if_pos w]; exact ⟨rfl, rfl⟩
            · rw [if_neg w] at hpk
              rw [if_neg w, if_neg w, if_neg w, if_neg w]; exact hB.rD k hk hpk
          · rw [eF] at hpk
            rw [k11, eT, mA 27 (by decide) (by decide) (by decide) (by decide) (by decide)]
            by_cases w : k = f
            · have w' : 18 * f ≤ 18 * k + j ∧ 18 * k + j < 18 * f + 18 := by omega
              rw [if_pos w', if_pos w']; rfl
            · rw [if_neg w] at hpk
              have w' : ¬ (18 * f ≤ 18 * k + j ∧ 18 * k + j < 18 * f + 18) := by omega
              rw [if_neg w', if_neg w']; exact hB.rV k hk hpk j hj
          · refine (hB.rS.onC (o 14 (by decide) (by decide) (by decide)) (o 15 (by decide) (by decide) (by decide)) (o 16 (by decide) (by decide) (by decide)) (o 17 (by decide) (by decide) (by decide)) (o 18 (by decide) (by decide) (by decide)) (l 11 (by decide))).onM m29 (mA 30 (by decide) (by decide) (by decide) (by decide) (by decide)) (mA 31 (by decide) (by decide) (by decide) (by decide) (by decide)) (mA 32 (by decide) (by decide) (by decide) (by decide) (by decide)) (mA 33 (by decide) (by decide) (by decide) (by decide) (by decide))
          · rw [eT] at ht
            rw [mA 27 (by decide) (by decide) (by decide) (by decide) (by decide)]
            by_cases w : 18 * f ≤ 18 * k + 6 * s + 5 ∧ 18 * k + 6 * s + 5 < 18 * f + 18
            · rw [if_pos w] at ht; cases ht
            · rw [if_neg w] at ht; exact hB.wG k hk s hs ht
        have f2 : FrC m m1 := (FrC.pA (by omega)).tr ((frC_pA24 (inr_iff.mp q1).1).tr ((FrC.pA (by omega)).tr ((FrC.pA (by omega)).tr (FrC.ofM (fun a ha => o2.1 a (by omega)) (fun k _ => by rw [o2.2.1]) (fun k => by rw [o2.2.2.1]) o2.2.2.2))))
        obtain ⟨c', m', e3, e4, i1, i2, i3, -⟩ := fin_settle p1 fr1 f2
        rw [e3, e4]
        exact ⟨_, c', m', rfl, rfl, i1, i2, i3, fun _ => lo_nI (by decide) (by omega)⟩
end
section
/-! ===== a file leaves its stack ===== -/
/-- the state of the stacks behind it: f from place k0 of stack s with n files; g is the other one where n is 2 -/
def Lv (A29 A30 A31 A32 B29 B30 B31 B32 : Nat → Int32) (f s k0 n g : Nat) : Prop := (∀ i, B29 i = if i = f ∨ (n = 2 ∧ i = g) then -1 else A29 i) ∧ (∀ i, B30 i = if i = s then (if n = 2 then 0 else nI (n - 1)) else A30 i) ∧ (∀ i, B31 i = if 8 * s + k0 ≤ i ∧ i + 1 < 8 * s + n then A31 (i + 1) else A31 i) ∧ ∀ i, B32 i = if i = s ∧ A32 s = nI f then -1 else A32 i
theorem lv_mn {m m1 : Sx} {f s k0 g : Nat} (h8 : mn m s ≤ 8) (L : Lv (gA m 29) (gA m 30) (gA m 31) (gA m 32) (gA m1 29) (gA m1 30) (gA m1 31) (gA m1 32) f s k0 (mn m s) g) (s' : Nat) : mn m1 s' = if s' = s then (if mn m s = 2 then 0 else mn m s - 1) else mn m s' := by
  show ix (gA m1 30 s') = _
  rw [L.2.1]
  split
  · split
    · rfl
    · exact ix_nI (by omega)
  · rfl
theorem lv_W {m m1 : Sx} (h : WStk m) {f s k0 g : Nat} (hf : f < 40) (hs : s < 10) (hk : k0 < mn m s) (e : fl m s k0 = f) (eg : g = fl m s (if k0 = 0 then 1 else 0)) (L : Lv (gA m 29) (gA m 30) (gA m 31) (gA m 32) (gA m1 29) (gA m1 30) (gA m1 31) (gA m1 32) f s k0 (mn m s) g) (e23 : iF m1 = iF m) : WStk m1 := by
  obtain ⟨en, h8, n1⟩ := wStk_mn h hs
  have hmn := lv_mn h8 L
  obtain ⟨a29, a30, a31, a32⟩ := L
  have hfs : gA m 29 f = nI s := by rw [← e]; exact (wStk_fl h hs hk).2.2
  have hgs : mn m s = 2 → gA m 29 g = nI s := fun n2 => by rw [eg]; exact (wStk_fl h hs (by split <;> omega)).2.2
  have live : ∀ s', s' < 10 → s' ≠ s → ∀ i, gA m 29 i = nI s' → gA m1 29 i = nI s' := fun s' hs' ne i hi => by
    rw [a29, if_neg]
    · exact hi
    · rintro (w | ⟨n2, w⟩)
      · rw [w, hfs, nI_eq_iff (by omega) (by omega)] at hi; exact ne hi.symm
      · rw [w, hgs n2, nI_eq_iff (by omega) (by omega)] at hi; exact ne hi.symm
  have far : ∀ s' k, s' ≠ s → k < 8 → gA m1 31 (8 * s' + k) = gA m 31 (8 * s' + k) := fun s' k ne hk8 => by rw [a31, if_neg (by omega)]
  have near : ∀ k, k < mn m s - 1 → gA m1 31 (8 * s + k) = gA m 31 (8 * s + (if k < k0 then k else k + 1)) := fun k hk1 => by
    rw [a31]
    by_cases w : k < k0
    · rw [if_neg (by omega), if_pos w]
    · rw [if_pos (by omega), if_neg w]; rfl
  have in8 : ∀ s', s' < 10 → mn m s' ≤ 8 := fun s' hs' => (wStk_mn h hs').2.1
  refine ⟨fun f' hf' => ?_, fun s' hs' => ?_, fun s' hs' k hk' => ?_, fun s' hs' j k hjk hk' => ?_, fun s' hs' hn' => ?_⟩
  · rw [a29]
    by_cases dd : f' = f ∨ (mn m s = 2 ∧ f' = g)
    · rw [if_pos dd]; exact Or.inl rfl
    · rw [if_neg dd, e23]
      rcases h.1 f' hf' with w | ⟨s', hs', w1, w2, k, hk', w3⟩
      · exact Or.inl w
      · refine Or.inr ⟨s', hs', w1, w2, ?_⟩
        by_cases q : s' = s
        · subst q
          have efk : fl m s' k = f' := by unfold fl; rw [w3, ix_nI (by omega)]
          have nk : k ≠ k0 := fun z => dd (Or.inl (by rw [← e, ← z, efk]))
          have n3 : mn m s' ≠ 2 := fun n2 => dd (Or.inr ⟨n2, by rw [← efk, eg]; congr 1; split <;> omega⟩)
          rw [hmn, if_pos rfl, if_neg n3]
          refine ⟨if k < k0 then k else k - 1, by split <;> omega, ?_⟩
          rw [near _ (by split <;> omega), ← w3]
          congr 2
          by_cases z : k < k0
          · rw [if_pos z, if_pos z]
          · rw [if_neg z, if_neg (by omega)]; omega
        · refine ⟨k, by rw [hmn, if_neg q]; exact hk', ?_⟩
          rw [far s' k q (by have := in8 s' hs'; omega)]; exact w3
  · rw [a30]
    by_cases q : s' = s
    · rw [if_pos q]
      by_cases n2 : mn m s = 2
      · rw [if_pos n2]; exact ⟨0, by omega, rfl, by omega⟩
      · rw [if_neg n2]; exact ⟨mn m s - 1, by omega, rfl, by omega⟩
    · rw [if_neg q]; exact h.2.1 s' hs'
  · rw [hmn] at hk'
    by_cases q : s' = s
    · subst q
      rw [if_pos rfl] at hk'
      by_cases n2 : mn m s' = 2
      · rw [if_pos n2] at hk'; omega
      · rw [if_neg n2] at hk'
        rw [near k hk']
        obtain ⟨b1, b2', b3⟩ := wStk_fl h hs (k := if k < k0 then k else k + 1) (by split <;> omega)
        refine ⟨_, b2', b1, ?_⟩
        rw [a29, if_neg]
        · exact b3
        · rintro (w | ⟨w, _⟩)
          · rw [← e] at w
            have := wStk_fl_inj h hs (by split <;> omega) hk w
            revert this; split <;> omega
          · exact n2 w
    · rw [if_neg q] at hk'
      obtain ⟨b1, b2', b3⟩ := wStk_fl h hs' hk'
      refine ⟨_, b2', by rw [far s' k q (by have := in8 s' hs'; omega)]; exact b1, live s' hs' q _ b3⟩
  · rw [hmn] at hk'
    by_cases q : s' = s
    · subst q
      rw [if_pos rfl] at hk'
      by_cases n2 : mn m s' = 2
      · rw [if_pos n2] at hk'; omega
      · rw [if_neg n2] at hk'
        rw [near k hk', near j (by omega)]
        exact h.2.2.2.1 s' hs' _ _ (by split <;> split <;> omega) (by split <;> omega)
    · rw [if_neg q] at hk'
      rw [far s' k q (by have := in8 s' hs'; omega), far s' j q (by have := in8 s' hs'; omega)]
      exact h.2.2.2.1 s' hs' j k hjk hk'
  · rw [hmn] at hn'
    rw [a32]
    by_cases q : s' = s
    · subst q
      rw [if_pos rfl] at hn'
      have n2 : mn m s' ≠ 2 := fun z => by rw [if_pos z] at hn'; omega
      by_cases z : gA m 32 s' = nI f
      · rw [if_pos ⟨rfl, z⟩]; exact Or.inl rfl
      · rw [if_neg (fun w => z w.2)]
        rcases h.2.2.2.2 s' hs' (by omega) with w | ⟨f', w1, w2, w3⟩
        · exact Or.inl w
        · refine Or.inr ⟨f', w1, w2, ?_⟩
          rw [a29, if_neg]
          · exact w3
          · rintro (w | ⟨w, _⟩)
            · rw [w2, w] at z; exact z rfl
            · exact n2 w
    · rw [if_neg q] at hn'
      rw [if_neg (fun w => q w.1)]
      rcases h.2.2.2.2 s' hs' hn' with w | ⟨f', w1, w2, w3⟩
      · exact Or.inl w
      · exact Or.inr ⟨f', w1, w2, live s' hs' q f' w3⟩
theorem lv_R {c m c1 m1 : Sx} (h : WStk m) (r : RStk c m) {f s k0 g : Nat} (hf : f < 40) (hs : s < 10) (hk : k0 < mn m s) (eg : g = fl m s (if k0 = 0 then 1 else 0)) (L : Lv (gA m 29) (gA m 30) (gA m 31) (gA m 32) (gA m1 29) (gA m1 30) (gA m1 31) (gA m1 32) f s k0 (mn m s) g) (LC : Lv (gA c 18) (gA c 15) (gA c 14) (gA c 16) (gA c1 18) (gA c1 15) (gA c1 14) (gA c1 16) f s k0 (mn m s) g) (e17 : gA c1 17 = gA c 17) (e33 : gA m1 33 = gA m 33) (hb11 : ∀ k, k < 64 → hb (gL c1 11) k = (hb (gL c 11) k && !decide (k = f ∨ (mn m s = 2 ∧ k = g)))) : RStk c1 m1 := by
  obtain ⟨en, h8, n1⟩ := wStk_mn h hs
  have hmn := lv_mn h8 L
  obtain ⟨a29, a30, a31, a32⟩ := L
  obtain ⟨b18, b15, b14, b16⟩ := LC
  obtain ⟨r1, r2, r3, r4, r5⟩ := r
  have in8 : ∀ s', s' < 10 → mn m s' ≤ 8 := fun s' hs' => (wStk_mn h hs').2.1
  refine ⟨fun f' hf' => by rw [b18, a29, r1 f' hf'], fun s' hs' => by rw [b15, a30, r2 s' hs'], fun s' hs' k hk' => ?_, fun s' hs' hn' => ?_, fun k hk' => ?_⟩
  · rw [hmn] at hk'
    rw [b14, a31]
    by_cases q : s' = s
    · subst q
      rw [if_pos rfl] at hk'
      have hk2 : k < mn m s' - 1 := by revert hk'; split <;> omega
      split
      · rw [Nat.add_assoc]; exact r3 s' hs' (k + 1) (by omega)
      · exact r3 s' hs' k (by omega)
    · rw [if_neg q] at hk'
      have := in8 s' hs'
      rw [if_neg (by omega), if_neg (by omega)]
      exact r3 s' hs' k hk'
  · rw [hmn] at hn'
    have hn2 : 0 < mn m s' := by
      revert hn'; split
      · rename_i w; rw [w]; split <;> omega
      · exact id
    have g4 := r4 s' hs' hn2
    rw [e17, e33]
    refine ⟨?_, g4.2⟩
    rw [b16, a32, (r4 s hs (by omega)).1]
    split
    · rfl
    · exact g4.1
  · rw [hb11 k hk', a29, Bool.and_eq_true, r5 k hk']
    by_cases dd : k = f ∨ (mn m s = 2 ∧ k = g)
    · rw [if_pos dd, decide_eq_true dd]
      exact ⟨fun w => absurd w.2 (by decide), fun w => absurd rfl w.2⟩
    · rw [if_neg dd, decide_eq_false dd]
      exact ⟨fun w => w.1, fun w => ⟨w, rfl⟩⟩
end
section
theorem closeGap_eq {c : Sx} {s n k0 f : Nat} (hs : s < 10) (hn : n ≤ 8) (e15 : gA c 15 s = nI n) (hk0 : k0 < n) (hu : ∀ k, k < n → (gA c 14 (8 * s + k) = nI f ↔ k = k0)) : ∃ c1, f_X6_closeGap c (nI s) (nI f) = some c1 ∧ (∀ a, a ≠ 14 → a ≠ 15 → gA c1 a = gA c a) ∧ gI c1 = gI c ∧ gL c1 = gL c ∧ gM c1 = gM c ∧ (∀ i, gA c1 15 i = if i = s then nI (n - 1) else gA c 15 i) ∧ ∀ i, gA c1 14 i = if 8 * s + k0 ≤ i ∧ i + 1 < 8 * s + n then gA c 14 (i + 1) else gA c 14 i := by
  unfold f_X6_closeGap
  have g : vp_in (nI s) 10 := vin_nI hs (by decide)
  obtain ⟨y, ⟨h1, h2, h3⟩, e⟩ := loop0 (L := fun i x (σ : Int32 × Sx) => L_X6_closeGap_5 (nI s) (nI f) (fun z4 z5 t6 => gd (vp_in (nI s) 10) (bd (pA t6 15 (ix (nI s)) z4) fun t7 => some t7)) i σ.1 x σ.2) (E := fun σ => some (pA σ.2 15 s σ.1)) (N := n) (by omega) (y := ((0 : Int32), c))
    (fun k σ => σ.1 = nI (if k ≤ k0 then k else k - 1) ∧ OnA 14 c σ.2 ∧ ∀ i, gA σ.2 14 i = if 8 * s + k0 ≤ i ∧ i + 1 < 8 * s + k then gA c 14 (i + 1) else gA c 14 i)
    (fun i σ h => by
      show L_X6_closeGap_5 _ _ _ _ _ _ _ = _
      rw [L_X6_closeGap_5, gd_pos g, ix_nI (by omega), h.2.1.1 15 (by decide), e15, if_pos (nI_le (Nat.le_refl _) (by omega)), gd_pos g, bd_eq])
    (fun k σ hk h => by
      obtain ⟨h1, h2, h3⟩ := h
      have ev : gA σ.2 14 (8 * s + k) = gA c 14 (8 * s + k) := by rw [h3, if_neg (by omega)]
      have step : ∀ i, L_X6_closeGap_5 (nI s) (nI f) (fun z4 z5 t6 => gd (vp_in (nI s) 10) (bd (pA t6 15 (ix (nI s)) z4) fun t7 => some t7)) (i + 1) σ.1 (nI k) σ.2 = if gA c 14 (8 * s + k) = nI f then L_X6_closeGap_5 (nI s) (nI f) (fun z4 z5 t6 => gd (vp_in (nI s) 10) (bd (pA t6 15 (ix (nI s)) z4) fun t7 => some t7)) i σ.1 (nI (k + 1)) σ.2 else L_X6_closeGap_5 (nI s) (nI f) (fun z4 z5 t6 => gd (vp_in (nI s) 10) (bd (pA t6 15 (ix (nI s)) z4) fun t7 => some t7)) i (nI ((if k ≤ k0 then k else k - 1) + 1)) (nI (k + 1)) (pA σ.2 14 (8 * s + (if k ≤ k0 then k else k - 1)) (gA c 14 (8 * s + k))) := fun i => by
        have hb : (if k ≤ k0 then k else k - 1) ≤ k := by split <;> omega
        rw [L_X6_closeGap_5, gd_pos g, ix_nI (n := s) (by omega), h2.1 15 (by decide), e15, if_neg (by rw [nI_le_iff (by omega) (by omega)]; omega), spot_eq, Option.bind_some, gd_pos (vin_nI (by omega) (by decide)), ix_nI (by omega), ev, nI_lit1, h1, spot_eq, Option.bind_some, gd_pos (vin_nI (by omega) (by decide)), ix_nI (by omega), bd_eq, nI_lit1]
      by_cases q : k = k0
      · refine ⟨σ, ⟨?_, h2, fun i => ?_⟩, fun i => ?_⟩
        · rw [h1, if_pos (by omega), if_neg (by omega)]; rfl
        · rw [h3 i, if_neg (by omega), if_neg (by omega)]
        · show L_X6_closeGap_5 _ _ _ _ _ _ _ = L_X6_closeGap_5 _ _ _ _ _ _ _
          rw [step, if_pos ((hu k hk).mpr q)]
      · refine ⟨(nI ((if k ≤ k0 then k else k - 1) + 1), pA σ.2 14 (8 * s + (if k ≤ k0 then k else k - 1)) (gA c 14 (8 * s + k))), ⟨?_, h2.pA _ _, fun i => ?_⟩, fun i => ?_⟩
        · dsimp only; congr 1; split <;> split <;> omega
        · dsimp only
          rw [gA_pA_at, h3 i]
          by_cases w : k ≤ k0
          · rw [if_pos w]
            by_cases z : i = 8 * s + k
            · rw [if_pos z, if_neg (by omega), z]
            · rw [if_neg z, if_neg (by omega), if_neg (by omega)]
          · rw [if_neg w]
            by_cases z : i = 8 * s + (k - 1)
            · rw [if_pos z, if_pos (by omega), z]; congr 1; omega
            · rw [if_neg z]
              by_cases u : 8 * s + k0 ≤ i ∧ i + 1 < 8 * s + k
              · rw [if_pos u, if_pos (by omega)]
              · rw [if_neg u, if_neg (by omega)]
        · show L_X6_closeGap_5 _ _ _ _ _ _ _ = L_X6_closeGap_5 _ _ _ _ _ _ _
          rw [step, if_neg (fun w => q ((hu k hk).mp w))])
    ⟨by rw [if_pos (by omega)]; rfl, OnA.rf _ _, fun i => by rw [if_neg (by omega)]⟩
  refine ⟨_, e, fun a q1 q2 => ?_, ?_, ?_, ?_, fun i => ?_, fun i => ?_⟩
  · rw [gA_pA_ne q2, h2.1 a q1]
  · show gI y.2 = _; rw [h2.2.1]
  · show gL y.2 = _; rw [h2.2.2.1]
  · show gM y.2 = _; rw [h2.2.2.2]
  · rw [gA_pA_at, h1, if_neg (show ¬ n ≤ k0 by omega), h2.1 15 (by decide)]
  · rw [gA_pA_ne (by decide), h3]
theorem leave_eq (c : Sx) {f : Nat} (hf : f < 40) : f_X6_leave c (nI f) = some (pL (pA c 18 f (-1)) 11 (gL c 11 &&& (shlL 1 (nI f) ^^^ -1))) := by
  unfold f_X6_leave f_X8_only
  rw [gd_pos (vin_nI hf (by decide)), ix_nI (by omega)]
  simp only [bd_eq, Option.bind_some, gL_pA]
theorem hb_cut (x : Int64) {f k : Nat} (hf : f < 64) (hk : k < 64) : hb (x &&& (shlL 1 (nI f) ^^^ -1)) k = (hb x k && !decide (k = f)) := by rw [hb_and, hb_not _ hk, hb_only hf hk]
/-- what release leaves as it was -/
def FrL (c c1 : Sx) : Prop := gI c1 = gI c ∧ gM c1 = gM c ∧ (∀ k, k ≠ 11 → gL c1 k = gL c k) ∧ ∀ a, a ≠ 14 → a ≠ 15 → a ≠ 16 → a ≠ 18 → gA c1 a = gA c a
theorem release_eq {c m : Sx} (h : WStk m) (r : RStk c m) {f s k0 : Nat} (hf : f < 40) (hs : s < 10) (hfs : gA m 29 f = nI s) (hk : k0 < mn m s) (e : fl m s k0 = f) : ∃ c1, f_X6_release c (nI f) = some c1 ∧ FrL c c1 ∧ Lv (gA c 18) (gA c 15) (gA c 14) (gA c 16) (gA c1 18) (gA c1 15) (gA c1 14) (gA c1 16) f s k0 (mn m s) (fl m s (if k0 = 0 then 1 else 0)) ∧ ∀ k, k < 64 → hb (gL c1 11) k = (hb (gL c 11) k && !decide (k = f ∨ (mn m s = 2 ∧ k = fl m s (if k0 = 0 then 1 else 0)))) := by
  obtain ⟨en, h8, n1⟩ := wStk_mn h hs
  have gf : vp_in (nI f) 40 := vin_nI hf (by decide)
  have gs : vp_in (nI s) 10 := vin_nI hs (by decide)
  have xs : ix (nI s) = s := ix_nI (by omega)
  have e15 : gA c 15 s = nI (mn m s) := by rw [r.2.1 s hs, en]
  have e14 : ∀ k, k < mn m s → gA c 14 (8 * s + k) = nI (fl m s k) := fun k hk' => by rw [r.2.2.1 s hs k hk']; exact (wStk_fl h hs hk').1
  obtain ⟨c1, p1, oA, oI, oL, oM, o15, o14⟩ := closeGap_eq (f := f) hs h8 e15 hk (fun k hk' => by
    rw [e14 k hk', nI_eq_iff (by have := (wStk_fl h hs hk').2.1; omega) (by omega)]
    exact ⟨fun w => wStk_fl_inj h hs hk' hk (by rw [w, e]), fun w => by rw [w, e]⟩)
  unfold f_X6_release
  rw [gd_pos gf, ix_nI (n := f) (by omega), r.1 f hf, hfs, if_neg (nI_ne_m1 (by omega)), p1, Option.bind_some, leave_eq c1 hf, Option.bind_some, gd_pos gs, xs]
  have b11 : ∀ k, k < 64 → hb (gL (pL (pA c1 18 f (-1)) 11 (gL c1 11 &&& (shlL 1 (nI f) ^^^ -1))) 11) k = (hb (gL c 11) k && !decide (k = f)) := fun k hk' => by
    rw [gL_pL, if_pos rfl, hb_cut _ (by omega) hk', oL]
  -- the rest, for the state behind the choice
  have fin : ∀ t : Sx, (gA t 16 = gA c 16 ∨ (gA c 16 s = nI f ∧ ∀ i, gA t 16 i = if i = s then -1 else gA c 16 i)) → (gA c 16 s = nI f → gA t 16 s = -1) → (∀ a, a ≠ 16 → gA t a = gA (pL (pA c1 18 f (-1)) 11 (gL c1 11 &&& (shlL 1 (nI f) ^^^ -1))) a) → gI t = gI c → gM t = gM c → gL t = gL (pL (pA c1 18 f (-1)) 11 (gL c1 11 &&& (shlL 1 (nI f) ^^^ -1))) → ∃ c2, (if gA t 15 s = 1 then (f_X6_spot t (nI s) 0).bind fun r7 => gd (vp_in r7 80) ((f_X6_leave t (gA t 14 (ix r7))).bind fun r8 => gd (vp_in (nI s) 10) (bd (pA r8 15 s 0) fun t9 => some t9)) else some t) = some c2 ∧ FrL c c2 ∧ Lv (gA c 18) (gA c 15) (gA c 14) (gA c 16) (gA c2 18) (gA c2 15) (gA c2 14) (gA c2 16) f s k0 (mn m s) (fl m s (if k0 = 0 then 1 else 0)) ∧ ∀ k, k < 64 → hb (gL c2 11) k = (hb (gL c 11) k && !decide (k = f ∨ (mn m s = 2 ∧ k = fl m s (if k0 = 0 then 1 else 0)))) := by
    intro t t16 t16s tA tI tM tL
    have t15 : ∀ i, gA t 15 i = if i = s then nI (mn m s - 1) else gA c 15 i := fun i => by rw [tA 15 (by decide), gA_pL, gA_pA_ne (by decide), o15]
    have t14 : ∀ i, gA t 14 i = if 8 * s + k0 ≤ i ∧ i + 1 < 8 * s + mn m s then gA c 14 (i + 1) else gA c 14 i := fun i => by rw [tA 14 (by decide), gA_pL, gA_pA_ne (by decide), o14]
    have t18 : ∀ i, gA t 18 i = if i = f then -1 else gA c 18 i := fun i => by rw [tA 18 (by decide), gA_pL, gA_pA_at, oA 18 (by decide) (by decide)]
    have tO : ∀ a, a ≠ 14 → a ≠ 15 → a ≠ 16 → a ≠ 18 → gA t a = gA c a := fun a q1 q2 q3 q4 => by rw [tA a q3, gA_pL, gA_pA_ne q4, oA a q1 q2]
    have c16 : ∀ i, gA t 16 i = if i = s ∧ gA c 16 s = nI f then -1 else gA c 16 i := fun i => by
      rcases t16 with w | ⟨w, w2⟩
      · by_cases z : i = s ∧ gA c 16 s = nI f
        · rw [if_pos z, z.1, t16s z.2]
        · rw [if_neg z, w]
      · rw [w2]
        by_cases z : i = s
        · rw [if_pos z, if_pos ⟨z, w⟩]
        · rw [if_neg z, if_neg (fun u => z u.1)]
    have tl : ∀ k, k ≠ 11 → gL t k = gL c k := fun k hk' => by rw [tL, gL_pL, if_neg hk', gL_pA, oL]
    rw [t15, if_pos rfl]
    by_cases n2 : mn m s = 2
    · have hg := wStk_fl h hs (k := if k0 = 0 then 1 else 0) (by split <;> omega)
      have e8 : gA t 14 (8 * s) = nI (fl m s (if k0 = 0 then 1 else 0)) := by
        rw [t14]
        by_cases z : k0 = 0
        · rw [if_pos (by omega), if_pos z]; exact e14 1 (by omega)
        · rw [if_neg (by omega), if_neg z]; exact e14 0 (by omega)
      rw [if_pos (by rw [n2]; rfl), show (0 : Int32) = nI 0 from rfl, spot_eq, Option.bind_some, gd_pos (vin_nI (by omega) (by decide)), ix_nI (by omega), Nat.add_zero, e8, leave_eq t hg.2.1, Option.bind_some, gd_pos gs]
      simp only [bd_eq]
      refine ⟨_, rfl, ⟨?_, ?_, fun k hk' => ?_, fun a q1 q2 q3 q4 => ?_⟩, ⟨fun i => ?_, fun i => ?_, fun i => ?_, fun i => ?_⟩, fun k hk' => ?_⟩
      · show gI t = _; exact tI
      · show gM t = _; exact tM
      · rw [gL_pA, gL_pL, if_neg hk', gL_pA, tl k hk']
      · rw [gA_pA_ne q2, gA_pL, gA_pA_ne q4, tO a q1 q2 q3 q4]
      · rw [gA_pA_ne (by decide), gA_pL, gA_pA_at, t18]
        by_cases z : i = fl m s (if k0 = 0 then 1 else 0)
        · rw [if_pos z, if_pos (Or.inr ⟨n2, z⟩)]
        · rw [if_neg z]
          by_cases z2 : i = f
          · rw [if_pos z2, if_pos (Or.inl z2)]
          · rw [if_neg z2, if_neg (fun w => w.elim z2 (fun u => z u.2))]
      · rw [gA_pA_at, gA_pL, gA_pA_ne (by decide), t15]
        by_cases z : i = s
        · rw [if_pos z, if_pos z, if_pos n2]; rfl
        · rw [if_neg z, if_neg z, if_neg z]
      · rw [gA_pA_ne (by decide), gA_pL, gA_pA_ne (by decide), t14]
      · rw [gA_pA_ne (by decide), gA_pL, gA_pA_ne (by decide), c16]
      · rw [gL_pA, gL_pL, if_pos rfl, hb_cut _ (by omega) hk', tL, b11 k hk', Bool.and_assoc]
        congr 1
        by_cases z : k = fl m s (if k0 = 0 then 1 else 0)
        · rw [decide_eq_true z, decide_eq_true (p := k = f ∨ _) (Or.inr ⟨n2, z⟩)]; simp
        · by_cases z2 : k = f
          · rw [decide_eq_true z2, decide_eq_true (p := k = f ∨ _) (Or.inl z2)]; simp
          · rw [decide_eq_false z, decide_eq_false z2, decide_eq_false (p := k = f ∨ _) (fun w => w.elim z2 (fun u => z u.2))]; rfl
    · rw [if_neg (by rw [show (1 : Int32) = nI 1 from rfl, nI_eq_iff (by omega) (by omega)]; omega)]
      refine ⟨t, rfl, ⟨tI, tM, tl, tO⟩, ⟨fun i => ?_, fun i => ?_, t14, c16⟩, fun k hk' => ?_⟩
      · rw [t18]
        by_cases z2 : i = f
        · rw [if_pos z2, if_pos (Or.inl z2)]
        · rw [if_neg z2, if_neg (fun w => w.elim z2 (fun u => n2 u.1))]
      · rw [t15]
        by_cases z : i = s
        · rw [if_pos z, if_pos z, if_neg n2]
        · rw [if_neg z, if_neg z]
      · rw [tL, b11 k hk']
        congr 2
        exact decide_eq_decide.mpr ⟨fun u => Or.inl u, fun u => u.elim id (fun v => absurd v.1 n2)⟩
  have e16 : gA (pL (pA c1 18 f (-1)) 11 (gL c1 11 &&& (shlL 1 (nI f) ^^^ -1))) 16 = gA c 16 := by rw [gA_pL, gA_pA_ne (by decide), oA 16 (by decide) (by decide)]
  rw [e16]
  by_cases ch : gA c 16 s = nI f
  · rw [if_pos ch, gd_pos gs]
    simp only [bd_eq]
    rw [gd_pos gs]
    exact fin (pA (pL (pA c1 18 f (-1)) 11 (gL c1 11 &&& (shlL 1 (nI f) ^^^ -1))) 16 s (-1)) (Or.inr ⟨ch, fun i => by rw [gA_pA_at, e16]⟩) (fun _ => by rw [gA_pA_at, if_pos rfl]) (fun a ha => gA_pA_ne ha) (by show gI c1 = _; exact oI) (by show gM c1 = _; exact oM) rfl
  · rw [if_neg ch, gd_pos gs]
    exact fin (pL (pA c1 18 f (-1)) 11 (gL c1 11 &&& (shlL 1 (nI f) ^^^ -1))) (Or.inl e16) (fun w => absurd w ch) (fun a ha => rfl) (by show gI c1 = _; exact oI) (by show gM c1 = _; exact oM) rfl
end
section
theorem nI_subOne {k : Nat} (h : 0 < k) : nI k - 1 = nI (k - 1) := by rw [Int32.sub_eq_add_neg]; exact nI_sub1 h
def FrLm (m m1 : Sx) : Prop := gI m1 = gI m ∧ gM m1 = gM m ∧ gL m1 = gL m ∧ ∀ a, a ≠ 29 → a ≠ 30 → a ≠ 31 → a ≠ 32 → gA m1 a = gA m a
theorem leaves_eq {m : Sx} (h : WStk m) {f s k0 : Nat} (hf : f < 40) (hs : s < 10) (hfs : gA m 29 f = nI s) (hk : k0 < mn m s) (e : fl m s k0 = f) : ∃ m1, f_X9_leaves m (nI f) = some m1 ∧ FrLm m m1 ∧ Lv (gA m 29) (gA m 30) (gA m 31) (gA m 32) (gA m1 29) (gA m1 30) (gA m1 31) (gA m1 32) f s k0 (mn m s) (fl m s (if k0 = 0 then 1 else 0)) := by
  obtain ⟨en, h8, n1⟩ := wStk_mn h hs
  have gf : vp_in (nI f) 40 := vin_nI hf (by decide)
  have gs : vp_in (nI s) 10 := vin_nI hs (by decide)
  have xs : ix (nI s) = s := ix_nI (by omega)
  have xf : ix (nI f) = f := ix_nI (by omega)
  have e31 : ∀ k, k < mn m s → gA m 31 (8 * s + k) = nI (fl m s k) := fun k hk' => (wStk_fl h hs hk').1
  unfold f_X9_leaves
  rw [gd_pos gf, xf, hfs, if_pos (nI_pos' (by omega)), xs]
  -- the place
  have find : ∀ kont : Int32 → Option Sx, L_X9_leaves_14 m (nI f) (nI s) kont FU 0 = kont (nI k0) := fun kont => by
    obtain ⟨_, -, r⟩ := loop0G (L := fun n i (_ : Unit) => L_X9_leaves_14 m (nI f) (nI s) kont n i) (E := fun _ => kont (nI k0)) (N := k0) (by omega) (y := ()) (fun _ _ => True)
      (fun n _ _ => by
        show L_X9_leaves_14 _ _ _ _ _ _ = _
        rw [L_X9_leaves_14, i8, gd_pos (vin_nI (by omega) (by decide)), ix_nI (by omega), e31 k0 hk, e, if_pos rfl])
      (fun k _ hk' _ => ⟨(), trivial, fun n => by
        show L_X9_leaves_14 _ _ _ _ _ _ = _
        rw [L_X9_leaves_14, i8, gd_pos (vin_nI (by omega) (by decide)), ix_nI (by omega), e31 k (by omega), if_neg (by
          rw [nI_eq_iff (by have := (wStk_fl h hs (k := k) (by omega)).2.1; omega) (by omega), ← e]
          intro w; have := wStk_fl_inj h hs (by omega) hk w; omega), nI_lit1]⟩) trivial
    exact r
  rw [find, nI_lit1]
  -- the shift
  have shift : ∀ kont : Int32 → Sx → Option Sx, ∃ y, L_X9_leaves_40 (nI f) (nI s) (nI k0) kont FU (nI (k0 + 1)) m = kont (nI (mn m s)) y ∧ OnA 31 m y ∧ ∀ i, gA y 31 i = if 8 * s + k0 ≤ i ∧ i + 1 < 8 * s + mn m s then gA m 31 (i + 1) else gA m 31 i := fun kont => by
    obtain ⟨y, ⟨-, h1, h2⟩, r⟩ := loopUp (L := fun n i y => L_X9_leaves_40 (nI f) (nI s) (nI k0) kont n i y) (E := fun y => kont (nI (mn m s)) y) (N := mn m s)
      (fun k y => k0 + 1 ≤ k ∧ OnA 31 m y ∧ ∀ i, gA y 31 i = if 8 * s + k0 ≤ i ∧ i + 1 < 8 * s + k then gA m 31 (i + 1) else gA m 31 i)
      (fun n y hI => by
        show L_X9_leaves_40 _ _ _ _ _ _ _ = _
        rw [L_X9_leaves_40, gd_pos gs, xs, hI.2.1.1 30 (by decide), en, if_pos (nI_le (Nat.le_refl _) (by omega))])
      (fun k y hk' hI => by
        obtain ⟨q, h1, h2⟩ := hI
        have ev : gA y 31 (8 * s + k) = gA m 31 (8 * s + k) := by rw [h2, if_neg (by omega)]
        refine ⟨pA y 31 (8 * s + k - 1) (gA m 31 (8 * s + k)), ⟨by omega, h1.pA _ _, fun i => ?_⟩, fun n => ?_⟩
        · rw [gA_pA_at, h2]
          by_cases z : i = 8 * s + k - 1
          · rw [if_pos z, if_pos (by omega)]; congr 1; omega
          · rw [if_neg z]
            by_cases u : 8 * s + k0 ≤ i ∧ i + 1 < 8 * s + k
            · rw [if_pos u, if_pos (by omega)]
            · rw [if_neg u, if_neg (by omega)]
        · show L_X9_leaves_40 _ _ _ _ _ _ _ = _
          rw [L_X9_leaves_40, gd_pos gs, xs, h1.1 30 (by decide), en, if_neg (by rw [nI_le_iff (by omega) (by omega)]; omega), i8, nI_subOne (by omega), gd_pos (vin_nI (by omega) (by decide)), gd_pos (vin_nI (by omega) (by decide)), ix_nI (by omega), ix_nI (by omega), ev, bd_eq, nI_lit1])
      (mn m s - (k0 + 1)) (k0 + 1) FU m (by omega) (by rw [FU_eq]; omega) ⟨Nat.le_refl _, OnA.rf _ _, fun i => by rw [if_neg (by omega)]⟩
    exact ⟨y, r, h1, h2⟩
  obtain ⟨y, r, h1, h2⟩ := shift _
  rw [r]
  have y30 : gA y 30 s = nI (mn m s) := by rw [h1.1 30 (by decide), en]
  simp only [gd_pos gs, gd_pos gf, bd_eq, y30, nI_subOne (show 0 < mn m s by omega)]
  -- the choice
  have t29 : ∀ i, gA (pA (pA y 30 s (nI (mn m s - 1))) 29 f (-1)) 29 i = if i = f then -1 else gA m 29 i := fun i => by rw [gA_pA_at, gA_pA_ne (by decide), h1.1 29 (by decide)]
  have e32 : gA (pA (pA y 30 s (nI (mn m s - 1))) 29 f (-1)) 32 = gA m 32 := by rw [gA_pA_ne (by decide), gA_pA_ne (by decide), h1.1 32 (by decide)]
  have fin : ∀ t : Sx, (∀ i, gA t 32 i = if i = s ∧ gA m 32 s = nI f then -1 else gA m 32 i) → (∀ a, a ≠ 32 → gA t a = gA (pA (pA y 30 s (nI (mn m s - 1))) 29 f (-1)) a) → gI t = gI m → gM t = gM m → gL t = gL m → ∃ m1, (if gA t 30 s = 1 then gd (vp_in (8 * nI s) 80) (gd (vp_in (gA t 31 (ix (8 * nI s))) 40) (some (pA (pA t 29 (ix (gA t 31 (ix (8 * nI s)))) (-1)) 30 s 0))) else some t) = some m1 ∧ FrLm m m1 ∧ Lv (gA m 29) (gA m 30) (gA m 31) (gA m 32) (gA m1 29) (gA m1 30) (gA m1 31) (gA m1 32) f s k0 (mn m s) (fl m s (if k0 = 0 then 1 else 0)) := by
    intro t t32 tA tI tM tL
    have t30 : ∀ i, gA t 30 i = if i = s then nI (mn m s - 1) else gA m 30 i := fun i => by rw [tA 30 (by decide), gA_pA_ne (by decide), gA_pA_at, h1.1 30 (by decide)]
    have t31 : ∀ i, gA t 31 i = if 8 * s + k0 ≤ i ∧ i + 1 < 8 * s + mn m s then gA m 31 (i + 1) else gA m 31 i := fun i => by rw [tA 31 (by decide), gA_pA_ne (by decide), gA_pA_ne (by decide), h2]
    have t29' : ∀ i, gA t 29 i = if i = f then -1 else gA m 29 i := fun i => by rw [tA 29 (by decide), t29]
    have tO : ∀ a, a ≠ 29 → a ≠ 30 → a ≠ 31 → a ≠ 32 → gA t a = gA m a := fun a q1 q2 q3 q4 => by rw [tA a q4, gA_pA_ne q1, gA_pA_ne q2, h1.1 a q3]
    rw [t30, if_pos rfl]
    by_cases n2 : mn m s = 2
    · have hg := wStk_fl h hs (k := if k0 = 0 then 1 else 0) (by split <;> omega)
      have e8 : gA t 31 (8 * s) = nI (fl m s (if k0 = 0 then 1 else 0)) := by
        rw [t31]
        by_cases z : k0 = 0
        · rw [if_pos (by omega), if_pos z]; exact e31 1 (by omega)
        · rw [if_neg (by omega), if_neg z]; exact e31 0 (by omega)
      rw [if_pos (by rw [n2]; rfl), i80, gd_pos (vin_nI (by omega) (by decide)), ix_nI (n := 8 * s) (by omega), e8, gd_pos (vin_nI hg.2.1 (by decide)), ix_nI (by omega)]
      refine ⟨_, rfl, ⟨?_, ?_, ?_, fun a q1 q2 q3 q4 => ?_⟩, fun i => ?_, fun i => ?_, fun i => ?_, fun i => ?_⟩
      · exact tI
      · exact tM
      · exact tL
      · rw [gA_pA_ne q2, gA_pA_ne q1, tO a q1 q2 q3 q4]
      · rw [gA_pA_ne (by decide), gA_pA_at, t29']
        by_cases z : i = fl m s (if k0 = 0 then 1 else 0)
        · rw [if_pos z, if_pos (Or.inr ⟨n2, z⟩)]
        · rw [if_neg z]
          by_cases z2 : i = f
          · rw [if_pos z2, if_pos (Or.inl z2)]
          · rw [if_neg z2, if_neg (fun w => w.elim z2 (fun u => z u.2))]
      · rw [gA_pA_at, gA_pA_ne (by decide), t30]
        by_cases z : i = s
        · rw [if_pos z, if_pos z, if_pos n2]
        · rw [if_neg z, if_neg z, if_neg z]
      · rw [gA_pA_ne (by decide), gA_pA_ne (by decide), t31]
      · rw [gA_pA_ne (by decide), gA_pA_ne (by decide), t32]
    · rw [if_neg (by rw [show (1 : Int32) = nI 1 from rfl, nI_eq_iff (by omega) (by omega)]; omega)]
      refine ⟨t, rfl, ⟨tI, tM, tL, tO⟩, fun i => ?_, fun i => ?_, t31, t32⟩
      · rw [t29']
        by_cases z2 : i = f
        · rw [if_pos z2, if_pos (Or.inl z2)]
        · rw [if_neg z2, if_neg (fun w => w.elim z2 (fun u => n2 u.1))]
      · rw [t30]
        by_cases z : i = s
        · rw [if_pos z, if_pos z, if_neg n2]
        · rw [if_neg z, if_neg z]
  have yI : gI y = gI m := h1.2.1
  have yL : gL y = gL m := h1.2.2.1
  have yM : gM y = gM m := h1.2.2.2
  by_cases chs : gA m 32 s = nI f
  · rw [if_pos (by rw [e32]; exact chs)]
    exact fin (pA (pA (pA y 30 s (nI (mn m s - 1))) 29 f (-1)) 32 s (-1)) (fun i => by
      rw [gA_pA_at, e32]
      by_cases z : i = s
      · rw [if_pos z, if_pos ⟨z, chs⟩]
      · rw [if_neg z, if_neg (fun u => z u.1)]) (fun a ha => gA_pA_ne ha) yI yM yL
  · rw [if_neg (by rw [e32]; exact chs)]
    exact fin (pA (pA (pA y 30 s (nI (mn m s - 1))) 29 f (-1)) 32 s (gA (pA (pA y 30 s (nI (mn m s - 1))) 29 f (-1)) 32 s)) (fun i => by
      rw [gA_pA_at, e32]
      by_cases z : i = s
      · rw [if_pos z, if_neg (fun u => chs u.2), z]
      · rw [if_neg z, if_neg (fun u => z u.1)]) (fun a ha => gA_pA_ne ha) yI yM yL
/-- both sides -/
theorem rel_pair {c m : Sx} (h : WStk m) (r : RStk c m) {f : Nat} (hf : f < 40) : ∃ c1 m1, f_X6_release c (nI f) = some c1 ∧ f_X9_leaves m (nI f) = some m1 ∧ FrL c c1 ∧ FrLm m m1 ∧ WStk m1 ∧ RStk c1 m1 ∧ gA m1 29 f = -1 := by
  rcases h.1 f hf with w | ⟨s, hs, hfs, hp, k0, hk, e31⟩
  · refine ⟨c, m, ?_, ?_, ⟨rfl, rfl, fun _ _ => rfl, fun _ _ _ _ _ => rfl⟩, ⟨rfl, rfl, rfl, fun _ _ _ _ _ => rfl⟩, h, r, w⟩
    · unfold f_X6_release
      rw [gd_pos (vin_nI hf (by decide)), ix_nI (by omega), r.1 f hf, w, if_pos rfl]
    · unfold f_X9_leaves
      rw [gd_pos (vin_nI hf (by decide)), ix_nI (by omega), w, if_neg (by decide)]
  · have e : fl m s k0 = f := by unfold fl; rw [e31, ix_nI (by omega)]
    obtain ⟨c1, p1, fc, lc, b⟩ := release_eq h r hf hs hfs hk e
    obtain ⟨m1, p2, fm, lm⟩ := leaves_eq h hf hs hfs hk e
    refine ⟨c1, m1, p1, p2, fc, fm, lv_W h hf hs hk e rfl lm (iF_on (fm.2.2.2 23 (by decide) (by decide) (by decide) (by decide))), lv_R h r hf hs hk rfl lm lc (fc.2.2.2 17 (by decide) (by decide) (by decide) (by decide)) (fm.2.2.2 33 (by decide) (by decide) (by decide) (by decide)) b, ?_⟩
    rw [lm.1, if_pos (Or.inl rfl)]
end
section
/-! ===== takeOut, remove ===== -/
theorem FrL.frM {c c1 : Sx} (h : FrL c c1) : FrM c c1 := ⟨fun a h1 h2 => h.2.2.2 a (by omega) (by omega) (by omega) (by omega), fun k _ _ => by rw [h.1], by rw [h.2.1]⟩
theorem FrLm.frC {m m1 : Sx} (h : FrLm m m1) : FrC m m1 := FrC.ofM (fun a h1 => h.2.2.2 a (by omega) (by omega) (by omega) (by omega)) (fun k _ => by rw [h.1]) (fun k => by rw [h.2.2.1]) h.2.1
theorem rel_Ba {c m c1 m1 : Sx} (hB : Ba c m) (fc : FrL c c1) (fm : FrLm m m1) (w : WStk m1) (r : RStk c1 m1) : Ba c1 m1 := by
  have m23 := fm.2.2.2 23 (by decide) (by decide) (by decide) (by decide)
  have m26 := fm.2.2.2 26 (by decide) (by decide) (by decide) (by decide)
  have m27 := fm.2.2.2 27 (by decide) (by decide) (by decide) (by decide)
  have m28 := fm.2.2.2 28 (by decide) (by decide) (by decide) (by decide)
  have m34 := fm.2.2.2 34 (by decide) (by decide) (by decide) (by decide)
  exact ⟨hB.wO.on m28, hB.wV.on m26 m27, w, hB.wT.on (by rw [fm.1]) m34, (hB.rP.on (fc.2.2.1 8 (by decide))).onM m23, (hB.rD.onC (fc.2.2.2 9 (by decide) (by decide) (by decide) (by decide)) (fc.2.2.2 10 (by decide) (by decide) (by decide) (by decide))).onM m23 (fm.2.2.2 24 (by decide) (by decide) (by decide) (by decide)) (fm.2.2.2 25 (by decide) (by decide) (by decide) (by decide)), (hB.rV.on (fc.2.2.2 11 (by decide) (by decide) (by decide) (by decide))).onM m23 m26 m27, (hB.rO.on (fc.2.2.2 13 (by decide) (by decide) (by decide) (by decide))).onM m28, r, (hB.rT.onC (by rw [fc.1]) (fc.2.2.2 108 (by decide) (by decide) (by decide) (by decide))).onM (by rw [fm.1]) m34, hB.wG.on m26 m27⟩
theorem rel_Al {c m c1 m1 : Sx} (hA : RAl c m) (fc : FrL c c1) (fm : FrLm m m1) : RAl c1 m1 := hA.on (fun k _ _ => by rw [fc.1]) (fun a _ _ => fc.2.2.2 a (by omega) (by omega) (by omega) (by omega)) (fun k _ => fc.2.2.1 k (by omega)) (fun a _ _ => fm.2.2.2 a (by omega) (by omega) (by omega) (by omega)) (by rw [fm.2.1])
theorem rel_J {c m c1 m1 : Sx} (hJ : RJ c m) (fc : FrL c c1) (fm : FrLm m m1) : RJ c1 m1 := hJ.on (by rw [fc.1]) (by rw [fc.1]) (by rw [fm.1]) (fc.2.2.2 20 (by decide) (by decide) (by decide) (by decide)) (fc.2.2.2 21 (by decide) (by decide) (by decide) (by decide)) (fc.2.2.2 22 (by decide) (by decide) (by decide) (by decide)) (fm.2.2.2 41 (by decide) (by decide) (by decide) (by decide))
theorem cal_takeOut (a1 : Int32) : Cal (-2) (fun t => f_X8_takeOut t a1) (fun t => f_X9_takeOut t a1) := fun c m h => by
  show ∃ r c' m', f_X8_takeOut c a1 = some (r, c') ∧ f_X9_takeOut m a1 = some (r, m') ∧ _
  unfold f_X8_takeOut f_X9_takeOut f_X6_home f_X6_height
  rw [hasC h.1, there_eq, Option.bind_some, Option.bind_some]
  cases q : fil (iF m) a1 with
  | false => exact h.err (-1) (by rw [bF]) (by rw [bF])
  | true =>
    obtain ⟨f, hf, rfl, hp⟩ := fil_out q
    have gf : vp_in (nI f) 40 := vin_nI hf (by decide)
    rw [bT, bT, gd_pos gf, gd_pos gf, ix_nI (by omega), Option.bind_some, h.1.rS.1 f hf]
    rcases wStk_home h.1.wS hf with e | ⟨s, hs, e, hn, -⟩
    · rw [e, if_pos rfl, if_neg (by decide)]
      exact h.err (-2) rfl rfl
    · have gs : vp_in (nI s) 10 := vin_nI hs (by decide)
      obtain ⟨hB, hD, hA, hJ, hM⟩ := h
      obtain ⟨c1, m1, e1, e2, fc, fm, w, r, -⟩ := rel_pair hB.wS hB.rS hf
      obtain ⟨c', m', e3, e4, i1, i2, i3, i4⟩ := fin_settle ⟨rel_Ba hB fc fm w r, rel_Al hA fc fm, rel_J hJ fc fm⟩ fc.frM fm.frC
      rw [e, if_neg (nI_ne_m1 (by omega)), if_pos (nI_pos' (by omega)), e1, e2]
      simp only [Option.bind_some, gd_pos gs, e3, e4]
      rw [ix_nI (by omega), i1.1.rS.2.1 s hs, i4.1 30 (by decide)]
      refine ⟨_, c', m', rfl, rfl, i1, i2, i3, fun _ => ?_⟩
      obtain ⟨n, hn8, en, -⟩ := w.2.1 s hs
      rw [en]; exact lo_nI (by decide) (by omega)
/-- a file goes, on both sides -/
theorem disc_pair {c m : Sx} (hB : Ba c m) (hA : RAl c m) (hJ : RJ c m) {f : Nat} (hf : f < 40) : ∃ c1 m1, f_X8_discard c (nI f) = some c1 ∧ f_X9_goes m (nI f) = some m1 ∧ Ba c1 m1 ∧ RAl c1 m1 ∧ RJ c1 m1 ∧ FrM c c1 ∧ FrC m m1 ∧ (∀ i, iF m1 i = if i = f then false else iF m i) ∧ gA m1 24 = gA m 24 := by
  obtain ⟨c1, m1, e1, e2, fc, fm, w, r, hh⟩ := rel_pair hB.wS hB.rS hf
  have gf : vp_in (nI f) 40 := vin_nI hf (by decide)
  have b1 := rel_Ba hB fc fm w r
  unfold f_X8_discard f_X9_goes f_X1_drop f_X8_only
  rw [e1, e2]
  simp only [Option.bind_some, gd_pos gf, bd_eq]
  rw [ix_nI (by omega)]
  have eF : ∀ i, iF (pA m1 23 f 0) i = if i = f then false else iF m1 i := fun i => by
    unfold iF; rw [gA_pA_at]; split <;> rfl
  have eF1 : iF m1 = iF m := iF_on (fm.2.2.2 23 (by decide) (by decide) (by decide) (by decide))
  refine ⟨_, _, rfl, rfl, ⟨b1.wO.on rfl, b1.wV.on rfl rfl, ⟨fun f' hf' => ?_, b1.wS.2.1, b1.wS.2.2.1, b1.wS.2.2.2.1, b1.wS.2.2.2.2⟩, b1.wT.on rfl rfl, fun k hk => ?_, fun g hg hpg => ?_, fun g hg hpg j hj => ?_, b1.rO, ?_, b1.rT, b1.wG.on rfl rfl⟩, ?_, ?_, fc.frM.tr FrM.pL, fm.frC.tr (FrC.pA (by omega)), fun i => by rw [eF, eF1], by rw [gA_pA_ne (by decide)]; exact fm.2.2.2 24 (by decide) (by decide) (by decide) (by decide)⟩
  · show gA m1 29 f' = -1 ∨ _
    by_cases q : f' = f
    · rw [q]; exact Or.inl hh
    · rcases w.1 f' hf' with u | ⟨s, u1, u2, u3, u4⟩
      · exact Or.inl u
      · exact Or.inr ⟨s, u1, u2, by rw [eF, if_neg q]; exact u3, u4⟩
  · rw [gL_pL, if_pos rfl, hb_cut _ (by omega) hk, b1.rP k hk, eF]
    by_cases q : k = f
    · rw [decide_eq_true q, if_pos q]; simp
    · rw [decide_eq_false q, if_neg q]; simp
  · rw [eF] at hpg
    by_cases q : g = f
    · rw [if_pos q] at hpg; cases hpg
    · rw [if_neg q] at hpg; exact b1.rD g hg hpg
  · rw [eF] at hpg
    by_cases q : g = f
    · rw [if_pos q] at hpg; cases hpg
    · rw [if_neg q] at hpg; exact b1.rV g hg hpg j hj
  · obtain ⟨s1, s2, s3, s4, s5⟩ := b1.rS
    exact ⟨s1, s2, s3, s4, fun k hk => by rw [gL_pL, if_neg (by decide)]; exact s5 k hk⟩
  · exact (rel_Al hA fc fm).on (fun _ _ _ => rfl) (fun _ _ _ => rfl) (fun k hk => by rw [gL_pL, if_neg (by omega)]) (fun a _ _ => gA_pA_ne (by omega)) rfl
  · exact (rel_J hJ fc fm).on rfl rfl rfl rfl rfl rfl rfl
theorem cal_remove (a1 : Int32) : Cal (-1) (fun t => f_X8_remove t a1) (fun t => f_X9_remove t a1) := fun c m h => by
  show ∃ r c' m', f_X8_remove c a1 = some (r, c') ∧ f_X9_remove m a1 = some (r, m') ∧ _
  unfold f_X8_remove f_X9_remove
  rw [hasC h.1, there_eq, Option.bind_some, Option.bind_some]
  cases q : fil (iF m) a1 with
  | false => exact h.err (-1) (by rw [bF]) (by rw [bF])
  | true =>
    obtain ⟨f, hf, rfl, hp⟩ := fil_out q
    obtain ⟨hB, hD, hA, hJ, hM⟩ := h
    obtain ⟨c1, m1, e1, e2, b1, a1, j1, f1, f2, -, -⟩ := disc_pair hB hA hJ hf
    obtain ⟨c', m', e3, e4, i1, i2, i3, i4⟩ := fin_settle ⟨b1, a1, j1⟩ f1 f2
    rw [bT, bT, e1, e2]
    simp only [Option.bind_some, e3, fileCountM, e4, howMany_eq i1.1.rP]
    rw [iF_on (i4.1 23 (by decide))]
    exact ⟨_, c', m', rfl, rfl, i1, i2, i3, fun _ => lo_nI (by decide) (by have := fb_ct_le (iF m1) 40; omega)⟩
/-! ===== merge ===== -/
def mgv (a b : Int32) : Int32 := if a = -1 then b else a
def mgt (a b : Int32) : Int32 := if a = -1 then b else if b = -1 then a else a ||| b
def mgj (j : Nat) (a b : Int32) : Int32 := if j % 6 = 5 then mgt a b else mgv a b
theorem absIn_eq {c : Sx} {k g s : Nat} (hk : k < 40) (hg : g < 40) (hne : k ≠ g) (hs : s < 3) : ∃ y, (∀ kont : Int32 → Sx → Option Sx, L_X1_absorbOne_10 (nI k) (nI g) (nI s) kont FU 0 c = kont (nI 5) y) ∧ OnA 11 c y ∧ ∀ i, gA y 11 i = if 18 * k + 6 * s ≤ i ∧ i < 18 * k + 6 * s + 5 then mgv (gA c 11 i) (gA c 11 (18 * g + (i - 18 * k))) else gA c 11 i := by
  obtain ⟨y, ⟨h1, h2⟩, e⟩ := loop0G (L := fun n i y (kont : Int32 → Sx → Option Sx) => L_X1_absorbOne_10 (nI k) (nI g) (nI s) kont n i y) (E := fun y kont => kont (nI 5) y) (N := 5) (by decide) (y := c)
    (fun fl y => OnA 11 c y ∧ ∀ i, gA y 11 i = if 18 * k + 6 * s ≤ i ∧ i < 18 * k + 6 * s + fl then mgv (gA c 11 i) (gA c 11 (18 * g + (i - 18 * k))) else gA c 11 i)
    (fun n y _ => by
      funext kont
      show L_X1_absorbOne_10 _ _ _ _ _ _ _ = _
      rw [L_X1_absorbOne_10, if_pos (by decide)])
    (fun fl y hfl h => by
      obtain ⟨h1, h2⟩ := h
      have r1 : gA y 11 (18 * k + 6 * s + fl) = gA c 11 (18 * k + 6 * s + fl) := by rw [h2, if_neg (by omega)]
      have r2 : gA y 11 (18 * g + 6 * s + fl) = gA c 11 (18 * g + 6 * s + fl) := by rw [h2, if_neg (by omega)]
      have step : ∀ (kont : Int32 → Sx → Option Sx) n, L_X1_absorbOne_10 (nI k) (nI g) (nI s) kont (n + 1) (nI fl) y = if gA c 11 (18 * k + 6 * s + fl) = -1 then L_X1_absorbOne_10 (nI k) (nI g) (nI s) kont n (nI (fl + 1)) (pA y 11 (18 * k + 6 * s + fl) (gA c 11 (18 * g + 6 * s + fl))) else L_X1_absorbOne_10 (nI k) (nI g) (nI s) kont n (nI (fl + 1)) y := fun kont n => by
        rw [L_X1_absorbOne_10, if_neg (by rw [show (4 : Int32) = nI 4 from rfl, nI_lt_iff (by decide) (by omega)]; omega), told_eq y hk hs (by omega), Option.bind_some, r1, told_eq y hg hs (by omega), Option.bind_some, r2, tell_eq y hk hs (by omega), Option.bind_some, nI_lit1]
      by_cases q : gA c 11 (18 * k + 6 * s + fl) = -1
      · refine ⟨pA y 11 (18 * k + 6 * s + fl) (gA c 11 (18 * g + 6 * s + fl)), ⟨h1.pA _ _, fun i => ?_⟩, fun n => ?_⟩
        · rw [gA_pA_at, h2]
          by_cases z : i = 18 * k + 6 * s + fl
          · rw [if_pos z, if_pos (by omega), z, mgv, if_pos q]; congr 1; omega
          · rw [if_neg z]
            by_cases u : 18 * k + 6 * s ≤ i ∧ i < 18 * k + 6 * s + fl
            · rw [if_pos u, if_pos (by omega)]
            · rw [if_neg u, if_neg (by omega)]
        · funext kont
          show L_X1_absorbOne_10 _ _ _ _ _ _ _ = L_X1_absorbOne_10 _ _ _ _ _ _ _
          rw [step, if_pos q]
      · refine ⟨y, ⟨h1, fun i => ?_⟩, fun n => ?_⟩
        · rw [h2]
          by_cases z : i = 18 * k + 6 * s + fl
          · rw [if_neg (by omega), if_pos (by omega), z, mgv, if_neg q]
          · by_cases u : 18 * k + 6 * s ≤ i ∧ i < 18 * k + 6 * s + fl
            · rw [if_pos u, if_pos (by omega)]
            · rw [if_neg u, if_neg (by omega)]
        · funext kont
          show L_X1_absorbOne_10 _ _ _ _ _ _ _ = L_X1_absorbOne_10 _ _ _ _ _ _ _
          rw [step, if_neg q])
    ⟨OnA.rf _ _, fun i => by rw [if_neg (by omega)]⟩
  exact ⟨y, fun kont => congrFun e kont, h1, h2⟩
theorem absorbOne_eq {c : Sx} {k g : Nat} (hk : k < 40) (hg : g < 40) (hne : k ≠ g) : ∃ y, f_X1_absorbOne c (nI k) (nI g) = some y ∧ OnA 11 c y ∧ ∀ i, gA y 11 i = if 18 * k ≤ i ∧ i < 18 * k + 18 then mgj (i - 18 * k) (gA c 11 i) (gA c 11 (18 * g + (i - 18 * k))) else gA c 11 i := by
  unfold f_X1_absorbOne
  obtain ⟨y, ⟨h1, h2⟩, e⟩ := loop0 (L := fun n i y => L_X1_absorbOne_2 (nI k) (nI g) (fun z10 t11 => some t11) n i y) (E := fun y => some y) (N := 3) (by decide) (y := c)
    (fun s y => OnA 11 c y ∧ ∀ i, gA y 11 i = if 18 * k ≤ i ∧ i < 18 * k + 6 * s then mgj (i - 18 * k) (gA c 11 i) (gA c 11 (18 * g + (i - 18 * k))) else gA c 11 i)
    (fun n y _ => by
      show L_X1_absorbOne_2 _ _ _ _ _ _ = _
      rw [L_X1_absorbOne_2, if_pos (by decide)])
    (fun s y hs h => by
      obtain ⟨h1, h2⟩ := h
      obtain ⟨y2, e2, o2, j2⟩ := absIn_eq (c := y) hk hg hne hs
      have t1 : f_X1_told y2 (nI k) (nI s) 5 = some (gA c 11 (18 * k + 6 * s + 5)) := by
        rw [show (5 : Int32) = nI 5 from rfl, told_eq y2 hk hs (by decide), j2, if_neg (by omega), h2, if_neg (by omega)]
      have t2 : f_X1_told y2 (nI g) (nI s) 5 = some (gA c 11 (18 * g + 6 * s + 5)) := by
        rw [show (5 : Int32) = nI 5 from rfl, told_eq y2 hg hs (by decide), j2, if_neg (by omega), h2, if_neg (by omega)]
      have t3 : f_X1_union y2 (gA c 11 (18 * k + 6 * s + 5)) (gA c 11 (18 * g + 6 * s + 5)) = some (mgt (gA c 11 (18 * k + 6 * s + 5)) (gA c 11 (18 * g + 6 * s + 5))) := by
        unfold f_X1_union mgt
        split
        · rfl
        · split <;> rfl
      have t4 : ∀ v, f_X1_tell y2 (nI k) (nI s) 5 v = some (pA y2 11 (18 * k + 6 * s + 5) v) := fun v => by rw [show (5 : Int32) = nI 5 from rfl, tell_eq y2 hk hs (by decide)]
      refine ⟨pA y2 11 (18 * k + 6 * s + 5) (mgt (gA c 11 (18 * k + 6 * s + 5)) (gA c 11 (18 * g + 6 * s + 5))), ⟨?_, fun i => ?_⟩, fun n => ?_⟩
      · exact OnA.pA ⟨fun a ha => (o2.1 a ha).trans (h1.1 a ha), o2.2.1.trans h1.2.1, o2.2.2.1.trans h1.2.2.1, o2.2.2.2.trans h1.2.2.2⟩ _ _
      · rw [gA_pA_at, j2]
        by_cases z : i = 18 * k + 6 * s + 5
        · rw [if_pos z, if_pos (by omega), z, mgj, if_pos (by omega)]; congr 2; omega
        · rw [if_neg z]
          by_cases u : 18 * k + 6 * s ≤ i ∧ i < 18 * k + 6 * s + 5
          · rw [if_pos u, if_pos (by omega), h2, if_neg (by omega), h2, if_neg (by omega), mgj, if_neg (by omega)]
          · rw [if_neg u, h2]
            by_cases v : 18 * k ≤ i ∧ i < 18 * k + 6 * s
            · rw [if_pos v, if_pos (by omega)]
            · rw [if_neg v, if_neg (by omega)]
      · show L_X1_absorbOne_2 _ _ _ _ _ _ = _
        rw [L_X1_absorbOne_2, if_neg (by rw [show (3 : Int32) = nI 3 from rfl, nI_le_iff (by decide) (by omega)]; omega), e2, t1, Option.bind_some, t2, Option.bind_some, t3, Option.bind_some, t4, Option.bind_some, nI_lit1])
    ⟨OnA.rf _ _, fun i => by rw [if_neg (by omega)]⟩
  exact ⟨y, e, h1, h2⟩
end
section
def OnT (m m1 : Sx) : Prop := (∀ a, a ≠ 26 → a ≠ 27 → gA m1 a = gA m a) ∧ gI m1 = gI m ∧ gL m1 = gL m ∧ gM m1 = gM m
theorem OnT.rf (m : Sx) : OnT m m := ⟨fun _ _ _ => rfl, rfl, rfl, rfl⟩
theorem OnT.tr {a b c : Sx} (h : OnT a b) (g : OnT b c) : OnT a c := ⟨fun i h1 h2 => (g.1 i h1 h2).trans (h.1 i h1 h2), g.2.1.trans h.2.1, g.2.2.1.trans h.2.2.1, g.2.2.2.trans h.2.2.2⟩
theorem OnT.p26 {m y : Sx} (h : OnT m y) (k : Nat) (v : Int32) : OnT m (pA y 26 k v) := ⟨fun a h1 h2 => by rw [gA_pA_ne h1, h.1 a h1 h2], h.2.1, h.2.2.1, h.2.2.2⟩
theorem OnT.p27 {m y : Sx} (h : OnT m y) (k : Nat) (v : Int32) : OnT m (pA y 27 k v) := ⟨fun a h1 h2 => by rw [gA_pA_ne h2, h.1 a h1 h2], h.2.1, h.2.2.1, h.2.2.2⟩
/-- what the keeper's place i is told behind it, b: the other's place -/
def gvv (m : Sx) (i b j : Nat) : Int32 := if iT m b = true then (if iT m i = false then gA m 27 b else if j % 6 = 5 then gA m 27 i ||| gA m 27 b else gA m 27 i) else gA m 27 i
theorem m6_tab : ∀ j, j < 18 → ((nI j - nI j / 6 * 6 = 5) ↔ j % 6 = 5) := by decide +kernel
theorem iT_ne {m : Sx} {k : Nat} (h : iT m k = true) : ¬ gA m 26 k = 0 := by simpa [iT] using h
theorem iT_e0 {m : Sx} {k : Nat} (h : iT m k = false) : gA m 26 k = 0 := by simpa [iT] using h
theorem gives_eq {m : Sx} {k g : Nat} (hk : k < 40) (hg : g < 40) (hne : k ≠ g) : ∃ m1, f_X9_gives m (nI g) (nI k) = some m1 ∧ OnT m m1 ∧ (∀ i, iT m1 i = if 18 * k ≤ i ∧ i < 18 * k + 18 then (iT m i || iT m (18 * g + (i - 18 * k))) else iT m i) ∧ ∀ i, gA m1 27 i = if 18 * k ≤ i ∧ i < 18 * k + 18 then gvv m i (18 * g + (i - 18 * k)) (i - 18 * k) else gA m 27 i := by
  unfold f_X9_gives
  obtain ⟨y, ⟨h1, h2, h3⟩, e⟩ := loop0 (L := fun n i y => L_X9_gives_2 (nI g) (nI k) (fun z8 t9 => some t9) n i y) (E := fun y => some y) (N := 18) (by decide) (y := m)
    (fun j y => OnT m y ∧ (∀ i, iT y i = if 18 * k ≤ i ∧ i < 18 * k + j then (iT m i || iT m (18 * g + (i - 18 * k))) else iT m i) ∧ ∀ i, gA y 27 i = if 18 * k ≤ i ∧ i < 18 * k + j then gvv m i (18 * g + (i - 18 * k)) (i - 18 * k) else gA m 27 i)
    (fun n y _ => by
      show L_X9_gives_2 _ _ _ _ _ _ = _
      rw [L_X9_gives_2, if_pos (by decide)])
    (fun j y hj h => by
      obtain ⟨h1, h2, h3⟩ := h
      have t1 : iT y (18 * g + j) = iT m (18 * g + j) := by rw [h2, if_neg (by omega)]
      have t2 : iT y (18 * k + j) = iT m (18 * k + j) := by rw [h2, if_neg (by omega)]
      have v1 : gA y 27 (18 * g + j) = gA m 27 (18 * g + j) := by rw [h3, if_neg (by omega)]
      have v2 : gA y 27 (18 * k + j) = gA m 27 (18 * k + j) := by rw [h3, if_neg (by omega)]
      have gg : vp_in (nI (18 * g + j)) 720 := vin_nI (by omega) (by decide)
      have gk : vp_in (nI (18 * k + j)) 720 := vin_nI (by omega) (by decide)
      have xg : ix (nI (18 * g + j)) = 18 * g + j := ix_nI (by omega)
      have xk : ix (nI (18 * k + j)) = 18 * k + j := ix_nI (by omega)
      have n6 : ¬ (6 : Int32) = 0 := by decide
      have step : ∀ n, L_X9_gives_2 (nI g) (nI k) (fun z8 t9 => some t9) (n + 1) (nI j) y = if gA y 26 (18 * g + j) = 0 then L_X9_gives_2 (nI g) (nI k) (fun z8 t9 => some t9) n (nI (j + 1)) y else if gA y 26 (18 * k + j) = 0 then L_X9_gives_2 (nI g) (nI k) (fun z8 t9 => some t9) n (nI (j + 1)) (pA (pA y 27 (18 * k + j) (gA m 27 (18 * g + j))) 26 (18 * k + j) 1) else if j % 6 = 5 then L_X9_gives_2 (nI g) (nI k) (fun z8 t9 => some t9) n (nI (j + 1)) (pA (pA y 27 (18 * k + j) (gA m 27 (18 * k + j) ||| gA m 27 (18 * g + j))) 26 (18 * k + j) 1) else L_X9_gives_2 (nI g) (nI k) (fun z8 t9 => some t9) n (nI (j + 1)) (pA (pA y 27 (18 * k + j) (gA m 27 (18 * k + j))) 26 (18 * k + j) 1) := fun n => by
        rw [L_X9_gives_2, if_neg (ngo (x := 18) (N := 18) rfl hj (by decide))]
        simp only [i18a, gd_pos gg, gd_pos gk, gd_pos n6, xg, xk, bd_eq, v1, v2, nI_lit1]
        by_cases w : j % 6 = 5
        · simp only [if_pos w, if_pos ((m6_tab j hj).mpr w)]
        · simp only [if_neg w, if_neg (fun u => w ((m6_tab j hj).mp u))]
      -- what it comes to for this cell
      have fin : ∀ v : Int32, iT m (18 * g + j) = true → v = gvv m (18 * k + j) (18 * g + j) j → OnT m (pA (pA y 27 (18 * k + j) v) 26 (18 * k + j) 1) ∧ (∀ i, iT (pA (pA y 27 (18 * k + j) v) 26 (18 * k + j) 1) i = if 18 * k ≤ i ∧ i < 18 * k + (j + 1) then (iT m i || iT m (18 * g + (i - 18 * k))) else iT m i) ∧ ∀ i, gA (pA (pA y 27 (18 * k + j) v) 26 (18 * k + j) 1) 27 i = if 18 * k ≤ i ∧ i < 18 * k + (j + 1) then gvv m i (18 * g + (i - 18 * k)) (i - 18 * k) else gA m 27 i := fun v hT hv => by
        refine ⟨(h1.p27 _ _).p26 _ _, fun i => ?_, fun i => ?_⟩
        · rw [iT_put']
          by_cases z : i = 18 * k + j
          · rw [if_pos z, if_pos (by omega), z, show 18 * k + j - 18 * k = j by omega, hT, Bool.or_true]; rfl
          · rw [if_neg z, show iT (pA y 27 (18 * k + j) v) i = iT y i from by unfold iT; rw [gA_pA_ne (by decide)], h2]
            by_cases u : 18 * k ≤ i ∧ i < 18 * k + j
            · rw [if_pos u, if_pos (by omega)]
            · rw [if_neg u, if_neg (by omega)]
        · rw [gA_pA_ne (by decide), gA_pA_at]
          by_cases z : i = 18 * k + j
          · rw [if_pos z, if_pos (by omega), z, show 18 * k + j - 18 * k = j by omega, hv]
          · rw [if_neg z, h3]
            by_cases u : 18 * k ≤ i ∧ i < 18 * k + j
            · rw [if_pos u, if_pos (by omega)]
            · rw [if_neg u, if_neg (by omega)]
      cases hg1 : iT m (18 * g + j) with
      | false =>
        refine ⟨y, ⟨h1, fun i => ?_, fun i => ?_⟩, fun n => ?_⟩
        · by_cases z : i = 18 * k + j
          · rw [h2, if_neg (by omega), if_pos (by omega), z, show 18 * k + j - 18 * k = j by omega, hg1, Bool.or_false]
          · rw [h2]
            by_cases u : 18 * k ≤ i ∧ i < 18 * k + j
            · rw [if_pos u, if_pos (by omega)]
            · rw [if_neg u, if_neg (by omega)]
        · by_cases z : i = 18 * k + j
          · rw [h3, if_neg (by omega), if_pos (by omega), z, show 18 * k + j - 18 * k = j by omega, gvv, hg1, if_neg (by decide)]
          · rw [h3]
            by_cases u : 18 * k ≤ i ∧ i < 18 * k + j
            · rw [if_pos u, if_pos (by omega)]
            · rw [if_neg u, if_neg (by omega)]
        · show L_X9_gives_2 _ _ _ _ _ _ = _
          rw [step, if_pos (iT_e0 (by rw [t1, hg1]))]
      | true =>
        have z1 := iT_ne (t1.trans hg1)
        cases hk1 : iT m (18 * k + j) with
        | false =>
          exact ⟨_, fin (gA m 27 (18 * g + j)) hg1 (by rw [gvv, hg1, if_pos rfl, if_pos hk1]), fun n => by
            show L_X9_gives_2 _ _ _ _ _ _ = _
            rw [step, if_neg z1, if_pos (iT_e0 (by rw [t2, hk1]))]⟩
        | true =>
          have z2 := iT_ne (t2.trans hk1)
          by_cases w : j % 6 = 5
          · exact ⟨_, fin (gA m 27 (18 * k + j) ||| gA m 27 (18 * g + j)) hg1 (by rw [gvv, hg1, if_pos rfl, hk1, if_neg (by decide), if_pos w]), fun n => by
              show L_X9_gives_2 _ _ _ _ _ _ = _
              rw [step, if_neg z1, if_neg z2, if_pos w]⟩
          · exact ⟨_, fin (gA m 27 (18 * k + j)) hg1 (by rw [gvv, hg1, if_pos rfl, hk1, if_neg (by decide), if_neg w]), fun n => by
              show L_X9_gives_2 _ _ _ _ _ _ = _
              rw [step, if_neg z1, if_neg z2, if_neg w]⟩)
    ⟨OnT.rf m, fun i => by rw [if_neg (by omega)], fun i => by rw [if_neg (by omega)]⟩
  exact ⟨y, e, h1, h2, h3⟩
theorem giv_pair {c m : Sx} (hB : Ba c m) {k g : Nat} (hk : k < 40) (hg : g < 40) (hne : k ≠ g) (pk : iF m k = true) (pg : iF m g = true) : ∃ c1 m1, f_X1_absorbOne c (nI k) (nI g) = some c1 ∧ f_X9_gives m (nI g) (nI k) = some m1 ∧ OnA 11 c c1 ∧ OnT m m1 ∧ Ba c1 m1 := by
  obtain ⟨c1, e1, o1, j1⟩ := absorbOne_eq (c := c) hk hg hne
  obtain ⟨m1, e2, o2, t2, v2⟩ := gives_eq (m := m) hk hg hne
  have mA : ∀ a, a ≠ 26 → a ≠ 27 → gA m1 a = gA m a := o2.1
  have m23 := mA 23 (by decide) (by decide)
  refine ⟨c1, m1, e1, e2, o1, o2, hB.wO.on (mA 28 (by decide) (by decide)), fun i hi ht => ?_, hB.wS.on m23 (mA 29 (by decide) (by decide)) (mA 30 (by decide) (by decide)) (mA 31 (by decide) (by decide)) (mA 32 (by decide) (by decide)), hB.wT.on (by rw [o2.2.1]) (mA 34 (by decide) (by decide)), (hB.rP.on (by rw [o1.2.2.1])).onM m23, (hB.rD.onC (o1.1 9 (by decide)) (o1.1 10 (by decide))).onM m23 (mA 24 (by decide) (by decide)) (mA 25 (by decide) (by decide)), fun f hf hp j hj => ?_, (hB.rO.on (o1.1 13 (by decide))).onM (mA 28 (by decide) (by decide)), (hB.rS.onC (o1.1 14 (by decide)) (o1.1 15 (by decide)) (o1.1 16 (by decide)) (o1.1 17 (by decide)) (o1.1 18 (by decide)) (by rw [o1.2.2.1])).onM (mA 29 (by decide) (by decide)) (mA 30 (by decide) (by decide)) (mA 31 (by decide) (by decide)) (mA 32 (by decide) (by decide)) (mA 33 (by decide) (by decide)), (hB.rT.onC (by rw [o1.2.1]) (o1.1 108 (by decide))).onM (by rw [o2.2.1]) (mA 34 (by decide) (by decide)), fun f hf s hs ht => ?_⟩
  · rw [t2] at ht
    rw [v2]
    by_cases w : 18 * k ≤ i ∧ i < 18 * k + 18
    · rw [if_pos w] at ht ⊢
      rw [gvv]
      cases hb : iT m (18 * g + (i - 18 * k)) with
      | false => rw [hb, Bool.or_false] at ht; rw [if_neg (by decide)]; exact hB.wV i hi ht
      | true =>
        rw [if_pos rfl]
        cases ha : iT m i with
        | false => rw [if_pos rfl]; exact hB.wV _ (by omega) hb
        | true =>
          rw [if_neg (by decide)]
          by_cases z : (i - 18 * k) % 6 = 5
          · rw [if_pos z]
            obtain ⟨s, hs, es⟩ : ∃ s, s < 3 ∧ i = 18 * k + 6 * s + 5 := ⟨(i - 18 * k) / 6, by omega, by omega⟩
            have e2 : 18 * g + (i - 18 * k) = 18 * g + 6 * s + 5 := by omega
            rw [e2] at hb ⊢
            rw [es] at ha ⊢
            obtain ⟨a, a1, a2⟩ := hB.wG k hk s hs ha
            obtain ⟨b, b1, b2'⟩ := hB.wG g hg s hs hb
            rw [a2, b2', nI_or]
            have := Nat.or_lt_two_pow (n := 10) (x := a) (y := b) (by omega) (by omega)
            exact ⟨_, by omega, rfl⟩
          · rw [if_neg z]; exact hB.wV i hi ha
    · rw [if_neg w] at ht ⊢; exact hB.wV i hi ht
  · rw [iF_on m23] at hp
    rw [j1, t2, v2]
    by_cases w : 18 * k ≤ 18 * f + j ∧ 18 * f + j < 18 * k + 18
    · rw [if_pos w, if_pos w, if_pos w]
      obtain rfl : f = k := by omega
      have ej : 18 * f + j - 18 * f = j := by omega
      rw [ej, hB.rV f hf hp j hj, hB.rV g hg pg j hj, mgj, gvv]
      cases ha : iT m (18 * f + j) with
      | false =>
        rw [if_neg (show ¬ false = true by decide)]
        cases hb : iT m (18 * g + j) with
        | false =>
          rw [if_neg (show ¬ false = true by decide)]
          unfold mgt mgv
          split <;> rfl
        | true =>
          rw [if_pos rfl]
          unfold mgt mgv
          split <;> rfl
      | true =>
        obtain ⟨a, a1, a2⟩ := hB.wV _ (by omega) ha
        rw [if_pos rfl]
        cases hb : iT m (18 * g + j) with
        | false =>
          rw [a2]
          unfold mgt mgv
          rw [if_neg (nI_ne_m1 (by omega)), if_neg (nI_ne_m1 (by omega))]
          split <;> rfl
        | true =>
          obtain ⟨b, b1, b2'⟩ := hB.wV _ (by omega) hb
          rw [a2]
          unfold mgt mgv
          rw [if_neg (nI_ne_m1 (by omega)), if_neg (nI_ne_m1 (by omega)), if_pos rfl, b2', if_neg (nI_ne_m1 (by omega))]
          by_cases z : j % 6 = 5
          · rw [if_pos z]; rfl
          · rw [if_neg z]; rfl
    · rw [if_neg w, if_neg w, if_neg w]; exact hB.rV f hf hp j hj
  · rw [t2] at ht
    rw [v2]
    by_cases w : 18 * k ≤ 18 * f + 6 * s + 5 ∧ 18 * f + 6 * s + 5 < 18 * k + 18
    · rw [if_pos w] at ht ⊢
      obtain rfl : f = k := by omega
      have ej : 18 * f + 6 * s + 5 - 18 * f = 6 * s + 5 := by omega
      rw [ej] at ht ⊢
      rw [gvv]
      have eg : 18 * g + (6 * s + 5) = 18 * g + 6 * s + 5 := by omega
      rw [eg] at ht ⊢
      cases hb : iT m (18 * g + 6 * s + 5) with
      | false => rw [hb, Bool.or_false] at ht; rw [if_neg (by decide)]; exact hB.wG f hf s hs ht
      | true =>
        rw [if_pos rfl]
        cases ha : iT m (18 * f + 6 * s + 5) with
        | false => rw [if_pos rfl]; exact hB.wG g hg s hs hb
        | true =>
          rw [if_neg (by decide), if_pos (by omega)]
          obtain ⟨a, a1, a2⟩ := hB.wG f hk s hs ha
          obtain ⟨b, b1, b2'⟩ := hB.wG g hg s hs hb
          rw [a2, b2', nI_or]
          have := Nat.or_lt_two_pow (n := 10) (x := a) (y := b) (by omega) (by omega)
          exact ⟨_, by omega, rfl⟩
    · rw [if_neg w] at ht ⊢; exact hB.wG f hf s hs ht
theorem L_only (c : Sx) (f : Nat) : f_X8_only c (nI f) = some (shlL 1 (nI f)) := rfl
theorem cal_merge (a1 : Int32) : Cal (-2) (fun t => f_X8_merge t a1) (fun t => f_X9_merge t a1) := fun c m h => by
  show ∃ r c' m', f_X8_merge c a1 = some (r, c') ∧ f_X9_merge m a1 = some (r, m') ∧ _
  unfold f_X8_merge f_X9_merge
  rw [hasC h.1, there_eq, Option.bind_some, Option.bind_some]
  cases q : fil (iF m) a1 with
  | false => exact h.err (-1) (by rw [bF]) (by rw [bF])
  | true =>
    obtain ⟨f, hf, rfl, hp⟩ := fil_out q
    obtain ⟨k, ek1, hk⟩ := keeperC h.1 h.2.1.1 hf hp
    obtain ⟨k', ek2, hk'⟩ := keeper_eq h.1.wO h.1.wV hf hp
    obtain rfl := KP_one hk hk'
    obtain ⟨x, ex, hx⟩ := alike_eq h.1.rP h.1.rD hf hp
    obtain ⟨pk, ek24⟩ := grp_iff.mp hk.2.1
    rw [bT, bT, ek1, Option.bind_some, ex, Option.bind_some, L_only, Option.bind_some, group_eq hf, Option.bind_some, ek2, Option.bind_some]
    -- the others
    have hk40 := hk.1
    have ho : ∀ j, j < 64 → hb (x &&& (shlL 1 (nI k) ^^^ -1)) j = (decide (j < 40) && (if j = k then false else grp m f j)) := fun j hj => by
      rw [hb_cut _ (by omega) hj, hx j hj]
      by_cases w : j = k
      · rw [if_pos w, decide_eq_true w]; simp
      · rw [if_neg w, decide_eq_false w]; simp
    have hct := fb_ct_upd (grp m f) false (i := k) (n := 40) hk40
    rw [hk.2.1, if_pos rfl, if_neg (by decide), Nat.add_zero] at hct
    have hle := fb_ct_le (grp m f) 40
    by_cases w1 : fb_ct (grp m f) 40 = 1
    · have z : fb_ct (fun j => if j = k then false else grp m f j) 40 = 0 := by omega
      have z2 : x &&& (shlL 1 (nI k) ^^^ -1) = 0 := hb_ext fun j hj => by
        rw [ho j hj, hb_0]
        by_cases u : j < 40
        · rw [show (if j = k then false else grp m f j) = false from fb_ct_zero.mp z j u, Bool.and_false]
        · rw [decide_eq_false u, Bool.false_and]
      rw [if_pos (by rw [lg_cmp_eq]; exact z2), if_pos (by rw [w1]; rfl)]
      exact h.err (-2) rfl rfl
    · have z2 : ¬ x &&& (shlL 1 (nI k) ^^^ -1) = 0 := fun z => by
        have : fb_ct (fun j => if j = k then false else grp m f j) 40 = 0 := fb_ct_zero.mpr fun j hj => by
          have e := ho j (by omega)
          rw [z, hb_0, decide_eq_true hj, Bool.true_and] at e
          exact e.symm
        omega
      rw [if_neg (by rw [lg_cmp_eq]; exact z2), if_neg (by rw [show (1 : Int32) = nI 1 from rfl, nI_eq_iff (by omega) (by decide)]; exact w1)]
      obtain ⟨hB, hD, hA, hJ, hM⟩ := h
      -- what the reference asks of a file is whether it is one of the others
      have oth : ∀ j, j < 40 → (if j = k then false else grp m f j) = true → iF m j = true ∧ j ≠ k ∧ gA m 24 j = gA m 24 k := fun j hj u => by
        by_cases w : j = k
        · rw [if_pos w] at u; cases u
        · rw [if_neg w] at u
          obtain ⟨u1, u2⟩ := grp_iff.mp u
          exact ⟨u1, w, by rw [u2, ek24]⟩
      have noth : ∀ j, j < 40 → (if j = k then false else grp m f j) = false → ¬ (iF m j = true ∧ j ≠ k ∧ gA m 24 j = gA m 24 k) := fun j hj u w => by
        rw [if_neg w.2.1] at u
        rw [grp_iff.mpr ⟨w.1, by rw [w.2.2, ek24]⟩] at u
        cases u
      have gk : vp_in (nI k) 40 := vin_nI hk40 (by decide)
      have xk : ix (nI k) = k := ix_nI (by omega)
      unfold f_X1_absorb
      -- giving
      obtain ⟨y1, z1, ⟨i1, i2, i3⟩, e1, e2⟩ := loop02 (L1 := fun n i s => L_X1_absorb_3 (nI k) (x &&& (shlL 1 (nI k) ^^^ -1)) (fun z3 t4 => some t4) n i s) (E1 := fun s => some s) (L2 := fun n i s (kont : Int32 → Sx → Option (Int32 × Sx)) => L_X9_merge_33 (nI f) (nI (fb_ct (grp m f) 40)) (nI k) kont n i s) (E2 := fun s kont => kont (nI 40) s) (N := 40) (by decide) (y := c) (z := m)
        (fun _ y z => Ba y z ∧ OnA 11 c y ∧ OnT m z)
        (fun n y z _ => by
          show L_X1_absorb_3 _ _ _ _ _ _ = _
          rw [L_X1_absorb_3, if_pos (by decide)])
        (fun n y z _ => by
          funext kont
          show L_X9_merge_33 _ _ _ _ _ _ _ = _
          rw [L_X9_merge_33, if_pos (by decide)])
        (fun j y z hj hI => by
          obtain ⟨i1, i2, i3⟩ := hI
          have gj : vp_in (nI j) 40 := vin_nI hj (by decide)
          have s1 : ∀ n, L_X1_absorb_3 (nI k) (x &&& (shlL 1 (nI k) ^^^ -1)) (fun z3 t4 => some t4) (n + 1) (nI j) y = if b2 (if j = k then false else grp m f j) = 0 then L_X1_absorb_3 (nI k) (x &&& (shlL 1 (nI k) ^^^ -1)) (fun z3 t4 => some t4) n (nI (j + 1)) y else (f_X1_absorbOne y (nI k) (nI j)).bind fun r2 => L_X1_absorb_3 (nI k) (x &&& (shlL 1 (nI k) ^^^ -1)) (fun z3 t4 => some t4) n (nI (j + 1)) r2 := fun n => by
            rw [L_X1_absorb_3, if_neg (ngo (x := 40) (N := 40) rfl hj (by decide)), holds_eq _ _ (by omega), ho j (by omega), decide_eq_true hj, Bool.true_and, Option.bind_some, nI_lit1]
          have s2 : ∀ (kont : Int32 → Sx → Option (Int32 × Sx)) n, L_X9_merge_33 (nI f) (nI (fb_ct (grp m f) 40)) (nI k) kont (n + 1) (nI j) z = if gA m 23 j = 0 then L_X9_merge_33 (nI f) (nI (fb_ct (grp m f) 40)) (nI k) kont n (nI (j + 1)) z else if nI j = nI k then L_X9_merge_33 (nI f) (nI (fb_ct (grp m f) 40)) (nI k) kont n (nI (j + 1)) z else if gA m 24 j = gA m 24 k then (f_X9_gives z (nI j) (nI k)).bind fun r4 => L_X9_merge_33 (nI f) (nI (fb_ct (grp m f) 40)) (nI k) kont n (nI (j + 1)) r4 else L_X9_merge_33 (nI f) (nI (fb_ct (grp m f) 40)) (nI k) kont n (nI (j + 1)) z := fun kont n => by
            rw [L_X9_merge_33, if_neg (ngo (x := 40) (N := 40) rfl hj (by decide)), gd_pos gj, gd_pos gj, gd_pos gk, ix_nI (by omega), xk, i3.1 23 (by decide) (by decide), i3.1 24 (by decide) (by decide), nI_lit1]
          cases u : (if j = k then false else grp m f j) with
          | true =>
            obtain ⟨u1, u2, u3⟩ := oth j hj u
            obtain ⟨y', z', p1, p2, o1, o2, b⟩ := giv_pair i1 hk40 hj (fun w => u2 w.symm) (by rw [iF_on (i3.1 23 (by decide) (by decide))]; exact pk) (by rw [iF_on (i3.1 23 (by decide) (by decide))]; exact u1)
            refine ⟨y', z', ⟨b, ⟨fun a ha => (o1.1 a ha).trans (i2.1 a ha), o1.2.1.trans i2.2.1, o1.2.2.1.trans i2.2.2.1, o1.2.2.2.trans i2.2.2.2⟩, i3.tr o2⟩, fun n => ?_, fun n => ?_⟩
            · show L_X1_absorb_3 _ _ _ _ _ _ = _
              rw [s1, u, if_neg (by decide), p1, Option.bind_some]
            · funext kont
              show L_X9_merge_33 _ _ _ _ _ _ _ = _
              rw [s2, if_neg (iF_ne u1), if_neg (by rw [nI_eq_iff (by omega) (by omega)]; exact u2), if_pos u3, p2, Option.bind_some]
          | false =>
            refine ⟨y, z, ⟨i1, i2, i3⟩, fun n => ?_, fun n => ?_⟩
            · show L_X1_absorb_3 _ _ _ _ _ _ = _
              rw [s1, u, if_pos b2_f]
            · funext kont
              show L_X9_merge_33 _ _ _ _ _ _ _ = _
              rw [s2]
              by_cases w1 : gA m 23 j = 0
              · rw [if_pos w1]
              · rw [if_neg w1]
                by_cases w2 : j = k
                · rw [if_pos (by rw [w2])]
                · rw [if_neg (by rw [nI_eq_iff (by omega) (by omega)]; exact w2), if_neg (fun w3 => noth j hj u ⟨by simpa [iF] using w1, w2, w3⟩)])
        ⟨hB, OnA.rf _ _, OnT.rf _⟩
      rw [e1, Option.bind_some]
      have e2' := congrFun e2 (fun z5 t6 => L_X9_merge_88 (nI f) (nI (fb_ct (grp m f) 40)) (nI k) (fun z8 t9 => (f_X9_settled t9 (nI (fb_ct (grp m f) 40) - 1)).bind fun r10 => some (r10.1, r10.2)) FU 0 t6)
      dsimp only at e2'
      rw [e2']
      have a1' : RAl y1 z1 := hA.on (fun i _ _ => by rw [i2.2.1]) (fun a _ _ => i2.1 a (by omega)) (fun i _ => by rw [i2.2.2.1]) (fun a _ _ => i3.1 a (by omega) (by omega)) (by rw [i3.2.2.2])
      have j1' : RJ y1 z1 := hJ.on (by rw [i2.2.1]) (by rw [i2.2.1]) (by rw [i3.2.1]) (i2.1 20 (by decide)) (i2.1 21 (by decide)) (i2.1 22 (by decide)) (i3.1 41 (by decide) (by decide))
      have f1' : FrM c y1 := i2.frM (by omega)
      have f2' : FrC m z1 := FrC.ofM (fun a _ => i3.1 a (by omega) (by omega)) (fun i _ => by rw [i3.2.1]) (fun i => by rw [i3.2.2.1]) i3.2.2.2
      -- going
      obtain ⟨y2, z2', ⟨g1, g2, g3, g4, g5, -, -⟩, e3, e4⟩ := loop02 (L1 := fun n i s (kont : Int32 → Sx → Option (Int32 × Sx)) => L_X8_merge_61 (nI f) (nI k) (x &&& (shlL 1 (nI k) ^^^ -1)) kont n i s) (E1 := fun s kont => kont (nI 40) s) (L2 := fun n i s (kont : Int32 → Sx → Option (Int32 × Sx)) => L_X9_merge_88 (nI f) (nI (fb_ct (grp m f) 40)) (nI k) kont n i s) (E2 := fun s kont => kont (nI 40) s) (N := 40) (by decide) (y := y1) (z := z1)
        (fun l y z => Ba y z ∧ RAl y z ∧ RJ y z ∧ FrM c y ∧ FrC m z ∧ (∀ i, l ≤ i → iF z i = iF m i) ∧ gA z 24 = gA m 24)
        (fun n y z _ => by
          funext kont
          show L_X8_merge_61 _ _ _ _ _ _ _ = _
          rw [L_X8_merge_61, if_pos (by decide)])
        (fun n y z _ => by
          funext kont
          show L_X9_merge_88 _ _ _ _ _ _ _ = _
          rw [L_X9_merge_88, if_pos (by decide)])
        (fun j y z hj hI => by
          obtain ⟨h1, h2, h3, h4, h5, h6, h7⟩ := hI
          have gj : vp_in (nI j) 40 := vin_nI hj (by decide)
          have s1 : ∀ (kont : Int32 → Sx → Option (Int32 × Sx)) n, L_X8_merge_61 (nI f) (nI k) (x &&& (shlL 1 (nI k) ^^^ -1)) kont (n + 1) (nI j) y = if b2 (if j = k then false else grp m f j) = 0 then L_X8_merge_61 (nI f) (nI k) (x &&& (shlL 1 (nI k) ^^^ -1)) kont n (nI (j + 1)) y else (f_X8_discard y (nI j)).bind fun r7 => L_X8_merge_61 (nI f) (nI k) (x &&& (shlL 1 (nI k) ^^^ -1)) kont n (nI (j + 1)) r7 := fun kont n => by
            rw [L_X8_merge_61, if_neg (ngo (x := 40) (N := 40) rfl hj (by decide)), holds_eq _ _ (by omega), ho j (by omega), decide_eq_true hj, Bool.true_and, Option.bind_some, nI_lit1]
          have e23 : (gA z 23 j = 0) ↔ gA m 23 j = 0 := by rw [iF_dec, iF_dec, h6 j (Nat.le_refl _)]
          have s2 : ∀ (kont : Int32 → Sx → Option (Int32 × Sx)) n, L_X9_merge_88 (nI f) (nI (fb_ct (grp m f) 40)) (nI k) kont (n + 1) (nI j) z = if gA z 23 j = 0 then L_X9_merge_88 (nI f) (nI (fb_ct (grp m f) 40)) (nI k) kont n (nI (j + 1)) z else if nI j = nI k then L_X9_merge_88 (nI f) (nI (fb_ct (grp m f) 40)) (nI k) kont n (nI (j + 1)) z else if gA m 24 j = gA m 24 k then (f_X9_goes z (nI j)).bind fun r7 => L_X9_merge_88 (nI f) (nI (fb_ct (grp m f) 40)) (nI k) kont n (nI (j + 1)) r7 else L_X9_merge_88 (nI f) (nI (fb_ct (grp m f) 40)) (nI k) kont n (nI (j + 1)) z := fun kont n => by
            rw [L_X9_merge_88, if_neg (ngo (x := 40) (N := 40) rfl hj (by decide)), gd_pos gj, gd_pos gj, gd_pos gk, ix_nI (by omega), xk, h7, nI_lit1]
          cases u : (if j = k then false else grp m f j) with
          | true =>
            obtain ⟨u1, u2, u3⟩ := oth j hj u
            obtain ⟨y', z', p1, p2, b, a, jj, fr1, fr2, eF, e24⟩ := disc_pair h1 h2 h3 hj
            refine ⟨y', z', ⟨b, a, jj, h4.tr fr1, h5.tr fr2, fun i hi => ?_, e24.trans h7⟩, fun n => ?_, fun n => ?_⟩
            · rw [eF, if_neg (by omega)]; exact h6 i (by omega)
            · funext kont
              show L_X8_merge_61 _ _ _ _ _ _ _ = _
              rw [s1, u, if_neg (by decide), p1, Option.bind_some]
            · funext kont
              show L_X9_merge_88 _ _ _ _ _ _ _ = _
              rw [s2, if_neg (fun w => iF_ne u1 (e23.mp w)), if_neg (by rw [nI_eq_iff (by omega) (by omega)]; exact u2), if_pos u3, p2, Option.bind_some]
          | false =>
            refine ⟨y, z, ⟨h1, h2, h3, h4, h5, fun i hi => h6 i (by omega), h7⟩, fun n => ?_, fun n => ?_⟩
            · funext kont
              show L_X8_merge_61 _ _ _ _ _ _ _ = _
              rw [s1, u, if_pos b2_f]
            · funext kont
              show L_X9_merge_88 _ _ _ _ _ _ _ = _
              rw [s2]
              by_cases w1 : gA z 23 j = 0
              · rw [if_pos w1]
              · rw [if_neg w1]
                by_cases w2 : j = k
                · rw [if_pos (by rw [w2])]
                · have w1' : ¬ gA m 23 j = 0 := fun w => w1 (e23.mpr w)
                  rw [if_neg (by rw [nI_eq_iff (by omega) (by omega)]; exact w2), if_neg (fun w3 => noth j hj u ⟨by simpa [iF] using w1', w2, w3⟩)])
        ⟨i1, a1', j1', f1', f2', fun i _ => by rw [iF_on (i3.1 23 (by decide) (by decide))], i3.1 24 (by decide) (by decide)⟩
      obtain ⟨c', m', p1, p2, q1, q2, q3, -⟩ := fin_settle ⟨g1, g2, g3⟩ g4 g5
      have e3' := congrFun e3 (fun z8 t9 => (f_X8_settle t9).bind fun r10 => (f_J13_bitCount_95d88 r10 (x &&& (shlL 1 (nI k) ^^^ -1))).bind fun r11 => some (r11, r10))
      have e4' := congrFun e4 (fun z8 t9 => (f_X9_settled t9 (nI (fb_ct (grp m f) 40) - 1)).bind fun r10 => some (r10.1, r10.2))
      dsimp only at e3' e4'
      rw [e3', e4', p1, p2, Option.bind_some, bitCount_eq, cnt40 ho, nI_subOne (by omega), show fb_ct (grp m f) 40 - 1 = fb_ct (fun j => if j = k then false else grp m f j) 40 by omega]
      exact ⟨_, c', m', rfl, rfl, q1, q2, q3, fun _ => lo_nI (by decide) (by have := fb_ct_le (fun j => if j = k then false else grp m f j) 40; omega)⟩
end
section
/-! ===== putInto, stack ===== -/
theorem loopDown {σ Rt : Type} (L : Nat → Int32 → σ → Rt) (E : σ → Rt) (P : Nat) (I : Nat → σ → Prop) (hexit : ∀ n y, I P y → L (n + 1) (nI P) y = E y) (hstep : ∀ k y, P < k → I k y → ∃ y', I (k - 1) y' ∧ ∀ n, L (n + 1) (nI k) y = L n (nI (k - 1)) y') : ∀ d n y, d < n → I (P + d) y → ∃ y', I P y' ∧ L n (nI (P + d)) y = E y' := by
  intro d
  induction d with
  | zero =>
    intro n y hn hI
    obtain ⟨n, rfl⟩ : ∃ q, n = q + 1 := ⟨n - 1, by omega⟩
    exact ⟨y, hI, hexit n y hI⟩
  | succ d ih =>
    intro n y hn hI
    obtain ⟨n, rfl⟩ : ∃ q, n = q + 1 := ⟨n - 1, by omega⟩
    obtain ⟨y', h1, h2⟩ := hstep (P + (d + 1)) y (by omega) hI
    rw [show P + (d + 1) - 1 = P + d by omega] at h1 h2
    obtain ⟨z, h3, h4⟩ := ih n y' (by omega) h1
    exact ⟨z, h3, by rw [h2, h4]⟩
def In (A29 A30 A31 B29 B30 B31 : Nat → Int32) (f s p n : Nat) : Prop := (∀ i, B29 i = if i = f then nI s else A29 i) ∧ (∀ i, B30 i = if i = s then nI (n + 1) else A30 i) ∧ ∀ i, B31 i = if i = 8 * s + p then nI f else if 8 * s + p < i ∧ i ≤ 8 * s + n then A31 (i - 1) else A31 i
def FrI (c c1 : Sx) : Prop := gI c1 = gI c ∧ gM c1 = gM c ∧ (∀ k, k ≠ 11 → gL c1 k = gL c k) ∧ ∀ a, a ≠ 14 → a ≠ 15 → a ≠ 18 → gA c1 a = gA c a
theorem insert_eq {c : Sx} {s n p f : Nat} (hs : s < 10) (hn : n < 8) (hp : p ≤ n) (hf : f < 40) (e15 : gA c 15 s = nI n) : ∃ c1, f_X6_insert c (nI s) (nI f) (nI p) = some c1 ∧ FrI c c1 ∧ In (gA c 18) (gA c 15) (gA c 14) (gA c1 18) (gA c1 15) (gA c1 14) f s p n ∧ ∀ k, k < 64 → hb (gL c1 11) k = (hb (gL c 11) k || decide (k = f)) := by
  unfold f_X6_insert
  have gs : vp_in (nI s) 10 := vin_nI hs (by decide)
  have gf : vp_in (nI f) 40 := vin_nI hf (by decide)
  have xs : ix (nI s) = s := ix_nI (by omega)
  have xf : ix (nI f) = f := ix_nI (by omega)
  rw [gd_pos gs, xs, e15]
  have run : ∀ kont : Int32 → Sx → Option Sx, ∃ y, L_X6_insert_8 (nI s) (nI f) (nI p) kont FU (nI n) c = kont (nI p) y ∧ OnA 14 c y ∧ ∀ i, gA y 14 i = if 8 * s + p < i ∧ i ≤ 8 * s + n then gA c 14 (i - 1) else gA c 14 i := fun kont => by
    obtain ⟨y, ⟨-, h1, h2⟩, e⟩ := loopDown (fun m i y => L_X6_insert_8 (nI s) (nI f) (nI p) kont m i y) (fun y => kont (nI p) y) p
      (fun k y => k ≤ n ∧ OnA 14 c y ∧ ∀ i, gA y 14 i = if 8 * s + k < i ∧ i ≤ 8 * s + n then gA c 14 (i - 1) else gA c 14 i)
      (fun m y _ => by
        show L_X6_insert_8 _ _ _ _ _ _ _ = _
        rw [L_X6_insert_8, if_pos (nI_le (Nat.le_refl _) (by omega))])
      (fun k y hk hI => by
        obtain ⟨q, h1, h2⟩ := hI
        have ev : gA y 14 (8 * s + (k - 1)) = gA c 14 (8 * s + (k - 1)) := by rw [h2, if_neg (by omega)]
        refine ⟨pA y 14 (8 * s + k) (gA c 14 (8 * s + (k - 1))), ⟨by omega, h1.pA _ _, fun i => ?_⟩, fun m => ?_⟩
        · rw [gA_pA_at, h2]
          by_cases z : i = 8 * s + k
          · rw [if_pos z, if_pos (by omega)]; congr 1; omega
          · rw [if_neg z]
            by_cases u : 8 * s + k < i ∧ i ≤ 8 * s + n
            · rw [if_pos u, if_pos (by omega)]
            · rw [if_neg u, if_neg (by omega)]
        · show L_X6_insert_8 _ _ _ _ _ _ _ = _
          rw [L_X6_insert_8, if_neg (by rw [nI_le_iff (by omega) (by omega)]; omega), spot_eq, Option.bind_some, nI_subOne (by omega), spot_eq, Option.bind_some, gd_pos (vin_nI (by omega) (by decide)), gd_pos (vin_nI (by omega) (by decide)), ix_nI (by omega), ix_nI (by omega), ev, bd_eq, nI_sub1 (by omega)])
      (n - p) FU c (by rw [FU_eq]; omega) ⟨by omega, OnA.rf _ _, fun i => by rw [if_neg (by omega)]⟩
    rw [show p + (n - p) = n by omega] at e
    exact ⟨y, e, h1, h2⟩
  obtain ⟨y, e, h1, h2⟩ := run _
  rw [e, spot_eq]
  simp only [Option.bind_some, bd_eq, gd_pos gs, gd_pos gf, xf, L_only]
  rw [gd_pos (vin_nI (by omega) (by decide)), ix_nI (by omega)]
  refine ⟨_, rfl, ⟨?_, ?_, fun k hk => ?_, fun a q1 q2 q3 => ?_⟩, ⟨fun i => ?_, fun i => ?_, fun i => ?_⟩, fun k hk => ?_⟩
  · show gI y = _; exact h1.2.1
  · show gM y = _; exact h1.2.2.2
  · rw [gL_pL, if_neg hk]; show gL y k = _; rw [h1.2.2.1]
  · rw [gA_pL, gA_pA_ne q3, gA_pA_ne q2, gA_pA_ne q1, h1.1 a q1]
  · rw [gA_pL, gA_pA_at, gA_pA_ne (by decide), gA_pA_ne (by decide), h1.1 18 (by decide)]
  · rw [gA_pL, gA_pA_ne (by decide), gA_pA_at, gA_pA_ne (by decide), h1.1 15 (by decide), e15, nI_lit1]
  · rw [gA_pL, gA_pA_ne (by decide), gA_pA_ne (by decide), gA_pA_at, h2]
  · rw [gL_pL, if_pos rfl, hb_orx _ (by omega) hk]
    show (hb (gL y 11) k || _) = _
    rw [h1.2.2.1]
def FrIm (m m1 : Sx) : Prop := gI m1 = gI m ∧ gM m1 = gM m ∧ gL m1 = gL m ∧ ∀ a, a ≠ 29 → a ≠ 30 → a ≠ 31 → gA m1 a = gA m a
theorem putM_eq {m : Sx} {s n p f : Nat} (hs : s < 10) (hn : n < 8) (hp : p ≤ n) (kont : Int32 → Sx → Option (Int32 × Sx)) : ∃ y, L_X9_putInto_66 (nI s) (nI f) (nI p) kont FU (nI n) m = kont (nI p) y ∧ OnA 31 m y ∧ ∀ i, gA y 31 i = if 8 * s + p < i ∧ i ≤ 8 * s + n then gA m 31 (i - 1) else gA m 31 i := by
  obtain ⟨y, ⟨-, h1, h2⟩, e⟩ := loopDown (fun k i y => L_X9_putInto_66 (nI s) (nI f) (nI p) kont k i y) (fun y => kont (nI p) y) p
    (fun k y => k ≤ n ∧ OnA 31 m y ∧ ∀ i, gA y 31 i = if 8 * s + k < i ∧ i ≤ 8 * s + n then gA m 31 (i - 1) else gA m 31 i)
    (fun k y _ => by
      show L_X9_putInto_66 _ _ _ _ _ _ _ = _
      rw [L_X9_putInto_66, if_pos (nI_le (Nat.le_refl _) (by omega))])
    (fun k y hk hI => by
      obtain ⟨q, h1, h2⟩ := hI
      have ev : gA y 31 (8 * s + k - 1) = gA m 31 (8 * s + k - 1) := by rw [h2, if_neg (by omega)]
      refine ⟨pA y 31 (8 * s + k) (gA m 31 (8 * s + k - 1)), ⟨by omega, h1.pA _ _, fun i => ?_⟩, fun k' => ?_⟩
      · rw [gA_pA_at, h2]
        by_cases z : i = 8 * s + k
        · rw [if_pos z, if_pos (by omega), z]
        · rw [if_neg z]
          by_cases u : 8 * s + k < i ∧ i ≤ 8 * s + n
          · rw [if_pos u, if_pos (by omega)]
          · rw [if_neg u, if_neg (by omega)]
      · show L_X9_putInto_66 _ _ _ _ _ _ _ = _
        rw [L_X9_putInto_66, if_neg (by rw [nI_le_iff (by omega) (by omega)]; omega), i8, nI_subOne (by omega), gd_pos (vin_nI (by omega) (by decide)), gd_pos (vin_nI (by omega) (by decide)), ix_nI (by omega), ix_nI (by omega), ev, bd_eq, nI_sub1 (by omega)])
    (n - p) FU m (by rw [FU_eq]; omega) ⟨by omega, OnA.rf _ _, fun i => by rw [if_neg (by omega)]⟩
  rw [show p + (n - p) = n by omega] at e
  exact ⟨y, e, h1, h2⟩
theorem in_mn {m m1 : Sx} {f s p : Nat} (h8 : mn m s < 8) (L : In (gA m 29) (gA m 30) (gA m 31) (gA m1 29) (gA m1 30) (gA m1 31) f s p (mn m s)) (s' : Nat) : mn m1 s' = if s' = s then mn m s + 1 else mn m s' := by
  show ix (gA m1 30 s') = _
  rw [L.2.1]
  split
  · exact ix_nI (by omega)
  · rfl
theorem in_W {m m1 : Sx} (h : WStk m) {f s p : Nat} (hf : f < 40) (hfp : iF m f = true) (hff : gA m 29 f = -1) (hs : s < 10) (hn : 0 < mn m s) (h8 : mn m s < 8) (hp : p ≤ mn m s) (L : In (gA m 29) (gA m 30) (gA m 31) (gA m1 29) (gA m1 30) (gA m1 31) f s p (mn m s)) (e23 : iF m1 = iF m) (e32 : gA m1 32 = gA m 32) : WStk m1 := by
  obtain ⟨en, -, n1⟩ := wStk_mn h hs
  have hmn := in_mn h8 L
  obtain ⟨a29, a30, a31⟩ := L
  have live : ∀ i s', s' < 10 → gA m 29 i = nI s' → i ≠ f := fun i s' hs' hi w => by
    rw [w, hff] at hi; exact nI_ne_m1 (by omega) hi.symm
  have far : ∀ s' k, s' ≠ s → k < 8 → gA m1 31 (8 * s' + k) = gA m 31 (8 * s' + k) := fun s' k ne hk8 => by rw [a31, if_neg (by omega), if_neg (by omega)]
  have near : ∀ k, k < mn m s + 1 → k ≠ p → gA m1 31 (8 * s + k) = gA m 31 (8 * s + (if k < p then k else k - 1)) := fun k hk1 ne => by
    rw [a31, if_neg (by omega)]
    by_cases w : k < p
    · rw [if_neg (by omega), if_pos w]
    · rw [if_pos (by omega), if_neg w]; congr 1; omega
  have here : gA m1 31 (8 * s + p) = nI f := by rw [a31, if_pos rfl]
  have in8 : ∀ s', s' < 10 → mn m s' ≤ 8 := fun s' hs' => (wStk_mn h hs').2.1
  refine ⟨fun f' hf' => ?_, fun s' hs' => ?_, fun s' hs' k hk' => ?_, fun s' hs' j k hjk hk' => ?_, fun s' hs' hn' => ?_⟩
  · rw [a29, e23]
    by_cases q : f' = f
    · rw [if_pos q]
      exact Or.inr ⟨s, hs, rfl, by rw [q]; exact hfp, p, by rw [hmn, if_pos rfl]; omega, by rw [here, q]⟩
    · rw [if_neg q]
      rcases h.1 f' hf' with w | ⟨s', hs', w1, w2, k, hk', w3⟩
      · exact Or.inl w
      · refine Or.inr ⟨s', hs', w1, w2, ?_⟩
        by_cases z : s' = s
        · subst z
          rw [hmn, if_pos rfl]
          refine ⟨if k < p then k else k + 1, by split <;> omega, ?_⟩
          rw [near _ (by split <;> omega) (by split <;> omega), ← w3]
          congr 2
          by_cases u : k < p
          · rw [if_pos u, if_pos u]
          · rw [if_neg u, if_neg (by omega)]; omega
        · exact ⟨k, by rw [hmn, if_neg z]; exact hk', by rw [far s' k z (by have := in8 s' hs'; omega)]; exact w3⟩
  · rw [a30]
    by_cases q : s' = s
    · rw [if_pos q]; exact ⟨mn m s + 1, by omega, rfl, by omega⟩
    · rw [if_neg q]; exact h.2.1 s' hs'
  · rw [hmn] at hk'
    by_cases q : s' = s
    · subst q
      rw [if_pos rfl] at hk'
      by_cases z : k = p
      · exact ⟨f, hf, by rw [z, here], by rw [a29, if_pos rfl]⟩
      · rw [near k hk' z]
        obtain ⟨b1, b2', b3⟩ := wStk_fl h hs (k := if k < p then k else k - 1) (by split <;> omega)
        exact ⟨_, b2', b1, by rw [a29, if_neg (live _ s' hs b3)]; exact b3⟩
    · rw [if_neg q] at hk'
      obtain ⟨b1, b2', b3⟩ := wStk_fl h hs' hk'
      exact ⟨_, b2', by rw [far s' k q (by have := in8 s' hs'; omega)]; exact b1, by rw [a29, if_neg (live _ s' hs' b3)]; exact b3⟩
  · rw [hmn] at hk'
    by_cases q : s' = s
    · subst q
      rw [if_pos rfl] at hk'
      have notf : ∀ i, i < mn m s' + 1 → i ≠ p → gA m1 31 (8 * s' + i) ≠ nI f := fun i hi ne w => by
        rw [near i hi ne] at w
        obtain ⟨b1, b2', b3⟩ := wStk_fl h hs (k := if i < p then i else i - 1) (by split <;> omega)
        rw [b1, nI_eq_iff (by omega) (by omega)] at w
        exact live _ s' hs b3 w
      by_cases z : k = p
      · rw [z, here]; exact notf j (by omega) (by omega)
      · by_cases z2 : j = p
        · rw [z2, here]; exact fun w => notf k hk' z w.symm
        · rw [near k hk' z, near j (by omega) z2]
          exact h.2.2.2.1 s' hs' _ _ (by split <;> split <;> omega) (by split <;> omega)
    · rw [if_neg q] at hk'
      rw [far s' k q (by have := in8 s' hs'; omega), far s' j q (by have := in8 s' hs'; omega)]
      exact h.2.2.2.1 s' hs' j k hjk hk'
  · rw [hmn] at hn'
    rw [e32]
    have hn2 : 0 < mn m s' := by
      by_cases q : s' = s
      · rw [q]; exact hn
      · rw [if_neg q] at hn'; exact hn'
    rcases h.2.2.2.2 s' hs' hn2 with w | ⟨f', w1, w2, w3⟩
    · exact Or.inl w
    · exact Or.inr ⟨f', w1, w2, by rw [a29, if_neg (live _ s' hs' w3)]; exact w3⟩
theorem in_R {c m c1 m1 : Sx} (h : WStk m) (r : RStk c m) {f s p : Nat} (hf : f < 40) (hs : s < 10) (hn : 0 < mn m s) (h8 : mn m s < 8) (hp : p ≤ mn m s) (L : In (gA m 29) (gA m 30) (gA m 31) (gA m1 29) (gA m1 30) (gA m1 31) f s p (mn m s)) (LC : In (gA c 18) (gA c 15) (gA c 14) (gA c1 18) (gA c1 15) (gA c1 14) f s p (mn m s)) (e16 : gA c1 16 = gA c 16) (e17 : gA c1 17 = gA c 17) (e32 : gA m1 32 = gA m 32) (e33 : gA m1 33 = gA m 33) (hb11 : ∀ k, k < 64 → hb (gL c1 11) k = (hb (gL c 11) k || decide (k = f))) : RStk c1 m1 := by
  have hmn := in_mn h8 L
  obtain ⟨a29, a30, a31⟩ := L
  obtain ⟨b18, b15, b14⟩ := LC
  obtain ⟨r1, r2, r3, r4, r5⟩ := r
  have in8 : ∀ s', s' < 10 → mn m s' ≤ 8 := fun s' hs' => (wStk_mn h hs').2.1
  refine ⟨fun f' hf' => by rw [b18, a29, r1 f' hf'], fun s' hs' => by rw [b15, a30, r2 s' hs'], fun s' hs' k hk' => ?_, fun s' hs' hn' => ?_, fun k hk' => ?_⟩
  · rw [hmn] at hk'
    rw [b14, a31]
    by_cases q : s' = s
    · subst q
      rw [if_pos rfl] at hk'
      split
      · rfl
      · split
        · rw [show 8 * s' + k - 1 = 8 * s' + (k - 1) by omega]; exact r3 s' hs' (k - 1) (by omega)
        · exact r3 s' hs' k (by omega)
    · rw [if_neg q] at hk'
      have := in8 s' hs'
      rw [if_neg (by omega), if_neg (by omega), if_neg (by omega), if_neg (by omega)]
      exact r3 s' hs' k hk'
  · rw [hmn] at hn'
    rw [e16, e17, e32, e33]
    refine r4 s' hs' ?_
    by_cases q : s' = s
    · rw [q]; exact hn
    · rw [if_neg q] at hn'; exact hn'
  · rw [hb11 k hk', a29, Bool.or_eq_true, r5 k hk']
    by_cases dd : k = f
    · rw [if_pos dd, decide_eq_true dd]
      exact ⟨fun _ => ⟨by omega, nI_ne_m1 (by omega)⟩, fun _ => Or.inr rfl⟩
    · rw [if_neg dd, decide_eq_false dd]
      exact ⟨fun w => w.elim id (fun u => absurd u (by decide)), fun w => Or.inl w⟩
theorem cal_putInto (a1 a2 a3 : Int32) : Cal (-3) (fun t => f_X8_putInto t a1 a2 a3) (fun t => f_X9_putInto t a1 a2 a3) := fun c m h => by
  show ∃ r c' m', f_X8_putInto c a1 a2 a3 = some (r, c') ∧ f_X9_putInto m a1 a2 a3 = some (r, m') ∧ _
  unfold f_X8_putInto f_X9_putInto f_X6_home f_X6_height
  rw [hasS_eq h.1.wS h.1.rS, isStack_eq h.1.wS]
  simp only [Option.bind_some]
  cases q : stn m a1 with
  | false => exact h.err (-1) (by rw [bF]) (by rw [bF])
  | true =>
    obtain ⟨s, hs, rfl, hn⟩ := stn_out q
    obtain ⟨en, h8, n1⟩ := wStk_mn h.1.wS hs
    have gs : vp_in (nI s) 10 := vin_nI hs (by decide)
    have xs : ix (nI s) = s := ix_nI (by omega)
    rw [bT, bT, hasC h.1, there_eq]
    simp only [Option.bind_some]
    cases q2 : fil (iF m) a2 with
    | false => exact h.err (-1) (by rw [bF]) (by rw [bF])
    | true =>
      obtain ⟨f, hf, rfl, hpf⟩ := fil_out q2
      have gf : vp_in (nI f) 40 := vin_nI hf (by decide)
      have xf : ix (nI f) = f := ix_nI (by omega)
      rw [bT, bT]
      simp only [gd_pos gs, gd_pos gf, xs, xf, Option.bind_some, h.1.rS.2.1 s hs, en, h.1.rS.1 f hf, isWithin_eq, in_eq]
      cases q3 : inr a3 0 (nI (mn m s)) with
      | false => exact h.err (-1) (by rw [bF]) (by rw [bF])
      | true =>
        obtain ⟨p, hp, rfl⟩ := inr_out (by omega) q3
        rw [bT, bT]
        rcases wStk_home h.1.wS hf with e | ⟨s', hs', e, -, -⟩
        · rw [e, if_pos rfl, if_pos (show (-1 : Int32) < 0 by decide)]
          by_cases w : mn m s = 8
          · rw [if_pos (by rw [w]; rfl), if_pos (by rw [w]; rfl)]
            exact h.err (-3) rfl rfl
          · have w' : ¬ nI (mn m s) = 8 := by rw [show (8 : Int32) = nI 8 from rfl, nI_eq_iff (by omega) (by decide)]; exact w
            obtain ⟨hB, hD, hA, hJ, hM⟩ := h
            obtain ⟨c1, p1, fc, lc, b⟩ := insert_eq (c := c) (f := f) hs (show mn m s < 8 by omega) hp hf (by rw [hB.rS.2.1 s hs, en])
            rw [if_neg w', if_neg w', p1, Option.bind_some]
            obtain ⟨y, p2, o, y31⟩ := putM_eq (m := m) (f := f) hs (show mn m s < 8 by omega) hp (fun z5 t6 => gd (vp_in ((8 * nI s) + nI p) 80) (bd (pA t6 31 (ix ((8 * nI s) + nI p)) (nI f)) fun t7 => bd (pA t7 29 f (nI s)) fun t8 => bd (pA t8 30 s ((gA t8 30 s) + 1)) fun t9 => (f_X9_settled t9 (gA t9 30 s)).bind fun r10 => some (r10.1, r10.2)))
            rw [p2, i8, gd_pos (vin_nI (by omega) (by decide)), ix_nI (by omega)]
            simp only [bd_eq]
            have l1 : In (gA m 29) (gA m 30) (gA m 31) (gA (pA (pA (pA y 31 (8 * s + p) (nI f)) 29 f (nI s)) 30 s (gA (pA (pA y 31 (8 * s + p) (nI f)) 29 f (nI s)) 30 s + 1)) 29) (gA (pA (pA (pA y 31 (8 * s + p) (nI f)) 29 f (nI s)) 30 s (gA (pA (pA y 31 (8 * s + p) (nI f)) 29 f (nI s)) 30 s + 1)) 30) (gA (pA (pA (pA y 31 (8 * s + p) (nI f)) 29 f (nI s)) 30 s (gA (pA (pA y 31 (8 * s + p) (nI f)) 29 f (nI s)) 30 s + 1)) 31) f s p (mn m s) := by
              refine ⟨fun i => ?_, fun i => ?_, fun i => ?_⟩
              · rw [gA_pA_ne (by decide), gA_pA_at, gA_pA_ne (by decide), o.1 29 (by decide)]
              · rw [gA_pA_at, gA_pA_ne (by decide), gA_pA_ne (by decide), o.1 30 (by decide), en, nI_lit1]
              · rw [gA_pA_ne (by decide), gA_pA_ne (by decide), gA_pA_at, y31]
            have fm : FrIm m (pA (pA (pA y 31 (8 * s + p) (nI f)) 29 f (nI s)) 30 s (gA (pA (pA y 31 (8 * s + p) (nI f)) 29 f (nI s)) 30 s + 1)) := ⟨o.2.1, o.2.2.2, o.2.2.1, fun a q1 q2 q3 => by rw [gA_pA_ne q2, gA_pA_ne q1, gA_pA_ne q3, o.1 a q3]⟩
            generalize pA (pA (pA y 31 (8 * s + p) (nI f)) 29 f (nI s)) 30 s (gA (pA (pA y 31 (8 * s + p) (nI f)) 29 f (nI s)) 30 s + 1) = m1 at l1 fm
            have mA : ∀ a, a ≠ 29 → a ≠ 30 → a ≠ 31 → gA m1 a = gA m a := fm.2.2.2
            have cA : ∀ a, a ≠ 14 → a ≠ 15 → a ≠ 18 → gA c1 a = gA c a := fc.2.2.2
            have W := in_W hB.wS hf hpf e hs hn (by omega) hp l1 (iF_on (mA 23 (by decide) (by decide) (by decide))) (mA 32 (by decide) (by decide) (by decide))
            have R := in_R hB.wS hB.rS hf hs hn (by omega) hp l1 lc (cA 16 (by decide) (by decide) (by decide)) (cA 17 (by decide) (by decide) (by decide)) (mA 32 (by decide) (by decide) (by decide)) (mA 33 (by decide) (by decide) (by decide)) b
            have fc' : FrL c c1 := ⟨fc.1, fc.2.1, fc.2.2.1, fun a q1 q2 q3 q4 => cA a q1 q2 q4⟩
            have fm' : FrLm m m1 := ⟨fm.1, fm.2.1, fm.2.2.1, fun a q1 q2 q3 q4 => mA a q1 q2 q3⟩
            obtain ⟨c', m', e3, e4, i1, i2, i3, i4⟩ := fin_settle ⟨rel_Ba hB fc' fm' W R, rel_Al hA fc' fm', rel_J hJ fc' fm'⟩ fc'.frM fm'.frC
            rw [e3, e4, Option.bind_some, Option.bind_some, i1.1.rS.2.1 s hs, i4.1 30 (by decide)]
            refine ⟨_, c', m', rfl, rfl, i1, i2, i3, fun _ => ?_⟩
            obtain ⟨n, hn8, en', -⟩ := W.2.1 s hs
            rw [en']; exact lo_nI (by decide) (by omega)
        · rw [e, if_neg (nI_ne_m1 (by omega)), if_neg (nI_pos (by omega))]
          exact h.err (-2) rfl rfl
theorem freeS_eq {c m : Sx} (h : WStk m) (rS : RStk c m) : f_X6_freeNumber c = match fst? (fun k => !isS m k) 0 10 with
    | some k => some (nI k)
    | none => some (-1) := by
  unfold f_X6_freeNumber
  exact find0 (L := fun n i => L_X6_freeNumber_2 c (fun z2 => some (-1)) n i) (p := fun k => !isS m k) (N := 10) (by decide) (fun n => by
    show L_X6_freeNumber_2 _ _ _ _ = _
    rw [L_X6_freeNumber_2, if_pos (by decide)]) (fun n k hk => by
    show L_X6_freeNumber_2 _ _ _ _ = _
    rw [L_X6_freeNumber_2, if_neg (ngo (x := 10) (N := 10) rfl hk (by decide)), hasS_eq h rS, stn_nI hk, Option.bind_some, nI_lit1]
    cases isS m k <;> rfl)
theorem stackM_eq {m : Sx} (h : WStk m) (b1 b2 : Int32) (kont : Int32 → Option (Int32 × Sx)) : L_X9_stack_46 m b1 b2 kont FU 0 = match fst? (fun k => !isS m k) 0 10 with
    | some k => kont (nI k)
    | none => kont (nI 10) := by
  exact find0 (L := fun n i => L_X9_stack_46 m b1 b2 kont n i) (p := fun k => !isS m k) (N := 10) (by decide) (fun n => by
    show L_X9_stack_46 _ _ _ _ _ _ = _
    rw [L_X9_stack_46, if_pos (by decide)]) (fun n k hk => by
    show L_X9_stack_46 _ _ _ _ _ _ = _
    obtain ⟨en, h8, -⟩ := wStk_mn h hk
    rw [L_X9_stack_46, if_neg (ngo (x := 10) (N := 10) rfl hk (by decide)), gd_pos (vin_nI hk (by decide)), ix_nI (by omega), en, nI_lit1, isS]
    by_cases q : 0 < mn m k
    · rw [if_neg (by rw [show (0 : Int32) = nI 0 from rfl, nI_le_iff (by omega) (by decide)]; omega), decide_eq_true q]; rfl
    · rw [if_pos (by rw [show (0 : Int32) = nI 0 from rfl, nI_le_iff (by omega) (by decide)]; omega), decide_eq_false q]; rfl)
theorem cal_stack (a1 a2 : Int32) : Cal (-3) (fun t => f_X8_stack t a1 a2) (fun t => f_X9_stack t a1 a2) := fun c m h => by
  show ∃ r c' m', f_X8_stack c a1 a2 = some (r, c') ∧ f_X9_stack m a1 a2 = some (r, m') ∧ _
  unfold f_X8_stack f_X9_stack f_X6_home
  rw [hasC h.1, there_eq]
  simp only [Option.bind_some]
  cases q : fil (iF m) a1 with
  | false => exact h.err (-1) (by rw [bF]) (by rw [bF])
  | true =>
    obtain ⟨f, hf, rfl, pf⟩ := fil_out q
    rw [bT, bT, hasC h.1, there_eq]
    simp only [Option.bind_some]
    cases q2 : fil (iF m) a2 with
    | false => exact h.err (-1) (by rw [bF]) (by rw [bF])
    | true =>
      obtain ⟨g, hg, rfl, pg⟩ := fil_out q2
      have gf : vp_in (nI f) 40 := vin_nI hf (by decide)
      have xf : ix (nI f) = f := ix_nI (by omega)
      have gg : vp_in (nI g) 40 := vin_nI hg (by decide)
      have xg : ix (nI g) = g := ix_nI (by omega)
      rw [bT, bT]
      by_cases w : f = g
      · rw [if_pos (by rw [w]), if_pos (by rw [w])]
        exact h.err (-1) rfl rfl
      · have w' : ¬ nI f = nI g := by rw [nI_eq_iff (by omega) (by omega)]; exact w
        rw [if_neg w', if_neg w']
        simp only [gd_pos gf, gd_pos gg, xf, xg, Option.bind_some, h.1.rS.1 f hf, h.1.rS.1 g hg]
        rcases wStk_home h.1.wS hf with e | ⟨s', hs', e, -, -⟩
        · rcases wStk_home h.1.wS hg with e' | ⟨s', hs', e', -, -⟩
          · rw [e, e', if_pos rfl, if_pos rfl, if_neg (by decide), if_pos (by decide), freeS_eq h.1.wS h.1.rS, stackM_eq h.1.wS]
            cases ef : fst? (fun k => !isS m k) 0 10 with
            | none => exact h.err (-3) (by rfl) (by dsimp only; rw [if_pos (by decide)])
            | some s =>
              obtain ⟨-, hs, hns, -⟩ := fst?_some ef
              have hs : s < 10 := by omega
              have h0 : mn m s = 0 := by
                have : isS m s = false := by simpa using hns
                unfold isS at this
                have := of_decide_eq_false this
                omega
              obtain ⟨en, -, -⟩ := wStk_mn h.1.wS hs
              have gs : vp_in (nI s) 10 := vin_nI hs (by decide)
              have xs : ix (nI s) = s := ix_nI (by omega)
              dsimp only
              rw [Option.bind_some, if_neg (nI_ne_m1 (by omega)), if_neg (by rw [show (10 : Int32) = nI 10 from rfl, nI_eq_iff (by omega) (by decide)]; omega)]
              obtain ⟨hB, hD, hA, hJ, hM⟩ := h
              unfold f_X6_begin
              obtain ⟨c1, p1, fc1, l1, b1⟩ := insert_eq (c := pA (pA c 16 s (-1)) 17 s 0) (f := f) (p := 0) hs (show 0 < 8 by decide) (Nat.le_refl _) hf (by rw [gA_pA_ne (by decide), gA_pA_ne (by decide), hB.rS.2.1 s hs, en, h0])
              have e15 : gA c1 15 s = nI 1 := by rw [l1.2.1, if_pos rfl]
              obtain ⟨c2, p2, fc2, l2, b2'⟩ := insert_eq (c := c1) (f := g) (p := 1) hs (show 1 < 8 by decide) (Nat.le_refl _) hg e15
              have p1' : f_X6_insert (pA (pA c 16 s (-1)) 17 s 0) (nI s) (nI f) 0 = some c1 := p1
              have p2' : f_X6_insert c1 (nI s) (nI g) 1 = some c2 := p2
              simp only [gd_pos gs, xs, bd_eq, Option.bind_some, p1', p2', i80, nI_lit1, gd_pos (show vp_in (nI (8 * s)) 80 from vin_nI (by omega) (by decide)), gd_pos (show vp_in (nI (8 * s + 1)) 80 from vin_nI (by omega) (by decide)), ix_nI (show 8 * s < 2 ^ 31 by omega), ix_nI (show 8 * s + 1 < 2 ^ 31 by omega)]
              -- the reference's new state
              have m29 : ∀ i, gA (pA (pA (pA (pA (pA (pA (pA m 30 s 2) 31 (8 * s) (nI f)) 31 (8 * s + 1) (nI g)) 32 s (-1)) 33 s 0) 29 f (nI s)) 29 g (nI s)) 29 i = if i = f ∨ i = g then nI s else gA m 29 i := fun i => by
                rw [gA_pA_at, gA_pA_at, gA_pA_ne (by decide), gA_pA_ne (by decide), gA_pA_ne (by decide), gA_pA_ne (by decide), gA_pA_ne (by decide)]
                by_cases z : i = g
                · rw [if_pos z, if_pos (Or.inr z)]
                · rw [if_neg z]
                  by_cases z2 : i = f
                  · rw [if_pos z2, if_pos (Or.inl z2)]
                  · rw [if_neg z2, if_neg (fun u => u.elim z2 z)]
              have m30 : ∀ i, gA (pA (pA (pA (pA (pA (pA (pA m 30 s 2) 31 (8 * s) (nI f)) 31 (8 * s + 1) (nI g)) 32 s (-1)) 33 s 0) 29 f (nI s)) 29 g (nI s)) 30 i = if i = s then nI 2 else gA m 30 i := fun i => by
                rw [gA_pA_ne (by decide), gA_pA_ne (by decide), gA_pA_ne (by decide), gA_pA_ne (by decide), gA_pA_ne (by decide), gA_pA_ne (by decide), gA_pA_at]; rfl
              have m31 : ∀ i, gA (pA (pA (pA (pA (pA (pA (pA m 30 s 2) 31 (8 * s) (nI f)) 31 (8 * s + 1) (nI g)) 32 s (-1)) 33 s 0) 29 f (nI s)) 29 g (nI s)) 31 i = if i = 8 * s + 1 then nI g else if i = 8 * s then nI f else gA m 31 i := fun i => by
                rw [gA_pA_ne (by decide), gA_pA_ne (by decide), gA_pA_ne (by decide), gA_pA_ne (by decide), gA_pA_at, gA_pA_at, gA_pA_ne (by decide)]
              have m32 : ∀ i, gA (pA (pA (pA (pA (pA (pA (pA m 30 s 2) 31 (8 * s) (nI f)) 31 (8 * s + 1) (nI g)) 32 s (-1)) 33 s 0) 29 f (nI s)) 29 g (nI s)) 32 i = if i = s then -1 else gA m 32 i := fun i => by
                rw [gA_pA_ne (by decide), gA_pA_ne (by decide), gA_pA_ne (by decide), gA_pA_at, gA_pA_ne (by decide), gA_pA_ne (by decide), gA_pA_ne (by decide)]
              have m33 : ∀ i, gA (pA (pA (pA (pA (pA (pA (pA m 30 s 2) 31 (8 * s) (nI f)) 31 (8 * s + 1) (nI g)) 32 s (-1)) 33 s 0) 29 f (nI s)) 29 g (nI s)) 33 i = if i = s then 0 else gA m 33 i := fun i => by
                rw [gA_pA_ne (by decide), gA_pA_ne (by decide), gA_pA_at, gA_pA_ne (by decide), gA_pA_ne (by decide), gA_pA_ne (by decide), gA_pA_ne (by decide)]
              have mA : ∀ a, a ≠ 29 → a ≠ 30 → a ≠ 31 → a ≠ 32 → a ≠ 33 → gA (pA (pA (pA (pA (pA (pA (pA m 30 s 2) 31 (8 * s) (nI f)) 31 (8 * s + 1) (nI g)) 32 s (-1)) 33 s 0) 29 f (nI s)) 29 g (nI s)) a = gA m a := fun a v1 v2 v3 v4 v5 => by
                rw [gA_pA_ne v1, gA_pA_ne v1, gA_pA_ne v5, gA_pA_ne v4, gA_pA_ne v3, gA_pA_ne v3, gA_pA_ne v2]
              have mI : gI (pA (pA (pA (pA (pA (pA (pA m 30 s 2) 31 (8 * s) (nI f)) 31 (8 * s + 1) (nI g)) 32 s (-1)) 33 s 0) 29 f (nI s)) 29 g (nI s)) = gI m := rfl
              have mL : gL (pA (pA (pA (pA (pA (pA (pA m 30 s 2) 31 (8 * s) (nI f)) 31 (8 * s + 1) (nI g)) 32 s (-1)) 33 s 0) 29 f (nI s)) 29 g (nI s)) = gL m := rfl
              have mM : gM (pA (pA (pA (pA (pA (pA (pA m 30 s 2) 31 (8 * s) (nI f)) 31 (8 * s + 1) (nI g)) 32 s (-1)) 33 s 0) 29 f (nI s)) 29 g (nI s)) = gM m := rfl
              generalize pA (pA (pA (pA (pA (pA (pA m 30 s 2) 31 (8 * s) (nI f)) 31 (8 * s + 1) (nI g)) 32 s (-1)) 33 s 0) 29 f (nI s)) 29 g (nI s) = m1 at m29 m30 m31 m32 m33 mA mI mL mM
              have hmn : ∀ s', mn m1 s' = if s' = s then 2 else mn m s' := fun s' => by
                show ix (gA m1 30 s') = _
                rw [m30]
                split
                · exact ix_nI (by omega)
                · rfl
              have in8 : ∀ s', s' < 10 → mn m s' ≤ 8 := fun s' hs' => (wStk_mn hB.wS hs').2.1
              have live : ∀ i s', s' < 10 → gA m 29 i = nI s' → ¬ (i = f ∨ i = g) := fun i s' hs' hi u => by
                rcases u with u | u
                · rw [u, e] at hi; exact nI_ne_m1 (by omega) hi.symm
                · rw [u, e'] at hi; exact nI_ne_m1 (by omega) hi.symm
              have far : ∀ s' k, s' ≠ s → k < 8 → gA m1 31 (8 * s' + k) = gA m 31 (8 * s' + k) := fun s' k ne hk8 => by rw [m31, if_neg (by omega), if_neg (by omega)]
              have W : WStk m1 := by
                refine ⟨fun f' hf' => ?_, fun s' hs' => ?_, fun s' hs' k hk' => ?_, fun s' hs' j k hjk hk' => ?_, fun s' hs' hn' => ?_⟩
                · rw [m29, iF_on (mA 23 (by decide) (by decide) (by decide) (by decide) (by decide))]
                  by_cases z : f' = f ∨ f' = g
                  · rw [if_pos z]
                    refine Or.inr ⟨s, hs, rfl, ?_, ?_⟩
                    · rcases z with z | z <;> rw [z] <;> assumption
                    · rcases z with z | z
                      · exact ⟨0, by rw [hmn, if_pos rfl]; omega, by rw [m31, if_neg (by omega), if_pos (by omega), z]⟩
                      · exact ⟨1, by rw [hmn, if_pos rfl]; omega, by rw [m31, if_pos rfl, z]⟩
                  · rw [if_neg z]
                    rcases hB.wS.1 f' hf' with u | ⟨s', hs', u1, u2, k, hk', u3⟩
                    · exact Or.inl u
                    · have ne : s' ≠ s := fun v => by rw [v, h0] at hk'; omega
                      exact Or.inr ⟨s', hs', u1, u2, k, by rw [hmn, if_neg ne]; exact hk', by rw [far s' k ne (by have := in8 s' hs'; omega)]; exact u3⟩
                · rw [m30]
                  by_cases z : s' = s
                  · rw [if_pos z]; exact ⟨2, by omega, rfl, by omega⟩
                  · rw [if_neg z]; exact hB.wS.2.1 s' hs'
                · rw [hmn] at hk'
                  by_cases z : s' = s
                  · rw [if_pos z] at hk'
                    rw [z]
                    rcases (show k = 0 ∨ k = 1 by omega) with rfl | rfl
                    · exact ⟨f, hf, by rw [m31, if_neg (by omega), if_pos (by omega)], by rw [m29, if_pos (Or.inl rfl)]⟩
                    · exact ⟨g, hg, by rw [m31, if_pos rfl], by rw [m29, if_pos (Or.inr rfl)]⟩
                  · rw [if_neg z] at hk'
                    obtain ⟨b1, b2'', b3⟩ := wStk_fl hB.wS hs' hk'
                    exact ⟨_, b2'', by rw [far s' k z (by have := in8 s' hs'; omega)]; exact b1, by rw [m29, if_neg (live _ s' hs' b3)]; exact b3⟩
                · rw [hmn] at hk'
                  by_cases z : s' = s
                  · rw [if_pos z] at hk'
                    rw [z]
                    obtain rfl : j = 0 := by omega
                    obtain rfl : k = 1 := by omega
                    rw [m31, m31, if_neg (by omega), if_pos (by omega), if_pos rfl]
                    exact w'
                  · rw [if_neg z] at hk'
                    rw [far s' k z (by have := in8 s' hs'; omega), far s' j z (by have := in8 s' hs'; omega)]
                    exact hB.wS.2.2.2.1 s' hs' j k hjk hk'
                · rw [hmn] at hn'
                  rw [m32]
                  by_cases z : s' = s
                  · rw [if_pos z]; exact Or.inl rfl
                  · rw [if_neg z] at hn' ⊢
                    rcases hB.wS.2.2.2.2 s' hs' hn' with u | ⟨f', u1, u2, u3⟩
                    · exact Or.inl u
                    · exact Or.inr ⟨f', u1, u2, by rw [m29, if_neg (live _ s' hs' u3)]; exact u3⟩
              have c18 : ∀ i, gA c2 18 i = if i = f ∨ i = g then nI s else gA c 18 i := fun i => by
                rw [l2.1, l1.1, gA_pA_ne (by decide), gA_pA_ne (by decide)]
                by_cases z : i = g
                · rw [if_pos z, if_pos (Or.inr z)]
                · rw [if_neg z]
                  by_cases z2 : i = f
                  · rw [if_pos z2, if_pos (Or.inl z2)]
                  · rw [if_neg z2, if_neg (fun u => u.elim z2 z)]
              have c15 : ∀ i, gA c2 15 i = if i = s then nI 2 else gA c 15 i := fun i => by
                rw [l2.2.1, l1.2.1, gA_pA_ne (by decide), gA_pA_ne (by decide)]
                by_cases z : i = s
                · rw [if_pos z, if_pos z]
                · rw [if_neg z, if_neg z, if_neg z]
              have c14 : ∀ i, gA c2 14 i = if i = 8 * s + 1 then nI g else if i = 8 * s then nI f else gA c 14 i := fun i => by
                rw [l2.2.2]
                by_cases z : i = 8 * s + 1
                · rw [if_pos z, if_pos z]
                · rw [if_neg z, if_neg z, if_neg (by omega), l1.2.2, Nat.add_zero]
                  by_cases z2 : i = 8 * s
                  · rw [if_pos z2, if_pos z2]
                  · rw [if_neg z2, if_neg z2, if_neg (by omega), gA_pA_ne (by decide), gA_pA_ne (by decide)]
              have c16 : ∀ i, gA c2 16 i = if i = s then -1 else gA c 16 i := fun i => by
                rw [fc2.2.2.2 16 (by decide) (by decide) (by decide), fc1.2.2.2 16 (by decide) (by decide) (by decide), gA_pA_ne (by decide), gA_pA_at]
              have c17 : ∀ i, gA c2 17 i = if i = s then 0 else gA c 17 i := fun i => by
                rw [fc2.2.2.2 17 (by decide) (by decide) (by decide), fc1.2.2.2 17 (by decide) (by decide) (by decide), gA_pA_at, gA_pA_ne (by decide)]
              have cA : ∀ a, a ≠ 14 → a ≠ 15 → a ≠ 16 → a ≠ 17 → a ≠ 18 → gA c2 a = gA c a := fun a v1 v2 v3 v4 v5 => by
                rw [fc2.2.2.2 a v1 v2 v5, fc1.2.2.2 a v1 v2 v5, gA_pA_ne v4, gA_pA_ne v3]
              have cI : gI c2 = gI c := by rw [fc2.1, fc1.1]; rfl
              have cM : gM c2 = gM c := by rw [fc2.2.1, fc1.2.1]; rfl
              have cL : ∀ k, k ≠ 11 → gL c2 k = gL c k := fun k hk => by rw [fc2.2.2.1 k hk, fc1.2.2.1 k hk]; rfl
              have c11 : ∀ k, k < 64 → hb (gL c2 11) k = (hb (gL c 11) k || decide (k = f ∨ k = g)) := fun k hk => by
                rw [b2' k hk, b1 k hk]
                show (hb (gL c 11) k || _ || _) = _
                rw [Bool.or_assoc]
                congr 1
                by_cases z : k = f
                · rw [decide_eq_true z, decide_eq_true (p := k = f ∨ k = g) (Or.inl z)]; rfl
                · by_cases z2 : k = g
                  · rw [decide_eq_true z2, decide_eq_true (p := k = f ∨ k = g) (Or.inr z2), Bool.or_true]
                  · rw [decide_eq_false z, decide_eq_false z2, decide_eq_false (p := k = f ∨ k = g) (fun u => u.elim z z2)]; rfl
              have R : RStk c2 m1 := by
                obtain ⟨r1, r2, r3, r4, r5⟩ := hB.rS
                refine ⟨fun f' hf' => by rw [c18, m29, r1 f' hf'], fun s' hs' => by rw [c15, m30, r2 s' hs'], fun s' hs' k hk' => ?_, fun s' hs' hn' => ?_, fun k hk' => ?_⟩
                · rw [hmn] at hk'
                  rw [c14, m31]
                  by_cases z : s' = s
                  · rw [if_pos z] at hk'
                    rcases (show k = 0 ∨ k = 1 by omega) with rfl | rfl
                    · rw [if_neg (by omega), if_pos (by omega), if_neg (by omega), if_pos (by omega)]
                    · rw [if_pos (by omega), if_pos (by omega)]
                  · rw [if_neg z] at hk'
                    have := in8 s' hs'
                    rw [if_neg (by omega), if_neg (by omega), if_neg (by omega), if_neg (by omega)]
                    exact r3 s' hs' k hk'
                · rw [hmn] at hn'
                  rw [c16, c17, m32, m33]
                  by_cases z : s' = s
                  · rw [if_pos z, if_pos z, if_pos z, if_pos z]; exact ⟨rfl, rfl⟩
                  · rw [if_neg z] at hn'
                    rw [if_neg z, if_neg z, if_neg z, if_neg z]; exact r4 s' hs' hn'
                · rw [c11 k hk', m29, Bool.or_eq_true, r5 k hk']
                  by_cases dd : k = f ∨ k = g
                  · rw [if_pos dd, decide_eq_true dd]
                    exact ⟨fun _ => ⟨by omega, nI_ne_m1 (by omega)⟩, fun _ => Or.inr rfl⟩
                  · rw [if_neg dd, decide_eq_false dd]
                    exact ⟨fun u => u.elim id (fun v => absurd v (by decide)), fun u => Or.inl u⟩
              have m23 := mA 23 (by decide) (by decide) (by decide) (by decide) (by decide)
              have m26 := mA 26 (by decide) (by decide) (by decide) (by decide) (by decide)
              have m27 := mA 27 (by decide) (by decide) (by decide) (by decide) (by decide)
              have m28 := mA 28 (by decide) (by decide) (by decide) (by decide) (by decide)
              have m34 := mA 34 (by decide) (by decide) (by decide) (by decide) (by decide)
              have b1 : Ba c2 m1 := ⟨hB.wO.on m28, hB.wV.on m26 m27, W, hB.wT.on (by rw [mI]) m34, (hB.rP.on (cL 8 (by decide))).onM m23, (hB.rD.onC (cA 9 (by decide) (by decide) (by decide) (by decide) (by decide)) (cA 10 (by decide) (by decide) (by decide) (by decide) (by decide))).onM m23 (mA 24 (by decide) (by decide) (by decide) (by decide) (by decide)) (mA 25 (by decide) (by decide) (by decide) (by decide) (by decide)), (hB.rV.on (cA 11 (by decide) (by decide) (by decide) (by decide) (by decide))).onM m23 m26 m27, (hB.rO.on (cA 13 (by decide) (by decide) (by decide) (by decide) (by decide))).onM m28, R, (hB.rT.onC (by rw [cI]) (cA 108 (by decide) (by decide) (by decide) (by decide) (by decide))).onM (by rw [mI]) m34, hB.wG.on m26 m27⟩
              have a1' : RAl c2 m1 := hA.on (fun k _ _ => by rw [cI]) (fun a _ _ => cA a (by omega) (by omega) (by omega) (by omega) (by omega)) (fun k _ => cL k (by omega)) (fun a _ _ => mA a (by omega) (by omega) (by omega) (by omega) (by omega)) (by rw [mM])
              have j1 : RJ c2 m1 := hJ.on (by rw [cI]) (by rw [cI]) (by rw [mI]) (cA 20 (by decide) (by decide) (by decide) (by decide) (by decide)) (cA 21 (by decide) (by decide) (by decide) (by decide) (by decide)) (cA 22 (by decide) (by decide) (by decide) (by decide) (by decide)) (mA 41 (by decide) (by decide) (by decide) (by decide) (by decide))
              obtain ⟨c', m', e3, e4, i1, i2, i3, i4⟩ := fin_settle (c := c) (m := m) ⟨b1, a1', j1⟩ ⟨fun a _ _ => cA a (by omega) (by omega) (by omega) (by omega) (by omega), fun k _ _ => by rw [cI], by rw [cM]⟩ (FrC.ofM (fun a _ => mA a (by omega) (by omega) (by omega) (by omega) (by omega)) (fun k _ => by rw [mI]) (fun k => by rw [mL]) mM)
              rw [e3, e4]
              exact ⟨_, c', m', rfl, rfl, i1, i2, i3, fun _ => lo_nI (by decide) (by omega)⟩
          · rw [e, e', if_pos rfl, if_neg (nI_ne_m1 (by omega)), if_neg (by decide), if_neg (nI_pos (by omega))]
            exact h.err (-2) rfl rfl
        · rw [e, if_neg (nI_ne_m1 (by omega)), if_pos (nI_pos' (by omega))]
          exact h.err (-2) rfl rfl
end
section
/-! ===== rules as a whole: whether the text can be used ===== -/
theorem names_dig {ch : Nat → Nat} {n : Nat} (h : Rul ch n) {p : Nat} (hp : p < n) (e : ch p = 97) : p + 1 < n ∧ 48 ≤ ch (p + 1) ∧ ch (p + 1) ≤ 57 := by
  obtain ⟨sn, hv, -⟩ := h.2
  obtain ⟨s, o, e1, g1, g2, g3, g4⟩ := rn_at h.1 hv hp
  obtain ⟨-, w⟩ := lt_ok g1 (by omega) g2 g3 (by omega)
  have h7 : nx s (ch p) o = 7 := by
    rcases w with ⟨w, _⟩ | ⟨_, _, w⟩ | ⟨w, _, _⟩
    · rw [e] at w; exact absurd w (by decide)
    · exact w
    · omega
  rw [h7, if_neg (by omega), if_neg (by omega)] at g4
  obtain ⟨w1, w2, -⟩ := one_digit h g4 (by omega)
  obtain ⟨w3, w4⟩ := dgt_iff.mp w2
  exact ⟨w1, w3, w4⟩
def nmF (ch : Nat → Nat) (a k : Nat) : Bool := decide (ch k = 97) && decide (ch (k + 1) - 48 = a)
def nmB (ch : Nat → Nat) (n a : Nat) : Bool := (fst? (nmF ch a) 0 n).isSome
theorem nmB_iff {ch : Nat → Nat} {n a : Nat} : nmB ch n a = true ↔ ∃ p, p < n ∧ ch p = 97 ∧ ch (p + 1) - 48 = a := by
  unfold nmB
  cases e : fst? (nmF ch a) 0 n with
  | none =>
    refine ⟨fun w => (by cases w), fun ⟨p, h1, h2, h3⟩ => ?_⟩
    have := fst?_none e p (by omega) (by omega)
    unfold nmF at this
    rw [decide_eq_true h2, decide_eq_true h3] at this
    cases this
  | some k =>
    obtain ⟨-, h2, h3, -⟩ := fst?_some e
    obtain ⟨u1, u2⟩ := (Bool.and_eq_true _ _).mp h3
    exact ⟨fun _ => ⟨k, by omega, of_decide_eq_true u1, of_decide_eq_true u2⟩, fun _ => rfl⟩
theorem namesC_eq {c : Sx} {j : Nat} {ch : Nat → Nat} {n : Nat} (hT : Tx c j ch n) (hR : Rul ch n) {a : Nat} (ha : a < 10) : f_X5_names c j (nI a) = some (b2 (nmB ch n a)) := by
  have h80 := hT.1
  unfold f_X5_names
  have r := find0 (L := fun m i => L_X5_names_2 c j (nI a) (fun z3 => some 0) m i) (p := nmF ch a) (N := n) (A := some 0) (B := fun _ => some 1) (by omega) (fun m => by
    show L_X5_names_2 _ _ _ _ _ _ = _
    rw [L_X5_names_2, hT.2.1, if_pos (nI_le (Nat.le_refl _) (by omega))]) (fun m k hk => by
    show L_X5_names_2 _ _ _ _ _ _ = _
    obtain ⟨k1, k2⟩ := hT.2.2.2 k hk
    rw [L_X5_names_2, hT.2.1, if_neg (by rw [nI_le_iff (by omega) (by omega)]; omega), at_eq hT (by omega), if_pos hk, Option.bind_some, nI_lit1, show (97 : Int32) = nI 97 from rfl]
    unfold nmF
    by_cases q : ch k = 97
    · obtain ⟨d1, d2, d3⟩ := names_dig hR hk q
      rw [if_pos (by rw [q]), at_eq hT (by omega), if_pos d1, Option.bind_some, tbit_sub (dgt_iff.mpr ⟨d2, d3⟩), decide_eq_true q, Bool.true_and]
      by_cases w : ch (k + 1) - 48 = a
      · rw [if_pos (by rw [w]), if_pos (decide_eq_true w)]
      · rw [if_neg (by rw [nI_eq_iff (by omega) (by omega)]; exact w), if_neg (by rw [decide_eq_false w]; decide)]
    · rw [if_neg (by rw [nI_eq_iff (by omega) (by decide)]; exact q), decide_eq_false q, Bool.false_and, if_neg (by decide)])
  rw [r]
  unfold nmB
  cases fst? (nmF ch a) 0 n <;> rfl
/-- the text is a rule, and the albums that it names are there, below b -/
def usb (m : Sx) (b : Nat) : Prop := Rul (tch m) (tpd m) ∧ ∀ p, p < tpd m → tch m p = 97 → tch m (p + 1) - 48 < 8 ∧ tch m (p + 1) - 48 < b ∧ iA m (tch m (p + 1) - 48) = true
theorem tx_of {c m : Sx} (h : WTxt m) (r : RTxt c m) : Tx c 8 (tch m) (tpd m) := ⟨(wTxt_n h).1, by rw [show 150 + 8 = 158 from rfl, r.1]; exact (wTxt_n h).2, fun k hk => by rw [show 100 + 8 = 108 from rfl, r.2 k hk]; exact (wTxt_c h hk).2.2, wTxt_ok h⟩
theorem usable_eq {c m : Sx} (hB : Ba c m) (hA : RAl c m) {b : Nat} (hb : b ≤ 8) : f_X8_isTextUsable c (nI b) = some (b2 (pb (usb m b))) := by
  unfold f_X8_isTextUsable
  rcases faultC_eq hB.wT hB.rT with ⟨v, e⟩ | ⟨p, hp, fl, e⟩
  · have hR : Rul (tch m) (tpd m) := ⟨wTxt_ok hB.wT, v⟩
    have hT := tx_of hB.wT hB.rT
    rw [e, Option.bind_some, if_pos rfl]
    have r := find0 (L := fun k i => L_X8_isTextUsable_15 c (nI b) (fun z4 => some 1) k i) (p := fun a => nmB (tch m) (tpd m) a && !(decide (a < b) && alm m (nI a))) (N := 10) (A := some 1) (B := fun _ => some 0) (by omega) (fun k => by
      show L_X8_isTextUsable_15 _ _ _ _ _ = _
      rw [L_X8_isTextUsable_15, if_pos (by decide)]) (fun k a ha => by
      show L_X8_isTextUsable_15 _ _ _ _ _ = _
      rw [L_X8_isTextUsable_15, if_neg (by rw [show (9 : Int32) = nI 9 from rfl, nI_lt_iff (by decide) (by omega)]; omega), namesC_eq hT hR ha, Option.bind_some, nI_lit1]
      cases q : nmB (tch m) (tpd m) a with
      | false => rw [bF]; rfl
      | true =>
        rw [bT, Bool.true_and]
        by_cases w : a < b
        · rw [if_neg (by rw [nI_le_iff (by omega) (by omega)]; omega), hasAlbum_eq hA, Option.bind_some, decide_eq_true w, Bool.true_and]
          cases alm m (nI a) <;> rfl
        · rw [if_pos (nI_le (by omega) (by omega)), decide_eq_false w]; rfl)
    rw [r]
    cases ef : fst? (fun a => nmB (tch m) (tpd m) a && !(decide (a < b) && alm m (nI a))) 0 10 with
    | none =>
      rw [pb_iff.mpr]; · rfl
      refine ⟨hR, fun p hp e => ?_⟩
      obtain ⟨d1, d2, d3⟩ := names_dig hR hp e
      have := fst?_none ef (tch m (p + 1) - 48) (by omega) (by omega)
      rw [nmB_iff.mpr ⟨p, hp, e, rfl⟩, Bool.true_and] at this
      have u : (decide (tch m (p + 1) - 48 < b) && alm m (nI (tch m (p + 1) - 48))) = true := by
        cases z : (decide (tch m (p + 1) - 48 < b) && alm m (nI (tch m (p + 1) - 48))) with
        | true => rfl
        | false => rw [z] at this; cases this
      obtain ⟨u1, u2⟩ := (Bool.and_eq_true _ _).mp u
      obtain ⟨a, ha, ea, u3⟩ := alm_out u2
      rw [nI_eq_iff (by omega) (by omega)] at ea
      exact ⟨by omega, of_decide_eq_true u1, by rw [ea]; exact u3⟩
    | some a =>
      obtain ⟨-, h2, h3, -⟩ := fst?_some ef
      obtain ⟨u1, u2⟩ := (Bool.and_eq_true _ _).mp h3
      have : pb (usb m b) = false := by
        cases z : pb (usb m b) with
        | false => rfl
        | true =>
          obtain ⟨p, hp, e1, e2⟩ := nmB_iff.mp u1
          obtain ⟨w1, w2, w3⟩ := (pb_iff.mp z).2 p hp e1
          rw [e2] at w1 w2 w3
          rw [decide_eq_true w2, alm_nI w1, w3] at u2
          cases u2
      rw [this]; rfl
  · rw [e, Option.bind_some, if_neg (nI_ne_m1 (by omega))]
    have : pb (usb m b) = false := by
      cases z : pb (usb m b) with
      | false => rfl
      | true => exact absurd (pb_iff.mp z).1.2 (flt_vld fl)
    rw [this]; rfl
theorem takesText_eq {m : Sx} (h : WTxt m) : ∃ m', f_X9_takesText m = some m' ∧ OnR m m' ∧ Rx m' (tch m) (tpd m) := by
  unfold f_X9_takesText
  obtain ⟨n80, et⟩ := wTxt_n h
  rw [bd_eq, et]
  obtain ⟨y, ⟨hy, e⟩, r⟩ := loop0 (L := fun i x s => L_X9_takesText_10 (fun z3 t4 => some t4) i x s) (E := fun s => some s) (N := tpd m) (by omega) (y := pI m 55 (nI (tpd m)))
    (fun k s => OnA 45 (pI m 55 (nI (tpd m))) s ∧ ∀ j, j < k → gA s 45 j = nI (tch m j))
    (fun i s h => by
      show L_X9_takesText_10 _ _ _ _ = _
      rw [L_X9_takesText_10, h.1.2.1, gI_pI, if_neg (show ¬ (52 : Nat) = 55 by decide), et, if_pos (nI_le (Nat.le_refl _) (by omega))])
    (fun k s hk h2 => by
      obtain ⟨c1, c2, e34⟩ := wTxt_c h hk
      have e34' : gA s 34 k = nI (tch m k) := by rw [h2.1.1 34 (by decide), gA_pI]; exact e34
      refine ⟨pA s 45 k (nI (tch m k)), ⟨h2.1.pA _ _, fun j hj => ?_⟩, fun i => ?_⟩
      · rw [gA_pA_at]
        by_cases q : j = k
        · rw [if_pos q, q]
        · rw [if_neg q]; exact h2.2 j (by omega)
      · show L_X9_takesText_10 _ _ _ _ = _
        rw [L_X9_takesText_10, h2.1.2.1, gI_pI, if_neg (show ¬ (52 : Nat) = 55 by decide), et, if_neg (by rw [nI_le_iff (by omega) (by omega)]; omega), gd_pos (vin_nI (by omega) (by decide)), ix_nI (by omega), e34', gd_pos (gch_nI (by omega)), gd_pos (vin_nI (by omega) (by decide)), bd_eq, nI_lit1])
    ⟨OnA.rf _ _, fun j hj => absurd hj (by omega)⟩
  refine ⟨y, r, ⟨fun i hi => by rw [hy.1 i hi, gA_pI], fun k hk => by rw [hy.2.1, gI_pI, if_neg hk], by rw [hy.2.2.1]; rfl, by rw [hy.2.2.2]; rfl⟩, n80, by rw [hy.2.1, gI_pI, if_pos rfl], e⟩
theorem namesM_eq {m : Sx} {ch : Nat → Nat} {n : Nat} (hX : Rx m ch n) (hR : Rul ch n) {b : Nat} (hb : b ≤ 8) : f_X9_names m (nI b) = some (b2 (pb (∀ p, p < n → ch p = 97 → ch (p + 1) - 48 < 8 ∧ ch (p + 1) - 48 < b ∧ iA m (ch (p + 1) - 48) = true))) := by
  obtain ⟨h80, e55, e45⟩ := hX
  have hn : 0 < n := by
    obtain ⟨sn, hv, hs⟩ := hR.2
    rcases Nat.eq_zero_or_pos n with w | w
    · subst w; rw [rn] at hv; cases hv; omega
    · exact w
  unfold f_X9_names
  obtain ⟨x, hx, r⟩ := loop0 (L := fun k i (x : Int32) => L_X9_names_4 m (nI b) (fun z2 z3 => gd (gz z2) (some z2)) k x i) (E := fun x => gd (gz x) (some x)) (N := n - 1) (by omega) (y := (1 : Int32))
    (fun k x => (x = 1 ∧ ∀ p, p < k → ch p = 97 → ch (p + 1) - 48 < 8 ∧ ch (p + 1) - 48 < b ∧ iA m (ch (p + 1) - 48) = true) ∨ (x = 0 ∧ ¬ ∀ p, p < k → ch p = 97 → ch (p + 1) - 48 < 8 ∧ ch (p + 1) - 48 < b ∧ iA m (ch (p + 1) - 48) = true))
    (fun k x _ => by
      show L_X9_names_4 _ _ _ _ _ _ = _
      rw [L_X9_names_4, e55, nI_lit1, if_pos (nI_le (by omega) (by omega))])
    (fun k x hk h => by
      have st : ∀ i, L_X9_names_4 m (nI b) (fun z2 z3 => gd (gz z2) (some z2)) (i + 1) x (nI k) = if x = 0 then L_X9_names_4 m (nI b) (fun z2 z3 => gd (gz z2) (some z2)) i 0 (nI (k + 1)) else if nI (ch k) = 97 then if 8 ≤ nI (ch (k + 1)) - 48 then L_X9_names_4 m (nI b) (fun z2 z3 => gd (gz z2) (some z2)) i 0 (nI (k + 1)) else if nI b ≤ nI (ch (k + 1)) - 48 then L_X9_names_4 m (nI b) (fun z2 z3 => gd (gz z2) (some z2)) i 0 (nI (k + 1)) else gd (vp_in (nI (ch (k + 1)) - 48) 8) (if gA m 35 (ix (nI (ch (k + 1)) - 48)) = 0 then L_X9_names_4 m (nI b) (fun z2 z3 => gd (gz z2) (some z2)) i 0 (nI (k + 1)) else L_X9_names_4 m (nI b) (fun z2 z3 => gd (gz z2) (some z2)) i 1 (nI (k + 1))) else L_X9_names_4 m (nI b) (fun z2 z3 => gd (gz z2) (some z2)) i 1 (nI (k + 1)) := fun i => by
        rw [L_X9_names_4, e55, nI_lit1, if_neg (by rw [nI_le_iff (by omega) (by omega)]; omega), gd_pos (vin_nI (by omega) (by decide)), gd_pos (vin_nI (by omega) (by decide)), ix_nI (by omega), ix_nI (by omega), e45 k (by omega), e45 (k + 1) (by omega)]
        simp only [bd_eq]
      rcases h with ⟨rfl, hh⟩ | ⟨rfl, hh⟩
      · have up : (ch k = 97 → ch (k + 1) - 48 < 8 ∧ ch (k + 1) - 48 < b ∧ iA m (ch (k + 1) - 48) = true) → ∀ p, p < k + 1 → ch p = 97 → ch (p + 1) - 48 < 8 ∧ ch (p + 1) - 48 < b ∧ iA m (ch (p + 1) - 48) = true := fun u p hp e => by
          rcases Nat.eq_or_lt_of_le (Nat.lt_succ_iff.mp hp) with q | q
          · subst q; exact u e
          · exact hh p q e
        have n10 : ¬ (1 : Int32) = 0 := by decide
        by_cases q : ch k = 97
        · obtain ⟨d1, d2, d3⟩ := names_dig hR (show k < n by omega) q
          have sub : nI (ch (k + 1)) - 48 = nI (ch (k + 1) - 48) := tbit_sub (dgt_iff.mpr ⟨d2, d3⟩)
          by_cases w1 : ch (k + 1) - 48 < 8
          · by_cases w2 : ch (k + 1) - 48 < b
            · cases w3 : iA m (ch (k + 1) - 48) with
              | true =>
                refine ⟨1, Or.inl ⟨rfl, up fun _ => ⟨w1, w2, w3⟩⟩, fun i => ?_⟩
                show L_X9_names_4 _ _ _ _ _ _ = _
                rw [st, if_neg n10, if_pos (by rw [q]; rfl), sub, if_neg (by rw [show (8 : Int32) = nI 8 from rfl, nI_le_iff (by decide) (by omega)]; omega), if_neg (by rw [nI_le_iff (by omega) (by omega)]; omega), gd_pos (vin_nI w1 (by decide)), ix_nI (by omega), if_neg (by simpa [iA] using w3)]
              | false =>
                refine ⟨0, Or.inr ⟨rfl, fun u => by rw [(u k (by omega) q).2.2] at w3; cases w3⟩, fun i => ?_⟩
                show L_X9_names_4 _ _ _ _ _ _ = _
                rw [st, if_neg n10, if_pos (by rw [q]; rfl), sub, if_neg (by rw [show (8 : Int32) = nI 8 from rfl, nI_le_iff (by decide) (by omega)]; omega), if_neg (by rw [nI_le_iff (by omega) (by omega)]; omega), gd_pos (vin_nI w1 (by decide)), ix_nI (by omega), if_pos (by simpa [iA] using w3)]
            · refine ⟨0, Or.inr ⟨rfl, fun u => w2 (u k (by omega) q).2.1⟩, fun i => ?_⟩
              show L_X9_names_4 _ _ _ _ _ _ = _
              rw [st, if_neg n10, if_pos (by rw [q]; rfl), sub, if_neg (by rw [show (8 : Int32) = nI 8 from rfl, nI_le_iff (by decide) (by omega)]; omega), if_pos (nI_le (by omega) (by omega))]
          · refine ⟨0, Or.inr ⟨rfl, fun u => w1 (u k (by omega) q).1⟩, fun i => ?_⟩
            show L_X9_names_4 _ _ _ _ _ _ = _
            rw [st, if_neg n10, if_pos (by rw [q]; rfl), sub, if_pos (by rw [show (8 : Int32) = nI 8 from rfl]; exact nI_le (by omega) (by omega))]
        · refine ⟨1, Or.inl ⟨rfl, up fun w => absurd w q⟩, fun i => ?_⟩
          show L_X9_names_4 _ _ _ _ _ _ = _
          have := (hR.1 k (by omega)).2
          rw [st, if_neg n10, if_neg (by rw [show (97 : Int32) = nI 97 from rfl, nI_eq_iff (by omega) (by decide)]; exact q)]
      · refine ⟨0, Or.inr ⟨rfl, fun u => hh fun p hp e => u p (by omega) e⟩, fun i => ?_⟩
        show L_X9_names_4 _ _ _ _ _ _ = _
        rw [st, if_pos rfl])
    (Or.inl ⟨rfl, fun p hp => absurd hp (by omega)⟩)
  rw [r]
  have ext : (∀ p, p < n - 1 → ch p = 97 → ch (p + 1) - 48 < 8 ∧ ch (p + 1) - 48 < b ∧ iA m (ch (p + 1) - 48) = true) → ∀ p, p < n → ch p = 97 → ch (p + 1) - 48 < 8 ∧ ch (p + 1) - 48 < b ∧ iA m (ch (p + 1) - 48) = true := fun u p hp e => by
    have := (names_dig hR hp e).1
    exact u p (by omega) e
  rcases hx with ⟨rfl, hh⟩ | ⟨rfl, hh⟩
  · rw [gd_pos (show gz 1 from Or.inr rfl), pb_iff.mpr (ext hh)]; rfl
  · rw [gd_pos (show gz 0 from Or.inl rfl)]
    have : pb (∀ p, p < n → ch p = 97 → ch (p + 1) - 48 < 8 ∧ ch (p + 1) - 48 < b ∧ iA m (ch (p + 1) - 48) = true) = false := by
      cases z : pb (∀ p, p < n → ch p = 97 → ch (p + 1) - 48 < 8 ∧ ch (p + 1) - 48 < b ∧ iA m (ch (p + 1) - 48) = true) with
      | false => rfl
      | true => exact absurd (fun p hp e => pb_iff.mp z p (by omega) e) hh
    rw [this]; rfl
theorem isRule_eq {m : Sx} (h : WTxt m) {b : Nat} (hb : b ≤ 8) : ∃ m', f_X9_isRule m (nI b) = some (b2 (pb (usb m b)), m') ∧ OnR m m' ∧ (usb m b → Rx m' (tch m) (tpd m)) := by
  unfold f_X9_isRule
  rcases fault_eq h with ⟨v, e⟩ | ⟨p, hp, fl, e⟩
  · have hR : Rul (tch m) (tpd m) := ⟨wTxt_ok h, v⟩
    obtain ⟨m', e2, o, hX⟩ := takesText_eq h
    refine ⟨m', ?_, o, fun _ => hX⟩
    rw [e, Option.bind_some, if_pos rfl, e2, Option.bind_some, namesM_eq hX hR hb, Option.bind_some, gd_pos (gz_b2 _), iA_on (o.1 35 (by decide))]
    have : pb (usb m b) = pb (∀ p, p < tpd m → tch m p = 97 → tch m (p + 1) - 48 < 8 ∧ tch m (p + 1) - 48 < b ∧ iA m (tch m (p + 1) - 48) = true) := pb_eq ⟨fun u => (pb_iff.mp u).2, fun u => pb_iff.mpr ⟨hR, u⟩⟩
    rw [this]
  · refine ⟨m, ?_, ⟨fun _ _ => rfl, fun _ _ => rfl, rfl, rfl⟩, fun u => absurd u.1.2 (flt_vld fl)⟩
    rw [e, Option.bind_some, if_neg (by rw [show (-4 : Int32) = nI 4294967292 from rfl]; intro w; have := congrArg Int32.toBitVec w; have := congrArg BitVec.toNat this; change (BitVec.ofNat 32 p).toNat = (BitVec.ofNat 32 4294967292).toNat at this; rw [BitVec.toNat_ofNat, BitVec.toNat_ofNat] at this; omega)]
    have : pb (usb m b) = false := by
      cases z : pb (usb m b) with
      | false => rfl
      | true => exact absurd (pb_iff.mp z).1.2 (flt_vld fl)
    rw [this]; rfl
end
section
/-! ===== satisfies, select ===== -/
theorem Inv.onJ {c c' m : Sx} (h : Inv c m) (o : OnJ c c') : Inv c' m := by
  obtain ⟨hB, hD, hA, hJ, hM⟩ := h
  exact ⟨hB.onC (fun a ha _ => o.1 a (by omega)) (o.1 108 (by decide)) (by rw [o.2.2.1]) (by rw [o.2.2.1]) (o.2.1 158 (by decide)), hD.onC (o.1 12 (by decide)) (fun k _ => by rw [o.2.2.1]), hA.on (fun k hk _ => o.2.1 k (by omega)) (fun a ha _ => o.1 a (by omega)) (fun k _ => by rw [o.2.2.1]) (fun _ _ _ => rfl) rfl, hJ.on (o.2.1 49 (by decide)) (o.2.1 50 (by decide)) rfl (o.1 20 (by decide)) (o.1 21 (by decide)) (o.1 22 (by decide)) rfl, hM⟩
theorem Inv.onX {c m m' : Sx} (h : Inv c m) (eA : ∀ a, a < 42 → gA m' a = gA m a) (e52 : gI m' 52 = gI m 52) (e53 : gI m' 53 = gI m 53) (eM : gM m' 2 = gM m 2) : Inv c m' := by
  obtain ⟨hB, hD, hA, hJ, hM⟩ := h
  exact ⟨hB.onM (fun a ha => eA a (by omega)) e52, hD.onM (fun a ha => eA a (by omega)), hA.on (fun _ _ _ => rfl) (fun _ _ _ => rfl) (fun _ _ => rfl) (fun a _ ha => eA a (by omega)) eM, hJ.on rfl rfl e53 rfl rfl rfl (eA 41 (by decide)), hM.on (fun a _ ha => eA a (by omega)) (eA 35 (by decide)) (eA 36 (by decide)) (eA 37 (by decide)) eM⟩
theorem OnJ.frM {c c' : Sx} (o : OnJ c c') : FrM c c' := ⟨fun a h1 h2 => o.1 a (by omega), fun k h1 h2 => o.2.1 k (by omega), o.2.2.2 2 (by decide)⟩
theorem OnE.frC {c c' : Sx} (o : OnE c c') : FrC c c' := FrC.ofM (fun a h1 => o.1 a (by omega) (by omega) (by omega)) (fun k h1 => o.2.1 k (by omega)) (fun k => by rw [o.2.2.1]) o.2.2.2
theorem OnR.frC {c c' : Sx} (o : OnR c c') : FrC c c' := FrC.ofM (fun a h1 => o.1 a (by omega)) (fun k h1 => o.2.1 k (by omega)) (fun k => by rw [o.2.2.1]) o.2.2.2
theorem OnR.inv {c m m' : Sx} (o : OnR m m') (h : Inv c m) : Inv c m' := h.onX (fun a ha => o.1 a (by omega)) (o.2.1 52 (by decide)) (o.2.1 53 (by decide)) (by rw [o.2.2.2])
theorem OnE.inv {c m m' : Sx} (o : OnE m m') (h : Inv c m) : Inv c m' := h.onX (fun a ha => o.1 a (by omega) (by omega) (by omega)) (o.2.1 52 (by decide)) (o.2.1 53 (by decide)) (by rw [o.2.2.2])
theorem OnR.sd {m m' : Sx} (o : OnR m m') : SameD m m' := ⟨fun a ha => o.1 a (by omega), by rw [o.2.2.2]⟩
theorem usb_nmd {m : Sx} {b : Nat} (h : usb m b) : nmd m (tch m) (tpd m) := fun p hp e => ⟨(h.2 p hp e).1, (h.2 p hp e).2.2⟩
theorem textFiles {c m : Sx} (h : Inv c m) {b : Nat} (u : usb m b) : ∃ x c', f_X4_filesFor c 8 = some (x, c') ∧ OnJ c c' ∧ ∀ f, f < 64 → hb x f = (decide (f < 40) && (iF m f && sat m (tch m) (tpd m) f)) := by
  obtain ⟨hB, hD, hA, hJ, hM⟩ := h
  have hC := CF.of hB hD hA
  have hT := tx_of hB.wT hB.rT
  obtain ⟨sn, hv, -⟩ := u.1.2
  obtain ⟨x, c', e1, o1, b1⟩ := filesFor_eq (c := c) (P := fun f => decide (f < 40) && iF m f) hB.rP hT hv (fun f p => cnd m (tch m) (tpd m) f p) (fun p hp hl y' hy' => condition_eq hB.wO hB.wV hB.wS (hC.on hy') (hT.on hy') u.1 (usb_nmd u) hp hl)
  exact ⟨x, c', e1, o1, fun f hf => by rw [b1 f hf, Bool.and_assoc]; rfl⟩
theorem nb8 : (8 : Int32) = nI 8 := rfl
/-- a call that only works out: what it asks for stays, members too -/
def CalQ (F G : Sx → Option (Int32 × Sx)) (v : Sx → Int32 → Prop) : Prop := ∀ c m, Inv c m → ∃ r c' m', F c = some (r, c') ∧ G m = some (r, m') ∧ Inv c' m' ∧ (∀ a, a < 42 → gA m' a = gA m a) ∧ gM m' 2 = gM m 2 ∧ gI m' 52 = gI m 52 ∧ v m r
theorem calQ_satisfies (a1 : Int32) : CalQ (fun t => f_X8_satisfies t a1) (fun t => f_X9_satisfies t a1) (fun m r => (fil (iF m) a1 = false → r = -1) ∧ (fil (iF m) a1 = true → usb m 8 → r = b2 (sat m (tch m) (tpd m) (ix a1)))) := fun c m h => by
  show ∃ r c' m', f_X8_satisfies c a1 = some (r, c') ∧ f_X9_satisfies m a1 = some (r, m') ∧ _
  unfold f_X8_satisfies f_X9_satisfies
  rw [hasC h.1, there_eq, Option.bind_some, Option.bind_some]
  cases q : fil (iF m) a1 with
  | false => exact ⟨-1, c, m, by rw [bF], by rw [bF], h, fun _ _ => rfl, rfl, rfl, fun _ => rfl, fun w => by rw [q] at w; cases w⟩
  | true =>
    obtain ⟨f, hf, rfl, hp⟩ := fil_out q
    obtain ⟨m1, e1, o1, hX⟩ := isRule_eq h.1.wT (b := 8) (Nat.le_refl _)
    rw [bT, bT, nb8, usable_eq h.1 h.2.2.1 (Nat.le_refl _), e1, Option.bind_some, Option.bind_some]
    cases u : pb (usb m 8) with
    | false =>
      exact ⟨-2, c, m1, by rw [bF], by rw [if_pos b2_f], o1.inv h, fun a ha => o1.1 a (by omega), by rw [o1.2.2.2], o1.2.1 52 (by decide), fun w => (by rw [fil_nI hf, hp] at w; cases w), fun _ w => by rw [pb_iff.mpr w] at u; cases u⟩
    | true =>
      have u' := pb_iff.mp u
      obtain ⟨x, c1, e2, o2, hx⟩ := textFiles h u'
      have sd := o1.sd
      obtain ⟨m2, e3, o3⟩ := isRight_eq (cg_WOrd sd h.1.wO) (cg_WVal sd h.1.wV) (cg_WStk sd h.1.wS) (hX u') u'.1 (cg_nmd sd (usb_nmd u')) hf (by rw [cg_iF sd]; exact hp)
      rw [cg_sat sd] at e3
      rw [bT, if_neg (show ¬ (b2 true, m1).1 = 0 from by show ¬ (1 : Int32) = 0; decide), e2, Option.bind_some, holds_eq _ _ (by omega), Option.bind_some, hx f (by omega), decide_eq_true hf, hp, Bool.true_and, Bool.true_and, e3, Option.bind_some]
      refine ⟨b2 (sat m (tch m) (tpd m) f), c1, m2, ?_, ?_, o3.inv (o1.inv (h.onJ o2)), fun a ha => (o3.1 a (by omega) (by omega) (by omega)).trans (o1.1 a (by omega)), by rw [o3.2.2.2, o1.2.2.2], (o3.2.1 52 (by decide)).trans (o1.2.1 52 (by decide)), fun w => (by rw [fil_nI hf, hp] at w; cases w), fun _ _ => by rw [ix_nI (by omega)]⟩
      · cases sat m (tch m) (tpd m) f <;> rfl
      · cases sat m (tch m) (tpd m) f <;> rfl
theorem calQ_select : CalQ (fun t => f_X8_select t) (fun t => f_X9_select t) (fun m r => usb m 8 → r = nI (fb_ct (fun f => iF m f && sat m (tch m) (tpd m) f) 40)) := fun c m h => by
  show ∃ r c' m', f_X8_select c = some (r, c') ∧ f_X9_select m = some (r, m') ∧ _
  unfold f_X8_select f_X9_select
  obtain ⟨m1, e1, o1, hX⟩ := isRule_eq h.1.wT (b := 8) (Nat.le_refl _)
  rw [nb8, usable_eq h.1 h.2.2.1 (Nat.le_refl _), e1, Option.bind_some, Option.bind_some]
  cases u : pb (usb m 8) with
  | false =>
    exact ⟨-2, c, m1, by rw [bF], by rw [if_pos b2_f], o1.inv h, fun a ha => o1.1 a (by omega), by rw [o1.2.2.2], o1.2.1 52 (by decide), fun w => by rw [pb_iff.mpr w] at u; cases u⟩
  | true =>
    have u' := pb_iff.mp u
    obtain ⟨x, c1, e2, o2, hx⟩ := textFiles h u'
    have sd := o1.sd
    obtain ⟨s, ⟨hE, hs⟩, r⟩ := loop0 (L := fun n i (s : Int32 × Sx) => L_X9_select_16 (fun z3 z4 t5 => some (z3, t5)) n s.1 i s.2) (E := fun s => some s) (N := 40) (by decide) (y := ((0 : Int32), m1))
      (fun k s => OnE m1 s.2 ∧ s.1 = nI (fb_ct (fun f => iF m f && sat m (tch m) (tpd m) f) k))
      (fun i s _ => by
        show L_X9_select_16 _ _ _ _ _ = _
        rw [L_X9_select_16, if_pos (by decide)])
      (fun k s hk hh => by
        obtain ⟨h1, h2⟩ := hh
        have sd2 : SameD m s.2 := ⟨fun a ha => (h1.sd.1 a ha).trans (sd.1 a ha), h1.sd.2.trans sd.2⟩
        have step : ∀ i, L_X9_select_16 (fun z3 z4 t5 => some (z3, t5)) (i + 1) s.1 (nI k) s.2 = if gA m 23 k = 0 then L_X9_select_16 (fun z3 z4 t5 => some (z3, t5)) i (s.1 + 0) (nI (k + 1)) s.2 else (f_X9_isRight s.2 (nI k)).bind fun r2 => if r2.1 = 0 then L_X9_select_16 (fun z3 z4 t5 => some (z3, t5)) i (s.1 + 0) (nI (k + 1)) r2.2 else L_X9_select_16 (fun z3 z4 t5 => some (z3, t5)) i (s.1 + 1) (nI (k + 1)) r2.2 := fun i => by
          rw [L_X9_select_16, if_neg (ngo (x := 40) (N := 40) rfl hk (by decide)), gd_pos (vin_nI hk (by decide)), ix_nI (by omega), sd2.1 23 (by decide), nI_lit1]
        cases hp : iF m k with
        | false =>
          refine ⟨s, ⟨h1, by rw [h2, fb_ct_succ, hp]; rfl⟩, fun i => ?_⟩
          show L_X9_select_16 _ _ _ _ _ = _
          rw [step, if_pos (iF_dec.mpr hp), Int32.add_zero]
        | true =>
          obtain ⟨y', e, hE'⟩ := isRight_eq (cg_WOrd sd2 h.1.wO) (cg_WVal sd2 h.1.wV) (cg_WStk sd2 h.1.wS) ((hX u').on h1) u'.1 (cg_nmd sd2 (usb_nmd u')) hk (by rw [cg_iF sd2]; exact hp)
          rw [cg_sat sd2] at e
          refine ⟨(nI (fb_ct (fun f => iF m f && sat m (tch m) (tpd m) f) (k + 1)), y'), ⟨h1.tr hE', rfl⟩, fun i => ?_⟩
          show L_X9_select_16 _ _ _ _ _ = L_X9_select_16 _ _ _ _ _
          rw [step, if_neg (iF_ne hp), e, Option.bind_some, h2, fb_ct_succ, hp, Bool.true_and]
          cases sat m (tch m) (tpd m) k with
          | true => rw [if_neg (show ¬ (b2 true, y').1 = 0 from by show ¬ (1 : Int32) = 0; decide), if_pos rfl, nI_lit1]
          | false => rw [if_pos (show (b2 false, y').1 = 0 from rfl), if_neg (by decide), Int32.add_zero]; rfl)
      ⟨OnE.rf _, rfl⟩
    rw [bT, if_neg (show ¬ (b2 true, m1).1 = 0 from by show ¬ (1 : Int32) = 0; decide), e2, Option.bind_some, bitCount_eq, Option.bind_some, cnt40 hx]
    refine ⟨_, c1, s.2, rfl, ?_, hE.inv (o1.inv (h.onJ o2)), fun a ha => (hE.1 a (by omega) (by omega) (by omega)).trans (o1.1 a (by omega)), by rw [hE.2.2.2, o1.2.2.2], (hE.2.1 52 (by decide)).trans (o1.2.1 52 (by decide)), fun _ => rfl⟩
    dsimp only at r ⊢
    rw [r, ← hs]
end
section
/-! ===== albums are made, changed, removed ===== -/
theorem freeA_eq {c m : Sx} (h : RAl c m) : f_X8_freeAlbum c = match fst? (fun k => !iA m k) 0 8 with
    | some k => some (nI k)
    | none => some (nI 8) := by
  unfold f_X8_freeAlbum
  exact find0 (L := fun n i => L_X8_freeAlbum_2 c (fun z2 => some z2) n i) (p := fun k => !iA m k) (N := 8) (by decide) (fun n => by
    show L_X8_freeAlbum_2 _ _ _ _ = _
    rw [L_X8_freeAlbum_2, if_pos (by decide)]) (fun n k hk => by
    show L_X8_freeAlbum_2 _ _ _ _ = _
    rw [L_X8_freeAlbum_2, if_neg (ngo (x := 8) (N := 8) rfl hk (by decide)), hasAlbum_eq h, alm_nI hk, Option.bind_some, nI_lit1]
    cases iA m k <;> rfl)
theorem makeM_eq (m : Sx) (kont : Int32 → Option (Int32 × Sx)) : L_X9_makeAlbum_2 m kont FU 0 = match fst? (fun k => !iA m k) 0 8 with
    | some k => kont (nI k)
    | none => kont (nI 8) := by
  exact find0 (L := fun n i => L_X9_makeAlbum_2 m kont n i) (p := fun k => !iA m k) (N := 8) (by decide) (fun n => by
    show L_X9_makeAlbum_2 _ _ _ _ = _
    rw [L_X9_makeAlbum_2, if_pos (by decide)]) (fun n k hk => by
    show L_X9_makeAlbum_2 _ _ _ _ = _
    rw [L_X9_makeAlbum_2, if_neg (ngo (x := 8) (N := 8) rfl hk (by decide)), gd_pos (vin_nI hk (by decide)), ix_nI (by omega), nI_lit1]
    cases q : iA m k with
    | false => rw [if_pos (by simpa [iA] using q)]; rfl
    | true => rw [if_neg (by simpa [iA] using q)]; rfl)
theorem fits_char {n : Nat} (h : n < 65536) : fits .char (.int (nI n)) = true := by
  show (decide ((0 : Int32) ≤ nI n) && decide (nI n ≤ (65535 : Int32))) = true
  rw [decide_eq_true (nI_pos' (by omega)), decide_eq_true (by rw [show (65535 : Int32) = nI 65535 from rfl]; exact nI_le (by omega) (by decide))]
  rfl
theorem follow_eq {c : Sx} {a n : Nat} {ch : Nat → Nat} (hT : Tx c 8 ch n) : ∃ c', f_X0_follow c a 8 = some c' ∧ (∀ k, k ≠ 100 + a → gA c' k = gA c k) ∧ (∀ k, k < n → gA c' (100 + a) k = nI (ch k)) ∧ (∀ k, gI c' k = if k = 150 + a then nI n else gI c k) ∧ gL c' = gL c ∧ gM c' = gM c := by
  obtain ⟨h80, e, hc, hok⟩ := hT
  unfold f_X0_follow f_X5_copy
  have x0 : ix 0 = 0 := rfl
  have xn : ix (nI n) = n := ix_nI (by omega)
  rw [e, xn, x0, gd_pos ⟨⟨by decide, by decide, nI_pos (by omega), by omega, by omega⟩, fun i hi => by rw [Nat.zero_add, hc i hi]; have := hok i hi; exact fits_char (by omega)⟩]
  simp only [bd_eq, Option.bind_some]
  refine ⟨_, rfl, fun k hk => ?_, fun k hk => ?_, fun k => ?_, rfl, rfl⟩
  · rw [gA_pI, gA_pW, if_neg hk]
  · rw [gA_pI, gA_pW, if_pos rfl]
    unfold va_cpy
    rw [if_pos ⟨by omega, by omega⟩, show 0 + (k - 0) = k by omega]
    exact hc k hk
  · rw [gI_pI, gI_pW]
    split
    · exact e
    · rfl
theorem rules_eq {m : Sx} (h : WTxt m) {a : Nat} (ha : a < 8) : ∃ m', f_X9_rules m (nI a) = some m' ∧ (∀ k, k ≠ 36 → k ≠ 37 → gA m' k = gA m k) ∧ (∀ i, gA m' 36 i = if i = a then nI (tpd m) else gA m 36 i) ∧ (∀ k, k < tpd m → gA m' 37 (80 * a + k) = nI (tch m k)) ∧ (∀ i, i < 80 * a ∨ 80 * a + 80 ≤ i → gA m' 37 i = gA m 37 i) ∧ gI m' = gI m ∧ gL m' = gL m ∧ gM m' = gM m := by
  unfold f_X9_rules
  obtain ⟨n80, et⟩ := wTxt_n h
  rw [gd_pos (vin_nI ha (by decide)), bd_eq, ix_nI (by omega), et]
  obtain ⟨y, ⟨hy, e, e2⟩, r⟩ := loop0 (L := fun i x s => L_X9_rules_12 (nI a) (fun z3 t4 => some t4) i x s) (E := fun s => some s) (N := tpd m) (by omega) (y := pA m 36 a (nI (tpd m)))
    (fun k s => OnA 37 (pA m 36 a (nI (tpd m))) s ∧ (∀ j, j < k → gA s 37 (80 * a + j) = nI (tch m j)) ∧ ∀ i, i < 80 * a ∨ 80 * a + 80 ≤ i → gA s 37 i = gA m 37 i)
    (fun i s h2 => by
      show L_X9_rules_12 _ _ _ _ _ = _
      rw [L_X9_rules_12, h2.1.2.1, gI_pA, et, if_pos (nI_le (Nat.le_refl _) (by omega))])
    (fun k s hk h2 => by
      obtain ⟨c1, c2, e34⟩ := wTxt_c h hk
      have e34' : gA s 34 k = nI (tch m k) := by rw [h2.1.1 34 (by decide), gA_pA_ne (by decide)]; exact e34
      refine ⟨pA s 37 (80 * a + k) (nI (tch m k)), ⟨h2.1.pA _ _, fun j hj => ?_, fun i hi => ?_⟩, fun i => ?_⟩
      · rw [gA_pA_at]
        by_cases q : j = k
        · rw [if_pos (by omega), q]
        · rw [if_neg (by omega)]; exact h2.2.1 j (by omega)
      · rw [gA_pA_at, if_neg (by omega)]; exact h2.2.2 i hi
      · show L_X9_rules_12 _ _ _ _ _ = _
        rw [L_X9_rules_12, h2.1.2.1, gI_pA, et, if_neg (by rw [nI_le_iff (by omega) (by omega)]; omega), gd_pos (vin_nI (by omega) (by decide)), ix_nI (by omega), e34', gd_pos (gch_nI (by omega)), i80a, gd_pos (vin_nI (by omega) (by decide)), bd_eq, ix_nI (by omega), nI_lit1])
    ⟨OnA.rf _ _, fun j hj => absurd hj (by omega), fun i _ => by rw [gA_pA_ne (by decide)]⟩
  refine ⟨y, r, fun k h1 h2 => by rw [hy.1 k h2, gA_pA_ne h1], fun i => by rw [hy.1 36 (by decide), gA_pA_at], e, e2, by rw [hy.2.1]; rfl, by rw [hy.2.2.1]; rfl, by rw [hy.2.2.2]; rfl⟩
/-- Ba behind changes that touch albums alone -/
theorem Ba.al {c c1 m m1 : Sx} (h : Ba c m) (cA : ∀ k, k < 19 → gA c1 k = gA c k) (c108 : gA c1 108 = gA c 108) (cI : gI c1 158 = gI c 158) (cL : ∀ k, k < 100 → gL c1 k = gL c k) (mA : ∀ a, a < 35 → gA m1 a = gA m a) (m52 : gI m1 52 = gI m 52) : Ba c1 m1 := by
  have k := fun (a : Nat) (ha : a < 35) => mA a ha
  exact ⟨h.wO.on (k 28 (by decide)), h.wV.on (k 26 (by decide)) (k 27 (by decide)), h.wS.on (k 23 (by decide)) (k 29 (by decide)) (k 30 (by decide)) (k 31 (by decide)) (k 32 (by decide)), h.wT.on m52 (k 34 (by decide)), (h.rP.on (cL 8 (by decide))).onM (k 23 (by decide)), (h.rD.onC (cA 9 (by decide)) (cA 10 (by decide))).onM (k 23 (by decide)) (k 24 (by decide)) (k 25 (by decide)), (h.rV.on (cA 11 (by decide))).onM (k 23 (by decide)) (k 26 (by decide)) (k 27 (by decide)), (h.rO.on (cA 13 (by decide))).onM (k 28 (by decide)), (h.rS.onC (cA 14 (by decide)) (cA 15 (by decide)) (cA 16 (by decide)) (cA 17 (by decide)) (cA 18 (by decide)) (cL 11 (by decide))).onM (k 29 (by decide)) (k 30 (by decide)) (k 31 (by decide)) (k 32 (by decide)) (k 33 (by decide)), (h.rT.onC cI c108).onM m52 (k 34 (by decide)), h.wG.on (k 26 (by decide)) (k 27 (by decide))⟩
theorem make_one {c m : Sx} (h : Inv c m) {a0 : Nat} (ef0 : fst? (fun k => !iA m k) 0 8 = some a0) (u0 : usb m a0) : ∃ c' m', f_X8_makeAlbum c = some (nI a0, c') ∧ f_X9_makeAlbum m = some (nI a0, m') ∧ Inv c' m' ∧ (Xs m → Xs m') ∧ (∀ k, k < 35 → gA m' k = gA m k) ∧ gI m' 52 = gI m 52 ∧ (∀ i, gA m' 35 i = if i = a0 then 1 else gA m 35 i) ∧ (∀ i, gA m' 36 i = if i = a0 then nI (tpd m) else gA m 36 i) ∧ (∀ k, k < tpd m → gA m' 37 (80 * a0 + k) = nI (tch m k)) ∧ (∀ i, i < 80 * a0 ∨ 80 * a0 + 80 ≤ i → gA m' 37 i = gA m 37 i) ∧ (∀ i, gA m' 38 i = if i = a0 then 1 else gA m 38 i) ∧ (∀ i, gA m' 39 i = if i = a0 then 1 else gA m 39 i) := by
  unfold f_X8_makeAlbum f_X9_makeAlbum
  rw [freeA_eq h.2.2.1, makeM_eq]
  cases ef : fst? (fun k => !iA m k) 0 8 with
  | none => rw [ef0] at ef; cases ef
  | some a =>
    obtain rfl : a = a0 := Option.some.inj (ef.symm.trans ef0)
    obtain ⟨-, ha, hna, -⟩ := fst?_some ef
    have ha : a < 8 := by omega
    have hnA : iA m a = false := by simpa using hna
    have g : vp_in (nI a) 8 := vin_nI ha (by decide)
    have xa : ix (nI a) = a := ix_nI (by omega)
    dsimp only
    obtain ⟨m1, e1, o1, hX⟩ := isRule_eq h.1.wT (b := a) (by omega)
    rw [Option.bind_some, usable_eq h.1 h.2.2.1 (by omega), e1]
    simp only [Option.bind_some]
    cases u : pb (usb m a) with
    | false => rw [pb_iff.mpr u0] at u; cases u
    | true =>
      have n8 : ¬ nI a = 8 := by rw [nb8, nI_eq_iff (by omega) (by decide)]; omega
      have u' := pb_iff.mp u
      obtain ⟨hB, hD, hA, hJ, hM⟩ := o1.inv h
      have et : tpd m1 = tpd m := by unfold tpd; rw [o1.2.1 52 (by decide)]
      have ec : tch m1 = tch m := by funext k; unfold tch; rw [o1.1 34 (by decide)]
      have iAe : iA m1 = iA m := iA_on (o1.1 35 (by decide))
      -- the class's new album
      unfold f_X0_begin f_X0_sort
      have z1 : gz 1 := Or.inr rfl
      simp only [bd_eq, gd_pos z1, Option.bind_some]
      have hT1 : Tx (pI (pI (pI (pI (pL (pI c (100 + a) 1) (100 + a) 0) (130 + a) 0) (140 + a) 0) (110 + a) 1) (120 + a) 1) 8 (tch m1) (tpd m1) := by
        have t := tx_of hB.wT hB.rT
        refine ⟨t.1, ?_, t.2.2.1, t.2.2.2⟩
        rw [gI_pI, if_neg (by omega), gI_pI, if_neg (by omega), gI_pI, if_neg (by omega), gI_pI, if_neg (by omega), gI_pL, gI_pI, if_neg (by omega)]
        exact t.2.1
      obtain ⟨c2, e2, cA, ck, cI0, cL0, cM⟩ := follow_eq (a := a) hT1
      have cI : ∀ k, k ≠ 100 + a → k ≠ 110 + a → k ≠ 120 + a → k ≠ 130 + a → k ≠ 140 + a → k ≠ 150 + a → gI c2 k = gI c k := fun k v1 v2 v3 v4 v5 v6 => by
        rw [cI0, if_neg v6, gI_pI, if_neg v3, gI_pI, if_neg v2, gI_pI, if_neg v5, gI_pI, if_neg v4, gI_pL, gI_pI, if_neg v1]
      have c100 : gI c2 (100 + a) = 1 := by rw [cI0, if_neg (by omega), gI_pI, if_neg (by omega), gI_pI, if_neg (by omega), gI_pI, if_neg (by omega), gI_pI, if_neg (by omega), gI_pL, gI_pI, if_pos rfl]
      have c110 : gI c2 (110 + a) = 1 := by rw [cI0, if_neg (by omega), gI_pI, if_neg (by omega), gI_pI, if_pos rfl]
      have c120 : gI c2 (120 + a) = 1 := by rw [cI0, if_neg (by omega), gI_pI, if_pos rfl]
      have c130 : gI c2 (130 + a) = 0 := by rw [cI0, if_neg (by omega), gI_pI, if_neg (by omega), gI_pI, if_neg (by omega), gI_pI, if_neg (by omega), gI_pI, if_pos rfl]
      have c140 : gI c2 (140 + a) = 0 := by rw [cI0, if_neg (by omega), gI_pI, if_neg (by omega), gI_pI, if_neg (by omega), gI_pI, if_pos rfl]
      have c150 : gI c2 (150 + a) = nI (tpd m1) := by rw [cI0, if_pos rfl]
      have cL : ∀ k, gL c2 k = if k = 100 + a then 0 else gL c k := fun k => by rw [cL0]; rfl
      have cA' : ∀ k, k ≠ 100 + a → gA c2 k = gA c k := fun k hk => by rw [cA k hk]; rfl
      have cM' : gM c2 = gM c := by rw [cM]; rfl
      -- the reference's
      obtain ⟨m2, e3, mA, m36, m37, m37', mI, mL, mM⟩ := rules_eq hB.wT ha
      have e2a : (2 * nI a) = nI (2 * a) := by rw [show (2 : Int32) = nI 2 from rfl, nI_mul]
      have g16 : vp_in (nI (2 * a)) 16 := vin_nI (by omega) (by decide)
      have g16' : vp_in (nI (2 * a + 1)) 16 := vin_nI (by omega) (by decide)
      rw [bT, bT, if_neg n8, if_neg n8, gd_pos g, xa, e2, e3]
      simp only [Option.bind_some, gd_pos g, bd_eq, e2a, nI_lit1, gd_pos g16, gd_pos g16', ix_nI (show 2 * a < 2 ^ 31 by omega), ix_nI (show 2 * a + 1 < 2 ^ 31 by omega)]
      have r35 : ∀ i, gA (pA (pA (pA (pA (pM (pA m2 35 a 1) 2 a 0) 38 a 1) 39 a 1) 40 (2 * a) 0) 40 (2 * a + 1) 0) 35 i = if i = a then 1 else gA m 35 i := fun i => by
        rw [gA_pA_ne (by decide), gA_pA_ne (by decide), gA_pA_ne (by decide), gA_pA_ne (by decide), gA_pM, gA_pA_at, mA 35 (by decide) (by decide), o1.1 35 (by decide)]
      have r38 : ∀ i, gA (pA (pA (pA (pA (pM (pA m2 35 a 1) 2 a 0) 38 a 1) 39 a 1) 40 (2 * a) 0) 40 (2 * a + 1) 0) 38 i = if i = a then 1 else gA m 38 i := fun i => by
        rw [gA_pA_ne (by decide), gA_pA_ne (by decide), gA_pA_ne (by decide), gA_pA_at, gA_pM, gA_pA_ne (by decide), mA 38 (by decide) (by decide), o1.1 38 (by decide)]
      have r39 : ∀ i, gA (pA (pA (pA (pA (pM (pA m2 35 a 1) 2 a 0) 38 a 1) 39 a 1) 40 (2 * a) 0) 40 (2 * a + 1) 0) 39 i = if i = a then 1 else gA m 39 i := fun i => by
        rw [gA_pA_ne (by decide), gA_pA_ne (by decide), gA_pA_at, gA_pA_ne (by decide), gA_pM, gA_pA_ne (by decide), mA 39 (by decide) (by decide), o1.1 39 (by decide)]
      have r40 : ∀ i, gA (pA (pA (pA (pA (pM (pA m2 35 a 1) 2 a 0) 38 a 1) 39 a 1) 40 (2 * a) 0) 40 (2 * a + 1) 0) 40 i = if i = 2 * a + 1 then 0 else if i = 2 * a then 0 else gA m 40 i := fun i => by
        rw [gA_pA_at, gA_pA_at, gA_pA_ne (by decide), gA_pA_ne (by decide), gA_pM, gA_pA_ne (by decide), mA 40 (by decide) (by decide), o1.1 40 (by decide)]
      have r36 : ∀ i, gA (pA (pA (pA (pA (pM (pA m2 35 a 1) 2 a 0) 38 a 1) 39 a 1) 40 (2 * a) 0) 40 (2 * a + 1) 0) 36 i = if i = a then nI (tpd m1) else gA m 36 i := fun i => by
        rw [gA_pA_ne (by decide), gA_pA_ne (by decide), gA_pA_ne (by decide), gA_pA_ne (by decide), gA_pM, gA_pA_ne (by decide), m36, o1.1 36 (by decide)]
      have r37 : gA (pA (pA (pA (pA (pM (pA m2 35 a 1) 2 a 0) 38 a 1) 39 a 1) 40 (2 * a) 0) 40 (2 * a + 1) 0) 37 = gA m2 37 := by
        rw [gA_pA_ne (by decide), gA_pA_ne (by decide), gA_pA_ne (by decide), gA_pA_ne (by decide), gA_pM, gA_pA_ne (by decide)]
      have rA : ∀ k, k < 35 ∨ 40 < k ∧ k ≠ 45 → gA (pA (pA (pA (pA (pM (pA m2 35 a 1) 2 a 0) 38 a 1) 39 a 1) 40 (2 * a) 0) 40 (2 * a + 1) 0) k = gA m k := fun k hk => by
        rw [gA_pA_ne (by omega), gA_pA_ne (by omega), gA_pA_ne (by omega), gA_pA_ne (by omega), gA_pM, gA_pA_ne (by omega), mA k (by omega) (by omega), o1.1 k (by omega)]
      have rI : ∀ k, k ≠ 55 → gI (pA (pA (pA (pA (pM (pA m2 35 a 1) 2 a 0) 38 a 1) 39 a 1) 40 (2 * a) 0) 40 (2 * a + 1) 0) k = gI m k := fun k hk => by
        show gI m2 k = _; rw [mI, o1.2.1 k hk]
      have rM : ∀ i, gM (pA (pA (pA (pA (pM (pA m2 35 a 1) 2 a 0) 38 a 1) 39 a 1) 40 (2 * a) 0) 40 (2 * a + 1) 0) 2 i = if i = a then 0 else gM m 2 i := fun i => by
        rw [gM_pA, gM_pA, gM_pA, gM_pA, gM_pM_at, gM_pA, mM, o1.2.2.2]
      generalize pA (pA (pA (pA (pM (pA m2 35 a 1) 2 a 0) 38 a 1) 39 a 1) 40 (2 * a) 0) 40 (2 * a + 1) 0 = m3 at r35 r36 r37 r38 r39 r40 rA rI rM
      have iA3 : ∀ b, iA m3 b = if b = a then true else iA m b := fun b => by
        unfold iA; rw [r35]; split <;> rfl
      obtain ⟨hB0, hD0, hA0, hJ0, hM0⟩ := h
      have b3 : Ba c2 m3 := hB0.al (fun k hk => cA' k (by omega)) (cA' 108 (by omega)) (cI 158 (by omega) (by omega) (by omega) (by omega) (by omega) (by omega)) (fun k hk => by rw [cL, if_neg (by omega)]) (fun k hk => rA k (Or.inl hk)) (rI 52 (by decide))
      have a3 : RAl c2 m3 := fun b hb => by
        rw [iA3]
        by_cases z : b = a
        · subst z
          rw [if_pos rfl, c100]
          refine ⟨rfl, fun _ => ⟨⟨tch m1, tpd m1, ⟨(wTxt_n hB.wT).1, c150, ck, wTxt_ok hB.wT⟩, by rw [r36, if_pos rfl], by rw [r37]; exact m37, by rw [et, ec]; exact u'.1, fun p hp e => ?_⟩, ?_, ⟨1, by omega, c110, by rw [r38, if_pos rfl]; rfl⟩, ?_, ?_, ?_⟩⟩
          · rw [et] at hp
            rw [ec] at e ⊢
            obtain ⟨v1, v2, v3⟩ := u'.2 p hp e
            rw [iA3, if_neg (by omega)]
            exact ⟨v2, v3⟩
          · rw [cL, if_pos rfl, rM, if_pos rfl]
          · rw [c120, r39, if_pos rfl]; rfl
          · rw [c130, r40, if_pos rfl]
          · rw [c140, r40, if_neg (by omega), if_pos rfl]
        · rw [if_neg z, cI _ (by omega) (by omega) (by omega) (by omega) (by omega) (by omega)]
          refine ⟨(hA0 b hb).1, fun hAb => ?_⟩
          obtain ⟨⟨ch, n, w1, w2, w3, w4, w5⟩, d1, ⟨f, d2, d2', d2''⟩, d3, d4, d5⟩ := (hA0 b hb).2 hAb
          refine ⟨⟨ch, n, ⟨w1.1, by rw [cI _ (by omega) (by omega) (by omega) (by omega) (by omega) (by omega)]; exact w1.2.1, fun k hk => by rw [cA' _ (by omega)]; exact w1.2.2.1 k hk, w1.2.2.2⟩, by rw [r36, if_neg z]; exact w2, fun k hk => ?_, w4, fun p hp e => ?_⟩, ?_, ⟨f, d2, ?_, ?_⟩, ?_, ?_, ?_⟩
          · have := w1.1
            rw [r37, m37' _ (by omega), o1.1 37 (by decide)]; exact w3 k hk
          · obtain ⟨v1, v2⟩ := w5 p hp e
            refine ⟨v1, ?_⟩
            rw [iA3]; split
            · rfl
            · exact v2
          · rw [cL, if_neg (by omega), rM, if_neg z]; exact d1
          · rw [cI _ (by omega) (by omega) (by omega) (by omega) (by omega) (by omega)]; exact d2'
          · rw [r38, if_neg z]; exact d2''
          · rw [cI _ (by omega) (by omega) (by omega) (by omega) (by omega) (by omega), r39, if_neg z]; exact d3
          · rw [cI _ (by omega) (by omega) (by omega) (by omega) (by omega) (by omega), r40, if_neg (by omega), if_neg (by omega)]; exact d4
          · rw [cI _ (by omega) (by omega) (by omega) (by omega) (by omega) (by omega), r40, if_neg (by omega), if_neg (by omega)]; exact d5
      have j3 : RJ c2 m3 := hJ0.on (cI 49 (by omega) (by omega) (by omega) (by omega) (by omega) (by omega)) (cI 50 (by omega) (by omega) (by omega) (by omega) (by omega) (by omega)) (rI 53 (by decide)) (cA' 20 (by omega)) (cA' 21 (by omega)) (cA' 22 (by omega)) (rA 41 (Or.inr ⟨by decide, by decide⟩))
      obtain ⟨c', m', p1, p2, i1, i2, i3, i4⟩ := fin_settle (c := c2) (m := m3) ⟨b3, a3, j3⟩ (FrM.rf _) (FrC.rf _)
      rw [p1, p2]
      refine ⟨c', m', rfl, rfl, i1, fun w => i3.2.2.2.2.2 ⟨fun b hb8 hAb => ?_, by unfold Dg; rw [rA 24 (Or.inl (by decide))]; exact w.2.1, by unfold Op; rw [rA 28 (Or.inl (by decide))]; exact w.2.2⟩, fun k hk => (i4.1 k (by omega)).trans (rA k (Or.inl hk)), i4.2.trans (rI 52 (by decide)), fun i => by rw [i4.1 35 (by decide), r35], fun i => by rw [i4.1 36 (by decide), r36, et], fun k hk => by rw [i4.1 37 (by decide), r37, m37 k (by rw [et]; exact hk), ec], fun i hi => by rw [i4.1 37 (by decide), r37, m37' i hi, o1.1 37 (by decide)], fun i => by rw [i4.1 38 (by decide), r38], fun i => by rw [i4.1 39 (by decide), r39]⟩
      rw [iA3] at hAb
      rw [r40, r40, rM]
      by_cases z : b = a
      · rw [if_pos (by omega), if_neg (by omega), if_pos (by omega), if_pos z]
        show (0 : Int32) - 0 = nI (fb_ct (hb 0) 40)
        decide +kernel
      · rw [if_neg z] at hAb
        rw [if_neg (by omega), if_neg (by omega), if_neg (by omega), if_neg (by omega), if_neg z]
        exact w.1 b hb8 hAb
end
section
/-! ===== views ===== -/
theorem fst?_snoc {p : Nat → Bool} : ∀ (d i : Nat), fst? p i (d + 1) = match fst? p i d with
    | some j => some j
    | none => if p (i + d) = true then some (i + d) else none
  | 0, i => by rw [fst?, fst?, fst?]; rfl
  | d + 1, i => by
    show (if p i = true then some i else fst? p (i + 1) (d + 1)) = match (if p i = true then some i else fst? p (i + 1) d) with
      | some j => some j
      | none => if p (i + (d + 1)) = true then some (i + (d + 1)) else none
    by_cases q : p i = true
    · rw [if_pos q, if_pos q]
    · rw [if_neg q, if_neg q, fst?_snoc d (i + 1), show i + 1 + d = i + (d + 1) by omega]
/-- what of a collapsed stack is shown -/
def shS (m : Sx) (M : Nat → Bool) (s f : Nat) : Bool := if M (cov m s) = true then decide (f = cov m s) else match fst? (fun j => M (fl m s j)) 0 (mn m s) with
  | some j => decide (f = fl m s j)
  | none => false
def shw (m : Sx) (M : Nat → Bool) (f : Nat) : Bool := M f && (decide (gA m 29 f = -1) || (decide (gA m 33 (ix (gA m 29 f)) = 0) || shS m M (ix (gA m 29 f)) f))
theorem shS_M {m : Sx} {M : Nat → Bool} {s f : Nat} (h : shS m M s f = true) : M f = true := by
  unfold shS at h
  by_cases q : M (cov m s) = true
  · rw [if_pos q] at h; rw [of_decide_eq_true h]; exact q
  · rw [if_neg q] at h
    cases e : fst? (fun j => M (fl m s j)) 0 (mn m s) with
    | none => rw [e] at h; cases h
    | some j =>
      rw [e] at h
      rw [of_decide_eq_true h]
      exact (fst?_some e).2.2.1
theorem withoutHidden_eq {c m : Sx} (hB : Ba c m) (dV : DVal c m) {s : Nat} (hs : s < 10) (hn : 0 < mn m s) {M : Nat → Bool} {x : Int64} (hx : ∀ j, j < mn m s → hb x (fl m s j) = M (fl m s j)) : ∃ x', f_X6_withoutHidden c (nI s) x = some x' ∧ ∀ f, f < 64 → hb x' f = if f < 40 ∧ gA m 29 f = nI s then shS m M s f else hb x f := by
  obtain ⟨en, h8, n1⟩ := wStk_mn hB.wS hs
  have gs : vp_in (nI s) 10 := vin_nI hs (by decide)
  have xs : ix (nI s) = s := ix_nI (by omega)
  have e14 : ∀ k, k < mn m s → gA c 14 (8 * s + k) = nI (fl m s k) ∧ fl m s k < 40 ∧ gA m 29 (fl m s k) = nI s := fun k hk => by
    rw [hB.rS.2.2.1 s hs k hk]; exact wStk_fl hB.wS hs hk
  unfold f_X6_withoutHidden
  obtain ⟨σ, ⟨h1, h2⟩, r⟩ := loop0G (L := fun n i (σ : Int64 × Int32) (kont : Int64 → Int32 → Int32 → Option Int64) => L_X6_withoutHidden_9 c (nI s) x kont n σ.1 σ.2 i) (E := fun σ kont => kont σ.1 σ.2 (nI (mn m s))) (N := mn m s) (by omega) (y := (x, (-1 : Int32)))
    (fun k σ => (∀ f, f < 64 → (hb σ.1 f = true ↔ hb x f = true ∧ ∀ j, j < k → fl m s j ≠ f)) ∧ σ.2 = match fst? (fun j => M (fl m s j)) 0 k with
      | some j => nI (fl m s j)
      | none => -1)
    (fun n σ _ => by
      funext kont
      show L_X6_withoutHidden_9 _ _ _ _ _ _ _ _ = _
      rw [L_X6_withoutHidden_9, gd_pos gs, xs, hB.rS.2.1 s hs, en, if_pos (nI_le (Nat.le_refl _) (by omega))])
    (fun k σ hk hI => by
      obtain ⟨h1, h2⟩ := hI
      obtain ⟨f1, f2, f3⟩ := e14 k hk
      have cut : ∀ f, f < 64 → (hb (σ.1 &&& (shlL 1 (nI (fl m s k)) ^^^ -1)) f = true ↔ hb x f = true ∧ ∀ j, j < k + 1 → fl m s j ≠ f) := fun f hf => by
        rw [hb_cut _ (by omega) hf, Bool.and_eq_true, h1 f hf]
        constructor
        · rintro ⟨⟨u1, u2⟩, u3⟩
          refine ⟨u1, fun j hj => ?_⟩
          rcases Nat.eq_or_lt_of_le (Nat.lt_succ_iff.mp hj) with q | q
          · subst q
            intro w
            rw [decide_eq_true w.symm] at u3; cases u3
          · exact u2 j q
        · rintro ⟨u1, u2⟩
          refine ⟨⟨u1, fun j hj => u2 j (by omega)⟩, ?_⟩
          rw [decide_eq_false (fun w => u2 k (by omega) w.symm)]; rfl
      have step : ∀ (kont : Int64 → Int32 → Int32 → Option Int64) n, L_X6_withoutHidden_9 c (nI s) x kont (n + 1) σ.1 σ.2 (nI k) = if σ.2 = -1 then (if b2 (M (fl m s k)) = 0 then L_X6_withoutHidden_9 c (nI s) x kont n (σ.1 &&& (shlL 1 (nI (fl m s k)) ^^^ -1)) σ.2 (nI (k + 1)) else L_X6_withoutHidden_9 c (nI s) x kont n (σ.1 &&& (shlL 1 (nI (fl m s k)) ^^^ -1)) (nI (fl m s k)) (nI (k + 1))) else L_X6_withoutHidden_9 c (nI s) x kont n (σ.1 &&& (shlL 1 (nI (fl m s k)) ^^^ -1)) σ.2 (nI (k + 1)) := fun kont n => by
        rw [L_X6_withoutHidden_9, gd_pos gs, xs, hB.rS.2.1 s hs, en, if_neg (by rw [nI_le_iff (by omega) (by omega)]; omega), spot_eq, Option.bind_some, gd_pos (vin_nI (by omega) (by decide)), ix_nI (by omega), f1, holds_eq _ _ (by omega), hx k hk, L_only]
        simp only [Option.bind_some, nI_lit1]
      have sn := fst?_snoc (p := fun j => M (fl m s j)) k 0
      rw [Nat.zero_add] at sn
      cases e : fst? (fun j => M (fl m s j)) 0 k with
      | some j =>
        rw [e] at h2 sn
        have hj := (fst?_some e).2.1
        refine ⟨(σ.1 &&& (shlL 1 (nI (fl m s k)) ^^^ -1), σ.2), ⟨cut, by rw [sn]; exact h2⟩, fun n => ?_⟩
        funext kont
        show L_X6_withoutHidden_9 _ _ _ _ _ _ _ _ = L_X6_withoutHidden_9 _ _ _ _ _ _ _ _
        have := (e14 j (by omega)).2.1
        rw [step, if_neg (by rw [h2]; exact nI_ne_m1 (by omega))]
      | none =>
        rw [e] at h2 sn
        cases q : M (fl m s k) with
        | false =>
          refine ⟨(σ.1 &&& (shlL 1 (nI (fl m s k)) ^^^ -1), σ.2), ⟨cut, by rw [sn]; dsimp only; rw [q, if_neg (by decide)]; exact h2⟩, fun n => ?_⟩
          funext kont
          show L_X6_withoutHidden_9 _ _ _ _ _ _ _ _ = L_X6_withoutHidden_9 _ _ _ _ _ _ _ _
          rw [step, if_pos h2, q, if_pos b2_f]
        | true =>
          refine ⟨(σ.1 &&& (shlL 1 (nI (fl m s k)) ^^^ -1), nI (fl m s k)), ⟨cut, by rw [sn]; dsimp only; rw [q, if_pos rfl]⟩, fun n => ?_⟩
          funext kont
          show L_X6_withoutHidden_9 _ _ _ _ _ _ _ _ = L_X6_withoutHidden_9 _ _ _ _ _ _ _ _
          rw [step, if_pos h2, q, if_neg (by decide)])
    ⟨fun f hf => ⟨fun u => ⟨u, fun j hj => absurd hj (by omega)⟩, fun u => u.1⟩, rfl⟩
  have r' := congrFun r (fun z6 z7 z8 => if z7 = (-1) then some x else (f_X6_cover c (nI s)).bind fun r9 => (f_X8_holds c (x) (r9)).bind fun r10 => if r10 = 0 then (f_X8_only c (z7)).bind fun r11 => some (z6 ||| r11) else (f_X8_only c (r9)).bind fun r12 => some (z6 ||| r12))
  dsimp only at r'
  rw [r']
  -- the files of the stack
  have inS : ∀ f, f < 40 → gA m 29 f = nI s → ∃ j, j < mn m s ∧ fl m s j = f := fun f hf e => (wStk_in hB.wS hf e hs).2
  obtain ⟨c1, c2⟩ := cov_ok hB.wS hs hn
  obtain ⟨jc, hjc, ejc⟩ := inS _ c1 c2
  have hxc : hb x (cov m s) = M (cov m s) := by rw [← ejc]; exact hx jc hjc
  cases e : fst? (fun j => M (fl m s j)) 0 (mn m s) with
  | none =>
    rw [e] at h2
    rw [h2, if_pos rfl]
    refine ⟨x, rfl, fun f hf => ?_⟩
    have no : ∀ j, j < mn m s → M (fl m s j) = false := fun j hj => fst?_none e j (by omega) (by omega)
    by_cases q : f < 40 ∧ gA m 29 f = nI s
    · obtain ⟨j, hj, ej⟩ := inS f q.1 q.2
      rw [if_pos q, ← ej, hx j hj, no j hj]
      unfold shS
      rw [← ejc, no jc hjc, if_neg (by decide), e]
    · rw [if_neg q]
  | some j =>
    rw [e] at h2
    obtain ⟨-, hj, hMj, -⟩ := fst?_some e
    obtain ⟨-, j1, j2⟩ := e14 j (by omega)
    rw [h2, if_neg (nI_ne_m1 (by omega)), coverC_eq hB.wO hB.wV hB.wS hB.rS dV hs hn, Option.bind_some, holds_eq _ _ (by omega), hxc, Option.bind_some, L_only, L_only]
    have key : ∀ t, t < 40 → gA m 29 t = nI s → ∀ f, f < 64 → hb (σ.1 ||| shlL 1 (nI t)) f = if f < 40 ∧ gA m 29 f = nI s then decide (f = t) else hb x f := fun t ht et f hf => by
      rw [hb_orx _ (by omega) hf]
      by_cases q : f < 40 ∧ gA m 29 f = nI s
      · obtain ⟨i, hi, ei⟩ := inS f q.1 q.2
        rw [if_pos q]
        have : hb σ.1 f = false := by
          cases z : hb σ.1 f with
          | false => rfl
          | true => exact absurd ei (((h1 f hf).mp z).2 i hi)
        rw [this, Bool.false_or]
      · rw [if_neg q, decide_eq_false (fun w => q ⟨by omega, by rw [w]; exact et⟩), Bool.or_false]
        cases z : hb x f with
        | true => exact (h1 f hf).mpr ⟨z, fun i hi w => q (by rw [← w]; exact (e14 i hi).2)⟩
        | false =>
          cases z2 : hb σ.1 f with
          | false => rfl
          | true => rw [((h1 f hf).mp z2).1] at z; cases z
    cases q : M (cov m s) with
    | false =>
      refine ⟨σ.1 ||| shlL 1 (nI (fl m s j)), rfl, fun f hf => ?_⟩
      rw [key _ j1 j2 f hf]
      unfold shS
      rw [q, if_neg (show ¬ false = true by decide), e]
    | true =>
      refine ⟨σ.1 ||| shlL 1 (nI (cov m s)), rfl, fun f hf => ?_⟩
      rw [key _ c1 c2 f hf]
      unfold shS
      rw [q, if_pos (show true = true from rfl)]
/-- whether the stack of a file is collapsed and has a number below s -/
def fh (m : Sx) (f s : Nat) : Bool := decide (gA m 29 f ≠ -1) && (decide (ix (gA m 29 f) < s) && decide (gA m 33 (ix (gA m 29 f)) ≠ 0))
theorem fh_iff {m : Sx} {f s : Nat} : fh m f s = true ↔ gA m 29 f ≠ -1 ∧ ix (gA m 29 f) < s ∧ gA m 33 (ix (gA m 29 f)) ≠ 0 := by
  simp only [fh, Bool.and_eq_true, decide_eq_true_eq]
theorem shown_eq {c m : Sx} (h : Inv c m) {a : Nat} (ha : a < 8) (hA : iA m a = true) : ∃ x, f_X7_shown c a = some x ∧ ∀ f, f < 64 → hb x f = (decide (f < 40) && shw m (hb (gM m 2 a)) f) := by
  unfold f_X7_shown f_X0_members
  rw [Option.bind_some, RMem.of h.2.2.1 a ha hA]
  have hM : ∀ f, f < 64 → ¬ f < 40 → hb (gM m 2 a) f = false := fun f hf q => by
    cases z : hb (gM m 2 a) f with
    | false => rfl
    | true => exact absurd (Mp.out h.2.2.2.2 a ha hA f hf z).1 q
  obtain ⟨x, hx, r⟩ := loop0 (L := fun n i (x : Int64) => L_X7_shown_8 c a (fun z5 z6 => some z5) n x i) (E := fun x => some x) (N := 10) (by decide) (y := gM m 2 a)
    (fun s x => ∀ f, f < 64 → hb x f = if f < 40 ∧ fh m f s = true then shw m (hb (gM m 2 a)) f else hb (gM m 2 a) f)
    (fun n x _ => by
      show L_X7_shown_8 _ _ _ _ _ _ = _
      rw [L_X7_shown_8, if_pos (by decide)])
    (fun s x hs hI => by
      have st : ∀ n, L_X7_shown_8 c a (fun z5 z6 => some z5) (n + 1) x (nI s) = if b2 (isS m s) = 0 then L_X7_shown_8 c a (fun z5 z6 => some z5) n x (nI (s + 1)) else (f_X6_isCollapsed c (nI s)).bind fun r3 => if r3 = 0 then L_X7_shown_8 c a (fun z5 z6 => some z5) n x (nI (s + 1)) else (f_X6_withoutHidden c (nI s) x).bind fun r4 => L_X7_shown_8 c a (fun z5 z6 => some z5) n r4 (nI (s + 1)) := fun n => by
        rw [L_X7_shown_8, if_neg (ngo (x := 10) (N := 10) rfl hs (by decide)), hasS_eq h.1.wS h.1.rS, stn_nI hs, Option.bind_some, nI_lit1]
      -- a file with a stack
      have hom : ∀ f, f < 40 → gA m 29 f ≠ -1 → ∃ s', s' < 10 ∧ gA m 29 f = nI s' ∧ ix (gA m 29 f) = s' ∧ 0 < mn m s' := fun f hf q => by
        rcases wStk_home h.1.wS hf with e | ⟨s', hs', e, e2, -⟩
        · exact absurd e q
        · exact ⟨s', hs', e, by rw [e, ix_nI (by omega)], e2⟩
      have keep : (0 < mn m s → gA m 33 s = 0) → ∀ f, f < 64 → hb x f = if f < 40 ∧ fh m f (s + 1) = true then shw m (hb (gM m 2 a)) f else hb (gM m 2 a) f := fun q f hf => by
        rw [hI f hf]
        by_cases f40 : f < 40
        · have : fh m f (s + 1) = fh m f s := by
            cases z : fh m f (s + 1) with
            | true =>
              obtain ⟨z1, z2, z3⟩ := fh_iff.mp z
              obtain ⟨s', hs', e, e2, e3⟩ := hom f f40 z1
              refine (fh_iff.mpr ⟨z1, ?_, z3⟩).symm
              rcases Nat.eq_or_lt_of_le (Nat.lt_succ_iff.mp z2) with w | w
              · rw [e2] at w; subst w
                rw [e2] at z3
                exact absurd (q e3) z3
              · exact w
            | false =>
              cases z' : fh m f s with
              | false => rfl
              | true =>
                obtain ⟨z1, z2, z3⟩ := fh_iff.mp z'
                rw [fh_iff.mpr ⟨z1, by omega, z3⟩] at z; cases z
          rw [this]
        · rw [if_neg (fun w => f40 w.1), if_neg (fun w => f40 w.1)]
      cases q : isS m s with
      | false =>
        have q0 : ¬ 0 < mn m s := by unfold isS at q; exact of_decide_eq_false q
        refine ⟨x, keep (fun w => absurd w q0), fun n => ?_⟩
        show L_X7_shown_8 _ _ _ _ _ _ = _
        rw [st, q, if_pos b2_f]
      | true =>
        have hn : 0 < mn m s := by unfold isS at q; exact of_decide_eq_true q
        have ec : f_X6_isCollapsed c (nI s) = some (b2 (decide (gA m 33 s ≠ 0))) := by
          unfold f_X6_isCollapsed
          rw [gd_pos (vin_nI hs (by decide)), ix_nI (by omega), (h.1.rS.2.2.2.1 s hs hn).2, gd_pos (gz_b2 _)]
        by_cases w : gA m 33 s = 0
        · refine ⟨x, keep (fun _ => w), fun n => ?_⟩
          show L_X7_shown_8 _ _ _ _ _ _ = _
          rw [st, q, if_neg (by decide), ec, Option.bind_some, decide_eq_false (fun u => u w), if_pos b2_f]
        · obtain ⟨x', e, hx'⟩ := withoutHidden_eq h.1 h.2.1.1 hs hn (M := hb (gM m 2 a)) (x := x) (fun j hj => by
            obtain ⟨-, j1, j2⟩ := wStk_fl h.1.wS hs hj
            rw [hI _ (by omega), if_neg]
            rintro ⟨-, u⟩
            have := (fh_iff.mp u).2.1
            rw [j2, ix_nI (by omega)] at this
            omega)
          refine ⟨x', fun f hf => ?_, fun n => ?_⟩
          · rw [hx' f hf]
            by_cases u : f < 40 ∧ gA m 29 f = nI s
            · have xf : ix (gA m 29 f) = s := by rw [u.2, ix_nI (by omega)]
              have nm : gA m 29 f ≠ -1 := by rw [u.2]; exact nI_ne_m1 (by omega)
              rw [if_pos u, if_pos ⟨u.1, fh_iff.mpr ⟨nm, by rw [xf]; omega, by rw [xf]; exact w⟩⟩]
              unfold shw
              rw [decide_eq_false nm, xf, decide_eq_false w, Bool.false_or, Bool.false_or]
              cases z : shS m (hb (gM m 2 a)) s f with
              | false => rw [Bool.and_false]
              | true => rw [shS_M z]; rfl
            · rw [if_neg u, hI f hf]
              by_cases f40 : f < 40
              · have : fh m f (s + 1) = fh m f s := by
                  cases z : fh m f (s + 1) with
                  | true =>
                    obtain ⟨z1, z2, z3⟩ := fh_iff.mp z
                    obtain ⟨s', hs', eh, e2, e3⟩ := hom f f40 z1
                    refine (fh_iff.mpr ⟨z1, ?_, z3⟩).symm
                    rcases Nat.eq_or_lt_of_le (Nat.lt_succ_iff.mp z2) with v | v
                    · rw [e2] at v
                      exact absurd ⟨f40, by rw [eh, v]⟩ u
                    · exact v
                  | false =>
                    cases z' : fh m f s with
                    | false => rfl
                    | true =>
                      obtain ⟨z1, z2, z3⟩ := fh_iff.mp z'
                      rw [fh_iff.mpr ⟨z1, by omega, z3⟩] at z; cases z
                rw [this]
              · rw [if_neg (fun v => f40 v.1), if_neg (fun v => f40 v.1)]
          · show L_X7_shown_8 _ _ _ _ _ _ = _
            rw [st, q, if_neg (by decide), ec, Option.bind_some, decide_eq_true w, if_neg (by decide), e, Option.bind_some])
    (fun f hf => by
      rw [if_neg]
      rintro ⟨-, u⟩
      have := (fh_iff.mp u).2.1
      omega)
  refine ⟨x, r, fun f hf => ?_⟩
  rw [hx f hf]
  by_cases f40 : f < 40
  · rw [decide_eq_true f40, Bool.true_and]
    by_cases u : fh m f 10 = true
    · rw [if_pos ⟨f40, u⟩]
    · rw [if_neg (fun w => u w.2)]
      unfold shw
      by_cases z1 : gA m 29 f = -1
      · rw [decide_eq_true z1, Bool.true_or, Bool.and_true]
      · by_cases z2 : gA m 33 (ix (gA m 29 f)) = 0
        · rw [decide_eq_true z2, Bool.true_or, Bool.or_true, Bool.and_true]
        · rcases wStk_home h.1.wS f40 with e | ⟨s', hs', e, e2, -⟩
          · exact absurd e z1
          · exact absurd (fh_iff.mpr ⟨z1, by rw [e, ix_nI (by omega)]; exact hs', z2⟩) u
  · rw [if_neg (fun w => f40 w.1), decide_eq_false f40, hM f hf f40]; rfl
theorem shrL_c0 (x : Int64) {f : Nat} (hf : f < 64) : (lg_cmp (shrL x (nI f) &&& 1) 0 = 0) ↔ hb x f = false := by
  rw [lg_cmp_eq, s_bit x hf]
  cases hb x f <;> decide
theorem isShown_eq {c m : Sx} (h : Ba c m) {a f : Nat} (ha : a < 8) (hf : f < 40) : f_X9_isShown m (nI a) (nI f) = some (b2 (shw m (hb (gM m 2 a)) f)) := by
  have gf : vp_in (nI f) 40 := vin_nI hf (by decide)
  have ga : vp_in (nI a) 8 := vin_nI ha (by decide)
  have xf : ix (nI f) = f := ix_nI (by omega)
  have xa : ix (nI a) = a := ix_nI (by omega)
  unfold f_X9_isShown shw
  simp only [gd_pos gf, gd_pos ga, xf, xa]
  cases q : hb (gM m 2 a) f with
  | false => rw [if_pos ((shrL_c0 _ (by omega)).mpr q), if_neg (fun w => by rw [(shrL_c _ (by omega)).mp w] at q; cases q)]; rfl
  | true =>
    rw [if_neg (fun w => by rw [(shrL_c0 _ (by omega)).mp w] at q; cases q), Bool.true_and]
    have one := (shrL_c (gM m 2 a) (show f < 64 by omega)).mpr q
    rcases h.wS.1 f hf with e | ⟨s, hs, e, -, kf, hkf, e31⟩
    · rw [e, if_pos (show (-1 : Int32) < 0 by decide), if_pos one]; rfl
    · have nm : gA m 29 f ≠ -1 := by rw [e]; exact nI_ne_m1 (by omega)
      have gs : vp_in (nI s) 10 := vin_nI hs (by decide)
      have xs : ix (nI s) = s := ix_nI (by omega)
      rw [decide_eq_false nm, Bool.false_or, e, if_neg (nI_pos (by omega)), gd_pos gs, xs]
      by_cases w : gA m 33 s = 0
      · rw [if_pos w, if_pos one, decide_eq_true w]; rfl
      · have hn : 0 < mn m s := by omega
        obtain ⟨-, h8, -⟩ := wStk_mn h.wS hs
        obtain ⟨c1, c2⟩ := cov_ok h.wS hs hn
        rw [if_neg w, decide_eq_false w, Bool.false_or, cover_eq h.wO h.wV h.wS hs hn, Option.bind_some]
        unfold shS
        cases z : hb (gM m 2 a) (cov m s) with
        | true =>
          rw [if_pos ((shrL_c _ (by omega)).mpr z), if_pos rfl]
          by_cases u : f = cov m s
          · rw [if_pos (by rw [← u]), decide_eq_true u]; rfl
          · rw [if_neg (by rw [nI_eq_iff (by omega) (by omega)]; exact u), decide_eq_false u]; rfl
        | false =>
          rw [if_neg (fun v => by rw [(shrL_c _ (by omega)).mp v] at z; cases z), if_neg (by decide)]
          have efk : fl m s kf = f := by unfold fl; rw [e31, ix_nI (by omega)]
          cases ef : fst? (fun j => hb (gM m 2 a) (fl m s j)) 0 (mn m s) with
          | none =>
            have := fst?_none ef kf (by omega) (by omega)
            rw [efk, q] at this; cases this
          | some k0 =>
            obtain ⟨-, hk0, hM0, hlt⟩ := fst?_some ef
            have hk0' : k0 < mn m s := by omega
            have run : ∀ kont : Int32 → Option Int32, L_X9_isShown_94 m (nI a) (nI f) (nI s) (nI (cov m s)) kont FU 0 = kont (nI k0) := fun kont => by
              have st : ∀ n k, k < mn m s → L_X9_isShown_94 m (nI a) (nI f) (nI s) (nI (cov m s)) kont (n + 1) (nI k) = if hb (gM m 2 a) (fl m s k) = false then L_X9_isShown_94 m (nI a) (nI f) (nI s) (nI (cov m s)) kont n (nI (k + 1)) else kont (nI k) := fun n k hk => by
                obtain ⟨k1, k2, -⟩ := wStk_fl h.wS hs hk
                rw [L_X9_isShown_94, gd_pos ga, i8, gd_pos (vin_nI (by omega) (by decide)), xa, ix_nI (by omega), k1, bd_eq, nI_lit1]
                cases y : hb (gM m 2 a) (fl m s k) with
                | false => rw [if_pos ((shrL_c0 _ (by omega)).mpr y), if_pos rfl]
                | true => rw [if_neg (fun v => by rw [(shrL_c0 _ (by omega)).mp v] at y; cases y), if_neg (by decide)]
              obtain ⟨_, -, r⟩ := loop0G (L := fun n i (_ : Unit) => L_X9_isShown_94 m (nI a) (nI f) (nI s) (nI (cov m s)) kont n i) (E := fun _ => kont (nI k0)) (N := k0) (by omega) (y := ()) (fun _ _ => True)
                (fun n _ _ => by
                  show L_X9_isShown_94 _ _ _ _ _ _ _ _ = _
                  rw [st n k0 hk0', if_neg (by rw [hM0]; decide)])
                (fun k _ hk _ => ⟨(), trivial, fun n => by
                  show L_X9_isShown_94 _ _ _ _ _ _ _ _ = _
                  rw [st n k (by omega), if_pos (hlt k (by omega) hk)]⟩) trivial
              exact r
            obtain ⟨k1, k2, -⟩ := wStk_fl h.wS hs hk0'
            rw [run, i8, gd_pos (vin_nI (by omega) (by decide)), ix_nI (by omega), k1]
            dsimp only
            by_cases u : f = fl m s k0
            · rw [if_pos (by rw [← u]), decide_eq_true u]; rfl
            · rw [if_neg (by rw [nI_eq_iff (by omega) (by omega)]; exact fun v => u v.symm), decide_eq_false u]; rfl
end
section
theorem cnt_fl (p : Nat → Bool) : fb_ct (fun k => decide (k < 40) && p k) 40 = fb_ct p 40 := ct_cut p (Nat.le_refl _)
theorem ask_viewSize (a1 : Int32) : Ask (fun t => f_X8_viewSize t a1) (fun t => f_X9_viewSize t a1) := fun c m h => by
  show ∃ r, f_X8_viewSize c a1 = some r ∧ f_X9_viewSize m a1 = some r
  unfold f_X8_viewSize f_X9_viewSize
  rw [hasAlbum_eq h.2.2.1, there8_eq]
  simp only [Option.bind_some]
  cases q : alm m a1 with
  | false => exact ⟨-1, by rw [bF], by rw [bF]⟩
  | true =>
    obtain ⟨a, ha, rfl, hA⟩ := alm_out q
    obtain ⟨x, e, hx⟩ := shown_eq h ha hA
    rw [bT, bT, gd_pos (vin_nI ha (by decide)), ix_nI (by omega), e, Option.bind_some, bitCount_eq, cnt40 hx, Option.bind_some]
    refine ⟨_, rfl, ?_⟩
    unfold f_X9_shown
    rw [cnt0 (L := fun n i s => L_X9_shown_4 m (nI a) (fun z2 z3 => some z2) n s i) (E := fun s => some s) (p := shw m (hb (gM m 2 a))) (N := 40) (by decide) (fun n s => by
      show L_X9_shown_4 _ _ _ _ _ _ = _
      rw [L_X9_shown_4, if_pos (by decide)]) (fun n k s hk => by
      show L_X9_shown_4 _ _ _ _ _ _ = L_X9_shown_4 _ _ _ _ _ _
      rw [L_X9_shown_4, if_neg (ngo (x := 40) (N := 40) rfl hk (by decide)), isShown_eq h.1 ha hk, Option.bind_some, nI_lit1]
      cases q : shw m (hb (gM m 2 a)) k with
      | false => rw [bF, if_neg (by decide), Int32.add_zero]
      | true => rw [bT, if_pos rfl])]
    rfl
/-- whether a file comes ahead of another one -/
def cb (m : Sx) (fld : Nat) (dn : Bool) (f g : Nat) : Bool := if vOr m f fld (-1) = vOr m g fld (-1) then decide (f < g) else if vOr m g fld (-1) = -1 then true else if vOr m f fld (-1) = -1 then false else if dn = true then decide (vOr m g fld (-1) < vOr m f fld (-1)) else decide (vOr m f fld (-1) < vOr m g fld (-1))
theorem lt_dec (x y : Int32) : (if y ≤ x then some (0 : Int32) else some 1) = some (b2 (decide (x < y))) := by
  by_cases q : y ≤ x
  · rw [if_pos q, decide_eq_false (by rw [i_lt]; rw [i_le] at q; omega)]; rfl
  · rw [if_neg q, decide_eq_true (by rw [i_lt]; rw [i_le] at q; omega)]; rfl
theorem lt_decN {f g : Nat} (hf : f < 40) (hg : g < 40) : (if nI g ≤ nI f then some (0 : Int32) else some 1) = some (b2 (decide (f < g))) := by
  rw [lt_dec, decide_eq_decide.mpr (nI_lt_iff (by omega) (by omega))]
theorem comesBefore_eq {c m : Sx} (dV : DVal c m) {a fld : Nat} {dn : Bool} (hfl : fld < 5) (e1 : gI c (110 + a) = nI fld) (e2 : gI c (120 + a) = b2 dn) {f g : Nat} (hf : f < 40) (hg : g < 40) (pf : iF m f = true) (pg : iF m g = true) : f_X7_comesBefore c a (nI f) (nI g) = some (b2 (cb m fld dn f g)) := by
  unfold f_X7_comesBefore f_X0_sortField f_X0_isDescending
  simp only [Option.bind_some]
  rw [e1, e2, settledValue_eq c hf (by omega), settledValue_eq c hg (by omega), (dV f hf pf).1 fld hfl, (dV g hg pg).1 fld hfl, Option.bind_some, Option.bind_some]
  unfold cb
  by_cases w : vOr m f fld (-1) = vOr m g fld (-1)
  · rw [if_pos w, if_pos w, lt_decN hf hg]
  · rw [if_neg w, if_neg w]
    by_cases w1 : vOr m f fld (-1) = -1
    · by_cases w2 : vOr m g fld (-1) = -1
      · exact absurd (by rw [w1, w2]) w
      · rw [if_pos w1, if_neg w2, if_neg w2, if_pos w1]; rfl
    · rw [if_neg w1, if_neg w1]
      by_cases w2 : vOr m g fld (-1) = -1
      · rw [if_pos w2, if_pos w2, if_pos w2]; rfl
      · rw [if_neg w2, if_neg w2, gd_pos (gz_b2 _), Option.bind_some]
        cases dn with
        | false => rw [bF, lt_dec]; rfl
        | true => rw [bT, lt_dec]; rfl
theorem isAhead_eq {c m : Sx} (h : Ba c m) {a fld : Nat} (ha : a < 8) (hfl : fld < 5) (e1 : gA m 38 a = nI fld) {f g : Nat} (hf : f < 40) (hg : g < 40) : f_X9_isAhead m (nI a) (nI f) (nI g) = some (b2 (cb m fld (decide (gA m 39 a ≠ 0)) f g)) := by
  unfold f_X9_isAhead
  have ga : vp_in (nI a) 8 := vin_nI ha (by decide)
  have xa : ix (nI a) = a := ix_nI (by omega)
  simp only [gd_pos ga, xa]
  rw [e1, valueOr_eq h.wO hf (by omega), valueOr_eq h.wO hg (by omega), Option.bind_some, Option.bind_some]
  unfold cb
  have neg : ∀ k, k < 40 → (vOr m k fld (-1) < 0 ↔ vOr m k fld (-1) = -1) := fun k hk => by
    rcases vOr_cases h.wO h.wV hk (show fld < 6 by omega) with ⟨_, e⟩ | ⟨v, hv, _, e⟩
    · rw [e]; decide
    · rw [e]; exact ⟨fun w => absurd w (nI_pos (by omega)), fun w => absurd w (nI_ne_m1 (by omega))⟩
  by_cases w : vOr m f fld (-1) = vOr m g fld (-1)
  · rw [if_pos w, if_pos w, lt_decN hf hg]
  · rw [if_neg w, if_neg w]
    by_cases w2 : vOr m g fld (-1) = -1
    · rw [if_pos ((neg g hg).mpr w2), if_pos w2]; rfl
    · rw [if_neg (fun u => w2 ((neg g hg).mp u)), if_neg w2]
      by_cases w1 : vOr m f fld (-1) = -1
      · rw [if_pos ((neg f hf).mpr w1), if_pos w1]; rfl
      · rw [if_neg (fun u => w1 ((neg f hf).mp u)), if_neg w1]
        by_cases d : gA m 39 a = 0
        · rw [if_pos d, show decide (gA m 39 a ≠ 0) = false from decide_eq_false (fun u => u d), lt_dec]; rfl
        · rw [if_neg d, show decide (gA m 39 a ≠ 0) = true from decide_eq_true d, lt_dec]; rfl
theorem cb_self (m : Sx) (fld : Nat) (dn : Bool) (f : Nat) : cb m fld dn f f = false := by
  unfold cb
  rw [if_pos rfl, decide_eq_false (by omega)]
theorem ask_viewAt (a1 a2 : Int32) : Ask (fun t => f_X8_viewAt t a1 a2) (fun t => f_X9_viewAt t a1 a2) := fun c m h => by
  show ∃ r, f_X8_viewAt c a1 a2 = some r ∧ f_X9_viewAt m a1 a2 = some r
  unfold f_X8_viewAt f_X9_viewAt f_X7_fileAt
  rw [hasAlbum_eq h.2.2.1, there8_eq]
  simp only [Option.bind_some]
  cases q : alm m a1 with
  | false => exact ⟨-1, by rw [bF], by rw [bF]⟩
  | true =>
    obtain ⟨a, ha, rfl, hA⟩ := alm_out q
    obtain ⟨x, e, hx⟩ := shown_eq h ha hA
    obtain ⟨-, d1, ⟨fld, d2, d3, d3'⟩, d4, -, -⟩ := (h.2.2.1 a ha).2 hA
    rw [bT, bT]
    by_cases w : 0 ≤ a2
    · rw [if_pos w, if_pos w, gd_pos (vin_nI ha (by decide)), ix_nI (by omega), e, Option.bind_some]
      have sh40 : ∀ f, f < 40 → hb x f = shw m (hb (gM m 2 a)) f := fun f hf => by rw [hx f (by omega), decide_eq_true hf, Bool.true_and]
      have shF : ∀ f, f < 40 → shw m (hb (gM m 2 a)) f = true → iF m f = true := fun f hf u => by
        unfold shw at u
        exact (Mp.out h.2.2.2.2 a ha hA f (by omega) ((Bool.and_eq_true _ _).mp u).1).2
      -- how many come ahead
      have plc : ∀ f, f < 40 → shw m (hb (gM m 2 a)) f = true → f_X7_placeOf c a x (nI f) = some (nI (fb_ct (fun g => shw m (hb (gM m 2 a)) g && cb m fld (decide (gA m 39 a ≠ 0)) g f) 40)) := fun f hf pf => by
        unfold f_X7_placeOf
        exact cnt0 (L := fun n i s => L_X7_placeOf_6 c a x (nI f) (fun z3 z4 => some z3) n s i) (E := fun s => some s) (p := fun g => shw m (hb (gM m 2 a)) g && cb m fld (decide (gA m 39 a ≠ 0)) g f) (N := 40) (by decide) (fun n s => by
          show L_X7_placeOf_6 _ _ _ _ _ _ _ _ = _
          rw [L_X7_placeOf_6, if_pos (by decide)]) (fun n g s hg => by
          show L_X7_placeOf_6 _ _ _ _ _ _ _ _ = L_X7_placeOf_6 _ _ _ _ _ _ _ _
          rw [L_X7_placeOf_6, if_neg (ngo (x := 40) (N := 40) rfl hg (by decide)), holds_eq _ _ (by omega), sh40 g hg, Option.bind_some, nI_lit1]
          cases pg : shw m (hb (gM m 2 a)) g with
          | false => rw [bF]; rfl
          | true =>
            rw [bT, comesBefore_eq h.2.1.1 d2 d3 d4 hg hf (shF g hg pg) (shF f hf pf), Option.bind_some, Bool.true_and]
            cases cb m fld (decide (gA m 39 a ≠ 0)) g f with
            | false => rw [bF, if_neg (by decide)]
            | true => rw [bT, if_pos rfl])
      have ahd : ∀ f, f < 40 → ∀ kont : Int32 → Int32 → Option Int32, shw m (hb (gM m 2 a)) f = true → L_X9_viewAt_28 m (nI a) a2 (nI f) kont FU 0 0 = kont (nI (fb_ct (fun g => shw m (hb (gM m 2 a)) g && cb m fld (decide (gA m 39 a ≠ 0)) g f) 40)) (nI 40) := fun f hf kont pf => by
        exact cnt0 (L := fun n i s => L_X9_viewAt_28 m (nI a) a2 (nI f) kont n s i) (E := fun s => kont s (nI 40)) (p := fun g => shw m (hb (gM m 2 a)) g && cb m fld (decide (gA m 39 a ≠ 0)) g f) (N := 40) (by decide) (fun n s => by
          show L_X9_viewAt_28 _ _ _ _ _ _ _ _ = _
          rw [L_X9_viewAt_28, if_pos (by decide)]) (fun n g s hg => by
          show L_X9_viewAt_28 _ _ _ _ _ _ _ _ = L_X9_viewAt_28 _ _ _ _ _ _ _ _
          rw [L_X9_viewAt_28, if_neg (ngo (x := 40) (N := 40) rfl hg (by decide)), isShown_eq h.1 ha hf, pf, Option.bind_some, if_neg (by decide), nI_lit1]
          by_cases gf : g = f
          · rw [if_pos (by rw [gf]), gf, cb_self, Bool.and_false, if_neg (by decide), Int32.add_zero]
          · rw [if_neg (by rw [nI_eq_iff (by omega) (by omega)]; exact gf), isShown_eq h.1 ha hg, Option.bind_some]
            cases pg : shw m (hb (gM m 2 a)) g with
            | false => rw [bF, Int32.add_zero]; rfl
            | true =>
              rw [bT, isAhead_eq h.1 ha d2 d3' hg hf, Option.bind_some, Bool.true_and]
              cases cb m fld (decide (gA m 39 a ≠ 0)) g f with
              | false => rw [bF, if_neg (by decide), Int32.add_zero]
              | true => rw [bT, if_pos rfl])
      have skp : ∀ f, f < 40 → ∀ kont : Int32 → Int32 → Option Int32, shw m (hb (gM m 2 a)) f = false → L_X9_viewAt_28 m (nI a) a2 (nI f) kont FU 0 0 = kont 0 0 := fun f hf kont pf => by
        obtain ⟨fu, ef⟩ := FU_ge (n := 1) (by decide)
        rw [ef, L_X9_viewAt_28, if_neg (by decide), isShown_eq h.1 ha hf, pf, Option.bind_some, if_pos b2_f]
      have r1 := find0 (L := fun n i => L_X7_fileAt_9 c a a2 x (fun z4 => some (-1)) n i) (p := fun f => shw m (hb (gM m 2 a)) f && decide (nI (fb_ct (fun g => shw m (hb (gM m 2 a)) g && cb m fld (decide (gA m 39 a ≠ 0)) g f) 40) = a2)) (N := 40) (A := some (-1)) (B := fun f => some (nI f)) (by decide) (fun n => by
        show L_X7_fileAt_9 _ _ _ _ _ _ _ = _
        rw [L_X7_fileAt_9, if_pos (by decide)]) (fun n f hf => by
        show L_X7_fileAt_9 _ _ _ _ _ _ _ = _
        rw [L_X7_fileAt_9, if_neg (ngo (x := 40) (N := 40) rfl hf (by decide)), holds_eq _ _ (by omega), sh40 f hf, Option.bind_some, nI_lit1]
        cases pf : shw m (hb (gM m 2 a)) f with
        | false => rw [bF]; rfl
        | true =>
          rw [bT, plc f hf pf, Option.bind_some, Bool.true_and]
          by_cases u : nI (fb_ct (fun g => shw m (hb (gM m 2 a)) g && cb m fld (decide (gA m 39 a ≠ 0)) g f) 40) = a2
          · rw [if_pos u, decide_eq_true u, if_pos rfl]
          · rw [if_neg u, decide_eq_false u, if_neg (by decide)])
      have r2 := find0 (L := fun n i => L_X9_viewAt_16 m (nI a) a2 (fun z8 => some (-4)) n i) (p := fun f => shw m (hb (gM m 2 a)) f && decide (nI (fb_ct (fun g => shw m (hb (gM m 2 a)) g && cb m fld (decide (gA m 39 a ≠ 0)) g f) 40) = a2)) (N := 40) (A := some (-4)) (B := fun f => some (nI f)) (by decide) (fun n => by
        show L_X9_viewAt_16 _ _ _ _ _ _ = _
        rw [L_X9_viewAt_16, if_pos (by decide)]) (fun n f hf => by
        show L_X9_viewAt_16 _ _ _ _ _ _ = _
        rw [L_X9_viewAt_16, if_neg (ngo (x := 40) (N := 40) rfl hf (by decide)), nI_lit1]
        cases pf : shw m (hb (gM m 2 a)) f with
        | false =>
          rw [skp f hf _ pf, isShown_eq h.1 ha hf, pf, Option.bind_some, if_pos b2_f, Bool.false_and, if_neg (by decide)]
        | true =>
          rw [ahd f hf _ pf, isShown_eq h.1 ha hf, pf, Option.bind_some, if_neg (by decide), Bool.true_and]
          by_cases u : nI (fb_ct (fun g => shw m (hb (gM m 2 a)) g && cb m fld (decide (gA m 39 a ≠ 0)) g f) 40) = a2
          · rw [if_pos u, decide_eq_true u, if_pos rfl]
          · rw [if_neg u, decide_eq_false u, if_neg (by decide)])
      rw [r1, r2]
      cases ef : fst? (fun f => shw m (hb (gM m 2 a)) f && decide (nI (fb_ct (fun g => shw m (hb (gM m 2 a)) g && cb m fld (decide (gA m 39 a ≠ 0)) g f) 40) = a2)) 0 40 with
      | none => exact ⟨-4, rfl, rfl⟩
      | some f =>
        have := (fst?_some ef).2.1
        refine ⟨nI f, ?_, rfl⟩
        dsimp only
        rw [Option.bind_some, orNF, nI_not_m1 (by omega)]; rfl
    · rw [if_neg w, if_neg w]; exact ⟨_, rfl, rfl⟩
end
section
/-! ===== the start: what the constructors leave ===== -/
def i13 : Nat → Int32 := upd (upd (upd (fun _ => 0) (Int32.toNatClampNeg 0) 0) (Int32.toNatClampNeg 1) 1) (Int32.toNatClampNeg 2) 2
def i28 : Nat → Int32 := upd (upd (fun _ => 0) (Int32.toNatClampNeg 1) 1) (Int32.toNatClampNeg 2) 2
def i40 : Nat → Int32 := upd (upd (upd (upd (upd (upd (upd (upd (upd (upd (upd (upd (upd (upd (upd (upd (upd (upd (upd (upd (upd (upd (upd (upd (upd (upd (upd (upd (upd (upd (upd (upd (upd (upd (upd (upd (upd (upd (upd (upd (fun _ => 0) (Int32.toNatClampNeg 0) (-1)) (Int32.toNatClampNeg 1) (-1)) (Int32.toNatClampNeg 2) (-1)) (Int32.toNatClampNeg 3) (-1)) (Int32.toNatClampNeg 4) (-1)) (Int32.toNatClampNeg 5) (-1)) (Int32.toNatClampNeg 6) (-1)) (Int32.toNatClampNeg 7) (-1)) (Int32.toNatClampNeg 8) (-1)) (Int32.toNatClampNeg 9) (-1)) (Int32.toNatClampNeg 10) (-1)) (Int32.toNatClampNeg 11) (-1)) (Int32.toNatClampNeg 12) (-1)) (Int32.toNatClampNeg 13) (-1)) (Int32.toNatClampNeg 14) (-1)) (Int32.toNatClampNeg 15) (-1)) (Int32.toNatClampNeg 16) (-1)) (Int32.toNatClampNeg 17) (-1)) (Int32.toNatClampNeg 18) (-1)) (Int32.toNatClampNeg 19) (-1)) (Int32.toNatClampNeg 20) (-1)) (Int32.toNatClampNeg 21) (-1)) (Int32.toNatClampNeg 22) (-1)) (Int32.toNatClampNeg 23) (-1)) (Int32.toNatClampNeg 24) (-1)) (Int32.toNatClampNeg 25) (-1)) (Int32.toNatClampNeg 26) (-1)) (Int32.toNatClampNeg 27) (-1)) (Int32.toNatClampNeg 28) (-1)) (Int32.toNatClampNeg 29) (-1)) (Int32.toNatClampNeg 30) (-1)) (Int32.toNatClampNeg 31) (-1)) (Int32.toNatClampNeg 32) (-1)) (Int32.toNatClampNeg 33) (-1)) (Int32.toNatClampNeg 34) (-1)) (Int32.toNatClampNeg 35) (-1)) (Int32.toNatClampNeg 36) (-1)) (Int32.toNatClampNeg 37) (-1)) (Int32.toNatClampNeg 38) (-1)) (Int32.toNatClampNeg 39) (-1)
def t_init : Sx := (fun _ => 0, fun _ => 0, fun a => if a = 13 then i13 else if a = 18 then i40 else if a = 28 then i28 else if a = 29 then i40 else fun _ => 0, fun _ _ => 0)
theorem i40_eq : ∀ k, k < 40 → i40 k = -1 := by decide +kernel
theorem i28_eq : ∀ k, k < 3 → i28 k = nI k := by decide +kernel
theorem i13_eq : ∀ k, k < 3 → i13 k = i28 k := by decide +kernel
theorem t_init_A {a : Nat} (h1 : a ≠ 13) (h2 : a ≠ 18) (h3 : a ≠ 28) (h4 : a ≠ 29) (k : Nat) : gA t_init a k = 0 := by
  show (if a = 13 then i13 else if a = 18 then i40 else if a = 28 then i28 else if a = 29 then i40 else fun _ => 0) k = 0
  rw [if_neg h1, if_neg h2, if_neg h3, if_neg h4]
theorem t_init_inv : Inv t_init t_init := by
  have e29 : ∀ k, k < 40 → gA t_init 29 k = -1 := i40_eq
  have e18 : ∀ k, k < 40 → gA t_init 18 k = -1 := i40_eq
  have nF : ∀ f, iF t_init f = false := fun f => by
    unfold iF; rw [t_init_A (by decide) (by decide) (by decide) (by decide)]; rfl
  have nT : ∀ f, iT t_init f = false := fun f => by
    unfold iT; rw [t_init_A (by decide) (by decide) (by decide) (by decide)]; rfl
  have nA : ∀ f, iA t_init f = false := fun f => by
    unfold iA; rw [t_init_A (by decide) (by decide) (by decide) (by decide)]; rfl
  have n0 : ∀ s, mn t_init s = 0 := fun s => by
    unfold mn; rw [t_init_A (by decide) (by decide) (by decide) (by decide)]; rfl
  have tp : tpd t_init = 0 := rfl
  have hb0 : ∀ j k, hb (gL t_init j) k = false := fun j k => hb_0 k
  have noF : ∀ {f : Nat} {P : Prop}, iF t_init f = true → P := fun {f} {P} h => by rw [nF] at h; cases h
  have noT : ∀ {f : Nat} {P : Prop}, iT t_init f = true → P := fun {f} {P} h => by rw [nT] at h; cases h
  have noA : ∀ {f : Nat} {P : Prop}, iA t_init f = true → P := fun {f} {P} h => by rw [nA] at h; cases h
  have noB : ∀ {j k : Nat} {P : Prop}, hb (gL t_init j) k = true → P := fun {j k} {P} h => by rw [hb0] at h; cases h
  refine ⟨⟨fun k hk => ⟨k, hk, i28_eq k hk⟩, fun k _ h => noT h, ⟨fun f hf => Or.inl (e29 f hf), fun s hs => ⟨0, by omega, t_init_A (by decide) (by decide) (by decide) (by decide) s, by decide⟩, fun s _ k hk => by rw [n0] at hk; omega, fun s _ j k _ hk => by rw [n0] at hk; omega, fun s _ hk => by rw [n0] at hk; omega⟩, ⟨0, by omega, rfl, fun k hk => absurd hk (by omega)⟩, fun k hk => by rw [hb0, nF, Bool.and_false], fun f _ h => noF h, fun f _ h => noF h, fun k hk => i13_eq k hk, ⟨fun f hf => by rw [e18 f hf, e29 f hf], fun s hs => by rw [t_init_A (by decide) (by decide) (by decide) (by decide), t_init_A (by decide) (by decide) (by decide) (by decide)], fun s _ k hk => by rw [n0] at hk; omega, fun s _ hk => by rw [n0] at hk; omega, fun k _ => ⟨fun h => noB h, fun h => absurd (e29 k h.1) h.2⟩⟩, ⟨rfl, fun k hk => by rw [tp] at hk; omega⟩, fun f _ s _ h => noT h⟩, ⟨fun f _ h => noF h, fun k _ => ⟨⟨fun h => noB h, fun h => noF (kp_iF h)⟩, ⟨fun h => noB h, fun h => noF h.2.1⟩⟩, fun k _ => ⟨fun h => noB h, fun ⟨s, _, h, _⟩ => by rw [n0] at h; omega⟩⟩, fun a ha => ⟨by rw [nA]; rfl, fun h => noA h⟩, ⟨0, 0, by omega, by omega, rfl, rfl, rfl, fun i hi => absurd hi (by omega)⟩, fun a _ h => noA h⟩
end
