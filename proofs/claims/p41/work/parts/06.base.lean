/-! ===== MY LAYER 1: an abstract state (numbers alone), the world's cells as a picture of it, a judgement V over it ===== -/
abbrev Sx : Type := (Nat → Int32) × (Nat → Int64) × (Nat → Nat → Int32) × (Nat → Nat → Int64)
def upf {α : Type} (f : Nat → α) (k : Nat) (x : α) : Nat → α := fun j => if j = k then x else f j
def gI (t : Sx) (k : Nat) : Int32 := t.1 k
def gL (t : Sx) (k : Nat) : Int64 := t.2.1 k
def gA (t : Sx) (a k : Nat) : Int32 := t.2.2.1 a k
def gM (t : Sx) (a k : Nat) : Int64 := t.2.2.2 a k
def pI (t : Sx) (k : Nat) (v : Int32) : Sx := (upf t.1 k v, t.2.1, t.2.2.1, t.2.2.2)
def pL (t : Sx) (k : Nat) (v : Int64) : Sx := (t.1, upf t.2.1 k v, t.2.2.1, t.2.2.2)
def pA (t : Sx) (a k : Nat) (v : Int32) : Sx := (t.1, t.2.1, upf t.2.2.1 a (upd (t.2.2.1 a) k v), t.2.2.2)
def pM (t : Sx) (a k : Nat) (v : Int64) : Sx := (t.1, t.2.1, t.2.2.1, upf t.2.2.2 a (vp_updL (t.2.2.2 a) k v))
/-- a whole array at once -/
def pW (t : Sx) (a : Nat) (f : Nat → Int32) : Sx := (t.1, t.2.1, upf t.2.2.1 a f, t.2.2.2)
/-- the place that an index names -/
def ix (i : Int32) : Nat := i.toNatClampNeg
abbrev Kx : Type := va_G × (Nat → ClassId) × (Nat → Nat)
/-- what a place of the world is: an array (its kind: 0 int, 1 boolean, 2 char, 3 long, 4 references; its length; its number), or an object (its class; its fields: 0 an int, 1 a long, 2 a place) -/
abbrev Sh : Type := (Nat × Nat × Nat) ⊕ (Nat × List (Nat × Nat))
def fvv (q : Nat → Nat) (t : Sx) (f : Nat × Nat) : Value := if f.1 = 0 then .int (gI t f.2) else if f.1 = 1 then .long (gL t f.2) else .ref (q f.2)
def cee (K : Kx) (t : Sx) (h : Sh) : va_E := match h with
  | .inl x => .inl (K.2.1 x.1, x.2.1, if x.1 = 3 then .inr (.inl (gM t x.2.2)) else if x.1 = 4 then .inr (.inr (.inr (.inr (fun j => if j < x.2.1 then some (K.2.2 (x.2.2 + j)) else none)))) else .inl (gA t x.2.2))
  | .inr x => .inr (x.1, x.2.map (fvv K.2.2 t))
def wdL (K : Kx) (t : Sx) : Nat → List Sh → va_W
  | _, [] => []
  | n, h :: r => (K.2.2 n, cee K t h) :: wdL K t (n + 1) r
def alb (k : Nat) : Sh := .inr (0, [(2, 32 + k), (0, 100 + k), (1, 100 + k), (0, 110 + k), (0, 120 + k), (0, 130 + k), (0, 140 + k)])
def rtx (j : Nat) : Sh := .inr (5, [(2, 41 + j), (0, 150 + j)])
def rch (j : Nat) : Sh := .inl (2, 80, 100 + j)
def shpL : List Sh :=
  [.inr (8, [(2, 1), (2, 7), (2, 8), (2, 40), (2, 14), (2, 15), (2, 19), (2, 20)]), .inr (1, [(1, 8), (2, 2), (2, 3), (2, 4), (2, 5), (2, 6)]), .inl (0, 40, 9), .inl (0, 40, 10), .inl (0, 720, 11), .inl (0, 240, 12), .inl (0, 3, 13), .inr (2, [(2, 1), (1, 9), (1, 10)]), .inr (6, [(2, 1), (2, 9), (2, 10), (2, 11), (2, 12), (2, 13), (1, 11), (1, 12)]), .inl (0, 80, 14), .inl (0, 10, 15), .inl (0, 10, 16), .inl (1, 10, 17), .inl (0, 40, 18), .inl (4, 8, 24), .inr (4, [(2, 1), (2, 7), (2, 8), (2, 14), (2, 16), (2, 17), (2, 18), (0, 51)]), .inl (3, 11, 0), .inl (3, 11, 1), .inl (1, 11, 19), .inr (7, [(2, 1), (2, 8)]), .inr (3, [(2, 21), (2, 22), (2, 23), (0, 49), (0, 50)]), .inl (0, 24, 20), .inl (0, 24, 21), .inl (1, 24, 22), alb 0, alb 1, alb 2, alb 3, alb 4, alb 5, alb 6, alb 7, rtx 0, rtx 1, rtx 2, rtx 3, rtx 4, rtx 5, rtx 6, rtx 7, rtx 8, rch 0, rch 1, rch 2, rch 3, rch 4, rch 5, rch 6, rch 7, rch 8]
def wd (K : Kx) (t : Sx) : va_W := wdL K t 0 shpL
def tyK (K : Kx) : List (ClassId × FieldType) := [(K.2.1 0, .int), (K.2.1 1, .boolean), (K.2.1 2, .char), (K.2.1 3, .long), (K.2.1 4, .object "MediaCatalog$Album")]
theorem sh_alb {k : Nat} (h : k < 8) : shpL[24 + k]? = some (alb k) := by
  rcases (show k = 0 ∨ k = 1 ∨ k = 2 ∨ k = 3 ∨ k = 4 ∨ k = 5 ∨ k = 6 ∨ k = 7 by omega) with rfl | rfl | rfl | rfl | rfl | rfl | rfl | rfl <;> rfl
theorem sh_rtx {k : Nat} (h : k < 9) : shpL[32 + k]? = some (rtx k) := by
  rcases (show k = 0 ∨ k = 1 ∨ k = 2 ∨ k = 3 ∨ k = 4 ∨ k = 5 ∨ k = 6 ∨ k = 7 ∨ k = 8 by omega) with rfl | rfl | rfl | rfl | rfl | rfl | rfl | rfl | rfl <;> rfl
theorem sh_rch {k : Nat} (h : k < 9) : shpL[41 + k]? = some (rch k) := by
  rcases (show k = 0 ∨ k = 1 ∨ k = 2 ∨ k = 3 ∨ k = 4 ∨ k = 5 ∨ k = 6 ∨ k = 7 ∨ k = 8 by omega) with rfl | rfl | rfl | rfl | rfl | rfl | rfl | rfl | rfl <;> rfl
theorem wdL_get {K : Kx} {t : Sx} : ∀ (L : List Sh) (n i : Nat), (wdL K t n L)[i]? = (L[i]?).map (fun h => (K.2.2 (n + i), cee K t h))
  | [], n, i => by simp [wdL]
  | h :: r, n, 0 => by simp [wdL]
  | h :: r, n, i + 1 => by
    simp only [wdL, List.getElem?_cons_succ]
    rw [wdL_get r (n + 1) i, show n + 1 + i = n + (i + 1) by omega]
theorem wd_get {K : Kx} {t : Sx} {P : Nat} {sh : Sh} (h : shpL[P]? = some sh) : (wd K t)[P]? = some (K.2.2 P, cee K t sh) := by
  rw [wd, wdL_get, h, Option.map_some, Nat.zero_add]
theorem wd_get' {K : Kx} {t : Sx} (i : Nat) : (wd K t)[i]? = (shpL[i]?).map (fun h => (K.2.2 i, cee K t h)) := by
  rw [wd, wdL_get, Nat.zero_add]
theorem wd_set {K : Kx} {t t' : Sx} {P : Nat} {sh : Sh} {e : va_E} (h : shpL[P]? = some sh) (hx : cee K t' sh = e) (ho : ∀ (j : Nat) (sj : Sh), j ≠ P → shpL[j]? = some sj → cee K t' sj = cee K t sj) : (wd K t).set P (K.2.2 P, e) = wd K t' := by
  apply List.ext_getElem?
  intro i
  rw [List.getElem?_set, wd_get', wd_get']
  by_cases hi : P = i
  · subst hi
    have hl : P < (wd K t).length := by
      have := wd_get (K := K) (t := t) h
      exact (List.getElem?_eq_some_iff.mp this).1
    simp [h, hx, hl]
  · simp only [hi, if_false]
    cases hs : shpL[i]? with
    | none => rfl
    | some sj => simp only [Option.map_some]; rw [ho i sj (fun e => hi e.symm) hs]
/-- what of the state a place shows -/
def kys (h : Sh) : List (Nat × Nat) := match h with
  | .inl x => if x.1 = 3 then [(11, x.2.2)] else if x.1 = 4 then [] else [(10, x.2.2)]
  | .inr x => x.2.filter (fun f => f.1 < 2)
theorem kys_apartB : ((List.range 50).all fun P => (List.range 50).all fun j => j == P || (kys (shpL.getD P (.inl (4, 0, 0)))).all fun x => !((kys (shpL.getD j (.inl (4, 0, 0)))).contains x)) = true := by decide +kernel
theorem kys_apart (P : Nat) (hP : P < 50) (j : Nat) (hj : j < 50) (hne : j ≠ P) : ∀ x ∈ kys (shpL.getD P (.inl (4, 0, 0))), x ∉ kys (shpL.getD j (.inl (4, 0, 0))) := by
  intro x hx hxj
  have h1 := List.all_eq_true.mp kys_apartB P (List.mem_range.mpr hP)
  have h2 := List.all_eq_true.mp h1 j (List.mem_range.mpr hj)
  rcases (Bool.or_eq_true _ _).mp h2 with h3 | h3
  · exact hne (by simpa using h3)
  · have h4 := List.all_eq_true.mp h3 x hx
    simp only [List.contains_iff_mem, Bool.not_eq_true', decide_eq_false_iff_not] at h4
    rw [Bool.eq_false_iff] at h4
    exact h4 (List.contains_iff_mem.mpr hxj)
theorem shpL_len {P : Nat} {sh : Sh} (h : shpL[P]? = some sh) : P < 50 := (List.getElem?_eq_some_iff.mp h).1
theorem kys_ne {P j : Nat} {sh sj : Sh} (h : shpL[P]? = some sh) (hj : shpL[j]? = some sj) (hne : j ≠ P) {x : Nat × Nat} (hx : x ∈ kys sh) : x ∉ kys sj := by
  have := kys_apart P (shpL_len h) j (shpL_len hj) hne x
  rw [List.getD_eq_getElem?_getD, List.getD_eq_getElem?_getD, h, hj] at this
  exact this hx
def flds (h : Sh) : List (Nat × Nat) := match h with
  | .inl _ => []
  | .inr x => x.2
theorem fld_onceB : ((List.range 50).all fun P => (List.range 28).all fun i => (List.range 28).all fun j => i == j || ((flds (shpL.getD P (.inl (4, 0, 0))))[i]? != (flds (shpL.getD P (.inl (4, 0, 0))))[j]?) || ((flds (shpL.getD P (.inl (4, 0, 0))))[i]?).isNone) = true := by decide +kernel
theorem fld_once (P : Nat) (hP : P < 50) (i : Nat) (hi : i < 28) (j : Nat) (hj : j < 28) (h : (flds (shpL.getD P (.inl (4, 0, 0))))[i]? = (flds (shpL.getD P (.inl (4, 0, 0))))[j]?) (h2 : ((flds (shpL.getD P (.inl (4, 0, 0))))[i]?).isSome = true) : i = j := by
  have h1 := List.all_eq_true.mp (List.all_eq_true.mp (List.all_eq_true.mp fld_onceB P (List.mem_range.mpr hP)) i (List.mem_range.mpr hi)) j (List.mem_range.mpr hj)
  rcases (Bool.or_eq_true _ _).mp h1 with h3 | h3
  · rcases (Bool.or_eq_true _ _).mp h3 with h4 | h4
    · exact by simpa using h4
    · rw [h] at h4
      simp at h4
  · rw [Option.isNone_iff_eq_none] at h3
    rw [h3] at h2
    cases h2
theorem fld_lenB : ((List.range 50).all fun P => decide ((flds (shpL.getD P (.inl (4, 0, 0)))).length ≤ 28)) = true := by decide +kernel
theorem fld_len (P : Nat) (hP : P < 50) : (flds (shpL.getD P (.inl (4, 0, 0)))).length ≤ 28 := of_decide_eq_true (List.all_eq_true.mp fld_lenB P (List.mem_range.mpr hP))
theorem fld_one {P ci : Nat} {fs : List (Nat × Nat)} (h : shpL[P]? = some (.inr (ci, fs))) {i j : Nat} {f : Nat × Nat} (hi : fs[i]? = some f) (hj : fs[j]? = some f) : i = j := by
  have hP := shpL_len h
  have e : flds (shpL.getD P (.inl (4, 0, 0))) = fs := by rw [List.getD_eq_getElem?_getD, h]; rfl
  have hl := fld_len P hP
  have ho := fld_once P hP
  rw [e] at hl ho
  have li := (List.getElem?_eq_some_iff.mp hi).1
  have lj := (List.getElem?_eq_some_iff.mp hj).1
  exact ho i (by omega) j (by omega) (by rw [hi, hj]) (by rw [hi]; rfl)
theorem kys_inr {ci : Nat} {fs : List (Nat × Nat)} {i : Nat} {f : Nat × Nat} (hi : fs[i]? = some f) (hf : f.1 < 2) : f ∈ kys (.inr (ci, fs)) := by
  simp only [kys, List.mem_filter]
  exact ⟨List.mem_of_getElem? hi, by simp [hf]⟩
/-- what a cell shows is what its keys show -/
theorem cee_same {K : Kx} {t t' : Sx} {sh : Sh} (hI : ∀ i, (0, i) ∈ kys sh → gI t' i = gI t i) (hL : ∀ i, (1, i) ∈ kys sh → gL t' i = gL t i) (hA : ∀ i, (10, i) ∈ kys sh → gA t' i = gA t i) (hM : ∀ i, (11, i) ∈ kys sh → gM t' i = gM t i) : cee K t' sh = cee K t sh := by
  cases sh with
  | inl x =>
    obtain ⟨ty, n, a⟩ := x
    simp only [cee, kys] at *
    by_cases h3 : ty = 3
    · subst h3
      rw [if_pos rfl, if_pos rfl, hM a (by simp)]
    · by_cases h4 : ty = 4
      · subst h4; rfl
      · simp only [h3, h4, if_false] at *
        rw [hA a (by simp)]
  | inr x =>
    obtain ⟨c, fs⟩ := x
    simp only [cee]
    refine congrArg (fun l => Sum.inr (c, l)) (List.map_congr_left fun f hf => ?_)
    obtain ⟨a, b⟩ := f
    simp only [fvv]
    by_cases h0 : a = 0
    · subst h0
      rw [if_pos rfl, if_pos rfl, hI b (by simp only [kys, List.mem_filter]; exact ⟨hf, by simp⟩)]
    · by_cases h1 : a = 1
      · subst h1
        rw [if_neg h0, if_pos rfl, if_neg h0, if_pos rfl, hL b (by simp only [kys, List.mem_filter]; exact ⟨hf, by simp⟩)]
      · rw [if_neg h0, if_neg h1, if_neg h0, if_neg h1]
theorem wd_pI {K : Kx} {t : Sx} {P ci kf j : Nat} {fs : List (Nat × Nat)} {v : Int32} (h : shpL[P]? = some (.inr (ci, fs))) (hk : fs[kf]? = some (0, j)) : (wd K t).set P (K.2.2 P, .inr (ci, (fs.map (fvv K.2.2 t)).set kf (.int v))) = wd K (pI t j v) := by
  refine wd_set h ?_ (fun i si hne hs => ?_)
  · simp only [cee]
    refine congrArg (fun l => Sum.inr (ci, l)) (List.ext_getElem? fun i => ?_)
    rw [List.getElem?_map, List.getElem?_set, List.getElem?_map]
    by_cases hi : kf = i
    · subst hi
      have hl := (List.getElem?_eq_some_iff.mp hk).1
      rw [hk, if_pos rfl, if_pos (by rw [List.length_map]; exact hl), Option.map_some]
      simp [fvv, gI, pI, upf]
    · simp only [hi, if_false]
      cases hf : fs[i]? with
      | none => rfl
      | some f =>
        obtain ⟨a, b⟩ := f
        simp only [Option.map_some, fvv, Option.some.injEq]
        by_cases h0 : a = 0
        · subst h0
          have hb : b ≠ j := fun e => hi (fld_one h hk (by rw [hf, e]))
          simp [gI, pI, upf, hb]
        · simp [h0, gL, pI]
  · have hx := kys_ne h hs hne (kys_inr (ci := ci) hk (by show (_ : Nat) < 2; omega))
    refine cee_same (fun k hk2 => ?_) (fun _ _ => rfl) (fun _ _ => rfl) (fun _ _ => rfl)
    have : k ≠ j := fun e => hx (by rw [e] at hk2; exact hk2)
    simp [gI, pI, upf, this]
theorem wd_pL {K : Kx} {t : Sx} {P ci kf j : Nat} {fs : List (Nat × Nat)} {v : Int64} (h : shpL[P]? = some (.inr (ci, fs))) (hk : fs[kf]? = some (1, j)) : (wd K t).set P (K.2.2 P, .inr (ci, (fs.map (fvv K.2.2 t)).set kf (.long v))) = wd K (pL t j v) := by
  refine wd_set h ?_ (fun i si hne hs => ?_)
  · simp only [cee]
    refine congrArg (fun l => Sum.inr (ci, l)) (List.ext_getElem? fun i => ?_)
    rw [List.getElem?_map, List.getElem?_set, List.getElem?_map]
    by_cases hi : kf = i
    · subst hi
      have hl := (List.getElem?_eq_some_iff.mp hk).1
      rw [hk, if_pos rfl, if_pos (by rw [List.length_map]; exact hl), Option.map_some]
      simp [fvv, gL, pL, upf]
    · simp only [hi, if_false]
      cases hf : fs[i]? with
      | none => rfl
      | some f =>
        obtain ⟨a, b⟩ := f
        simp only [Option.map_some, fvv, Option.some.injEq]
        by_cases h0 : a = 1
        · subst h0
          have hb : b ≠ j := fun e => hi (fld_one h hk (by rw [hf, e]))
          simp [gL, pL, upf, hb]
        · simp [h0, gI, pL]
  · have hx := kys_ne h hs hne (kys_inr (ci := ci) hk (by show (_ : Nat) < 2; omega))
    refine cee_same (fun _ _ => rfl) (fun k hk2 => ?_) (fun _ _ => rfl) (fun _ _ => rfl)
    have : k ≠ j := fun e => hx (by rw [e] at hk2; exact hk2)
    simp [gL, pL, upf, this]
theorem wd_pW {K : Kx} {t : Sx} {P ty n a : Nat} {f : Nat → Int32} (h : shpL[P]? = some (.inl (ty, n, a))) (h3 : ty < 3) : (wd K t).set P (K.2.2 P, .inl (K.2.1 ty, n, .inl f)) = wd K (pW t a f) := by
  have n3 : ty ≠ 3 := by omega
  have n4 : ty ≠ 4 := by omega
  refine wd_set h ?_ (fun i si hne hs => ?_)
  · have e : gA (pW t a f) a = f := by
      show (if a = a then f else _) = f
      exact if_pos rfl
    simp only [cee, n3, n4, if_false, e]
  · have hx := kys_ne h hs hne (x := (10, a)) (by simp [kys, n3, n4])
    refine cee_same (fun _ _ => rfl) (fun _ _ => rfl) (fun k hk2 => ?_) (fun _ _ => rfl)
    have : k ≠ a := fun e => hx (by rw [e] at hk2; exact hk2)
    funext i
    simp [gA, pW, upf, this]
theorem pA_pW (t : Sx) (a k : Nat) (v : Int32) : pA t a k v = pW t a (upd (gA t a) k v) := rfl
theorem wd_pM {K : Kx} {t : Sx} {P n a i : Nat} {v : Int64} (h : shpL[P]? = some (.inl (3, n, a))) : (wd K t).set P (K.2.2 P, .inl (K.2.1 3, n, .inr (.inl (vp_updL (gM t a) i v)))) = wd K (pM t a i v) := by
  refine wd_set h ?_ (fun i si hne hs => ?_)
  · simp only [cee, if_true]
    have : gM (pM t a i v) a = vp_updL (gM t a) i v := by
      show (if a = a then vp_updL (t.2.2.2 a) i v else _) = _
      exact if_pos rfl
    rw [this]
  · have hx := kys_ne h hs hne (x := (11, a)) (by simp [kys])
    refine cee_same (fun _ _ => rfl) (fun _ _ => rfl) (fun _ _ => rfl) (fun k hk2 => ?_)
    have : k ≠ a := fun e => hx (by rw [e] at hk2; exact hk2)
    funext i
    simp [gM, pM, upf, this]
/-- a guard: where it doesn't hold nothing is told of the run -/
noncomputable def gd {R : Type} (P : Prop) (k : Option R) : Option R := @ite _ P (Classical.propDecidable P) k none
theorem gd_some {R : Type} {P : Prop} {k : Option R} {r : R} (h : gd P k = some r) : P ∧ k = some r := by
  unfold gd at h
  by_cases q : P
  · rw [if_pos q] at h; exact ⟨q, h⟩
  · rw [if_neg q] at h; cases h
theorem gd_pos {R : Type} {P : Prop} {k : Option R} (h : P) : gd P k = k := by
  unfold gd
  rw [if_pos h]
def bd {α R : Type} (x : α) (k : α → Option R) : Option R := k x
def ushI (x y : Int32) : Int32 := (x.toUInt32 >>> (y.toUInt32 &&& Int32.toUInt32 31)).toInt32
def ushL (x : Int64) (y : Int32) : Int64 := (x.toUInt64 >>> (y.toInt64.toUInt64 &&& Int64.toUInt64 63)).toInt64
def shrL (x : Int64) (y : Int32) : Int64 := x >>> (y.toInt64 &&& 63)
def shlL (x : Int64) (y : Int32) : Int64 := x <<< (y.toInt64 &&& 63)
def i2c (x : Int32) : Int32 := (x.toUInt32 % 65536).toInt32
/-- a boolean, a char -/
def gz (x : Int32) : Prop := x = 0 ∨ x = 1
def gch (x : Int32) : Prop := narrow .char (.int x) = .int x
theorem gz_nar {x : Int32} (h : gz x) : narrow .boolean (.int x) = .int x := by
  rcases h with rfl | rfl <;> rfl
theorem gz_fit {x : Int32} (h : gz x) : fits .boolean (.int x) = true := by
  rcases h with rfl | rfl <;> rfl
theorem gz_vnar {x : Int32} (h : gz x) : vp_nar .boolean x = x := by
  rcases h with rfl | rfl <;> rfl
theorem gch_nar {x : Int32} (h : gch x) : narrow .char (.int x) = .int x := h
theorem gch_vnar {x : Int32} (h : gch x) : vp_nar .char x = x := by
  unfold vp_nar
  rw [gch_nar h]
theorem vp_in_lt {i : Int32} {n : Nat} (h : vp_in i n) : ix i < n := by
  unfold vp_in at h
  unfold ix
  exact Nat.lt_of_not_le (fun q => h (Or.inr q))
def nestL : List (String × Nat × MethodName) := [(RX1, 35, yX8_holds), (RX1, 45, yX8_only), (RX2, 36, yX8_holds), (RX2, 40, yX8_only), (RX6, 38, yX8_isWithin), (RX6, 61, yX8_only), (RX4, 111, yX8_holds), (RX4, 119, yX8_only), (RX4, 122, yX8_isWithin), (RX0, 54, yX8_holds), (RX1, 27, yX8_isWithin), (RX6, 84, yX8_holds), (RX7, 42, yX8_holds)]
def NW (U : State) : Prop := ∀ w ∈ nestL, va_Nw (.methodLinkNest w.1 w.2.1 w.2.2 RX8) U
theorem NW.warm {s U : State} (hW : s.WarmedH U.vm) (h : NW s) : NW U := fun w hw => va_Nw.warmM hW (h w hw)
theorem NW.same {u U : State} (e : u.vm = U.vm) (h : NW u) : NW U := fun w hw => va_Nw.same rfl e (h w hw)
def lstV (j : Nat) : Int32 := if j = 2 then 1900 else 0
def grtV (j : Nat) : Int32 := if j = 0 then 2 else if j = 1 then 5 else if j = 2 then 2100 else if j = 3 then 20 else if j = 4 then 9999 else 1023
def SF (K : Kx) (A : Nat → Prop) (U : State) (H : Heap) : Prop := va_Z RX8 "LEAST_VALUES" "[I" (.ref (K.2.2 100)) A U H ∧ va_T .int (K.2.2 100) 6 (fun j => .int (lstV j)) A U H ∧ va_Z RX8 "GREATEST_VALUES" "[I" (.ref (K.2.2 101)) A U H ∧ va_T .int (K.2.2 101) 6 (fun j => .int (grtV j)) A U H
theorem SF.go {K : Kx} {A B : Nat → Prop} {u U : State} {H H1 : Heap} (hvm : u.vm.Alike U.vm) (hq : ∀ a : Nat, a < H.size → ¬ A a → H1[a]? = H[a]?) (hAB : ∀ q, B q → A q) (h : SF K A u H) : SF K B U H1 :=
  ⟨((h.1.moved hvm).kept hq).narrow hAB, ((h.2.1.moved hvm).kept hq).narrow hAB, ((h.2.2.1.moved hvm).kept hq).narrow hAB, ((h.2.2.2.moved hvm).kept hq).narrow hAB⟩
def Cx (p : Program) (R : Room) (s : State) (m : MethodId) (args : Array Value) (meth : Method) (c : Code) (cc : ByteArray) (nL : Nat) (Ts : List Cond) (own : String) (K : Kx) (A : Nat → Prop) (ret : Option FieldType) (cells slots : Nat) : Prop :=
  p.tables.exec = Jvm.exec ∧ c.code = cc ∧ c.maxLocals = nL ∧ s.vm.findClass own = some m.cls ∧ (∀ w ∈ Ts, w.before args s = true) ∧ va_K K.1 vwCl (tyK K) s ∧ meth.locks = false ∧ meth.sig.returnType = ret ∧ (∀ q, s.heap.size ≤ q → A q) ∧ NW s ∧ SF K A s s.heap ∧ cells ≤ R.cells ∧ slots ≤ R.slots
section CXS
variable {p : Program} {R : Room} {s : State} {m : MethodId} {args : Array Value} {meth : Method} {c : Code} {cc : ByteArray} {nL : Nat} {Ts : List Cond} {own : String} {K : Kx} {A : Nat → Prop} {ret : Option FieldType} {cells slots : Nat}
theorem Cx.ow (h : Cx p R s m args meth c cc nL Ts own K A ret cells slots) : s.vm.findClass own = some m.cls := h.2.2.2.1
theorem Cx.hts (h : Cx p R s m args meth c cc nL Ts own K A ret cells slots) : ∀ w ∈ Ts, w.before args s = true := h.2.2.2.2.1
theorem Cx.kK (h : Cx p R s m args meth c cc nL Ts own K A ret cells slots) : va_K K.1 vwCl (tyK K) s := h.2.2.2.2.2.1
theorem Cx.locks (h : Cx p R s m args meth c cc nL Ts own K A ret cells slots) : meth.locks = false := h.2.2.2.2.2.2.1
theorem Cx.retT (h : Cx p R s m args meth c cc nL Ts own K A ret cells slots) : meth.sig.returnType = ret := h.2.2.2.2.2.2.2.1
theorem Cx.hA (h : Cx p R s m args meth c cc nL Ts own K A ret cells slots) : ∀ q, s.heap.size ≤ q → A q := h.2.2.2.2.2.2.2.2.1
theorem Cx.nW (h : Cx p R s m args meth c cc nL Ts own K A ret cells slots) : NW s := h.2.2.2.2.2.2.2.2.2.1
theorem Cx.sF (h : Cx p R s m args meth c cc nL Ts own K A ret cells slots) : SF K A s s.heap := h.2.2.2.2.2.2.2.2.2.2.1
theorem Cx.room (h : Cx p R s m args meth c cc nL Ts own K A ret cells slots) : cells + 0 ≤ R.cells ∧ slots + 0 ≤ R.slots := h.2.2.2.2.2.2.2.2.2.2.2
end CXS
/-- my judgement: at pc, with these locals and stack over the abstract state t, what is left of the run is told by k: if k tells r, the machine comes to a state with Q r -/
def V (p : Program) (l : Launch) (e : Env) (R : Room) (s : State) (m : MethodId) (args : Array Value) (below : List Frame) (meth : Method) (c : Code) (K : Kx) (A : Nat → Prop) (cells slots nL : Nat) {Rt : Type} (Q : Rt → State → Prop) (pc : Nat) (lv : List (Nat × Value)) (st : List Value) (t : Sx) (k : Option Rt) : Prop :=
  ∀ r, k = some r → ∀ (ls : Array Slot) (H : Heap) (locs : List Loc), lv_has ls nL lv → va_P K.1 vwCl (wd K t) H → va_D A (wd K t) → va_S A s.heap H locs → W p l e R s m args below meth c H locs cells slots (Q r) (F0 m pc ls st)
def t00 : Sx := (fun _ => 0, fun _ => 0, fun _ _ => 0, fun _ _ => 0)
/-- the cells that a method may change: the world's, and new ones -/
def aA (K : Kx) (sz : Nat) : Nat → Prop := va_A (wd K t00) sz
theorem aA_eq (K : Kx) (t : Sx) (sz : Nat) : va_A (wd K t) sz = aA K sz := by
  funext q
  unfold aA va_A
  refine propext (or_congr_left ⟨fun ⟨i, ee, h⟩ => ?_, fun ⟨i, ee, h⟩ => ?_⟩)
  all_goals
    rw [wd_get'] at h
    cases hs : shpL[i]? with
    | none => rw [hs] at h; cases h
    | some sh =>
      rw [hs, Option.map_some] at h
      have := Option.some.inj h
      exact ⟨i, _, by rw [wd_get', hs, Option.map_some, (Prod.mk.inj this).1]⟩
/-- a method's start: its arguments, the world at t -/
def PW (K : Kx) (av : List Value) (t : Sx) (sz : Nat) : Array Value → State → Prop := va_Pc av (fun U => U.heap.size = sz ∧ va_P K.1 vwCl (wd K t) U.heap ∧ va_K K.1 vwCl (tyK K) U ∧ va_D (fun _ => True) (wd K t) ∧ NW U ∧ SF K (aA K sz) U U.heap)
/-- a method's end: its answer, the world behind it -/
def QW (K : Kx) (o : Option Value × Sx) (sz : Nat) : Array Value → State → Outcome → State → Prop := fun _ st oc tt => (oc = .returned o.1 ∧ va_P K.1 vwCl (wd K o.2) tt.heap ∧ va_D (aA K sz) (wd K o.2)) ∧ va_F (aA K sz) st tt
/-- a contract: from the world at t, if f0 tells r, the method answers (g0 r).1 and leaves the world at (g0 r).2 -/
def CT (l : Launch) (K : Kx) (y : MethodName) (ws : List Cond) (rm : Room) (av : List Value) (t : Sx) {R0 : Type} (f0 : Option R0) (g0 : R0 → Option Value × Sx) : Prop := ∀ r, f0 = some r → ∀ sz, Met l y ws rm (PW K av t sz) (QW K (g0 r) sz) 0 0 (aA K sz)
def kRI (t : Sx) (r : Int32) : Option Value × Sx := (some (.int r), t)
def kRL (t : Sx) (r : Int64) : Option Value × Sx := (some (.long r), t)
def kWI (r : Int32 × Sx) : Option Value × Sx := (some (.int r.1), r.2)
def kWL (r : Int64 × Sx) : Option Value × Sx := (some (.long r.1), r.2)
def kWV (r : Sx) : Option Value × Sx := (none, r)
def kRR (K : Kx) (t : Sx) (r : Nat) : Option Value × Sx := (some (.ref (K.2.2 r)), t)
/-- Q of a method -/
def QM (below : List Frame) (K : Kx) (args : Array Value) (s : State) {R0 : Type} (g0 : R0 → Option Value × Sx) (r : R0) : State → Prop := MQ below (QW K (g0 r) s.heap.size) args s 0 0 (aA K s.heap.size)
theorem PW_blind (K : Kx) (av : List Value) (t : Sx) (sz : Nat) : FrameBlind (PW K av t sz) := fun a U g mk q => by
  obtain ⟨q0, q1, qP, qK, qD, qN, qF⟩ := q
  exact ⟨q0, q1, qP, va_K.moved (u := U) (U := U.calling g mk a) (Vm.Alike.refl U.vm) qK, qD, NW.same rfl qN, SF.go (u := U) (U := U.calling g mk a) (Vm.Alike.refl U.vm) (fun _ _ _ => rfl) (fun _ h => h) qF⟩
section VV
variable {p : Program} {l : Launch} {e : Env} {R : Room} {s : State} {m : MethodId} {args : Array Value} {below : List Frame} {meth : Method} {c : Code} {K : Kx} {A : Nat → Prop} {cells slots nL : Nat} {Rt : Type} {Q : Rt → State → Prop} {pc : Nat} {lv : List (Nat × Value)} {st : List Value} {t : Sx} {k : Option Rt} {cc : ByteArray} {Ts : List Cond} {own : String} {ret : Option FieldType}
theorem V_iconst (hc : Cx p R s m args meth c cc nL Ts own K A ret cells slots) {n : Int} {v : Int32} (hdg : decode cc pc = .ok (.iconst n, 1)) (hv : Int32.ofInt n = v) (h : V p l e R s m args below meth c K A cells slots nL Q (pc + 1) lv (.int v :: st) t k) : V p l e R s m args below meth c K A cells slots nL Q pc lv (st) t k := fun r hr ls H locs hl hP hD hS => lv_iconst hc.1 hc.2.1 hdg hv (h r hr ls H locs hl hP hD hS)
theorem V_bipush (hc : Cx p R s m args meth c cc nL Ts own K A ret cells slots) {n : Int} {v : Int32} (hdg : decode cc pc = .ok (.bipush n, 2)) (hv : (Int8.ofInt n).toInt32 = v) (h : V p l e R s m args below meth c K A cells slots nL Q (pc + 2) lv (.int v :: st) t k) : V p l e R s m args below meth c K A cells slots nL Q pc lv (st) t k := fun r hr ls H locs hl hP hD hS => lv_bipush hc.1 hc.2.1 hdg hv (h r hr ls H locs hl hP hD hS)
theorem V_sipush (hc : Cx p R s m args meth c cc nL Ts own K A ret cells slots) {n : Int} {v : Int32} (hdg : decode cc pc = .ok (.sipush n, 3)) (hv : (Int16.ofInt n).toInt32 = v) (h : V p l e R s m args below meth c K A cells slots nL Q (pc + 3) lv (.int v :: st) t k) : V p l e R s m args below meth c K A cells slots nL Q pc lv (st) t k := fun r hr ls H locs hl hP hD hS => lv_sipush hc.1 hc.2.1 hdg hv (h r hr ls H locs hl hP hD hS)
theorem V_lconst (hc : Cx p R s m args meth c cc nL Ts own K A ret cells slots) {n : Fin 2} {v : Int64} (hdg : decode cc pc = .ok (.lconst n, 1)) (hv : Int64.ofNat (n : Nat) = v) (h : V p l e R s m args below meth c K A cells slots nL Q (pc + 1) lv (.long v :: st) t k) : V p l e R s m args below meth c K A cells slots nL Q pc lv (st) t k := fun r hr ls H locs hl hP hD hS => lv_lconst hc.1 hc.2.1 hdg hv (h r hr ls H locs hl hP hD hS)
theorem V_ldc (hc : Cx p R s m args meth c cc nL Ts own K A ret cells slots) {index : Nat} {v : Int32} (hw : Cond.constant own index v ∈ Ts) (hdg : decode cc pc = .ok (.ldc index, 2)) (h : V p l e R s m args below meth c K A cells slots nL Q (pc + 2) lv (.int v :: st) t k) : V p l e R s m args below meth c K A cells slots nL Q pc lv st t k := fun r hr ls H locs hl hP hD hS => lv_ldc hc.1 hc.2.1 hc.ow (hc.hts _ hw) hdg (h r hr ls H locs hl hP hD hS)
theorem V_ldc2 (hc : Cx p R s m args meth c cc nL Ts own K A ret cells slots) {index : Nat} {v : Int64} (hw : Cond.constantLong own index v ∈ Ts) (hdg : decode cc pc = .ok (.ldc2_w index, 3)) (h : V p l e R s m args below meth c K A cells slots nL Q (pc + 3) lv (.long v :: st) t k) : V p l e R s m args below meth c K A cells slots nL Q pc lv st t k := fun r hr ls H locs hl hP hD hS => lv_ldc2 hc.1 hc.2.1 hc.ow (hc.hts _ hw) hdg (h r hr ls H locs hl hP hD hS)
theorem V_iload_n (hc : Cx p R s m args meth c cc nL Ts own K A ret cells slots) {kk : Fin 4} {i : Nat} {x : Int32} (hdg : decode cc pc = .ok (.iload_n kk, 1)) (hi : (kk : Nat) = i) (j : Nat) (hv : lv[j]? = some (i, .int x)) (h : V p l e R s m args below meth c K A cells slots nL Q (pc + 1) lv (.int x :: st) t k) : V p l e R s m args below meth c K A cells slots nL Q pc lv (st) t k := fun r hr ls H locs hl hP hD hS => lv_iload_n hc.1 hc.2.1 hdg hi (lv_at hl j hv) (h r hr ls H locs hl hP hD hS)
theorem V_iload (hc : Cx p R s m args meth c cc nL Ts own K A ret cells slots) {i : Nat} {x : Int32} (hdg : decode cc pc = .ok (.iload i, 2)) (j : Nat) (hv : lv[j]? = some (i, .int x)) (h : V p l e R s m args below meth c K A cells slots nL Q (pc + 2) lv (.int x :: st) t k) : V p l e R s m args below meth c K A cells slots nL Q pc lv (st) t k := fun r hr ls H locs hl hP hD hS => lv_iload hc.1 hc.2.1 hdg (lv_at hl j hv) (h r hr ls H locs hl hP hD hS)
theorem V_istore_n (hc : Cx p R s m args meth c cc nL Ts own K A ret cells slots) {kk : Fin 4} {i : Nat} {x : Int32} {lv' : List (Nat × Value)} (hdg : decode cc pc = .ok (.istore_n kk, 1)) (hi : (kk : Nat) = i) (hn : i < nL) (hl' : (i, Value.int x) :: lv.filter (fun q => !(q.1 == i) && !(q.1 + 1 == i && q.2.category == 2)) = lv') (h : V p l e R s m args below meth c K A cells slots nL Q (pc + 1) lv' st t k) : V p l e R s m args below meth c K A cells slots nL Q pc lv (.int x :: st) t k := fun r hr ls H locs hl hP hD hS => lv_istore_n hc.1 hc.2.1 hdg hi hl hn hl' (fun ls' hl2 => h r hr ls' H locs hl2 hP hD hS)
theorem V_istore (hc : Cx p R s m args meth c cc nL Ts own K A ret cells slots) {i : Nat} {x : Int32} {lv' : List (Nat × Value)} (hdg : decode cc pc = .ok (.istore i, 2)) (hn : i < nL) (hl' : (i, Value.int x) :: lv.filter (fun q => !(q.1 == i) && !(q.1 + 1 == i && q.2.category == 2)) = lv') (h : V p l e R s m args below meth c K A cells slots nL Q (pc + 2) lv' st t k) : V p l e R s m args below meth c K A cells slots nL Q pc lv (.int x :: st) t k := fun r hr ls H locs hl hP hD hS => lv_istore hc.1 hc.2.1 hdg hl hn hl' (fun ls' hl2 => h r hr ls' H locs hl2 hP hD hS)
theorem V_lload_n (hc : Cx p R s m args meth c cc nL Ts own K A ret cells slots) {kk : Fin 4} {i : Nat} {x : Int64} (hdg : decode cc pc = .ok (.lload_n kk, 1)) (hi : (kk : Nat) = i) (j : Nat) (hv : lv[j]? = some (i, .long x)) (h : V p l e R s m args below meth c K A cells slots nL Q (pc + 1) lv (.long x :: st) t k) : V p l e R s m args below meth c K A cells slots nL Q pc lv (st) t k := fun r hr ls H locs hl hP hD hS => lv_lload_n hc.1 hc.2.1 hdg hi (lv_at hl j hv) (h r hr ls H locs hl hP hD hS)
theorem V_lload (hc : Cx p R s m args meth c cc nL Ts own K A ret cells slots) {i : Nat} {x : Int64} (hdg : decode cc pc = .ok (.lload i, 2)) (j : Nat) (hv : lv[j]? = some (i, .long x)) (h : V p l e R s m args below meth c K A cells slots nL Q (pc + 2) lv (.long x :: st) t k) : V p l e R s m args below meth c K A cells slots nL Q pc lv (st) t k := fun r hr ls H locs hl hP hD hS => lv_lload hc.1 hc.2.1 hdg (lv_at hl j hv) (h r hr ls H locs hl hP hD hS)
theorem V_lstore_n (hc : Cx p R s m args meth c cc nL Ts own K A ret cells slots) {kk : Fin 4} {i : Nat} {x : Int64} {lv' : List (Nat × Value)} (hdg : decode cc pc = .ok (.lstore_n kk, 1)) (hi : (kk : Nat) = i) (hn : i + 1 < nL) (hl' : (i, Value.long x) :: lv.filter (fun q => !(q.1 == i) && (!(q.1 == i + 1) && !(q.1 + 1 == i && q.2.category == 2))) = lv') (h : V p l e R s m args below meth c K A cells slots nL Q (pc + 1) lv' st t k) : V p l e R s m args below meth c K A cells slots nL Q pc lv (.long x :: st) t k := fun r hr ls H locs hl hP hD hS => lv_lstore_n hc.1 hc.2.1 hdg hi hl hn hl' (fun ls' hl2 => h r hr ls' H locs hl2 hP hD hS)
theorem V_lstore (hc : Cx p R s m args meth c cc nL Ts own K A ret cells slots) {i : Nat} {x : Int64} {lv' : List (Nat × Value)} (hdg : decode cc pc = .ok (.lstore i, 2)) (hn : i + 1 < nL) (hl' : (i, Value.long x) :: lv.filter (fun q => !(q.1 == i) && (!(q.1 == i + 1) && !(q.1 + 1 == i && q.2.category == 2))) = lv') (h : V p l e R s m args below meth c K A cells slots nL Q (pc + 2) lv' st t k) : V p l e R s m args below meth c K A cells slots nL Q pc lv (.long x :: st) t k := fun r hr ls H locs hl hP hD hS => lv_lstore hc.1 hc.2.1 hdg hl hn hl' (fun ls' hl2 => h r hr ls' H locs hl2 hP hD hS)
theorem V_aload_n (hc : Cx p R s m args meth c cc nL Ts own K A ret cells slots) {kk : Fin 4} {i : Nat} {x : Nat} (hdg : decode cc pc = .ok (.aload_n kk, 1)) (hi : (kk : Nat) = i) (j : Nat) (hv : lv[j]? = some (i, .ref x)) (h : V p l e R s m args below meth c K A cells slots nL Q (pc + 1) lv (.ref x :: st) t k) : V p l e R s m args below meth c K A cells slots nL Q pc lv (st) t k := fun r hr ls H locs hl hP hD hS => lv_aload_n hc.1 hc.2.1 hdg hi (lv_at hl j hv) (h r hr ls H locs hl hP hD hS)
theorem V_aload (hc : Cx p R s m args meth c cc nL Ts own K A ret cells slots) {i : Nat} {x : Nat} (hdg : decode cc pc = .ok (.aload i, 2)) (j : Nat) (hv : lv[j]? = some (i, .ref x)) (h : V p l e R s m args below meth c K A cells slots nL Q (pc + 2) lv (.ref x :: st) t k) : V p l e R s m args below meth c K A cells slots nL Q pc lv (st) t k := fun r hr ls H locs hl hP hD hS => lv_aload hc.1 hc.2.1 hdg (lv_at hl j hv) (h r hr ls H locs hl hP hD hS)
theorem V_astore_n (hc : Cx p R s m args meth c cc nL Ts own K A ret cells slots) {kk : Fin 4} {i : Nat} {x : Nat} {lv' : List (Nat × Value)} (hdg : decode cc pc = .ok (.astore_n kk, 1)) (hi : (kk : Nat) = i) (hn : i < nL) (hl' : (i, Value.ref x) :: lv.filter (fun q => !(q.1 == i) && !(q.1 + 1 == i && q.2.category == 2)) = lv') (h : V p l e R s m args below meth c K A cells slots nL Q (pc + 1) lv' st t k) : V p l e R s m args below meth c K A cells slots nL Q pc lv (.ref x :: st) t k := fun r hr ls H locs hl hP hD hS => lv_astore_n hc.1 hc.2.1 hdg hi hl hn hl' (fun ls' hl2 => h r hr ls' H locs hl2 hP hD hS)
theorem V_astore (hc : Cx p R s m args meth c cc nL Ts own K A ret cells slots) {i : Nat} {x : Nat} {lv' : List (Nat × Value)} (hdg : decode cc pc = .ok (.astore i, 2)) (hn : i < nL) (hl' : (i, Value.ref x) :: lv.filter (fun q => !(q.1 == i) && !(q.1 + 1 == i && q.2.category == 2)) = lv') (h : V p l e R s m args below meth c K A cells slots nL Q (pc + 2) lv' st t k) : V p l e R s m args below meth c K A cells slots nL Q pc lv (.ref x :: st) t k := fun r hr ls H locs hl hP hD hS => lv_astore hc.1 hc.2.1 hdg hl hn hl' (fun ls' hl2 => h r hr ls' H locs hl2 hP hD hS)
theorem V_iinc (hc : Cx p R s m args meth c cc nL Ts own K A ret cells slots) {i : Nat} {n : Int} {x v : Int32} {lv' : List (Nat × Value)} (hdg : decode cc pc = .ok (.iinc i n, 3)) (j : Nat) (hk : lv[j]? = some (i, .int x)) (hv : x + Int32.ofInt n = v) (hn : i < nL) (hl' : (i, Value.int v) :: lv.filter (fun q => !(q.1 == i) && !(q.1 + 1 == i && q.2.category == 2)) = lv') (h : V p l e R s m args below meth c K A cells slots nL Q (pc + 3) lv' st t k) : V p l e R s m args below meth c K A cells slots nL Q pc lv st t k := fun r hr ls H locs hl hP hD hS => lv_iinc hc.1 hc.2.1 hdg hl hk hv hn hl' (fun ls' hl2 => h r hr ls' H locs hl2 hP hD hS)
theorem V_iadd (hc : Cx p R s m args meth c cc nL Ts own K A ret cells slots) {x y : Int32} (hdg : decode cc pc = .ok (.iadd, 1))  (h : V p l e R s m args below meth c K A cells slots nL Q (pc + 1) lv (.int (x + y) :: st) t k) : V p l e R s m args below meth c K A cells slots nL Q pc lv (.int y :: .int x :: st) t k := fun r hr ls H locs hl hP hD hS => lv_iadd hc.1 hc.2.1 hdg (h r hr ls H locs hl hP hD hS)
theorem V_isub (hc : Cx p R s m args meth c cc nL Ts own K A ret cells slots) {x y : Int32} (hdg : decode cc pc = .ok (.isub, 1))  (h : V p l e R s m args below meth c K A cells slots nL Q (pc + 1) lv (.int (x - y) :: st) t k) : V p l e R s m args below meth c K A cells slots nL Q pc lv (.int y :: .int x :: st) t k := fun r hr ls H locs hl hP hD hS => lv_isub hc.1 hc.2.1 hdg (h r hr ls H locs hl hP hD hS)
theorem V_imul (hc : Cx p R s m args meth c cc nL Ts own K A ret cells slots) {x y : Int32} (hdg : decode cc pc = .ok (.imul, 1))  (h : V p l e R s m args below meth c K A cells slots nL Q (pc + 1) lv (.int (x * y) :: st) t k) : V p l e R s m args below meth c K A cells slots nL Q pc lv (.int y :: .int x :: st) t k := fun r hr ls H locs hl hP hD hS => lv_imul hc.1 hc.2.1 hdg (h r hr ls H locs hl hP hD hS)
theorem V_iand (hc : Cx p R s m args meth c cc nL Ts own K A ret cells slots) {x y : Int32} (hdg : decode cc pc = .ok (.iand, 1))  (h : V p l e R s m args below meth c K A cells slots nL Q (pc + 1) lv (.int (x &&& y) :: st) t k) : V p l e R s m args below meth c K A cells slots nL Q pc lv (.int y :: .int x :: st) t k := fun r hr ls H locs hl hP hD hS => lv_iand hc.1 hc.2.1 hdg (h r hr ls H locs hl hP hD hS)
theorem V_ior (hc : Cx p R s m args meth c cc nL Ts own K A ret cells slots) {x y : Int32} (hdg : decode cc pc = .ok (.ior, 1))  (h : V p l e R s m args below meth c K A cells slots nL Q (pc + 1) lv (.int (x ||| y) :: st) t k) : V p l e R s m args below meth c K A cells slots nL Q pc lv (.int y :: .int x :: st) t k := fun r hr ls H locs hl hP hD hS => lv_ior hc.1 hc.2.1 hdg (h r hr ls H locs hl hP hD hS)
theorem V_ixor (hc : Cx p R s m args meth c cc nL Ts own K A ret cells slots) {x y : Int32} (hdg : decode cc pc = .ok (.ixor, 1))  (h : V p l e R s m args below meth c K A cells slots nL Q (pc + 1) lv (.int (x ^^^ y) :: st) t k) : V p l e R s m args below meth c K A cells slots nL Q pc lv (.int y :: .int x :: st) t k := fun r hr ls H locs hl hP hD hS => lv_ixor hc.1 hc.2.1 hdg (h r hr ls H locs hl hP hD hS)
theorem V_ladd (hc : Cx p R s m args meth c cc nL Ts own K A ret cells slots) {x y : Int64} (hdg : decode cc pc = .ok (.ladd, 1))  (h : V p l e R s m args below meth c K A cells slots nL Q (pc + 1) lv (.long (x + y) :: st) t k) : V p l e R s m args below meth c K A cells slots nL Q pc lv (.long y :: .long x :: st) t k := fun r hr ls H locs hl hP hD hS => lv_ladd hc.1 hc.2.1 hdg (h r hr ls H locs hl hP hD hS)
theorem V_lsub (hc : Cx p R s m args meth c cc nL Ts own K A ret cells slots) {x y : Int64} (hdg : decode cc pc = .ok (.lsub, 1))  (h : V p l e R s m args below meth c K A cells slots nL Q (pc + 1) lv (.long (x - y) :: st) t k) : V p l e R s m args below meth c K A cells slots nL Q pc lv (.long y :: .long x :: st) t k := fun r hr ls H locs hl hP hD hS => lv_lsub hc.1 hc.2.1 hdg (h r hr ls H locs hl hP hD hS)
theorem V_land (hc : Cx p R s m args meth c cc nL Ts own K A ret cells slots) {x y : Int64} (hdg : decode cc pc = .ok (.land, 1))  (h : V p l e R s m args below meth c K A cells slots nL Q (pc + 1) lv (.long (x &&& y) :: st) t k) : V p l e R s m args below meth c K A cells slots nL Q pc lv (.long y :: .long x :: st) t k := fun r hr ls H locs hl hP hD hS => lv_land hc.1 hc.2.1 hdg (h r hr ls H locs hl hP hD hS)
theorem V_lor (hc : Cx p R s m args meth c cc nL Ts own K A ret cells slots) {x y : Int64} (hdg : decode cc pc = .ok (.lor, 1))  (h : V p l e R s m args below meth c K A cells slots nL Q (pc + 1) lv (.long (x ||| y) :: st) t k) : V p l e R s m args below meth c K A cells slots nL Q pc lv (.long y :: .long x :: st) t k := fun r hr ls H locs hl hP hD hS => lv_lor hc.1 hc.2.1 hdg (h r hr ls H locs hl hP hD hS)
theorem V_lxor (hc : Cx p R s m args meth c cc nL Ts own K A ret cells slots) {x y : Int64} (hdg : decode cc pc = .ok (.lxor, 1))  (h : V p l e R s m args below meth c K A cells slots nL Q (pc + 1) lv (.long (x ^^^ y) :: st) t k) : V p l e R s m args below meth c K A cells slots nL Q pc lv (.long y :: .long x :: st) t k := fun r hr ls H locs hl hP hD hS => lv_lxor hc.1 hc.2.1 hdg (h r hr ls H locs hl hP hD hS)
theorem V_ishr (hc : Cx p R s m args meth c cc nL Ts own K A ret cells slots) {x y : Int32} (hdg : decode cc pc = .ok (.ishr, 1))  (h : V p l e R s m args below meth c K A cells slots nL Q (pc + 1) lv (.int (x >>> (y &&& 31)) :: st) t k) : V p l e R s m args below meth c K A cells slots nL Q pc lv (.int y :: .int x :: st) t k := fun r hr ls H locs hl hP hD hS => lv_ishr hc.1 hc.2.1 hdg (h r hr ls H locs hl hP hD hS)
theorem V_iushr (hc : Cx p R s m args meth c cc nL Ts own K A ret cells slots) {x y : Int32} (hdg : decode cc pc = .ok (.iushr, 1))  (h : V p l e R s m args below meth c K A cells slots nL Q (pc + 1) lv (.int (ushI x y) :: st) t k) : V p l e R s m args below meth c K A cells slots nL Q pc lv (.int y :: .int x :: st) t k := fun r hr ls H locs hl hP hD hS => lv_iushr hc.1 hc.2.1 hdg rfl (h r hr ls H locs hl hP hD hS)
theorem V_lshr (hc : Cx p R s m args meth c cc nL Ts own K A ret cells slots) {x : Int64} {y : Int32} (hdg : decode cc pc = .ok (.lshr, 1))  (h : V p l e R s m args below meth c K A cells slots nL Q (pc + 1) lv (.long (shrL x y) :: st) t k) : V p l e R s m args below meth c K A cells slots nL Q pc lv (.int y :: .long x :: st) t k := fun r hr ls H locs hl hP hD hS => lv_lshr hc.1 hc.2.1 hdg rfl (h r hr ls H locs hl hP hD hS)
theorem V_lushr (hc : Cx p R s m args meth c cc nL Ts own K A ret cells slots) {x : Int64} {y : Int32} (hdg : decode cc pc = .ok (.lushr, 1))  (h : V p l e R s m args below meth c K A cells slots nL Q (pc + 1) lv (.long (ushL x y) :: st) t k) : V p l e R s m args below meth c K A cells slots nL Q pc lv (.int y :: .long x :: st) t k := fun r hr ls H locs hl hP hD hS => lv_lushr hc.1 hc.2.1 hdg rfl (h r hr ls H locs hl hP hD hS)
theorem V_lshl (hc : Cx p R s m args meth c cc nL Ts own K A ret cells slots) {x : Int64} {y : Int32} (hdg : decode cc pc = .ok (.lshl, 1))  (h : V p l e R s m args below meth c K A cells slots nL Q (pc + 1) lv (.long (shlL x y) :: st) t k) : V p l e R s m args below meth c K A cells slots nL Q pc lv (.int y :: .long x :: st) t k := fun r hr ls H locs hl hP hD hS => lv_lshl hc.1 hc.2.1 hdg rfl (h r hr ls H locs hl hP hD hS)
theorem V_l2i (hc : Cx p R s m args meth c cc nL Ts own K A ret cells slots) {x : Int64} (hdg : decode cc pc = .ok (.l2i, 1))  (h : V p l e R s m args below meth c K A cells slots nL Q (pc + 1) lv (.int x.toInt32 :: st) t k) : V p l e R s m args below meth c K A cells slots nL Q pc lv (.long x :: st) t k := fun r hr ls H locs hl hP hD hS => lv_l2i hc.1 hc.2.1 hdg rfl (h r hr ls H locs hl hP hD hS)
theorem V_i2c (hc : Cx p R s m args meth c cc nL Ts own K A ret cells slots) {x : Int32} (hdg : decode cc pc = .ok (.i2c, 1))  (h : V p l e R s m args below meth c K A cells slots nL Q (pc + 1) lv (.int (i2c x) :: st) t k) : V p l e R s m args below meth c K A cells slots nL Q pc lv (.int x :: st) t k := fun r hr ls H locs hl hP hD hS => lv_i2c hc.1 hc.2.1 hdg rfl (h r hr ls H locs hl hP hD hS)
theorem V_lcmp (hc : Cx p R s m args meth c cc nL Ts own K A ret cells slots) {x y : Int64} (hdg : decode cc pc = .ok (.lcmp, 1))  (h : V p l e R s m args below meth c K A cells slots nL Q (pc + 1) lv (.int (lg_cmp x y) :: st) t k) : V p l e R s m args below meth c K A cells slots nL Q pc lv (.long y :: .long x :: st) t k := fun r hr ls H locs hl hP hD hS => W.lcmp hc.1 hc.2.1 hdg (h r hr ls H locs hl hP hD hS)
theorem V_irem (hc : Cx p R s m args meth c cc nL Ts own K A ret cells slots) {x y : Int32} (hdg : decode cc pc = .ok (.irem, 1)) (h : V p l e R s m args below meth c K A cells slots nL Q (pc + 1) lv (.int (x - x / y * y) :: st) t k) : V p l e R s m args below meth c K A cells slots nL Q pc lv (.int y :: .int x :: st) t (gd (¬ y = 0) k) := fun r hr ls H locs hl hP hD hS => lv_irem hc.1 hc.2.1 hdg (gd_some hr).1 (h r (gd_some hr).2 ls H locs hl hP hD hS)
theorem V_pop (hc : Cx p R s m args meth c cc nL Ts own K A ret cells slots) {va : Value} (hdg : decode cc pc = .ok (.pop, 1)) (hva : va.category = 1) (h : V p l e R s m args below meth c K A cells slots nL Q (pc + 1) lv (st) t k) : V p l e R s m args below meth c K A cells slots nL Q pc lv (va :: st) t k := fun r hr ls H locs hl hP hD hS => lv_pop hc.1 hc.2.1 hdg hva (h r hr ls H locs hl hP hD hS)
theorem V_dup (hc : Cx p R s m args meth c cc nL Ts own K A ret cells slots) {va : Value} (hdg : decode cc pc = .ok (.dup, 1)) (hva : va.category = 1) (h : V p l e R s m args below meth c K A cells slots nL Q (pc + 1) lv (va :: va :: st) t k) : V p l e R s m args below meth c K A cells slots nL Q pc lv (va :: st) t k := fun r hr ls H locs hl hP hD hS => lv_dup hc.1 hc.2.1 hdg hva (h r hr ls H locs hl hP hD hS)
theorem V_dup2_2 (hc : Cx p R s m args meth c cc nL Ts own K A ret cells slots) {va : Value} (hdg : decode cc pc = .ok (.dup2, 1)) (hva : va.category = 2) (h : V p l e R s m args below meth c K A cells slots nL Q (pc + 1) lv (va :: va :: st) t k) : V p l e R s m args below meth c K A cells slots nL Q pc lv (va :: st) t k := fun r hr ls H locs hl hP hD hS => lv_dup2_2 hc.1 hc.2.1 hdg hva (h r hr ls H locs hl hP hD hS)
theorem V_dup2_11 (hc : Cx p R s m args meth c cc nL Ts own K A ret cells slots) {va vb : Value} (hdg : decode cc pc = .ok (.dup2, 1)) (hva : va.category = 1) (hvb : vb.category = 1) (h : V p l e R s m args below meth c K A cells slots nL Q (pc + 1) lv (va :: vb :: va :: vb :: st) t k) : V p l e R s m args below meth c K A cells slots nL Q pc lv (va :: vb :: st) t k := fun r hr ls H locs hl hP hD hS => lv_dup2_11 hc.1 hc.2.1 hdg hva hvb (h r hr ls H locs hl hP hD hS)
theorem V_if_eq (hc : Cx p R s m args meth c cc nL Ts own K A ret cells slots) {x : Int32} {off : Int} {tgt : Nat} {k1 k2 : Option Rt} (hdg : decode cc pc = .ok (.ifCond .eq off, 3)) (ht : (pc : Int) + off = (tgt : Int)) (h1 : V p l e R s m args below meth c K A cells slots nL Q tgt lv st t k1) (h2 : V p l e R s m args below meth c K A cells slots nL Q (pc + 3) lv st t k2) : V p l e R s m args below meth c K A cells slots nL Q pc lv (.int x :: st) t (if x = 0 then k1 else k2) := fun r hr ls H locs hl hP hD hS => lv_if_eq hc.1 hc.2.1 hdg ht (fun q => h1 r (by first | (rw [if_pos q] at hr; exact hr) | (rw [if_neg q] at hr; exact hr)) ls H locs hl hP hD hS) (fun q => h2 r (by first | (rw [if_neg q] at hr; exact hr) | (rw [if_pos q] at hr; exact hr)) ls H locs hl hP hD hS)
theorem V_if_ne (hc : Cx p R s m args meth c cc nL Ts own K A ret cells slots) {x : Int32} {off : Int} {tgt : Nat} {k1 k2 : Option Rt} (hdg : decode cc pc = .ok (.ifCond .ne off, 3)) (ht : (pc : Int) + off = (tgt : Int)) (h1 : V p l e R s m args below meth c K A cells slots nL Q tgt lv st t k2) (h2 : V p l e R s m args below meth c K A cells slots nL Q (pc + 3) lv st t k1) : V p l e R s m args below meth c K A cells slots nL Q pc lv (.int x :: st) t (if x = 0 then k1 else k2) := fun r hr ls H locs hl hP hD hS => lv_if_ne hc.1 hc.2.1 hdg ht (fun q => h1 r (by first | (rw [if_pos q] at hr; exact hr) | (rw [if_neg q] at hr; exact hr)) ls H locs hl hP hD hS) (fun q => h2 r (by first | (rw [if_neg q] at hr; exact hr) | (rw [if_pos q] at hr; exact hr)) ls H locs hl hP hD hS)
theorem V_if_lt (hc : Cx p R s m args meth c cc nL Ts own K A ret cells slots) {x : Int32} {off : Int} {tgt : Nat} {k1 k2 : Option Rt} (hdg : decode cc pc = .ok (.ifCond .lt off, 3)) (ht : (pc : Int) + off = (tgt : Int)) (h1 : V p l e R s m args below meth c K A cells slots nL Q tgt lv st t k1) (h2 : V p l e R s m args below meth c K A cells slots nL Q (pc + 3) lv st t k2) : V p l e R s m args below meth c K A cells slots nL Q pc lv (.int x :: st) t (if x < 0 then k1 else k2) := fun r hr ls H locs hl hP hD hS => lv_if_lt hc.1 hc.2.1 hdg ht (fun q => h1 r (by first | (rw [if_pos q] at hr; exact hr) | (rw [if_neg q] at hr; exact hr)) ls H locs hl hP hD hS) (fun q => h2 r (by first | (rw [if_neg q] at hr; exact hr) | (rw [if_pos q] at hr; exact hr)) ls H locs hl hP hD hS)
theorem V_if_ge (hc : Cx p R s m args meth c cc nL Ts own K A ret cells slots) {x : Int32} {off : Int} {tgt : Nat} {k1 k2 : Option Rt} (hdg : decode cc pc = .ok (.ifCond .ge off, 3)) (ht : (pc : Int) + off = (tgt : Int)) (h1 : V p l e R s m args below meth c K A cells slots nL Q tgt lv st t k1) (h2 : V p l e R s m args below meth c K A cells slots nL Q (pc + 3) lv st t k2) : V p l e R s m args below meth c K A cells slots nL Q pc lv (.int x :: st) t (if 0 ≤ x then k1 else k2) := fun r hr ls H locs hl hP hD hS => lv_if_ge hc.1 hc.2.1 hdg ht (fun q => h1 r (by first | (rw [if_pos q] at hr; exact hr) | (rw [if_neg q] at hr; exact hr)) ls H locs hl hP hD hS) (fun q => h2 r (by first | (rw [if_neg q] at hr; exact hr) | (rw [if_pos q] at hr; exact hr)) ls H locs hl hP hD hS)
theorem V_if_gt (hc : Cx p R s m args meth c cc nL Ts own K A ret cells slots) {x : Int32} {off : Int} {tgt : Nat} {k1 k2 : Option Rt} (hdg : decode cc pc = .ok (.ifCond .gt off, 3)) (ht : (pc : Int) + off = (tgt : Int)) (h1 : V p l e R s m args below meth c K A cells slots nL Q tgt lv st t k1) (h2 : V p l e R s m args below meth c K A cells slots nL Q (pc + 3) lv st t k2) : V p l e R s m args below meth c K A cells slots nL Q pc lv (.int x :: st) t (if 0 < x then k1 else k2) := fun r hr ls H locs hl hP hD hS => lv_if_gt hc.1 hc.2.1 hdg ht (fun q => h1 r (by first | (rw [if_pos q] at hr; exact hr) | (rw [if_neg q] at hr; exact hr)) ls H locs hl hP hD hS) (fun q => h2 r (by first | (rw [if_neg q] at hr; exact hr) | (rw [if_pos q] at hr; exact hr)) ls H locs hl hP hD hS)
theorem V_if_le (hc : Cx p R s m args meth c cc nL Ts own K A ret cells slots) {x : Int32} {off : Int} {tgt : Nat} {k1 k2 : Option Rt} (hdg : decode cc pc = .ok (.ifCond .le off, 3)) (ht : (pc : Int) + off = (tgt : Int)) (h1 : V p l e R s m args below meth c K A cells slots nL Q tgt lv st t k1) (h2 : V p l e R s m args below meth c K A cells slots nL Q (pc + 3) lv st t k2) : V p l e R s m args below meth c K A cells slots nL Q pc lv (.int x :: st) t (if x ≤ 0 then k1 else k2) := fun r hr ls H locs hl hP hD hS => lv_if_le hc.1 hc.2.1 hdg ht (fun q => h1 r (by first | (rw [if_pos q] at hr; exact hr) | (rw [if_neg q] at hr; exact hr)) ls H locs hl hP hD hS) (fun q => h2 r (by first | (rw [if_neg q] at hr; exact hr) | (rw [if_pos q] at hr; exact hr)) ls H locs hl hP hD hS)
theorem V_icmp_eq (hc : Cx p R s m args meth c cc nL Ts own K A ret cells slots) {x y : Int32} {off : Int} {tgt : Nat} {k1 k2 : Option Rt} (hdg : decode cc pc = .ok (.if_icmp .eq off, 3)) (ht : (pc : Int) + off = (tgt : Int)) (h1 : V p l e R s m args below meth c K A cells slots nL Q tgt lv st t k1) (h2 : V p l e R s m args below meth c K A cells slots nL Q (pc + 3) lv st t k2) : V p l e R s m args below meth c K A cells slots nL Q pc lv (.int y :: .int x :: st) t (if x = y then k1 else k2) := fun r hr ls H locs hl hP hD hS => lv_icmp_eq hc.1 hc.2.1 hdg ht (fun q => h1 r (by first | (rw [if_pos q] at hr; exact hr) | (rw [if_neg q] at hr; exact hr)) ls H locs hl hP hD hS) (fun q => h2 r (by first | (rw [if_neg q] at hr; exact hr) | (rw [if_pos q] at hr; exact hr)) ls H locs hl hP hD hS)
theorem V_icmp_ne (hc : Cx p R s m args meth c cc nL Ts own K A ret cells slots) {x y : Int32} {off : Int} {tgt : Nat} {k1 k2 : Option Rt} (hdg : decode cc pc = .ok (.if_icmp .ne off, 3)) (ht : (pc : Int) + off = (tgt : Int)) (h1 : V p l e R s m args below meth c K A cells slots nL Q tgt lv st t k2) (h2 : V p l e R s m args below meth c K A cells slots nL Q (pc + 3) lv st t k1) : V p l e R s m args below meth c K A cells slots nL Q pc lv (.int y :: .int x :: st) t (if x = y then k1 else k2) := fun r hr ls H locs hl hP hD hS => lv_icmp_ne hc.1 hc.2.1 hdg ht (fun q => h1 r (by first | (rw [if_pos q] at hr; exact hr) | (rw [if_neg q] at hr; exact hr)) ls H locs hl hP hD hS) (fun q => h2 r (by first | (rw [if_neg q] at hr; exact hr) | (rw [if_pos q] at hr; exact hr)) ls H locs hl hP hD hS)
theorem V_icmp_lt (hc : Cx p R s m args meth c cc nL Ts own K A ret cells slots) {x y : Int32} {off : Int} {tgt : Nat} {k1 k2 : Option Rt} (hdg : decode cc pc = .ok (.if_icmp .lt off, 3)) (ht : (pc : Int) + off = (tgt : Int)) (h1 : V p l e R s m args below meth c K A cells slots nL Q tgt lv st t k1) (h2 : V p l e R s m args below meth c K A cells slots nL Q (pc + 3) lv st t k2) : V p l e R s m args below meth c K A cells slots nL Q pc lv (.int y :: .int x :: st) t (if x < y then k1 else k2) := fun r hr ls H locs hl hP hD hS => lv_icmp_lt hc.1 hc.2.1 hdg ht (fun q => h1 r (by first | (rw [if_pos q] at hr; exact hr) | (rw [if_neg q] at hr; exact hr)) ls H locs hl hP hD hS) (fun q => h2 r (by first | (rw [if_neg q] at hr; exact hr) | (rw [if_pos q] at hr; exact hr)) ls H locs hl hP hD hS)
theorem V_icmp_ge (hc : Cx p R s m args meth c cc nL Ts own K A ret cells slots) {x y : Int32} {off : Int} {tgt : Nat} {k1 k2 : Option Rt} (hdg : decode cc pc = .ok (.if_icmp .ge off, 3)) (ht : (pc : Int) + off = (tgt : Int)) (h1 : V p l e R s m args below meth c K A cells slots nL Q tgt lv st t k1) (h2 : V p l e R s m args below meth c K A cells slots nL Q (pc + 3) lv st t k2) : V p l e R s m args below meth c K A cells slots nL Q pc lv (.int y :: .int x :: st) t (if y ≤ x then k1 else k2) := fun r hr ls H locs hl hP hD hS => lv_icmp_ge hc.1 hc.2.1 hdg ht (fun q => h1 r (by first | (rw [if_pos q] at hr; exact hr) | (rw [if_neg q] at hr; exact hr)) ls H locs hl hP hD hS) (fun q => h2 r (by first | (rw [if_neg q] at hr; exact hr) | (rw [if_pos q] at hr; exact hr)) ls H locs hl hP hD hS)
theorem V_icmp_gt (hc : Cx p R s m args meth c cc nL Ts own K A ret cells slots) {x y : Int32} {off : Int} {tgt : Nat} {k1 k2 : Option Rt} (hdg : decode cc pc = .ok (.if_icmp .gt off, 3)) (ht : (pc : Int) + off = (tgt : Int)) (h1 : V p l e R s m args below meth c K A cells slots nL Q tgt lv st t k1) (h2 : V p l e R s m args below meth c K A cells slots nL Q (pc + 3) lv st t k2) : V p l e R s m args below meth c K A cells slots nL Q pc lv (.int y :: .int x :: st) t (if y < x then k1 else k2) := fun r hr ls H locs hl hP hD hS => lv_icmp_gt hc.1 hc.2.1 hdg ht (fun q => h1 r (by first | (rw [if_pos q] at hr; exact hr) | (rw [if_neg q] at hr; exact hr)) ls H locs hl hP hD hS) (fun q => h2 r (by first | (rw [if_neg q] at hr; exact hr) | (rw [if_pos q] at hr; exact hr)) ls H locs hl hP hD hS)
theorem V_icmp_le (hc : Cx p R s m args meth c cc nL Ts own K A ret cells slots) {x y : Int32} {off : Int} {tgt : Nat} {k1 k2 : Option Rt} (hdg : decode cc pc = .ok (.if_icmp .le off, 3)) (ht : (pc : Int) + off = (tgt : Int)) (h1 : V p l e R s m args below meth c K A cells slots nL Q tgt lv st t k1) (h2 : V p l e R s m args below meth c K A cells slots nL Q (pc + 3) lv st t k2) : V p l e R s m args below meth c K A cells slots nL Q pc lv (.int y :: .int x :: st) t (if x ≤ y then k1 else k2) := fun r hr ls H locs hl hP hD hS => lv_icmp_le hc.1 hc.2.1 hdg ht (fun q => h1 r (by first | (rw [if_pos q] at hr; exact hr) | (rw [if_neg q] at hr; exact hr)) ls H locs hl hP hD hS) (fun q => h2 r (by first | (rw [if_neg q] at hr; exact hr) | (rw [if_pos q] at hr; exact hr)) ls H locs hl hP hD hS)
theorem V_goto (hc : Cx p R s m args meth c cc nL Ts own K A ret cells slots) {off : Int} {tgt : Nat} (hdg : decode cc pc = .ok (.goto off, 3)) (ht : (pc : Int) + off = (tgt : Int)) (h : V p l e R s m args below meth c K A cells slots nL Q tgt lv st t k) : V p l e R s m args below meth c K A cells slots nL Q pc lv st t k := fun r hr ls H locs hl hP hD hS => lv_goto hc.1 hc.2.1 hdg ht (h r hr ls H locs hl hP hD hS)
theorem V_ite {P : Prop} [Decidable P] {k1 k2 : Option Rt} (h1 : P → V p l e R s m args below meth c K A cells slots nL Q pc lv st t k1) (h2 : ¬ P → V p l e R s m args below meth c K A cells slots nL Q pc lv st t k2) : V p l e R s m args below meth c K A cells slots nL Q pc lv st t (if P then k1 else k2) := fun r hr => by
  by_cases q : P
  · rw [if_pos q] at hr; exact h1 q r hr
  · rw [if_neg q] at hr; exact h2 q r hr
theorem V_gd {P : Prop} (h : P → V p l e R s m args below meth c K A cells slots nL Q pc lv st t k) : V p l e R s m args below meth c K A cells slots nL Q pc lv st t (gd P k) := fun r hr => h (gd_some hr).1 r (gd_some hr).2
theorem V_none  : V p l e R s m args below meth c K A cells slots nL Q pc lv st t none := fun r hr => by cases hr
theorem V_bdi {x : Int32} {k : Int32 → Option Rt} (h : ∀ y, V p l e R s m args below meth c K A cells slots nL Q pc lv (.int y :: st) t (k y)) : V p l e R s m args below meth c K A cells slots nL Q pc lv (.int x :: st) t (bd x k) := h x
theorem V_bdl {x : Int64} {k : Int64 → Option Rt} (h : ∀ y, V p l e R s m args below meth c K A cells slots nL Q pc lv (.long y :: st) t (k y)) : V p l e R s m args below meth c K A cells slots nL Q pc lv (.long x :: st) t (bd x k) := h x
theorem V_bds {k : Sx → Option Rt} (h : ∀ y, V p l e R s m args below meth c K A cells slots nL Q pc lv st y (k y)) : V p l e R s m args below meth c K A cells slots nL Q pc lv st t (bd t k) := h t
theorem V_sub {lv' : List (Nat × Value)} (ks : List Nat) (hl' : lv_pick lv ks = lv') (h : V p l e R s m args below meth c K A cells slots nL Q pc lv' st t k) : V p l e R s m args below meth c K A cells slots nL Q pc lv st t k := fun r hr ls H locs hl hP hD hS => h r hr ls H locs (lv_sub hl ks hl') hP hD hS
theorem V_tsIn (hc : Cx p R s m args meth c cc nL Ts own K A ret cells slots) {dflt lo hi : Int} {offs : Array Int} {len : Nat} {x : Int32} {off : Int} {tgt : Nat} (hdg : decode cc pc = .ok (.tableswitch dflt lo hi offs, len)) (h1 : ¬ x.toInt < lo) (h2 : ¬ hi < x.toInt) (ho : offs[(x.toInt - lo).toNat]? = some off) (ht : (pc : Int) + off = (tgt : Int)) (h : V p l e R s m args below meth c K A cells slots nL Q tgt lv st t k) : V p l e R s m args below meth c K A cells slots nL Q pc lv (.int x :: st) t k := fun r hr ls H locs hl hP hD hS => lv_tableIn hc.1 hc.2.1 hdg h1 h2 ho ht (h r hr ls H locs hl hP hD hS)
theorem V_tsOut (hc : Cx p R s m args meth c cc nL Ts own K A ret cells slots) {dflt lo hi : Int} {offs : Array Int} {len : Nat} {x : Int32} {tgt : Nat} (hdg : decode cc pc = .ok (.tableswitch dflt lo hi offs, len)) (h1 : x.toInt < lo ∨ hi < x.toInt) (ht : (pc : Int) + dflt = (tgt : Int)) (h : V p l e R s m args below meth c K A cells slots nL Q tgt lv st t k) : V p l e R s m args below meth c K A cells slots nL Q pc lv (.int x :: st) t k := fun r hr ls H locs hl hP hD hS => lv_tableOut hc.1 hc.2.1 hdg h1 ht (h r hr ls H locs hl hP hD hS)
theorem V_lks (hc : Cx p R s m args meth c cc nL Ts own K A ret cells slots) {dflt : Int} {ps : Array (Int × Int)} {len : Nat} {x : Int32} {off : Int} {tgt : Nat} (hdg : decode cc pc = .ok (.lookupswitch dflt ps, len)) (hp : (ps.toList.zip (ps.toList.drop 1)).all (fun (a, next) => a.1 < next.1) = true) (ho : Op.lookupswitch.offset ps.toList dflt x.toInt = off) (ht : (pc : Int) + off = (tgt : Int)) (h : V p l e R s m args below meth c K A cells slots nL Q tgt lv st t k) : V p l e R s m args below meth c K A cells slots nL Q pc lv (.int x :: st) t k := fun r hr ls H locs hl hP hD hS => lv_lookup hc.1 hc.2.1 hdg hp ho ht (h r hr ls H locs hl hP hD hS)
theorem V_geti (hc : Cx p R s m args meth c cc nL Ts own K A ret cells slots) {P ci N index j : Nat} {C : String} {T : u_T} {fs : List (Nat × Nat)} (hs : shpL[P]? = some (.inr (ci, fs))) (hcl : vwCl[ci]? = some (C, T, N)) (hin : ∀ w ∈ u_ws C T N, w ∈ Ts) (kf : Nat) (hf : fs[kf]? = some (0, j)) (hk : kf < N) (hw : Cond.fieldLink own index C (T kf).2.1 (T kf).2.2.1 ∈ Ts) (hC : (T kf).1 = C) (hdg : decode cc pc = .ok (.getfield index, 3)) (h : V p l e R s m args below meth c K A cells slots nL Q (pc + 3) lv (.int (gI t j) :: st) t k) : V p l e R s m args below meth c K A cells slots nL Q pc lv (.ref (K.2.2 P) :: st) t k := fun r hr ls H locs hl hP hD hS => va_get (v := .int (gI t j)) hc.1 hc.2.1 hc.hts hin hc.ow hc.kK hP P (wd_get hs) hcl kf hk (hc.hts _ hw) (fun x hx => by rw [hC] at hx; exact hx) (by rw [List.getElem?_map, hf]; rfl) hdg (h r hr ls H locs hl hP hD hS)
theorem V_getl (hc : Cx p R s m args meth c cc nL Ts own K A ret cells slots) {P ci N index j : Nat} {C : String} {T : u_T} {fs : List (Nat × Nat)} (hs : shpL[P]? = some (.inr (ci, fs))) (hcl : vwCl[ci]? = some (C, T, N)) (hin : ∀ w ∈ u_ws C T N, w ∈ Ts) (kf : Nat) (hf : fs[kf]? = some (1, j)) (hk : kf < N) (hw : Cond.fieldLink own index C (T kf).2.1 (T kf).2.2.1 ∈ Ts) (hC : (T kf).1 = C) (hdg : decode cc pc = .ok (.getfield index, 3)) (h : V p l e R s m args below meth c K A cells slots nL Q (pc + 3) lv (.long (gL t j) :: st) t k) : V p l e R s m args below meth c K A cells slots nL Q pc lv (.ref (K.2.2 P) :: st) t k := fun r hr ls H locs hl hP hD hS => va_get (v := .long (gL t j)) hc.1 hc.2.1 hc.hts hin hc.ow hc.kK hP P (wd_get hs) hcl kf hk (hc.hts _ hw) (fun x hx => by rw [hC] at hx; exact hx) (by rw [List.getElem?_map, hf]; rfl) hdg (h r hr ls H locs hl hP hD hS)
theorem V_getr (hc : Cx p R s m args meth c cc nL Ts own K A ret cells slots) {P ci N index j : Nat} {C : String} {T : u_T} {fs : List (Nat × Nat)} (hs : shpL[P]? = some (.inr (ci, fs))) (hcl : vwCl[ci]? = some (C, T, N)) (hin : ∀ w ∈ u_ws C T N, w ∈ Ts) (kf : Nat) (hf : fs[kf]? = some (2, j)) (hk : kf < N) (hw : Cond.fieldLink own index C (T kf).2.1 (T kf).2.2.1 ∈ Ts) (hC : (T kf).1 = C) (hdg : decode cc pc = .ok (.getfield index, 3)) (h : V p l e R s m args below meth c K A cells slots nL Q (pc + 3) lv (.ref (K.2.2 j) :: st) t k) : V p l e R s m args below meth c K A cells slots nL Q pc lv (.ref (K.2.2 P) :: st) t k := fun r hr ls H locs hl hP hD hS => va_get (v := .ref (K.2.2 j)) hc.1 hc.2.1 hc.hts hin hc.ow hc.kK hP P (wd_get hs) hcl kf hk (hc.hts _ hw) (fun x hx => by rw [hC] at hx; exact hx) (by rw [List.getElem?_map, hf]; rfl) hdg (h r hr ls H locs hl hP hD hS)
theorem V_puti (hc : Cx p R s m args meth c cc nL Ts own K A ret cells slots) {P ci N index j : Nat} {C : String} {T : u_T} {fs : List (Nat × Nat)} (hs : shpL[P]? = some (.inr (ci, fs))) (hcl : vwCl[ci]? = some (C, T, N)) (hin : ∀ w ∈ u_ws C T N, w ∈ Ts) (kf : Nat) (hf : fs[kf]? = some (0, j)) (hk : kf < N) (hw : Cond.fieldLink own index C (T kf).2.1 (T kf).2.2.1 ∈ Ts) (hC : (T kf).1 = C) (ty0 : Nat → FieldType) (hty : ∀ k, k < N → parseFieldDescriptor (T k).2.2.1 = some (ty0 k)) (hnm : ∀ a, a < N → ∀ b, b < N → a ≠ b → (T a).2.1 ≠ (T b).2.1) (hfin : (T kf).2.2.2 = false) (hd : parseFieldDescriptor (T kf).2.2.1 = some .int) {v : Int32} (hdg : decode cc pc = .ok (.putfield index, 3)) (h : V p l e R s m args below meth c K A cells slots nL Q (pc + 3) lv st (pI t j v) k) : V p l e R s m args below meth c K A cells slots nL Q pc lv (.int v :: .ref (K.2.2 P) :: st) t k := fun r hr ls H locs hl hP hD hS => va_put (v := .int v) hc.1 hc.2.1 hc.hts hin ty0 hty hnm hc.ow hc.kK hP hD hS P (wd_get hs) hcl kf hk (hc.hts _ hw) (fun x hx => by rw [hC] at hx; exact hx) hfin hd rfl rfl (by rw [List.length_map]; exact (List.getElem?_eq_some_iff.mp hf).1) hdg (fun H1 locs1 hP1 hD1 hS1 => h r hr ls H1 locs1 hl (by rw [wd_pI hs hf] at hP1; exact hP1) (by rw [wd_pI hs hf] at hD1; exact hD1) hS1)
theorem V_putl (hc : Cx p R s m args meth c cc nL Ts own K A ret cells slots) {P ci N index j : Nat} {C : String} {T : u_T} {fs : List (Nat × Nat)} (hs : shpL[P]? = some (.inr (ci, fs))) (hcl : vwCl[ci]? = some (C, T, N)) (hin : ∀ w ∈ u_ws C T N, w ∈ Ts) (kf : Nat) (hf : fs[kf]? = some (1, j)) (hk : kf < N) (hw : Cond.fieldLink own index C (T kf).2.1 (T kf).2.2.1 ∈ Ts) (hC : (T kf).1 = C) (ty0 : Nat → FieldType) (hty : ∀ k, k < N → parseFieldDescriptor (T k).2.2.1 = some (ty0 k)) (hnm : ∀ a, a < N → ∀ b, b < N → a ≠ b → (T a).2.1 ≠ (T b).2.1) (hfin : (T kf).2.2.2 = false) (hd : parseFieldDescriptor (T kf).2.2.1 = some .long) {v : Int64} (hdg : decode cc pc = .ok (.putfield index, 3)) (h : V p l e R s m args below meth c K A cells slots nL Q (pc + 3) lv st (pL t j v) k) : V p l e R s m args below meth c K A cells slots nL Q pc lv (.long v :: .ref (K.2.2 P) :: st) t k := fun r hr ls H locs hl hP hD hS => va_put (v := .long v) hc.1 hc.2.1 hc.hts hin ty0 hty hnm hc.ow hc.kK hP hD hS P (wd_get hs) hcl kf hk (hc.hts _ hw) (fun x hx => by rw [hC] at hx; exact hx) hfin hd rfl rfl (by rw [List.length_map]; exact (List.getElem?_eq_some_iff.mp hf).1) hdg (fun H1 locs1 hP1 hD1 hS1 => h r hr ls H1 locs1 hl (by rw [wd_pL hs hf] at hP1; exact hP1) (by rw [wd_pL hs hf] at hD1; exact hD1) hS1)
theorem V_putz (hc : Cx p R s m args meth c cc nL Ts own K A ret cells slots) {P ci N index j : Nat} {C : String} {T : u_T} {fs : List (Nat × Nat)} (hs : shpL[P]? = some (.inr (ci, fs))) (hcl : vwCl[ci]? = some (C, T, N)) (hin : ∀ w ∈ u_ws C T N, w ∈ Ts) (kf : Nat) (hf : fs[kf]? = some (0, j)) (hk : kf < N) (hw : Cond.fieldLink own index C (T kf).2.1 (T kf).2.2.1 ∈ Ts) (hC : (T kf).1 = C) (ty0 : Nat → FieldType) (hty : ∀ k, k < N → parseFieldDescriptor (T k).2.2.1 = some (ty0 k)) (hnm : ∀ a, a < N → ∀ b, b < N → a ≠ b → (T a).2.1 ≠ (T b).2.1) (hfin : (T kf).2.2.2 = false) (hd : parseFieldDescriptor (T kf).2.2.1 = some .boolean) {v : Int32} (hdg : decode cc pc = .ok (.putfield index, 3)) (h : V p l e R s m args below meth c K A cells slots nL Q (pc + 3) lv st (pI t j v) k) : V p l e R s m args below meth c K A cells slots nL Q pc lv (.int v :: .ref (K.2.2 P) :: st) t (gd (gz v) k) := fun r hr ls H locs hl hP hD hS => va_put (v := .int v) hc.1 hc.2.1 hc.hts hin ty0 hty hnm hc.ow hc.kK hP hD hS P (wd_get hs) hcl kf hk (hc.hts _ hw) (fun x hx => by rw [hC] at hx; exact hx) hfin hd (gz_nar (gd_some hr).1) (gz_fit (gd_some hr).1) (by rw [List.length_map]; exact (List.getElem?_eq_some_iff.mp hf).1) hdg (fun H1 locs1 hP1 hD1 hS1 => h r (gd_some hr).2 ls H1 locs1 hl (by rw [wd_pI hs hf] at hP1; exact hP1) (by rw [wd_pI hs hf] at hD1; exact hD1) hS1)
theorem V_putzc (hc : Cx p R s m args meth c cc nL Ts own K A ret cells slots) {P ci N index j : Nat} {C : String} {T : u_T} {fs : List (Nat × Nat)} (hs : shpL[P]? = some (.inr (ci, fs))) (hcl : vwCl[ci]? = some (C, T, N)) (hin : ∀ w ∈ u_ws C T N, w ∈ Ts) (kf : Nat) (hf : fs[kf]? = some (0, j)) (hk : kf < N) (hw : Cond.fieldLink own index C (T kf).2.1 (T kf).2.2.1 ∈ Ts) (hC : (T kf).1 = C) (ty0 : Nat → FieldType) (hty : ∀ k, k < N → parseFieldDescriptor (T k).2.2.1 = some (ty0 k)) (hnm : ∀ a, a < N → ∀ b, b < N → a ≠ b → (T a).2.1 ≠ (T b).2.1) (hfin : (T kf).2.2.2 = false) (hd : parseFieldDescriptor (T kf).2.2.1 = some .boolean) {v : Int32} (hz : gz v) (hdg : decode cc pc = .ok (.putfield index, 3)) (h : V p l e R s m args below meth c K A cells slots nL Q (pc + 3) lv st (pI t j v) k) : V p l e R s m args below meth c K A cells slots nL Q pc lv (.int v :: .ref (K.2.2 P) :: st) t k := fun r hr ls H locs hl hP hD hS => va_put (v := .int v) hc.1 hc.2.1 hc.hts hin ty0 hty hnm hc.ow hc.kK hP hD hS P (wd_get hs) hcl kf hk (hc.hts _ hw) (fun x hx => by rw [hC] at hx; exact hx) hfin hd (gz_nar hz) (gz_fit hz) (by rw [List.length_map]; exact (List.getElem?_eq_some_iff.mp hf).1) hdg (fun H1 locs1 hP1 hD1 hS1 => h r hr ls H1 locs1 hl (by rw [wd_pI hs hf] at hP1; exact hP1) (by rw [wd_pI hs hf] at hD1; exact hD1) hS1)
theorem V_iald (hc : Cx p R s m args meth c cc nL Ts own K A ret cells slots) {P n a : Nat} (hs : shpL[P]? = some (.inl (0, n, a))) {i : Int32} (hdg : decode cc pc = .ok (.iaload, 1)) (h : V p l e R s m args below meth c K A cells slots nL Q (pc + 1) lv (.int (gA t a (ix i)) :: st) t k) : V p l e R s m args below meth c K A cells slots nL Q pc lv (.int i :: .ref (K.2.2 P) :: st) t (gd (vp_in i n) k) := fun r hr ls H locs hl hP hD hS => va_iald hc.1 hc.2.1 hc.kK hP P 0 (wd_get hs) rfl (gd_some hr).1 hdg (h r (gd_some hr).2 ls H locs hl hP hD hS)
theorem V_zald (hc : Cx p R s m args meth c cc nL Ts own K A ret cells slots) {P n a : Nat} (hs : shpL[P]? = some (.inl (1, n, a))) {i : Int32} (hdg : decode cc pc = .ok (.baload, 1)) (h : V p l e R s m args below meth c K A cells slots nL Q (pc + 1) lv (.int (gA t a (ix i)) :: st) t k) : V p l e R s m args below meth c K A cells slots nL Q pc lv (.int i :: .ref (K.2.2 P) :: st) t (gd (vp_in i n) k) := fun r hr ls H locs hl hP hD hS => va_zald hc.1 hc.2.1 hc.kK hP P 1 (wd_get hs) rfl (gd_some hr).1 hdg (h r (gd_some hr).2 ls H locs hl hP hD hS)
theorem V_cald (hc : Cx p R s m args meth c cc nL Ts own K A ret cells slots) {P n a : Nat} (hs : shpL[P]? = some (.inl (2, n, a))) {i : Int32} (hdg : decode cc pc = .ok (.caload, 1)) (h : V p l e R s m args below meth c K A cells slots nL Q (pc + 1) lv (.int (gA t a (ix i)) :: st) t k) : V p l e R s m args below meth c K A cells slots nL Q pc lv (.int i :: .ref (K.2.2 P) :: st) t (gd (vp_in i n) k) := fun r hr ls H locs hl hP hD hS => va_cald hc.1 hc.2.1 hc.kK hP P 2 (wd_get hs) rfl (gd_some hr).1 hdg (h r (gd_some hr).2 ls H locs hl hP hD hS)
theorem V_lald (hc : Cx p R s m args meth c cc nL Ts own K A ret cells slots) {P n a : Nat} (hs : shpL[P]? = some (.inl (3, n, a))) {i : Int32} (hdg : decode cc pc = .ok (.laload, 1)) (h : V p l e R s m args below meth c K A cells slots nL Q (pc + 1) lv (.long (gM t a (ix i)) :: st) t k) : V p l e R s m args below meth c K A cells slots nL Q pc lv (.int i :: .ref (K.2.2 P) :: st) t (gd (vp_in i n) k) := fun r hr ls H locs hl hP hD hS => va_lald hc.1 hc.2.1 hc.kK hP P 3 (wd_get hs) rfl (gd_some hr).1 hdg (h r (gd_some hr).2 ls H locs hl hP hD hS)
theorem V_aald (hc : Cx p R s m args meth c cc nL Ts own K A ret cells slots) {P n a : Nat} (hs : shpL[P]? = some (.inl (4, n, a))) {i : Int32} (hdg : decode cc pc = .ok (.aaload, 1)) (h : ix i < n → V p l e R s m args below meth c K A cells slots nL Q (pc + 1) lv (.ref (K.2.2 (a + ix i)) :: st) t k) : V p l e R s m args below meth c K A cells slots nL Q pc lv (.int i :: .ref (K.2.2 P) :: st) t (gd (vp_in i n) k) := fun r hr ls H locs hl hP hD hS => va_aldq hc.1 hc.2.1 hc.kK hP P 4 (wd_get hs) rfl (gd_some hr).1 hdg (by
  have hj : ix i < n := vp_in_lt (gd_some hr).1
  rw [show i.toNatClampNeg = ix i from rfl, if_pos hj]
  exact h hj r (gd_some hr).2 ls H locs hl hP hD hS)
theorem V_iast (hc : Cx p R s m args meth c cc nL Ts own K A ret cells slots) {P n a : Nat} (hs : shpL[P]? = some (.inl (0, n, a))) {i x : Int32} (hdg : decode cc pc = .ok (.iastore, 1)) (h : V p l e R s m args below meth c K A cells slots nL Q (pc + 1) lv st (pA t a (ix i) x) k) : V p l e R s m args below meth c K A cells slots nL Q pc lv (.int x :: .int i :: .ref (K.2.2 P) :: st) t (gd (vp_in i n) k) := fun r hr ls H locs hl hP hD hS => va_iast hc.1 hc.2.1 hc.kK hP hD hS P 0 (wd_get hs) rfl (gd_some hr).1 hdg (fun H1 locs1 hP1 hD1 hS1 => h r (gd_some hr).2 ls H1 locs1 hl (by rw [wd_pW hs (by decide)] at hP1; exact hP1) (by rw [wd_pW hs (by decide)] at hD1; exact hD1) hS1)
theorem V_zast (hc : Cx p R s m args meth c cc nL Ts own K A ret cells slots) {P n a : Nat} (hs : shpL[P]? = some (.inl (1, n, a))) {i x : Int32} (hdg : decode cc pc = .ok (.bastore, 1)) (h : V p l e R s m args below meth c K A cells slots nL Q (pc + 1) lv st (pA t a (ix i) x) k) : V p l e R s m args below meth c K A cells slots nL Q pc lv (.int x :: .int i :: .ref (K.2.2 P) :: st) t (gd (gz x) (gd (vp_in i n) k)) := fun r hr ls H locs hl hP hD hS => va_zast hc.1 hc.2.1 hc.kK hP hD hS P 1 (wd_get hs) rfl (gd_some (gd_some hr).2).1 hdg (fun H1 locs1 hP1 hD1 hS1 => h r (gd_some (gd_some hr).2).2 ls H1 locs1 hl (by rw [gz_vnar (gd_some hr).1, wd_pW hs (by decide)] at hP1; exact hP1) (by rw [gz_vnar (gd_some hr).1, wd_pW hs (by decide)] at hD1; exact hD1) hS1)
theorem V_cast (hc : Cx p R s m args meth c cc nL Ts own K A ret cells slots) {P n a : Nat} (hs : shpL[P]? = some (.inl (2, n, a))) {i x : Int32} (hdg : decode cc pc = .ok (.castore, 1)) (h : V p l e R s m args below meth c K A cells slots nL Q (pc + 1) lv st (pA t a (ix i) x) k) : V p l e R s m args below meth c K A cells slots nL Q pc lv (.int x :: .int i :: .ref (K.2.2 P) :: st) t (gd (gch x) (gd (vp_in i n) k)) := fun r hr ls H locs hl hP hD hS => va_cast hc.1 hc.2.1 hc.kK hP hD hS P 2 (wd_get hs) rfl (gd_some (gd_some hr).2).1 hdg (fun H1 locs1 hP1 hD1 hS1 => h r (gd_some (gd_some hr).2).2 ls H1 locs1 hl (by rw [gch_vnar (gd_some hr).1, wd_pW hs (by decide)] at hP1; exact hP1) (by rw [gch_vnar (gd_some hr).1, wd_pW hs (by decide)] at hD1; exact hD1) hS1)
theorem V_zastc (hc : Cx p R s m args meth c cc nL Ts own K A ret cells slots) {P n a : Nat} (hs : shpL[P]? = some (.inl (1, n, a))) {i x : Int32} (hz : gz x) (hdg : decode cc pc = .ok (.bastore, 1)) (h : V p l e R s m args below meth c K A cells slots nL Q (pc + 1) lv st (pA t a (ix i) x) k) : V p l e R s m args below meth c K A cells slots nL Q pc lv (.int x :: .int i :: .ref (K.2.2 P) :: st) t (gd (vp_in i n) k) := fun r hr ls H locs hl hP hD hS => va_zast hc.1 hc.2.1 hc.kK hP hD hS P 1 (wd_get hs) rfl (gd_some hr).1 hdg (fun H1 locs1 hP1 hD1 hS1 => h r (gd_some hr).2 ls H1 locs1 hl (by rw [gz_vnar hz, wd_pW hs (by decide)] at hP1; exact hP1) (by rw [gz_vnar hz, wd_pW hs (by decide)] at hD1; exact hD1) hS1)
theorem V_last (hc : Cx p R s m args meth c cc nL Ts own K A ret cells slots) {P n a : Nat} (hs : shpL[P]? = some (.inl (3, n, a))) {i : Int32} {x : Int64} (hdg : decode cc pc = .ok (.lastore, 1)) (h : V p l e R s m args below meth c K A cells slots nL Q (pc + 1) lv st (pM t a (ix i) x) k) : V p l e R s m args below meth c K A cells slots nL Q pc lv (.long x :: .int i :: .ref (K.2.2 P) :: st) t (gd (vp_in i n) k) := fun r hr ls H locs hl hP hD hS => va_last hc.1 hc.2.1 hc.kK hP hD hS P 3 (wd_get hs) rfl (gd_some hr).1 hdg (fun H1 locs1 hP1 hD1 hS1 => h r (gd_some hr).2 ls H1 locs1 hl (by rw [show vp_updL (gM t a) i.toNatClampNeg x = vp_updL (gM t a) (ix i) x from rfl, wd_pM hs] at hP1; exact hP1) (by rw [show vp_updL (gM t a) i.toNatClampNeg x = vp_updL (gM t a) (ix i) x from rfl, wd_pM hs] at hD1; exact hD1) hS1)
theorem V_alen (hc : Cx p R s m args meth c cc nL Ts own K A ret cells slots) {P n a : Nat} {ty : Nat} {fty : FieldType} (hs : shpL[P]? = some (.inl (ty, n, a))) (hty : (tyK K)[ty]? = some (K.2.1 ty, fty)) {v : Int32} (hv : Int32.ofNat n = v) (hdg : decode cc pc = .ok (.arraylength, 1)) (h : V p l e R s m args below meth c K A cells slots nL Q (pc + 1) lv (.int v :: st) t k) : V p l e R s m args below meth c K A cells slots nL Q pc lv (.ref (K.2.2 P) :: st) t k := fun r hr ls H locs hl hP hD hS => va_alen hc.1 hc.2.1 hc.kK hP P ty (wd_get hs) hty hv hdg (h r hr ls H locs hl hP hD hS)
theorem V_gets_lst (hc : Cx p R s m args meth c cc nL Ts own K A ret cells slots) {index : Nat} (hw : Cond.fieldLink own index RX8 "LEAST_VALUES" "[I" ∈ Ts) (hdg : decode cc pc = .ok (.getstatic index, 3)) (h : V p l e R s m args below meth c K A cells slots nL Q (pc + 3) lv (.ref (K.2.2 100) :: st) t k) : V p l e R s m args below meth c K A cells slots nL Q pc lv st t k := fun r hr ls H locs hl hP hD hS => va_gets hc.1 hc.2.1 hc.sF.1 hS hc.ow (hc.hts _ hw) (fun _ hx => hx) hdg (h r hr ls H locs hl hP hD hS)
theorem V_tld_lst (hc : Cx p R s m args meth c cc nL Ts own K A ret cells slots) {i : Int32} (hdg : decode cc pc = .ok (.iaload, 1)) (h : V p l e R s m args below meth c K A cells slots nL Q (pc + 1) lv (.int (lstV (ix i)) :: st) t k) : V p l e R s m args below meth c K A cells slots nL Q pc lv (.int i :: .ref (K.2.2 100) :: st) t (gd (vp_in i 6) k) := fun r hr ls H locs hl hP hD hS => va_ti hc.1 hc.2.1 hc.sF.2.1 hS (gd_some hr).1 rfl hdg (h r (gd_some hr).2 ls H locs hl hP hD hS)
theorem V_gets_grt (hc : Cx p R s m args meth c cc nL Ts own K A ret cells slots) {index : Nat} (hw : Cond.fieldLink own index RX8 "GREATEST_VALUES" "[I" ∈ Ts) (hdg : decode cc pc = .ok (.getstatic index, 3)) (h : V p l e R s m args below meth c K A cells slots nL Q (pc + 3) lv (.ref (K.2.2 101) :: st) t k) : V p l e R s m args below meth c K A cells slots nL Q pc lv st t k := fun r hr ls H locs hl hP hD hS => va_gets hc.1 hc.2.1 hc.sF.2.2.1 hS hc.ow (hc.hts _ hw) (fun _ hx => hx) hdg (h r hr ls H locs hl hP hD hS)
theorem V_tld_grt (hc : Cx p R s m args meth c cc nL Ts own K A ret cells slots) {i : Int32} (hdg : decode cc pc = .ok (.iaload, 1)) (h : V p l e R s m args below meth c K A cells slots nL Q (pc + 1) lv (.int (grtV (ix i)) :: st) t k) : V p l e R s m args below meth c K A cells slots nL Q pc lv (.int i :: .ref (K.2.2 101) :: st) t (gd (vp_in i 6) k) := fun r hr ls H locs hl hP hD hS => va_ti hc.1 hc.2.1 hc.sF.2.2.2 hS (gd_some hr).1 rfl hdg (h r (gd_some hr).2 ls H locs hl hP hD hS)
end VV
/-- a contract out of the walk of its body -/
theorem CT_of {l : Launch} {K : Kx} {y : MethodName} {cc : ByteArray} {maxL : Nat} {ret : Option FieldType} {ws ws' : List Cond} {rm : Room} {av : List Value} {t : Sx} {R0 : Type} {f0 : Option R0} {g0 : R0 → Option Value × Sx} {own : String} (hy : plainFor y = true) (hw : ws = Cond.code y cc maxL ret :: ws') (hown : y.cls = own) (hlen : (lg_sl av).length ≤ maxL)
    (body : ∀ p e s m args below meth c, Cx p rm s m args meth c cc maxL ws own K (aA K s.heap.size) ret 0 0 → V p l e rm s m args below meth c K (aA K s.heap.size) 0 0 maxL (QM below K args s g0) 0 (lv_args 0 av) [] t f0) : CT l K y ws rm av t f0 g0 := by
  intro r hr sz
  refine va_MetF (cc := cc) (maxL := maxL) (ret := ret) hy hw ?_
  intro p e s m args below meth c s₁ B hml hv
  obtain ⟨rfl, hsz, hP, hK, hD0, hN, hF⟩ := hv
  subst hsz
  have hts := atoms_spec (ws := ws) B.pre
  have hO : s.vm.findClass own = some m.cls := by rw [← hown]; exact findClass_of_methodNamed B.named
  have hD : va_D (aA K s.heap.size) (wd K t) := by
    have := hD0.self (sz := s.heap.size)
    rw [aA_eq] at this
    exact this
  have hl := lv_entry av (n := maxL) hlen
  rw [lg_entry_eq]
  exact body p e s m _ below meth c ⟨B.exec, B.bytes, hml, hO, hts, hK, B.notSynchronized, B.returns, fun q h => Or.inr h, hN, hF, Nat.zero_le _, Nat.zero_le _⟩ r hr _ s.heap [] hl hP hD va_S.rf
section VR
variable {p : Program} {l : Launch} {e : Env} {R : Room} {s : State} {m : MethodId} {args : Array Value} {below : List Frame} {meth : Method} {c : Code} {K : Kx} {cells slots nL : Nat} {pc : Nat} {lv : List (Nat × Value)} {st : List Value} {t : Sx} {cc : ByteArray} {Ts : List Cond} {own : String} {ret : Option FieldType} {R0 : Type} {g0 : R0 → Option Value × Sx} {r0 : R0} {k0 : Option R0}
theorem V_iret {x : Int32} (hc : Cx p R s m args meth c cc nL Ts own K (aA K s.heap.size) ret 0 0) (hret : ret = some .int) (hg : g0 r0 = (some (.int x), t)) (hdg : decode cc pc = .ok (.ireturn, 1)) : V p l e R s m args below meth c K (aA K s.heap.size) 0 0 nL (QM below K args s g0) pc lv [.int x] t (some r0) := by
  intro r hr ls H locs hl hP hD hS
  cases hr
  refine W.iret (v := x) hc.1 hc.2.1 (hc.retT.trans hret) (fun tt ht hW => ?_) hS.2.2 hdg hc.locks
  rw [hg]
  exact ⟨⟨rfl, by rw [ht]; exact hP, hD⟩, hS.F ht⟩
theorem V_nret {x : Int32} {ty : FieldType} (hc : Cx p R s m args meth c cc nL Ts own K (aA K s.heap.size) ret 0 0) (hret : ret = some ty) (hn : narrow ty (.int x) = .int x) (hg : g0 r0 = (some (.int x), t)) (hdg : decode cc pc = .ok (.ireturn, 1)) : V p l e R s m args below meth c K (aA K s.heap.size) 0 0 nL (QM below K args s g0) pc lv [.int x] t (some r0) := by
  intro r hr ls H locs hl hP hD hS
  cases hr
  refine W.zret (v := x) (ty := ty) hc.1 hc.2.1 (hc.retT.trans hret) hn (fun tt ht hW => ?_) hS.2.2 hdg hc.locks
  rw [hg]
  exact ⟨⟨rfl, by rw [ht]; exact hP, hD⟩, hS.F ht⟩
theorem V_zret {x : Int32} (hc : Cx p R s m args meth c cc nL Ts own K (aA K s.heap.size) ret 0 0) (hret : ret = some .boolean) (hg : g0 r0 = (some (.int x), t)) (hdg : decode cc pc = .ok (.ireturn, 1)) : V p l e R s m args below meth c K (aA K s.heap.size) 0 0 nL (QM below K args s g0) pc lv [.int x] t (gd (gz x) (some r0)) :=
  V_gd (fun h => V_nret hc hret (gz_nar h) hg hdg)
theorem V_cret {x : Int32} (hc : Cx p R s m args meth c cc nL Ts own K (aA K s.heap.size) ret 0 0) (hret : ret = some .char) (hg : g0 r0 = (some (.int x), t)) (hdg : decode cc pc = .ok (.ireturn, 1)) : V p l e R s m args below meth c K (aA K s.heap.size) 0 0 nL (QM below K args s g0) pc lv [.int x] t (gd (gch x) (some r0)) :=
  V_gd (fun h => V_nret hc hret (gch_nar h) hg hdg)
theorem V_lret {x : Int64} (hc : Cx p R s m args meth c cc nL Ts own K (aA K s.heap.size) ret 0 0) (hret : ret = some .long) (hg : g0 r0 = (some (.long x), t)) (hdg : decode cc pc = .ok (.lreturn, 1)) : V p l e R s m args below meth c K (aA K s.heap.size) 0 0 nL (QM below K args s g0) pc lv [.long x] t (some r0) := by
  intro r hr ls H locs hl hP hD hS
  cases hr
  refine W.lret (v := x) hc.1 hc.2.1 (hc.retT.trans hret) (fun tt ht hW => ?_) hS.2.2 hdg hc.locks
  rw [hg]
  exact ⟨⟨rfl, by rw [ht]; exact hP, hD⟩, hS.F ht⟩
theorem V_vret (hc : Cx p R s m args meth c cc nL Ts own K (aA K s.heap.size) ret 0 0) (hret : ret = none) (hg : g0 r0 = (none, t)) (hdg : decode cc pc = .ok (.return_, 1)) : V p l e R s m args below meth c K (aA K s.heap.size) 0 0 nL (QM below K args s g0) pc lv [] t (some r0) := by
  intro r hr ls H locs hl hP hD hS
  cases hr
  refine W.vret hc.1 hc.2.1 (hc.retT.trans hret) (fun tt ht hW => ?_) hS.2.2 hdg hc.locks
  rw [hg]
  exact ⟨⟨rfl, by rw [ht]; exact hP, hD⟩, hS.F ht⟩
theorem V_aret {x : Nat} {cn : String} (hc : Cx p R s m args meth c cc nL Ts own K (aA K s.heap.size) ret 0 0) (hret : ret = some (.object cn)) (hg : g0 r0 = (some (.ref x), t)) (hdg : decode cc pc = .ok (.areturn, 1)) : V p l e R s m args below meth c K (aA K s.heap.size) 0 0 nL (QM below K args s g0) pc lv [.ref x] t (some r0) := by
  intro r hr ls H locs hl hP hD hS
  cases hr
  refine W.aret (v := .ref x) hc.1 hc.2.1 (hc.retT.trans hret) (Or.inl ⟨cn, rfl⟩) (Or.inr ⟨x, rfl⟩) (fun tt ht hW => ?_) hS.2.2 hdg hc.locks
  rw [hg]
  exact ⟨⟨rfl, by rw [ht]; exact hP, hD⟩, hS.F ht⟩
end VR
section VC
variable {p : Program} {l : Launch} {e : Env} {R : Room} {s : State} {m : MethodId} {args : Array Value} {below : List Frame} {meth : Method} {c : Code} {K : Kx} {A : Nat → Prop} {cells slots nL : Nat} {Rt : Type} {Q : Rt → State → Prop} {pc : Nat} {lv : List (Nat × Value)} {st : List Value} {t : Sx} {cc : ByteArray} {Ts : List Cond} {own : String} {ret : Option FieldType} {R0 : Type} {f0 : Option R0} {g0 : R0 → Option Value × Sx} {k : R0 → Option Rt}
/-- behind a call -/
theorem W_call {Qr : State → Prop} {H : Heap} {locs : List Loc} {ls : Array Slot} {rest st0 : List Value} {o : Option Value × Sx} {a : Array Value} {free : Addr → Prop} (hr : va_Run p l e R s m args below meth c H locs cells slots 0 0 (F0 m pc ls st0) rest (QW K o H.size a) free) (hfree : free = aA K H.size) (hF : ∀ q, aA K H.size q → A q) (hS : va_S A s.heap H locs)
    (kk : ∀ (H1 : Heap) (locs1 : List Loc), va_P K.1 vwCl (wd K o.2) H1 → va_D A (wd K o.2) → va_S A s.heap H1 locs1 → W p l e R s m args below meth c H1 locs1 cells slots Qr (F0 m (pc + 3) ls (o.1.toList ++ rest))) : W p l e R s m args below meth c H locs cells slots Qr (F0 m pc ls st0) := by
  subst hfree
  intro T hT X
  obtain ⟨v, st₀, t, T', L, h0, X', hL, e1, e2, ⟨⟨hv, hP, hD⟩, hz, hk⟩, st⟩ := hr T hT X
  cases hv
  rw [h0] at hz hk
  obtain ⟨t2, a1, b1⟩ := kk T'.heap (locs ++ L) (by rw [e1]; exact hP) (hD.weaken (fun _ q _ h => hF q.1 h))
    ⟨Nat.le_trans hS.1 (by rw [e1]; exact hz), fun q h1 h2 => by rw [e1, hk q (Nat.lt_of_lt_of_le h1 hS.1) (fun z => h2 (hF q z))]; exact hS.2.1 q h1 h2, fun q hq => by
      rcases List.mem_append.mp hq with h | h
      · exact hS.2.2 q h
      · exact hF _ (hL q h)⟩ T' rfl X'
  exact ⟨t2, st t2 a1, b1⟩
theorem Cx.free (hc : Cx p R s m args meth c cc nL Ts own K A ret cells slots) {H : Heap} {locs : List Loc} (hD : va_D A (wd K t)) (hS : va_S A s.heap H locs) : ∀ q, aA K H.size q → A q := by
  intro q h
  rw [← aA_eq K t] at h
  rcases h with ⟨i, ee, h⟩ | h
  · exact hD.2 i _ h
  · exact hc.hA q (Nat.le_trans hS.1 h)
theorem Cx.pre (hc : Cx p R s m args meth c cc nL Ts own K A ret cells slots) {H : Heap} {locs : List Loc} {av : List Value} (hP : va_P K.1 vwCl (wd K t) H) (hD : va_D A (wd K t)) (hS : va_S A s.heap H locs) : ∀ U : State, U.heap = H → s.WarmedH U.vm → PW K av t H.size av.toArray U := by
  intro U hU hW
  refine ⟨rfl, by rw [hU], by rw [hU]; exact hP, va_K.moved hW.alike hc.kK, hD.weaken (fun _ _ _ _ => trivial), NW.warm hW hc.nW, ?_⟩
  rw [hU]
  exact SF.go hW.alike hS.2.1 (hc.free hD hS) hc.sF
theorem V_callV {y : MethodName} {ws ws' : List Cond} {rm : Room} {As rest : List Value} {P ci N maxL index : Nat} {Cn : String} {T : u_T} {fs : List (Nat × Nat)} {bytes : ByteArray} {ret' : Option FieldType} (hc : Cx p R s m args meth c cc nL Ts own K A ret cells slots) (hM : CT l K y ws rm (.ref (K.2.2 P) :: As) t f0 g0) (hs : shpL[P]? = some (.inr (ci, fs))) (hcl : vwCl[ci]? = some (Cn, T, N)) (n : Nat) (hG : GoodIn Ts (wsV own index Cn y ws)) (hw : ws = Cond.code y bytes maxL ret' :: ws') (hrm : rm.cells = 0 ∧ rm.slots = 0) (hd : y.cls = Cn ∧ y.cls ≠ "java/lang/invoke/MethodHandle" ∧ y.cls ≠ "java/lang/invoke/VarHandle" ∧ (parseMethodDescriptor y.desc).map (fun d => d.parameters.length) = some n) (hR : rm.frames + 1 ≤ R.frames ∧ 8 + (maxL + 11) + rm.locals ≤ R.locals) (hn : As.length = n) (hst : st = As.reverse ++ .ref (K.2.2 P) :: rest) (hcat : (rest.map fun v => v.category).sum ≤ 8) (hdg : decode cc pc = .ok (.invokevirtual index, 3))
    (kk : ∀ r, V p l e R s m args below meth c K A cells slots nL Q (pc + 3) lv ((g0 r).1.toList ++ rest) (g0 r).2 (k r)) : V p l e R s m args below meth c K A cells slots nL Q pc lv st t (f0.bind k) := by
  intro r hr ls H locs hl hP hD hS
  obtain ⟨r1, h1, h2⟩ := Option.bind_eq_some_iff.mp hr
  subst hst
  refine W_call (o := g0 r1) (va_runV (rest := rest) ⟨hc.1, hc.2.1, hc.2.2.1, hc.ow, hc.hts⟩ (hM r1 h1 H.size) (cwV n hc.hts hG hw hrm.1 hrm.2 hd hR) ⟨PW_blind K _ t _, va_recv hc.kK hP hcl (wd_get hs), hc.pre hP hD hS⟩ rfl hn hl.1 rfl (lv_room hcat) hdg hc.room) rfl (hc.free hD hS) hS (fun H1 locs1 hP1 hD1 hS1 => kk r1 r h2 ls H1 locs1 hl hP1 hD1 hS1)
theorem V_callV_RC {P' : Nat} {k : Option Rt} {y : MethodName} {ws ws' : List Cond} {rm : Room} {As rest : List Value} {P ci N maxL index : Nat} {Cn : String} {T : u_T} {fs : List (Nat × Nat)} {bytes : ByteArray} {ret' : Option FieldType} (hc : Cx p R s m args meth c cc nL Ts own K A ret cells slots) (hM : CT l K y ws rm (.ref (K.2.2 P) :: As) t (some P') (kRR K t)) (hs : shpL[P]? = some (.inr (ci, fs))) (hcl : vwCl[ci]? = some (Cn, T, N)) (n : Nat) (hG : GoodIn Ts (wsV own index Cn y ws)) (hw : ws = Cond.code y bytes maxL ret' :: ws') (hrm : rm.cells = 0 ∧ rm.slots = 0) (hd : y.cls = Cn ∧ y.cls ≠ "java/lang/invoke/MethodHandle" ∧ y.cls ≠ "java/lang/invoke/VarHandle" ∧ (parseMethodDescriptor y.desc).map (fun d => d.parameters.length) = some n) (hR : rm.frames + 1 ≤ R.frames ∧ 8 + (maxL + 11) + rm.locals ≤ R.locals) (hn : As.length = n) (hst : st = As.reverse ++ .ref (K.2.2 P) :: rest) (hcat : (rest.map fun v => v.category).sum ≤ 8) (hdg : decode cc pc = .ok (.invokevirtual index, 3))
    (kk : V p l e R s m args below meth c K A cells slots nL Q (pc + 3) lv (.ref (K.2.2 P') :: rest) t k) : V p l e R s m args below meth c K A cells slots nL Q pc lv st t k := by
  intro r hr ls H locs hl hP hD hS
  subst hst
  refine W_call (o := kRR K t P') (va_runV (rest := rest) ⟨hc.1, hc.2.1, hc.2.2.1, hc.ow, hc.hts⟩ (hM P' rfl H.size) (cwV n hc.hts hG hw hrm.1 hrm.2 hd hR) ⟨PW_blind K _ t _, va_recv hc.kK hP hcl (wd_get hs), hc.pre hP hD hS⟩ rfl hn hl.1 rfl (lv_room hcat) hdg hc.room) rfl (hc.free hD hS) hS (fun H1 locs1 hP1 hD1 hS1 => kk r hr ls H1 locs1 hl hP1 hD1 hS1)
theorem V_callS {y : MethodName} {ws ws' : List Cond} {rm : Room} {As rest : List Value} {maxL index : Nat} {bytes : ByteArray} {ret' : Option FieldType} (hc : Cx p R s m args meth c cc nL Ts own K A ret cells slots) (hM : CT l K y ws rm As t f0 g0) (n : Nat) (hG : GoodIn Ts (va_wsS own index y ws)) (hw : ws = Cond.code y bytes maxL ret' :: ws') (hrm : rm.cells = 0 ∧ rm.slots = 0) (hd : y.cls ≠ "java/lang/invoke/MethodHandle" ∧ y.cls ≠ "java/lang/invoke/VarHandle" ∧ (parseMethodDescriptor y.desc).map (fun d => d.parameters.length) = some n) (hR : rm.frames + 1 ≤ R.frames ∧ 8 + (maxL + 11) + rm.locals ≤ R.locals) (hn : As.length = n) (hst : st = As.reverse ++ rest) (hcat : (rest.map fun v => v.category).sum ≤ 8) (hdg : decode cc pc = .ok (.invokestatic index, 3))
    (kk : ∀ r, V p l e R s m args below meth c K A cells slots nL Q (pc + 3) lv ((g0 r).1.toList ++ rest) (g0 r).2 (k r)) : V p l e R s m args below meth c K A cells slots nL Q pc lv st t (f0.bind k) := by
  intro r hr ls H locs hl hP hD hS
  obtain ⟨r1, h1, h2⟩ := Option.bind_eq_some_iff.mp hr
  subst hst
  refine W_call (o := g0 r1) (va_runS (rest := rest) ⟨hc.1, hc.2.1, hc.2.2.1, hc.ow, hc.hts⟩ (hM r1 h1 H.size) (va_cwS n hc.hts hG hw hrm.1 hrm.2 hd hR) ⟨PW_blind K _ t _, hc.pre hP hD hS⟩ rfl hn hl.1 rfl (lv_room hcat) hdg hc.room) rfl (hc.free hD hS) hS (fun H1 locs1 hP1 hD1 hS1 => kk r1 r h2 ls H1 locs1 hl hP1 hD1 hS1)
theorem V_callN {y : MethodName} {ws ws' : List Cond} {rm : Room} {As rest : List Value} {maxL index : Nat} {bytes : ByteArray} {ret' : Option FieldType} (hc : Cx p R s m args meth c cc nL Ts own K A ret cells slots) (hM : CT l K y ws rm As t f0 g0) (n : Nat) (hG : GoodIn Ts ws) (hw : ws = Cond.code y bytes maxL ret' :: ws') (hrm : rm.cells = 0 ∧ rm.slots = 0) (hN : (own, index, y) ∈ nestL) (hini : Cond.initialized y.cls ∈ Ts) (hstt : Cond.static y ∈ Ts) (hd : y.cls ≠ "java/lang/invoke/MethodHandle" ∧ y.cls ≠ "java/lang/invoke/VarHandle" ∧ (parseMethodDescriptor y.desc).map (fun d => d.parameters.length) = some n) (hR : rm.frames + 1 ≤ R.frames ∧ 8 + (maxL + 11) + rm.locals ≤ R.locals) (hn : As.length = n) (hst : st = As.reverse ++ rest) (hcat : (rest.map fun v => v.category).sum ≤ 8) (hdg : decode cc pc = .ok (.invokestatic index, 3))
    (kk : ∀ r, V p l e R s m args below meth c K A cells slots nL Q (pc + 3) lv ((g0 r).1.toList ++ rest) (g0 r).2 (k r)) : V p l e R s m args below meth c K A cells slots nL Q pc lv st t (f0.bind k) := by
  intro r hr ls H locs hl hP hD hS
  obtain ⟨r1, h1, h2⟩ := Option.bind_eq_some_iff.mp hr
  subst hst
  refine W_call (o := g0 r1) (va_runSN (rest := rest) ⟨hc.1, hc.2.1, hc.2.2.1, hc.ow, hc.hts⟩ (hM r1 h1 H.size) ⟨va_cnB n hc.hts hG hw hrm.1 hrm.2 (hc.nW _ hN) (hc.hts _ hini) hd hR, hc.hts _ hstt, trivial⟩ ⟨PW_blind K _ t _, hc.pre hP hD hS⟩ rfl hn hl.1 rfl (lv_room hcat) hdg hc.room) rfl (hc.free hD hS) hS (fun H1 locs1 hP1 hD1 hS1 => kk r1 r h2 ls H1 locs1 hl hP1 hD1 hS1)
/-- Math.max, Math.min -/
theorem V_mmax {index : Nat} {x y : Int32} {k : Option Rt} (hc : Cx p R s m args meth c cc nL Ts own K A ret cells slots) (hlink : Cond.methodLink own index Lib.Math.max.name ∈ Ts) (hstat : Cond.static Lib.Math.max.name ∈ Ts) (hini : Cond.initialized "java/lang/Math" ∈ Ts) (hcode : Cond.code Lib.Math.max.name Lib.Math.max.code 2 (some .int) ∈ Ts) (hframes : 1 ≤ R.frames) (hlocals : (st.map fun v => v.category).sum + 13 ≤ R.locals) (hdg : decode cc pc = .ok (.invokestatic index, 3))
    (h : V p l e R s m args below meth c K A cells slots nL Q (pc + 3) lv (.int (if x < y then y else x) :: st) t k) : V p l e R s m args below meth c K A cells slots nL Q pc lv (.int y :: .int x :: st) t k := fun r hr ls H locs hl hP hD hS =>
  va_mmax hc.1 hc.2.1 (hc.2.2.1.trans hl.1.symm) hc.ow (hc.hts _ hlink) (hc.hts _ hstat) (hc.hts _ hini) (hc.hts _ hcode) hframes hlocals hc.room.1 hc.room.2 hdg (h r hr ls H locs hl hP hD hS)
theorem V_mmin {index : Nat} {x y : Int32} {k : Option Rt} (hc : Cx p R s m args meth c cc nL Ts own K A ret cells slots) (hlink : Cond.methodLink own index Lib.Math.min.name ∈ Ts) (hstat : Cond.static Lib.Math.min.name ∈ Ts) (hini : Cond.initialized "java/lang/Math" ∈ Ts) (hcode : Cond.code Lib.Math.min.name Lib.Math.min.code 2 (some .int) ∈ Ts) (hframes : 1 ≤ R.frames) (hlocals : (st.map fun v => v.category).sum + 13 ≤ R.locals) (hdg : decode cc pc = .ok (.invokestatic index, 3))
    (h : V p l e R s m args below meth c K A cells slots nL Q (pc + 3) lv (.int (if y < x then y else x) :: st) t k) : V p l e R s m args below meth c K A cells slots nL Q pc lv (.int y :: .int x :: st) t k := fun r hr ls H locs hl hP hD hS =>
  va_mmin hc.1 hc.2.1 (hc.2.2.1.trans hl.1.symm) hc.ow (hc.hts _ hlink) (hc.hts _ hstat) (hc.hts _ hini) (hc.hts _ hcode) hframes hlocals hc.room.1 hc.room.2 hdg (h r hr ls H locs hl hP hD hS)
end VC
/-- a fuel that nothing computes -/
noncomputable def FU : Nat := Classical.choose (⟨2000, rfl⟩ : ∃ n : Nat, n = 2000)
theorem FU_eq : FU = 2000 := Classical.choose_spec (⟨2000, rfl⟩ : ∃ n : Nat, n = 2000)
theorem ts_out {x : Int32} {lo : Int} {n : Nat} (h : ∀ i : Nat, i < n → ¬ x = Int32.ofInt (lo + i)) : x.toInt < lo ∨ lo + n - 1 < x.toInt := by
  by_cases h1 : x.toInt < lo
  · exact Or.inl h1
  · by_cases h2 : lo + n - 1 < x.toInt
    · exact Or.inr h2
    · exfalso
      refine h (x.toInt - lo).toNat (by omega) ?_
      rw [show lo + (((x.toInt - lo).toNat : Nat) : Int) = x.toInt by omega, Int32.ofInt_toInt]
theorem toInt_ne {x : Int32} {v : Int} (h : ¬ x = Int32.ofInt v) : ¬ v = x.toInt := fun e => h (by rw [e, Int32.ofInt_toInt])
theorem lks_dflt {ps : List (Int × Int)} {d k : Int} (h : ∀ q ∈ ps, ¬ q.1 = k) : Op.lookupswitch.offset ps d k = d := by
  induction ps with
  | nil => rfl
  | cons a r ih =>
    obtain ⟨a, o⟩ := a
    rw [Op.lookupswitch.offset_cons, if_neg (h (a, o) List.mem_cons_self), ih (fun q hq => h q (List.mem_cons_of_mem _ hq))]
section VCP
variable {p : Program} {l : Launch} {e : Env} {R : Room} {s : State} {m : MethodId} {args : Array Value} {below : List Frame} {meth : Method} {c : Code} {K : Kx} {A : Nat → Prop} {cells slots nL : Nat} {Rt : Type} {Q : Rt → State → Prop} {pc : Nat} {lv : List (Nat × Value)} {st : List Value} {t : Sx} {cc : ByteArray} {Ts : List Cond} {own : String} {ret : Option FieldType}
/-- System.arraycopy of chars -/
theorem V_copyc {index : Nat} {P0 P1 n0 n1 a0 a1 : Nat} {sp dp n : Int32} {k : Option Rt} (hc : Cx p R s m args meth c cc nL Ts own K A ret cells slots) (hs0 : shpL[P0]? = some (.inl (2, n0, a0))) (hs1 : shpL[P1]? = some (.inl (2, n1, a1))) (hlink : Cond.methodLink own index arraycopyName ∈ Ts) (hnat : Cond.native arraycopyName ∈ Ts) (hstat : Cond.static arraycopyName ∈ Ts) (hini : Cond.initialized "java/lang/System" ∈ Ts) (hframes : 1 ≤ R.frames) (hlocals : (st.map fun v => v.category).sum + (nativeFrameWords "java/lang/System" "arraycopy" 5 + 11) ≤ R.locals) (hdg : decode cc pc = .ok (.invokestatic index, 3))
    (h : V p l e R s m args below meth c K A cells slots nL Q (pc + 3) lv st (pW t a1 (va_cpy (gA t a0) (gA t a1) (ix sp) (ix dp) (ix n))) k) : V p l e R s m args below meth c K A cells slots nL Q pc lv (.int n :: .int dp :: .ref (K.2.2 P1) :: .int sp :: .ref (K.2.2 P0) :: st) t (gd ((¬ sp < 0 ∧ ¬ dp < 0 ∧ ¬ n < 0 ∧ ix sp + ix n ≤ n0 ∧ ix dp + ix n ≤ n1) ∧ ∀ i, i < ix n → fits .char (.int (gA t a0 (ix sp + i))) = true) k) := fun r hr ls H locs hl hP hD hS =>
  va_copyi hc.1 hc.2.1 (hc.2.2.1.trans hl.1.symm) hc.ow (hc.hts _ hlink) (hc.hts _ hnat) (hc.hts _ hstat) (hc.hts _ hini) hc.kK hP hD hS P0 P1 2 2 (wd_get hs0) (wd_get hs1) rfl rfl rfl (gd_some hr).1.1.1 (gd_some hr).1.1.2.1 (gd_some hr).1.1.2.2.1 (gd_some hr).1.1.2.2.2.1 (gd_some hr).1.1.2.2.2.2 (gd_some hr).1.2 hframes hlocals hdg (fun H1 locs1 hP1 hD1 hS1 => h r (gd_some hr).2 ls H1 locs1 hl (by
    have e := wd_pW (K := K) (t := t) (f := va_cpy (gA t a0) (gA t a1) sp.toNatClampNeg dp.toNatClampNeg n.toNatClampNeg) hs1 (by decide)
    exact Eq.mp (congrArg (fun w => va_P K.1 vwCl w H1) e) hP1) (by
    have e := wd_pW (K := K) (t := t) (f := va_cpy (gA t a0) (gA t a1) sp.toNatClampNeg dp.toNatClampNeg n.toNatClampNeg) hs1 (by decide)
    exact Eq.mp (congrArg (fun w => va_D A w) e) hD1) hS1)
end VCP
section VCK
variable {p : Program} {l : Launch} {e : Env} {R : Room} {s : State} {m : MethodId} {args : Array Value} {below : List Frame} {meth : Method} {c : Code} {K : Kx} {A : Nat → Prop} {cells slots nL : Nat} {Rt : Type} {Q : Rt → State → Prop} {pc : Nat} {lv : List (Nat × Value)} {st : List Value} {t : Sx} {cc : ByteArray} {Ts : List Cond} {own : String} {ret : Option FieldType}
theorem V_callV_RI {y : MethodName} {ws ws' : List Cond} {rm : Room} {As rest : List Value} {P ci N maxL index : Nat} {Cn : String} {T : u_T} {fs : List (Nat × Nat)} {bytes : ByteArray} {ret' : Option FieldType} {f0 : Option Int32} {k : Int32 → Option Rt} (hc : Cx p R s m args meth c cc nL Ts own K A ret cells slots) (hM : CT l K y ws rm (.ref (K.2.2 P) :: As) t f0 (kRI t)) (hs : shpL[P]? = some (.inr (ci, fs))) (hcl : vwCl[ci]? = some (Cn, T, N)) (n : Nat) (hG : GoodIn Ts (wsV own index Cn y ws)) (hw : ws = Cond.code y bytes maxL ret' :: ws') (hrm : rm.cells = 0 ∧ rm.slots = 0) (hd : y.cls = Cn ∧ y.cls ≠ "java/lang/invoke/MethodHandle" ∧ y.cls ≠ "java/lang/invoke/VarHandle" ∧ (parseMethodDescriptor y.desc).map (fun d => d.parameters.length) = some n) (hR : rm.frames + 1 ≤ R.frames ∧ 8 + (maxL + 11) + rm.locals ≤ R.locals) (hn : As.length = n) (hst : st = As.reverse ++ .ref (K.2.2 P) :: rest) (hcat : (rest.map fun v => v.category).sum ≤ 8) (hdg : decode cc pc = .ok (.invokevirtual index, 3)) (kk : ∀ r, V p l e R s m args below meth c K A cells slots nL Q (pc + 3) lv (.int r :: rest) t (k r)) : V p l e R s m args below meth c K A cells slots nL Q pc lv st t (f0.bind k) := V_callV hc hM hs hcl n hG hw hrm hd hR hn hst hcat hdg kk
theorem V_callV_RL {y : MethodName} {ws ws' : List Cond} {rm : Room} {As rest : List Value} {P ci N maxL index : Nat} {Cn : String} {T : u_T} {fs : List (Nat × Nat)} {bytes : ByteArray} {ret' : Option FieldType} {f0 : Option Int64} {k : Int64 → Option Rt} (hc : Cx p R s m args meth c cc nL Ts own K A ret cells slots) (hM : CT l K y ws rm (.ref (K.2.2 P) :: As) t f0 (kRL t)) (hs : shpL[P]? = some (.inr (ci, fs))) (hcl : vwCl[ci]? = some (Cn, T, N)) (n : Nat) (hG : GoodIn Ts (wsV own index Cn y ws)) (hw : ws = Cond.code y bytes maxL ret' :: ws') (hrm : rm.cells = 0 ∧ rm.slots = 0) (hd : y.cls = Cn ∧ y.cls ≠ "java/lang/invoke/MethodHandle" ∧ y.cls ≠ "java/lang/invoke/VarHandle" ∧ (parseMethodDescriptor y.desc).map (fun d => d.parameters.length) = some n) (hR : rm.frames + 1 ≤ R.frames ∧ 8 + (maxL + 11) + rm.locals ≤ R.locals) (hn : As.length = n) (hst : st = As.reverse ++ .ref (K.2.2 P) :: rest) (hcat : (rest.map fun v => v.category).sum ≤ 8) (hdg : decode cc pc = .ok (.invokevirtual index, 3)) (kk : ∀ r, V p l e R s m args below meth c K A cells slots nL Q (pc + 3) lv (.long r :: rest) t (k r)) : V p l e R s m args below meth c K A cells slots nL Q pc lv st t (f0.bind k) := V_callV hc hM hs hcl n hG hw hrm hd hR hn hst hcat hdg kk
theorem V_callV_WI {y : MethodName} {ws ws' : List Cond} {rm : Room} {As rest : List Value} {P ci N maxL index : Nat} {Cn : String} {T : u_T} {fs : List (Nat × Nat)} {bytes : ByteArray} {ret' : Option FieldType} {f0 : Option (Int32 × Sx)} {k : (Int32 × Sx) → Option Rt} (hc : Cx p R s m args meth c cc nL Ts own K A ret cells slots) (hM : CT l K y ws rm (.ref (K.2.2 P) :: As) t f0 kWI) (hs : shpL[P]? = some (.inr (ci, fs))) (hcl : vwCl[ci]? = some (Cn, T, N)) (n : Nat) (hG : GoodIn Ts (wsV own index Cn y ws)) (hw : ws = Cond.code y bytes maxL ret' :: ws') (hrm : rm.cells = 0 ∧ rm.slots = 0) (hd : y.cls = Cn ∧ y.cls ≠ "java/lang/invoke/MethodHandle" ∧ y.cls ≠ "java/lang/invoke/VarHandle" ∧ (parseMethodDescriptor y.desc).map (fun d => d.parameters.length) = some n) (hR : rm.frames + 1 ≤ R.frames ∧ 8 + (maxL + 11) + rm.locals ≤ R.locals) (hn : As.length = n) (hst : st = As.reverse ++ .ref (K.2.2 P) :: rest) (hcat : (rest.map fun v => v.category).sum ≤ 8) (hdg : decode cc pc = .ok (.invokevirtual index, 3)) (kk : ∀ r, V p l e R s m args below meth c K A cells slots nL Q (pc + 3) lv (.int r.1 :: rest) r.2 (k r)) : V p l e R s m args below meth c K A cells slots nL Q pc lv st t (f0.bind k) := V_callV hc hM hs hcl n hG hw hrm hd hR hn hst hcat hdg kk
theorem V_callV_WL {y : MethodName} {ws ws' : List Cond} {rm : Room} {As rest : List Value} {P ci N maxL index : Nat} {Cn : String} {T : u_T} {fs : List (Nat × Nat)} {bytes : ByteArray} {ret' : Option FieldType} {f0 : Option (Int64 × Sx)} {k : (Int64 × Sx) → Option Rt} (hc : Cx p R s m args meth c cc nL Ts own K A ret cells slots) (hM : CT l K y ws rm (.ref (K.2.2 P) :: As) t f0 kWL) (hs : shpL[P]? = some (.inr (ci, fs))) (hcl : vwCl[ci]? = some (Cn, T, N)) (n : Nat) (hG : GoodIn Ts (wsV own index Cn y ws)) (hw : ws = Cond.code y bytes maxL ret' :: ws') (hrm : rm.cells = 0 ∧ rm.slots = 0) (hd : y.cls = Cn ∧ y.cls ≠ "java/lang/invoke/MethodHandle" ∧ y.cls ≠ "java/lang/invoke/VarHandle" ∧ (parseMethodDescriptor y.desc).map (fun d => d.parameters.length) = some n) (hR : rm.frames + 1 ≤ R.frames ∧ 8 + (maxL + 11) + rm.locals ≤ R.locals) (hn : As.length = n) (hst : st = As.reverse ++ .ref (K.2.2 P) :: rest) (hcat : (rest.map fun v => v.category).sum ≤ 8) (hdg : decode cc pc = .ok (.invokevirtual index, 3)) (kk : ∀ r, V p l e R s m args below meth c K A cells slots nL Q (pc + 3) lv (.long r.1 :: rest) r.2 (k r)) : V p l e R s m args below meth c K A cells slots nL Q pc lv st t (f0.bind k) := V_callV hc hM hs hcl n hG hw hrm hd hR hn hst hcat hdg kk
theorem V_callV_WV {y : MethodName} {ws ws' : List Cond} {rm : Room} {As rest : List Value} {P ci N maxL index : Nat} {Cn : String} {T : u_T} {fs : List (Nat × Nat)} {bytes : ByteArray} {ret' : Option FieldType} {f0 : Option Sx} {k : Sx → Option Rt} (hc : Cx p R s m args meth c cc nL Ts own K A ret cells slots) (hM : CT l K y ws rm (.ref (K.2.2 P) :: As) t f0 kWV) (hs : shpL[P]? = some (.inr (ci, fs))) (hcl : vwCl[ci]? = some (Cn, T, N)) (n : Nat) (hG : GoodIn Ts (wsV own index Cn y ws)) (hw : ws = Cond.code y bytes maxL ret' :: ws') (hrm : rm.cells = 0 ∧ rm.slots = 0) (hd : y.cls = Cn ∧ y.cls ≠ "java/lang/invoke/MethodHandle" ∧ y.cls ≠ "java/lang/invoke/VarHandle" ∧ (parseMethodDescriptor y.desc).map (fun d => d.parameters.length) = some n) (hR : rm.frames + 1 ≤ R.frames ∧ 8 + (maxL + 11) + rm.locals ≤ R.locals) (hn : As.length = n) (hst : st = As.reverse ++ .ref (K.2.2 P) :: rest) (hcat : (rest.map fun v => v.category).sum ≤ 8) (hdg : decode cc pc = .ok (.invokevirtual index, 3)) (kk : ∀ r, V p l e R s m args below meth c K A cells slots nL Q (pc + 3) lv (rest) r (k r)) : V p l e R s m args below meth c K A cells slots nL Q pc lv st t (f0.bind k) := V_callV hc hM hs hcl n hG hw hrm hd hR hn hst hcat hdg kk
theorem V_callV_RR {y : MethodName} {ws ws' : List Cond} {rm : Room} {As rest : List Value} {P ci N maxL index : Nat} {Cn : String} {T : u_T} {fs : List (Nat × Nat)} {bytes : ByteArray} {ret' : Option FieldType} {f0 : Option Nat} {k : Nat → Option Rt} (hc : Cx p R s m args meth c cc nL Ts own K A ret cells slots) (hM : CT l K y ws rm (.ref (K.2.2 P) :: As) t f0 (kRR K t)) (hs : shpL[P]? = some (.inr (ci, fs))) (hcl : vwCl[ci]? = some (Cn, T, N)) (n : Nat) (hG : GoodIn Ts (wsV own index Cn y ws)) (hw : ws = Cond.code y bytes maxL ret' :: ws') (hrm : rm.cells = 0 ∧ rm.slots = 0) (hd : y.cls = Cn ∧ y.cls ≠ "java/lang/invoke/MethodHandle" ∧ y.cls ≠ "java/lang/invoke/VarHandle" ∧ (parseMethodDescriptor y.desc).map (fun d => d.parameters.length) = some n) (hR : rm.frames + 1 ≤ R.frames ∧ 8 + (maxL + 11) + rm.locals ≤ R.locals) (hn : As.length = n) (hst : st = As.reverse ++ .ref (K.2.2 P) :: rest) (hcat : (rest.map fun v => v.category).sum ≤ 8) (hdg : decode cc pc = .ok (.invokevirtual index, 3)) (kk : ∀ r, V p l e R s m args below meth c K A cells slots nL Q (pc + 3) lv (.ref (K.2.2 r) :: rest) t (k r)) : V p l e R s m args below meth c K A cells slots nL Q pc lv st t (f0.bind k) := V_callV hc hM hs hcl n hG hw hrm hd hR hn hst hcat hdg kk
theorem V_callS_RI {y : MethodName} {ws ws' : List Cond} {rm : Room} {As rest : List Value} {maxL index : Nat} {bytes : ByteArray} {ret' : Option FieldType} {f0 : Option Int32} {k : Int32 → Option Rt} (hc : Cx p R s m args meth c cc nL Ts own K A ret cells slots) (hM : CT l K y ws rm (As) t f0 (kRI t)) (n : Nat) (hG : GoodIn Ts (va_wsS own index y ws)) (hw : ws = Cond.code y bytes maxL ret' :: ws') (hrm : rm.cells = 0 ∧ rm.slots = 0) (hd : y.cls ≠ "java/lang/invoke/MethodHandle" ∧ y.cls ≠ "java/lang/invoke/VarHandle" ∧ (parseMethodDescriptor y.desc).map (fun d => d.parameters.length) = some n) (hR : rm.frames + 1 ≤ R.frames ∧ 8 + (maxL + 11) + rm.locals ≤ R.locals) (hn : As.length = n) (hst : st = As.reverse ++ rest) (hcat : (rest.map fun v => v.category).sum ≤ 8) (hdg : decode cc pc = .ok (.invokestatic index, 3)) (kk : ∀ r, V p l e R s m args below meth c K A cells slots nL Q (pc + 3) lv (.int r :: rest) t (k r)) : V p l e R s m args below meth c K A cells slots nL Q pc lv st t (f0.bind k) := V_callS hc hM n hG hw hrm hd hR hn hst hcat hdg kk
theorem V_callS_RL {y : MethodName} {ws ws' : List Cond} {rm : Room} {As rest : List Value} {maxL index : Nat} {bytes : ByteArray} {ret' : Option FieldType} {f0 : Option Int64} {k : Int64 → Option Rt} (hc : Cx p R s m args meth c cc nL Ts own K A ret cells slots) (hM : CT l K y ws rm (As) t f0 (kRL t)) (n : Nat) (hG : GoodIn Ts (va_wsS own index y ws)) (hw : ws = Cond.code y bytes maxL ret' :: ws') (hrm : rm.cells = 0 ∧ rm.slots = 0) (hd : y.cls ≠ "java/lang/invoke/MethodHandle" ∧ y.cls ≠ "java/lang/invoke/VarHandle" ∧ (parseMethodDescriptor y.desc).map (fun d => d.parameters.length) = some n) (hR : rm.frames + 1 ≤ R.frames ∧ 8 + (maxL + 11) + rm.locals ≤ R.locals) (hn : As.length = n) (hst : st = As.reverse ++ rest) (hcat : (rest.map fun v => v.category).sum ≤ 8) (hdg : decode cc pc = .ok (.invokestatic index, 3)) (kk : ∀ r, V p l e R s m args below meth c K A cells slots nL Q (pc + 3) lv (.long r :: rest) t (k r)) : V p l e R s m args below meth c K A cells slots nL Q pc lv st t (f0.bind k) := V_callS hc hM n hG hw hrm hd hR hn hst hcat hdg kk
theorem V_callS_WI {y : MethodName} {ws ws' : List Cond} {rm : Room} {As rest : List Value} {maxL index : Nat} {bytes : ByteArray} {ret' : Option FieldType} {f0 : Option (Int32 × Sx)} {k : (Int32 × Sx) → Option Rt} (hc : Cx p R s m args meth c cc nL Ts own K A ret cells slots) (hM : CT l K y ws rm (As) t f0 kWI) (n : Nat) (hG : GoodIn Ts (va_wsS own index y ws)) (hw : ws = Cond.code y bytes maxL ret' :: ws') (hrm : rm.cells = 0 ∧ rm.slots = 0) (hd : y.cls ≠ "java/lang/invoke/MethodHandle" ∧ y.cls ≠ "java/lang/invoke/VarHandle" ∧ (parseMethodDescriptor y.desc).map (fun d => d.parameters.length) = some n) (hR : rm.frames + 1 ≤ R.frames ∧ 8 + (maxL + 11) + rm.locals ≤ R.locals) (hn : As.length = n) (hst : st = As.reverse ++ rest) (hcat : (rest.map fun v => v.category).sum ≤ 8) (hdg : decode cc pc = .ok (.invokestatic index, 3)) (kk : ∀ r, V p l e R s m args below meth c K A cells slots nL Q (pc + 3) lv (.int r.1 :: rest) r.2 (k r)) : V p l e R s m args below meth c K A cells slots nL Q pc lv st t (f0.bind k) := V_callS hc hM n hG hw hrm hd hR hn hst hcat hdg kk
theorem V_callS_WL {y : MethodName} {ws ws' : List Cond} {rm : Room} {As rest : List Value} {maxL index : Nat} {bytes : ByteArray} {ret' : Option FieldType} {f0 : Option (Int64 × Sx)} {k : (Int64 × Sx) → Option Rt} (hc : Cx p R s m args meth c cc nL Ts own K A ret cells slots) (hM : CT l K y ws rm (As) t f0 kWL) (n : Nat) (hG : GoodIn Ts (va_wsS own index y ws)) (hw : ws = Cond.code y bytes maxL ret' :: ws') (hrm : rm.cells = 0 ∧ rm.slots = 0) (hd : y.cls ≠ "java/lang/invoke/MethodHandle" ∧ y.cls ≠ "java/lang/invoke/VarHandle" ∧ (parseMethodDescriptor y.desc).map (fun d => d.parameters.length) = some n) (hR : rm.frames + 1 ≤ R.frames ∧ 8 + (maxL + 11) + rm.locals ≤ R.locals) (hn : As.length = n) (hst : st = As.reverse ++ rest) (hcat : (rest.map fun v => v.category).sum ≤ 8) (hdg : decode cc pc = .ok (.invokestatic index, 3)) (kk : ∀ r, V p l e R s m args below meth c K A cells slots nL Q (pc + 3) lv (.long r.1 :: rest) r.2 (k r)) : V p l e R s m args below meth c K A cells slots nL Q pc lv st t (f0.bind k) := V_callS hc hM n hG hw hrm hd hR hn hst hcat hdg kk
theorem V_callS_WV {y : MethodName} {ws ws' : List Cond} {rm : Room} {As rest : List Value} {maxL index : Nat} {bytes : ByteArray} {ret' : Option FieldType} {f0 : Option Sx} {k : Sx → Option Rt} (hc : Cx p R s m args meth c cc nL Ts own K A ret cells slots) (hM : CT l K y ws rm (As) t f0 kWV) (n : Nat) (hG : GoodIn Ts (va_wsS own index y ws)) (hw : ws = Cond.code y bytes maxL ret' :: ws') (hrm : rm.cells = 0 ∧ rm.slots = 0) (hd : y.cls ≠ "java/lang/invoke/MethodHandle" ∧ y.cls ≠ "java/lang/invoke/VarHandle" ∧ (parseMethodDescriptor y.desc).map (fun d => d.parameters.length) = some n) (hR : rm.frames + 1 ≤ R.frames ∧ 8 + (maxL + 11) + rm.locals ≤ R.locals) (hn : As.length = n) (hst : st = As.reverse ++ rest) (hcat : (rest.map fun v => v.category).sum ≤ 8) (hdg : decode cc pc = .ok (.invokestatic index, 3)) (kk : ∀ r, V p l e R s m args below meth c K A cells slots nL Q (pc + 3) lv (rest) r (k r)) : V p l e R s m args below meth c K A cells slots nL Q pc lv st t (f0.bind k) := V_callS hc hM n hG hw hrm hd hR hn hst hcat hdg kk
theorem V_callS_RR {y : MethodName} {ws ws' : List Cond} {rm : Room} {As rest : List Value} {maxL index : Nat} {bytes : ByteArray} {ret' : Option FieldType} {f0 : Option Nat} {k : Nat → Option Rt} (hc : Cx p R s m args meth c cc nL Ts own K A ret cells slots) (hM : CT l K y ws rm (As) t f0 (kRR K t)) (n : Nat) (hG : GoodIn Ts (va_wsS own index y ws)) (hw : ws = Cond.code y bytes maxL ret' :: ws') (hrm : rm.cells = 0 ∧ rm.slots = 0) (hd : y.cls ≠ "java/lang/invoke/MethodHandle" ∧ y.cls ≠ "java/lang/invoke/VarHandle" ∧ (parseMethodDescriptor y.desc).map (fun d => d.parameters.length) = some n) (hR : rm.frames + 1 ≤ R.frames ∧ 8 + (maxL + 11) + rm.locals ≤ R.locals) (hn : As.length = n) (hst : st = As.reverse ++ rest) (hcat : (rest.map fun v => v.category).sum ≤ 8) (hdg : decode cc pc = .ok (.invokestatic index, 3)) (kk : ∀ r, V p l e R s m args below meth c K A cells slots nL Q (pc + 3) lv (.ref (K.2.2 r) :: rest) t (k r)) : V p l e R s m args below meth c K A cells slots nL Q pc lv st t (f0.bind k) := V_callS hc hM n hG hw hrm hd hR hn hst hcat hdg kk
theorem V_callN_RI {y : MethodName} {ws ws' : List Cond} {rm : Room} {As rest : List Value} {maxL index : Nat} {bytes : ByteArray} {ret' : Option FieldType} {f0 : Option Int32} {k : Int32 → Option Rt} (hc : Cx p R s m args meth c cc nL Ts own K A ret cells slots) (hM : CT l K y ws rm (As) t f0 (kRI t)) (n : Nat) (hG : GoodIn Ts ws) (hw : ws = Cond.code y bytes maxL ret' :: ws') (hrm : rm.cells = 0 ∧ rm.slots = 0) (hN : (own, index, y) ∈ nestL) (hini : Cond.initialized y.cls ∈ Ts) (hstt : Cond.static y ∈ Ts) (hd : y.cls ≠ "java/lang/invoke/MethodHandle" ∧ y.cls ≠ "java/lang/invoke/VarHandle" ∧ (parseMethodDescriptor y.desc).map (fun d => d.parameters.length) = some n) (hR : rm.frames + 1 ≤ R.frames ∧ 8 + (maxL + 11) + rm.locals ≤ R.locals) (hn : As.length = n) (hst : st = As.reverse ++ rest) (hcat : (rest.map fun v => v.category).sum ≤ 8) (hdg : decode cc pc = .ok (.invokestatic index, 3)) (kk : ∀ r, V p l e R s m args below meth c K A cells slots nL Q (pc + 3) lv (.int r :: rest) t (k r)) : V p l e R s m args below meth c K A cells slots nL Q pc lv st t (f0.bind k) := V_callN hc hM n hG hw hrm hN hini hstt hd hR hn hst hcat hdg kk
theorem V_callN_RL {y : MethodName} {ws ws' : List Cond} {rm : Room} {As rest : List Value} {maxL index : Nat} {bytes : ByteArray} {ret' : Option FieldType} {f0 : Option Int64} {k : Int64 → Option Rt} (hc : Cx p R s m args meth c cc nL Ts own K A ret cells slots) (hM : CT l K y ws rm (As) t f0 (kRL t)) (n : Nat) (hG : GoodIn Ts ws) (hw : ws = Cond.code y bytes maxL ret' :: ws') (hrm : rm.cells = 0 ∧ rm.slots = 0) (hN : (own, index, y) ∈ nestL) (hini : Cond.initialized y.cls ∈ Ts) (hstt : Cond.static y ∈ Ts) (hd : y.cls ≠ "java/lang/invoke/MethodHandle" ∧ y.cls ≠ "java/lang/invoke/VarHandle" ∧ (parseMethodDescriptor y.desc).map (fun d => d.parameters.length) = some n) (hR : rm.frames + 1 ≤ R.frames ∧ 8 + (maxL + 11) + rm.locals ≤ R.locals) (hn : As.length = n) (hst : st = As.reverse ++ rest) (hcat : (rest.map fun v => v.category).sum ≤ 8) (hdg : decode cc pc = .ok (.invokestatic index, 3)) (kk : ∀ r, V p l e R s m args below meth c K A cells slots nL Q (pc + 3) lv (.long r :: rest) t (k r)) : V p l e R s m args below meth c K A cells slots nL Q pc lv st t (f0.bind k) := V_callN hc hM n hG hw hrm hN hini hstt hd hR hn hst hcat hdg kk
theorem V_callN_WI {y : MethodName} {ws ws' : List Cond} {rm : Room} {As rest : List Value} {maxL index : Nat} {bytes : ByteArray} {ret' : Option FieldType} {f0 : Option (Int32 × Sx)} {k : (Int32 × Sx) → Option Rt} (hc : Cx p R s m args meth c cc nL Ts own K A ret cells slots) (hM : CT l K y ws rm (As) t f0 kWI) (n : Nat) (hG : GoodIn Ts ws) (hw : ws = Cond.code y bytes maxL ret' :: ws') (hrm : rm.cells = 0 ∧ rm.slots = 0) (hN : (own, index, y) ∈ nestL) (hini : Cond.initialized y.cls ∈ Ts) (hstt : Cond.static y ∈ Ts) (hd : y.cls ≠ "java/lang/invoke/MethodHandle" ∧ y.cls ≠ "java/lang/invoke/VarHandle" ∧ (parseMethodDescriptor y.desc).map (fun d => d.parameters.length) = some n) (hR : rm.frames + 1 ≤ R.frames ∧ 8 + (maxL + 11) + rm.locals ≤ R.locals) (hn : As.length = n) (hst : st = As.reverse ++ rest) (hcat : (rest.map fun v => v.category).sum ≤ 8) (hdg : decode cc pc = .ok (.invokestatic index, 3)) (kk : ∀ r, V p l e R s m args below meth c K A cells slots nL Q (pc + 3) lv (.int r.1 :: rest) r.2 (k r)) : V p l e R s m args below meth c K A cells slots nL Q pc lv st t (f0.bind k) := V_callN hc hM n hG hw hrm hN hini hstt hd hR hn hst hcat hdg kk
theorem V_callN_WL {y : MethodName} {ws ws' : List Cond} {rm : Room} {As rest : List Value} {maxL index : Nat} {bytes : ByteArray} {ret' : Option FieldType} {f0 : Option (Int64 × Sx)} {k : (Int64 × Sx) → Option Rt} (hc : Cx p R s m args meth c cc nL Ts own K A ret cells slots) (hM : CT l K y ws rm (As) t f0 kWL) (n : Nat) (hG : GoodIn Ts ws) (hw : ws = Cond.code y bytes maxL ret' :: ws') (hrm : rm.cells = 0 ∧ rm.slots = 0) (hN : (own, index, y) ∈ nestL) (hini : Cond.initialized y.cls ∈ Ts) (hstt : Cond.static y ∈ Ts) (hd : y.cls ≠ "java/lang/invoke/MethodHandle" ∧ y.cls ≠ "java/lang/invoke/VarHandle" ∧ (parseMethodDescriptor y.desc).map (fun d => d.parameters.length) = some n) (hR : rm.frames + 1 ≤ R.frames ∧ 8 + (maxL + 11) + rm.locals ≤ R.locals) (hn : As.length = n) (hst : st = As.reverse ++ rest) (hcat : (rest.map fun v => v.category).sum ≤ 8) (hdg : decode cc pc = .ok (.invokestatic index, 3)) (kk : ∀ r, V p l e R s m args below meth c K A cells slots nL Q (pc + 3) lv (.long r.1 :: rest) r.2 (k r)) : V p l e R s m args below meth c K A cells slots nL Q pc lv st t (f0.bind k) := V_callN hc hM n hG hw hrm hN hini hstt hd hR hn hst hcat hdg kk
theorem V_callN_WV {y : MethodName} {ws ws' : List Cond} {rm : Room} {As rest : List Value} {maxL index : Nat} {bytes : ByteArray} {ret' : Option FieldType} {f0 : Option Sx} {k : Sx → Option Rt} (hc : Cx p R s m args meth c cc nL Ts own K A ret cells slots) (hM : CT l K y ws rm (As) t f0 kWV) (n : Nat) (hG : GoodIn Ts ws) (hw : ws = Cond.code y bytes maxL ret' :: ws') (hrm : rm.cells = 0 ∧ rm.slots = 0) (hN : (own, index, y) ∈ nestL) (hini : Cond.initialized y.cls ∈ Ts) (hstt : Cond.static y ∈ Ts) (hd : y.cls ≠ "java/lang/invoke/MethodHandle" ∧ y.cls ≠ "java/lang/invoke/VarHandle" ∧ (parseMethodDescriptor y.desc).map (fun d => d.parameters.length) = some n) (hR : rm.frames + 1 ≤ R.frames ∧ 8 + (maxL + 11) + rm.locals ≤ R.locals) (hn : As.length = n) (hst : st = As.reverse ++ rest) (hcat : (rest.map fun v => v.category).sum ≤ 8) (hdg : decode cc pc = .ok (.invokestatic index, 3)) (kk : ∀ r, V p l e R s m args below meth c K A cells slots nL Q (pc + 3) lv (rest) r (k r)) : V p l e R s m args below meth c K A cells slots nL Q pc lv st t (f0.bind k) := V_callN hc hM n hG hw hrm hN hini hstt hd hR hn hst hcat hdg kk
theorem V_callN_RR {y : MethodName} {ws ws' : List Cond} {rm : Room} {As rest : List Value} {maxL index : Nat} {bytes : ByteArray} {ret' : Option FieldType} {f0 : Option Nat} {k : Nat → Option Rt} (hc : Cx p R s m args meth c cc nL Ts own K A ret cells slots) (hM : CT l K y ws rm (As) t f0 (kRR K t)) (n : Nat) (hG : GoodIn Ts ws) (hw : ws = Cond.code y bytes maxL ret' :: ws') (hrm : rm.cells = 0 ∧ rm.slots = 0) (hN : (own, index, y) ∈ nestL) (hini : Cond.initialized y.cls ∈ Ts) (hstt : Cond.static y ∈ Ts) (hd : y.cls ≠ "java/lang/invoke/MethodHandle" ∧ y.cls ≠ "java/lang/invoke/VarHandle" ∧ (parseMethodDescriptor y.desc).map (fun d => d.parameters.length) = some n) (hR : rm.frames + 1 ≤ R.frames ∧ 8 + (maxL + 11) + rm.locals ≤ R.locals) (hn : As.length = n) (hst : st = As.reverse ++ rest) (hcat : (rest.map fun v => v.category).sum ≤ 8) (hdg : decode cc pc = .ok (.invokestatic index, 3)) (kk : ∀ r, V p l e R s m args below meth c K A cells slots nL Q (pc + 3) lv (.ref (K.2.2 r) :: rest) t (k r)) : V p l e R s m args below meth c K A cells slots nL Q pc lv st t (f0.bind k) := V_callN hc hM n hG hw hrm hN hini hstt hd hR hn hst hcat hdg kk
end VCK
theorem sP0 : shpL[0]? = some (.inr (8, [(2, 1), (2, 7), (2, 8), (2, 40), (2, 14), (2, 15), (2, 19), (2, 20)])) := rfl
theorem sP1 : shpL[1]? = some (.inr (1, [(1, 8), (2, 2), (2, 3), (2, 4), (2, 5), (2, 6)])) := rfl
theorem sP2 : shpL[2]? = some (.inl (0, 40, 9)) := rfl
theorem sP3 : shpL[3]? = some (.inl (0, 40, 10)) := rfl
theorem sP4 : shpL[4]? = some (.inl (0, 720, 11)) := rfl
theorem sP5 : shpL[5]? = some (.inl (0, 240, 12)) := rfl
theorem sP6 : shpL[6]? = some (.inl (0, 3, 13)) := rfl
theorem sP7 : shpL[7]? = some (.inr (2, [(2, 1), (1, 9), (1, 10)])) := rfl
theorem sP8 : shpL[8]? = some (.inr (6, [(2, 1), (2, 9), (2, 10), (2, 11), (2, 12), (2, 13), (1, 11), (1, 12)])) := rfl
theorem sP9 : shpL[9]? = some (.inl (0, 80, 14)) := rfl
theorem sP10 : shpL[10]? = some (.inl (0, 10, 15)) := rfl
theorem sP11 : shpL[11]? = some (.inl (0, 10, 16)) := rfl
theorem sP12 : shpL[12]? = some (.inl (1, 10, 17)) := rfl
theorem sP13 : shpL[13]? = some (.inl (0, 40, 18)) := rfl
theorem sP14 : shpL[14]? = some (.inl (4, 8, 24)) := rfl
theorem sP15 : shpL[15]? = some (.inr (4, [(2, 1), (2, 7), (2, 8), (2, 14), (2, 16), (2, 17), (2, 18), (0, 51)])) := rfl
theorem sP16 : shpL[16]? = some (.inl (3, 11, 0)) := rfl
theorem sP17 : shpL[17]? = some (.inl (3, 11, 1)) := rfl
theorem sP18 : shpL[18]? = some (.inl (1, 11, 19)) := rfl
theorem sP19 : shpL[19]? = some (.inr (7, [(2, 1), (2, 8)])) := rfl
theorem sP20 : shpL[20]? = some (.inr (3, [(2, 21), (2, 22), (2, 23), (0, 49), (0, 50)])) := rfl
theorem sP21 : shpL[21]? = some (.inl (0, 24, 20)) := rfl
theorem sP22 : shpL[22]? = some (.inl (0, 24, 21)) := rfl
theorem sP23 : shpL[23]? = some (.inl (1, 24, 22)) := rfl
