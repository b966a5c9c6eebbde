theorem fb_char {n : Nat} (h : n < 65536) : (nI n).toUInt32.toUInt16.toUInt32.toInt32 = nI n := by
  apply Int32.toBitVec_inj.1
  apply BitVec.eq_of_toNat_eq
  have e1 : (nI n).toBitVec.toNat = n := by
    show (BitVec.ofNat 32 n).toNat = n
    rw [BitVec.toNat_ofNat, Nat.mod_eq_of_lt (by omega)]
  have e2 : ((nI n).toUInt32.toUInt16.toUInt32).toNat = n := by
    rw [UInt16.toNat_toUInt32, UInt32.toNat_toUInt16]
    show (nI n).toBitVec.toNat % 2 ^ 16 = n
    rw [e1, Nat.mod_eq_of_lt (by omega)]
  rw [e1]
  exact e2
/-! ===== rules: what a file answers, character by character; the class's side ===== -/
abbrev Es : Type := Nat × (Nat → Bool) × (Nat → Bool) × (Nat → Bool)
def eTake (s : Es) (b : Bool) : Es := (s.1, s.2.1, upf s.2.2.1 s.1 (s.2.2.1 s.1 && (b != s.2.2.2 s.1)), upf s.2.2.2 s.1 false)
def eStep (cn : Nat → Bool) (ch : Nat → Nat) (k : Nat) (s : Es) : Es :=
  if 97 ≤ ch k ∧ ch k ≤ 122 then eTake s (cn k)
  else if ch k = 33 then (s.1, s.2.1, s.2.2.1, upf s.2.2.2 s.1 (!s.2.2.2 s.1))
  else if ch k = 40 then (s.1 + 1, upf s.2.1 (s.1 + 1) false, upf s.2.2.1 (s.1 + 1) true, upf s.2.2.2 (s.1 + 1) false)
  else if ch k = 41 then eTake (s.1 - 1, s.2.1, s.2.2.1, s.2.2.2) (s.2.1 s.1 || s.2.2.1 s.1)
  else if ch k = 124 then (s.1, upf s.2.1 s.1 (s.2.1 s.1 || s.2.2.1 s.1), upf s.2.2.1 s.1 true, s.2.2.2)
  else s
def eRun (cn : Nat → Bool) (ch : Nat → Nat) : Nat → Es
  | 0 => (0, fun _ => false, fun _ => true, fun _ => false)
  | k + 1 => eStep cn ch k (eRun cn ch k)
def eVal (cn : Nat → Bool) (ch : Nat → Nat) (n : Nat) : Bool := (eRun cn ch n).2.1 0 || (eRun cn ch n).2.2.1 0
theorem eLev {cn : Nat → Bool} {ch : Nat → Nat} : ∀ {k s o : Nat}, rn ch k = some (s, o) → (eRun cn ch k).1 = o
  | 0, s, o, e => by cases e; rfl
  | k + 1, s, o, e => by
    rw [rn] at e
    cases e1 : rn ch k with
    | none => rw [e1] at e; cases e
    | some p =>
      obtain ⟨s1, o1⟩ := p
      rw [e1] at e
      dsimp only at e
      have ih := eLev (cn := cn) e1
      by_cases q : nx s1 (ch k) o1 = 99
      · rw [if_pos q] at e; cases e
      · rw [if_neg q] at e
        have e2 := (Prod.mk.inj (Option.some.inj e)).2
        rw [← e2, eRun, eStep]
        by_cases c1 : 97 ≤ ch k ∧ ch k ≤ 122
        · rw [if_pos c1, if_neg (by omega), if_neg (by omega)]; exact ih
        · rw [if_neg c1]
          by_cases c2 : ch k = 33
          · rw [if_pos c2, if_neg (by omega), if_neg (by omega)]; exact ih
          · rw [if_neg c2]
            by_cases c3 : ch k = 40
            · rw [if_pos c3, if_pos c3]; show (eRun cn ch k).1 + 1 = _; rw [ih]
            · rw [if_neg c3, if_neg c3]
              by_cases c4 : ch k = 41
              · rw [if_pos c4, if_pos c4]; show (eRun cn ch k).1 - 1 = _; rw [ih]
              · rw [if_neg c4, if_neg c4]
                by_cases c5 : ch k = 124
                · rw [if_pos c5]; exact ih
                · rw [if_neg c5]; exact ih
/-- the "!" before an item don't ask what a condition says -/
theorem eNot (cn cn' : Nat → Bool) (ch : Nat → Nat) : ∀ k, (eRun cn ch k).1 = (eRun cn' ch k).1 ∧ (eRun cn ch k).2.2.2 = (eRun cn' ch k).2.2.2
  | 0 => ⟨rfl, rfl⟩
  | k + 1 => by
    obtain ⟨a, b⟩ := eNot cn cn' ch k
    rw [eRun, eRun, eStep, eStep]
    by_cases c1 : 97 ≤ ch k ∧ ch k ≤ 122
    · rw [if_pos c1, if_pos c1]; simp only [eTake, a, b, and_self]
    · rw [if_neg c1, if_neg c1]
      by_cases c2 : ch k = 33
      · rw [if_pos c2, if_pos c2]; simp only [a, b, and_self]
      · rw [if_neg c2, if_neg c2]
        by_cases c3 : ch k = 40
        · rw [if_pos c3, if_pos c3]; simp only [a, b, and_self]
        · rw [if_neg c3, if_neg c3]
          by_cases c4 : ch k = 41
          · rw [if_pos c4, if_pos c4]; simp only [eTake, a, b, and_self]
          · rw [if_neg c4, if_neg c4]
            by_cases c5 : ch k = 124
            · rw [if_pos c5, if_pos c5]; exact ⟨a, b⟩
            · rw [if_neg c5, if_neg c5]; exact ⟨a, b⟩
theorem gch_nI {n : Nat} (h : n < 65536) : gch (nI n) := by
  show narrow .char (.int (nI n)) = .int (nI n)
  show Value.int _ = Value.int _
  exact congrArg Value.int (fb_char h)
/-- text j of the class holds the n characters ch -/
def Tx (c : Sx) (j : Nat) (ch : Nat → Nat) (n : Nat) : Prop := n ≤ 80 ∧ gI c (150 + j) = nI n ∧ (∀ k, k < n → gA c (100 + j) k = nI (ch k)) ∧ okc ch n
theorem at_eq {c : Sx} {j : Nat} {ch : Nat → Nat} {n : Nat} (h : Tx c j ch n) {k : Nat} (hk : k < 2000) : f_X5_at c j (nI k) = some (if k < n then nI (ch k) else 0) := by
  obtain ⟨hn, en, ec, ho⟩ := h
  unfold f_X5_at
  rw [if_neg (nI_pos (by omega)), en]
  by_cases q : k < n
  · obtain ⟨h1, h2⟩ := ho k q
    rw [if_neg (by rw [nI_le_iff (by omega) (by omega)]; omega), gd_pos (vin_nI (by omega) (by decide)), ix_nI (by omega), ec k q, gd_pos (gch_nI (by omega)), if_pos q]
  · rw [if_pos (nI_le (by omega) (by omega)), if_neg q]
def OnJ (c c' : Sx) : Prop := (∀ a, a ≠ 19 → gA c' a = gA c a) ∧ (∀ k, k ≠ 51 → gI c' k = gI c k) ∧ gL c' = gL c ∧ ∀ a, 2 ≤ a → gM c' a = gM c a
theorem OnJ.rf (c : Sx) : OnJ c c := ⟨fun _ _ => rfl, fun _ _ => rfl, rfl, fun _ _ => rfl⟩
theorem OnJ.tr {a b c : Sx} (h : OnJ a b) (g : OnJ b c) : OnJ a c := ⟨fun i hi => (g.1 i hi).trans (h.1 i hi), fun i hi => (g.2.1 i hi).trans (h.2.1 i hi), g.2.2.1.trans h.2.2.1, fun i hi => (g.2.2.2 i hi).trans (h.2.2.2 i hi)⟩
theorem OnJ.pI {c : Sx} {v : Int32} : OnJ c (pI c 51 v) := ⟨fun _ _ => rfl, fun k hk => by rw [gI_pI, if_neg hk], rfl, fun _ _ => rfl⟩
theorem OnJ.pA {c : Sx} {k : Nat} {v : Int32} : OnJ c (pA c 19 k v) := ⟨fun a ha => gA_pA_ne ha, fun _ _ => rfl, rfl, fun _ _ => rfl⟩
theorem OnJ.pM {c : Sx} {a k : Nat} {v : Int64} (h : a < 2) : OnJ c (pM c a k v) := ⟨fun _ _ => rfl, fun _ _ => rfl, rfl, fun i hi => gM_pM_ne (by omega)⟩
theorem Tx.on {c y : Sx} {j : Nat} {ch : Nat → Nat} {n : Nat} (h : Tx c j ch n) (o : OnJ c y) : Tx y j ch n := ⟨h.1, by rw [o.2.1 _ (by omega)]; exact h.2.1, fun k hk => by rw [o.1 _ (by omega)]; exact h.2.2.1 k hk, h.2.2.2⟩
/-- the judge's rows show, for each file, what it answers so far -/
def Jd (y : Sx) (P : Nat → Bool) (E : Nat → Es) (o : Nat) : Prop := gI y 51 = nI o ∧ o < 11 ∧ (∀ f, (E f).1 = o) ∧ ∀ l, l ≤ o → (∀ f, f < 64 → hb (gM y 0 l) f = (P f && (E f).2.1 l)) ∧ (∀ f, f < 64 → hb (gM y 1 l) f = (P f && (E f).2.2.1 l)) ∧ ∀ f, gA y 19 l = b2 ((E f).2.2.2 l)
theorem take_eq {y : Sx} {P : Nat → Bool} {E : Nat → Es} {o : Nat} (h : Jd y P E o) {x : Int64} {b : Nat → Bool} (hx : ∀ f, f < 64 → P f = true → hb x f = b f) : ∃ y', f_X4_take y x = some y' ∧ OnJ y y' ∧ Jd y' P (fun f => eTake (E f) (b f)) o := by
  obtain ⟨e1, ho, eL, hl⟩ := h
  obtain ⟨-, hr, hn⟩ := hl o (Nat.le_refl _)
  have key : ∀ (w : Int64), (∀ f, f < 64 → P f = true → hb w f = (b f != (E f).2.2.2 o)) → OnJ y (pA (pM y 1 o (gM y 1 o &&& w)) 19 o 0) ∧ Jd (pA (pM y 1 o (gM y 1 o &&& w)) 19 o 0) P (fun f => eTake (E f) (b f)) o := by
    intro w hw
    refine ⟨(OnJ.pM (by decide)).tr OnJ.pA, e1, ho, eL, fun l hl2 => ⟨fun f hf => ?_, fun f hf => ?_, fun f => ?_⟩⟩
    · rw [gM_pA, gM_pM_ne (by decide)]
      exact (hl l hl2).1 f hf
    · rw [gM_pA, gM_pM_at]
      show _ = (P f && upf (E f).2.2.1 (E f).1 ((E f).2.2.1 (E f).1 && (b f != (E f).2.2.2 (E f).1)) l)
      unfold upf
      rw [eL f]
      by_cases q : l = o
      · subst q
        rw [if_pos rfl, if_pos rfl, hb_and, hr f hf]
        cases hp : P f with
        | false => rfl
        | true => rw [hw f hf hp]; rfl
      · rw [if_neg q, if_neg q]
        exact (hl l hl2).2.1 f hf
    · rw [gA_pA_at, gA_pM]
      show _ = b2 (upf (E f).2.2.2 (E f).1 false l)
      unfold upf
      rw [eL f]
      by_cases q : l = o
      · subst q; rw [if_pos rfl, if_pos rfl]; rfl
      · rw [if_neg q, if_neg q]; exact (hl l hl2).2.2 f
  have g11 : vp_in (gI y 51) 11 := by rw [e1]; exact vin_nI ho (by decide)
  have ixo : ix (gI y 51) = o := by rw [e1, ix_nI (by omega)]
  unfold f_X4_take
  rw [gd_pos g11, gd_pos g11, gd_pos g11, gd_pos g11, ixo]
  cases q : (E 0).2.2.2 o with
  | false =>
    rw [show gA y 19 o = 0 by rw [hn 0, q]; rfl, if_pos rfl, bd_eq, gI_pM, gd_pos g11, bd_eq, ixo]
    refine ⟨_, rfl, key x (fun f hf hp => ?_)⟩
    rw [hx f hf hp, show (E f).2.2.2 o = false by
      have := hn f
      rw [hn 0, q] at this
      exact (b2_inj.mp this).symm]
    cases b f <;> rfl
  | true =>
    rw [show gA y 19 o = 1 by rw [hn 0, q]; rfl, if_neg (by decide), bd_eq, gI_pM, gd_pos g11, bd_eq, ixo]
    refine ⟨_, rfl, key (x ^^^ -1) (fun f hf hp => ?_)⟩
    rw [hb_not x hf, hx f hf hp, show (E f).2.2.2 o = true by
      have := hn f
      rw [hn 0, q] at this
      exact (b2_inj.mp this).symm]
    cases b f <;> rfl
theorem begin_eq {y : Sx} {o : Nat} (e1 : gI y 51 = nI o) (ho : o < 11) : f_X4_beginLevel y = some (pA (pM (pM y 0 o 0) 1 o (gL y 8)) 19 o 0) := by
  have g11 : vp_in (gI y 51) 11 := by rw [e1]; exact vin_nI ho (by decide)
  have ixo : ix (gI y 51) = o := by rw [e1, ix_nI (by omega)]
  unfold f_X4_beginLevel f_X1_all
  rw [gd_pos g11, bd_eq, Option.bind_some, gI_pM, gd_pos g11, bd_eq, gI_pM, gI_pM, gd_pos g11, bd_eq, ixo, gL_pM]
/-- one character that is no letter -/
theorem operate_eq {y : Sx} {P : Nat → Bool} {E : Nat → Es} {o : Nat} (h : Jd y P E o) (hP : ∀ f, f < 64 → hb (gL y 8) f = P f) {ch : Nat → Nat} {k : Nat} (hc : ch k < 127) (hnl : ¬ (97 ≤ ch k ∧ ch k ≤ 122)) (h40 : ch k = 40 → o < 10) (h41 : ch k = 41 → 0 < o) (cn : Nat → Nat → Bool) : ∃ y' o', f_X4_operate y (nI (ch k)) = some y' ∧ OnJ y y' ∧ Jd y' P (fun f => eStep (cn f) ch k (E f)) o' := by
  have z : ∀ n, n < 2000 → ((nI (ch k) = nI n) ↔ ch k = n) := fun n hn => nI_eq_iff (by omega) (by omega)
  have z33 : (nI (ch k) = 33) ↔ ch k = 33 := z 33 (by decide)
  have z40 : (nI (ch k) = 40) ↔ ch k = 40 := z 40 (by decide)
  have z41 : (nI (ch k) = 41) ↔ ch k = 41 := z 41 (by decide)
  have z124 : (nI (ch k) = 124) ↔ ch k = 124 := z 124 (by decide)
  have g11 : vp_in (gI y 51) 11 := by rw [h.1]; exact vin_nI h.2.1 (by decide)
  have ixo : ix (gI y 51) = o := by rw [h.1, ix_nI (by have := h.2.1; omega)]
  unfold f_X4_operate
  by_cases c2 : ch k = 33
  · rw [if_pos (z33.mpr c2), gd_pos g11, gd_pos g11, gd_pos g11, ixo]
    have fin : ∀ v : Int32, (∀ f, v = b2 (!(E f).2.2.2 o)) → OnJ y (pA y 19 o v) ∧ Jd (pA y 19 o v) P (fun f => eStep (cn f) ch k (E f)) o := fun v hv => by
      refine ⟨OnJ.pA, h.1, h.2.1, fun f => ?_, fun l hl2 => ?_⟩
      · dsimp only; rw [eStep, if_neg hnl, if_pos c2]; exact h.2.2.1 f
      · obtain ⟨a1, a2, a3⟩ := h.2.2.2 l hl2
        refine ⟨fun f hf => ?_, fun f hf => ?_, fun f => ?_⟩
        · dsimp only; rw [eStep, if_neg hnl, if_pos c2]; exact a1 f hf
        · dsimp only; rw [eStep, if_neg hnl, if_pos c2]; exact a2 f hf
        · dsimp only; rw [eStep, if_neg hnl, if_pos c2, gA_pA_at]
          show _ = b2 (upf (E f).2.2.2 (E f).1 (!(E f).2.2.2 (E f).1) l)
          unfold upf
          rw [h.2.2.1 f]
          by_cases q : l = o
          · subst q; rw [if_pos rfl, if_pos rfl]; exact hv f
          · rw [if_neg q, if_neg q]; exact a3 f
    have hn := (h.2.2.2 o (Nat.le_refl _)).2.2
    have same : ∀ f, (E f).2.2.2 o = (E 0).2.2.2 o := fun f => by
      have := hn f
      rw [hn 0] at this
      exact (b2_inj.mp this).symm
    cases q : (E 0).2.2.2 o with
    | false =>
      rw [show gA y 19 o = 0 by rw [hn 0, q]; rfl, if_pos rfl, bd_eq]
      exact ⟨_, o, rfl, fin 1 (fun f => by rw [same f, q]; rfl)⟩
    | true =>
      rw [show gA y 19 o = 1 by rw [hn 0, q]; rfl, if_neg (by decide), bd_eq]
      exact ⟨_, o, rfl, fin 0 (fun f => by rw [same f, q]; rfl)⟩
  · rw [if_neg (fun w => c2 (z33.mp w))]
    by_cases c3 : ch k = 40
    · rw [if_pos (z40.mpr c3)]
      have ho := h40 c3
      unfold f_X4_openLevel
      rw [h.1, if_neg (by rw [show (10 : Int32) = nI 10 from rfl, nI_le_iff (by decide) (by omega)]; omega), bd_eq, nI_lit1, begin_eq (y := pI y 51 (nI (o + 1))) (o := o + 1) (by rw [gI_pI, if_pos rfl]) (by omega)]
      refine ⟨_, o + 1, rfl, OnJ.pI.tr ((OnJ.pM (by decide)).tr ((OnJ.pM (by decide)).tr OnJ.pA)), by rw [gI_pA, gI_pM, gI_pM, gI_pI, if_pos rfl], by omega, fun f => ?_, fun l hl2 => ?_⟩
      · dsimp only; rw [eStep, if_neg hnl, if_neg c2, if_pos c3]
        show (E f).1 + 1 = _
        rw [h.2.2.1 f]
      · refine ⟨fun f hf => ?_, fun f hf => ?_, fun f => ?_⟩
        · dsimp only; rw [eStep, if_neg hnl, if_neg c2, if_pos c3, gM_pA, gM_pM_ne (by decide), gM_pM_at]
          show _ = (P f && upf (E f).2.1 ((E f).1 + 1) false l)
          unfold upf
          rw [h.2.2.1 f]
          by_cases q : l = o + 1
          · subst q; rw [if_pos rfl, if_pos rfl, hb_0, Bool.and_false]
          · rw [if_neg q, if_neg q]; exact (h.2.2.2 l (by omega)).1 f hf
        · dsimp only; rw [eStep, if_neg hnl, if_neg c2, if_pos c3, gM_pA, gM_pM_at]
          show _ = (P f && upf (E f).2.2.1 ((E f).1 + 1) true l)
          unfold upf
          rw [h.2.2.1 f]
          by_cases q : l = o + 1
          · subst q; rw [if_pos rfl, if_pos rfl, Bool.and_true]; exact hP f hf
          · rw [if_neg q, if_neg q, gM_pM_ne (by decide)]; exact (h.2.2.2 l (by omega)).2.1 f hf
        · dsimp only; rw [eStep, if_neg hnl, if_neg c2, if_pos c3, gA_pA_at]
          show _ = b2 (upf (E f).2.2.2 ((E f).1 + 1) false l)
          unfold upf
          rw [h.2.2.1 f]
          by_cases q : l = o + 1
          · subst q; rw [if_pos rfl, if_pos rfl]; rfl
          · rw [if_neg q, if_neg q]; exact (h.2.2.2 l (by omega)).2.2 f
    · rw [if_neg (fun w => c3 (z40.mp w))]
      by_cases c4 : ch k = 41
      · rw [if_pos (z41.mpr c4)]
        have ho := h41 c4
        have ho2 := h.2.1
        unfold f_X4_closeLevel
        rw [gd_pos g11, gd_pos g11, ixo, h.1, if_neg (by rw [show (0 : Int32) = nI 0 from rfl, nI_le_iff (by omega) (by decide)]; omega), bd_eq, bd_eq]
        have e1 : nI o - 1 = nI (o - 1) := by
          obtain ⟨q, rfl⟩ : ∃ q, o = q + 1 := ⟨o - 1, by omega⟩
          rw [nI_pred]; rfl
        rw [e1]
        have hJ : Jd (pI y 51 (nI (o - 1))) P (fun f => ((E f).1 - 1, (E f).2.1, (E f).2.2.1, (E f).2.2.2)) (o - 1) := by
          refine ⟨by rw [gI_pI, if_pos rfl], by omega, fun f => ?_, fun l hl2 => h.2.2.2 l (by omega)⟩
          show (E f).1 - 1 = _
          rw [h.2.2.1 f]
        obtain ⟨a1, a2, a3⟩ := h.2.2.2 o (Nat.le_refl _)
        obtain ⟨y', h1, h2, h3⟩ := take_eq hJ (x := gM y 0 o ||| gM y 1 o) (b := fun f => (E f).2.1 (E f).1 || (E f).2.2.1 (E f).1) (fun f hf hp => by
          rw [hb_or, a1 f hf, a2 f hf, hp, h.2.2.1 f]; rfl)
        refine ⟨y', o - 1, by rw [h1]; rfl, OnJ.pI.tr h2, h3.1, h3.2.1, fun f => ?_, fun l hl2 => ?_⟩
        · dsimp only; rw [eStep, if_neg hnl, if_neg c2, if_neg c3, if_pos c4]; exact h3.2.2.1 f
        · obtain ⟨b1, b2', b3⟩ := h3.2.2.2 l hl2
          refine ⟨fun f hf => ?_, fun f hf => ?_, fun f => ?_⟩
          · dsimp only; rw [eStep, if_neg hnl, if_neg c2, if_neg c3, if_pos c4]; exact b1 f hf
          · dsimp only; rw [eStep, if_neg hnl, if_neg c2, if_neg c3, if_pos c4]; exact b2' f hf
          · dsimp only; rw [eStep, if_neg hnl, if_neg c2, if_neg c3, if_pos c4]; exact b3 f
      · rw [if_neg (fun w => c4 (z41.mp w))]
        by_cases c5 : ch k = 124
        · rw [if_pos (z124.mpr c5)]
          unfold f_X1_all
          rw [gd_pos g11, gd_pos g11, bd_eq, gd_pos g11, bd_eq, Option.bind_some, gI_pM, gd_pos g11, bd_eq, ixo, gL_pM]
          obtain ⟨a1, a2, a3⟩ := h.2.2.2 o (Nat.le_refl _)
          refine ⟨_, o, rfl, (OnJ.pM (by decide)).tr (OnJ.pM (by decide)), by rw [gI_pM, gI_pM]; exact h.1, h.2.1, fun f => ?_, fun l hl2 => ?_⟩
          · dsimp only; rw [eStep, if_neg hnl, if_neg c2, if_neg c3, if_neg c4, if_pos c5]; exact h.2.2.1 f
          · refine ⟨fun f hf => ?_, fun f hf => ?_, fun f => ?_⟩
            · dsimp only; rw [eStep, if_neg hnl, if_neg c2, if_neg c3, if_neg c4, if_pos c5, gM_pM_ne (by decide), gM_pM_at]
              show _ = (P f && upf (E f).2.1 (E f).1 ((E f).2.1 (E f).1 || (E f).2.2.1 (E f).1) l)
              unfold upf
              rw [h.2.2.1 f]
              by_cases q : l = o
              · subst q
                rw [if_pos rfl, if_pos rfl, hb_or, a1 f hf, a2 f hf]
                cases P f <;> rfl
              · rw [if_neg q, if_neg q]; exact (h.2.2.2 l hl2).1 f hf
            · dsimp only; rw [eStep, if_neg hnl, if_neg c2, if_neg c3, if_neg c4, if_pos c5, gM_pM_at]
              show _ = (P f && upf (E f).2.2.1 (E f).1 true l)
              unfold upf
              rw [h.2.2.1 f]
              by_cases q : l = o
              · subst q; rw [if_pos rfl, if_pos rfl, Bool.and_true]; exact hP f hf
              · rw [if_neg q, if_neg q, gM_pM_ne (by decide)]; exact (h.2.2.2 l hl2).2.1 f hf
            · dsimp only; rw [eStep, if_neg hnl, if_neg c2, if_neg c3, if_neg c4, if_pos c5]
              exact (h.2.2.2 l hl2).2.2 f
        · rw [if_neg (fun w => c5 (z124.mp w))]
          refine ⟨y, o, rfl, OnJ.rf _, h.1, h.2.1, fun f => ?_, fun l hl2 => ?_⟩
          · dsimp only; rw [eStep, if_neg hnl, if_neg c2, if_neg c3, if_neg c4, if_neg c5]; exact h.2.2.1 f
          · obtain ⟨a1, a2, a3⟩ := h.2.2.2 l hl2
            refine ⟨fun f hf => ?_, fun f hf => ?_, fun f => ?_⟩
            · dsimp only; rw [eStep, if_neg hnl, if_neg c2, if_neg c3, if_neg c4, if_neg c5]; exact a1 f hf
            · dsimp only; rw [eStep, if_neg hnl, if_neg c2, if_neg c3, if_neg c4, if_neg c5]; exact a2 f hf
            · dsimp only; rw [eStep, if_neg hnl, if_neg c2, if_neg c3, if_neg c4, if_neg c5]; exact a3 f
theorem filesFor_eq {c : Sx} {P : Nat → Bool} (hP : ∀ f, f < 64 → hb (gL c 8) f = P f) {j : Nat} {ch : Nat → Nat} {n : Nat} (hT : Tx c j ch n) {sn : Nat} (hv : rn ch n = some (sn, 0)) (cn : Nat → Nat → Bool)
    (hc : ∀ p, p < n → (97 ≤ ch p ∧ ch p ≤ 122) → ∀ y, OnJ c y → ∃ x, f_X4_condition y j (nI p) = some x ∧ ∀ f, f < 64 → P f = true → hb x f = cn f p) : ∃ x c', f_X4_filesFor c j = some (x, c') ∧ OnJ c c' ∧ ∀ f, f < 64 → hb x f = (P f && eVal (cn f) ch n) := by
  unfold f_X4_filesFor
  rw [bd_eq, begin_eq (y := pI c 51 0) (o := 0) (by rw [gI_pI, if_pos rfl]; rfl) (by decide), Option.bind_some]
  have hn := hT.1
  obtain ⟨y, ⟨hy, o, hj, eo⟩, e⟩ := loop0 (L := fun n i s => L_X4_filesFor_11 j (fun z9 t10 => gd (vp_in 0 11) (gd (vp_in 0 11) (some (((gM t10 0 (ix 0)) ||| (gM t10 1 (ix 0))), t10)))) n i s) (E := fun s => some ((gM s 0 0 ||| gM s 1 0), s)) (N := n) (by omega) (y := pA (pM (pM (pI c 51 0) 0 0 0) 1 0 (gL (pI c 51 0) 8)) 19 0 0)
    (fun k s => OnJ c s ∧ ∃ o, Jd s P (fun f => eRun (cn f) ch k) o ∧ ∃ st, rn ch k = some (st, o))
    (fun n' s h => by
      show L_X4_filesFor_11 _ _ _ _ _ = _
      rw [L_X4_filesFor_11]
      unfold f_X5_length
      rw [Option.bind_some, (hT.on h.1).2.1, if_pos (nI_le (Nat.le_refl _) (by omega)), gd_pos (show vp_in 0 11 from vin_nI (n := 0) (by decide) (by decide)), gd_pos (show vp_in 0 11 from vin_nI (n := 0) (by decide) (by decide))]
      rfl)
    (fun k s hk h => by
      obtain ⟨hy, o, hj, st, er⟩ := h
      have hTy := hT.on hy
      obtain ⟨c1, c2⟩ := hT.2.2.2 k hk
      have hst : ∀ n', L_X4_filesFor_11 j (fun z9 t10 => gd (vp_in 0 11) (gd (vp_in 0 11) (some (((gM t10 0 (ix 0)) ||| (gM t10 1 (ix 0))), t10)))) (n' + 1) (nI k) s = if 97 ≤ ch k ∧ ch k ≤ 122 then (f_X4_condition s j (nI k)).bind fun r7 => (f_X4_take s (r7)).bind fun r8 => L_X4_filesFor_11 j (fun z9 t10 => gd (vp_in 0 11) (gd (vp_in 0 11) (some (((gM t10 0 (ix 0)) ||| (gM t10 1 (ix 0))), t10)))) n' (nI (k + 1)) (r8) else (f_X4_operate s (nI (ch k))).bind fun r5 => L_X4_filesFor_11 j (fun z9 t10 => gd (vp_in 0 11) (gd (vp_in 0 11) (some (((gM t10 0 (ix 0)) ||| (gM t10 1 (ix 0))), t10)))) n' (nI (k + 1)) (r5) := fun n' => by
        rw [L_X4_filesFor_11]
        unfold f_X5_length
        rw [Option.bind_some, hTy.2.1, if_neg (by rw [nI_le_iff (by omega) (by omega)]; omega), at_eq hTy (by omega), if_pos hk, Option.bind_some, nI_lit1]
        have z97 : (nI (ch k) < 97) ↔ ch k < 97 := by rw [show (97 : Int32) = nI 97 from rfl]; exact nI_lt_iff (by omega) (by decide)
        have z122 : (122 < nI (ch k)) ↔ 122 < ch k := by rw [show (122 : Int32) = nI 122 from rfl]; exact nI_lt_iff (by decide) (by omega)
        by_cases q1 : ch k < 97
        · rw [if_pos (z97.mpr q1), if_neg (by omega)]
        · rw [if_neg (fun w => q1 (z97.mp w))]
          by_cases q2 : 122 < ch k
          · rw [if_pos (z122.mpr q2), if_neg (by omega)]
          · rw [if_neg (fun w => q2 (z122.mp w)), if_pos (by omega)]
      -- what the run says of this character
      have hnext : ∃ st' o', rn ch (k + 1) = some (st', o') := by
        cases e2 : rn ch (k + 1) with
        | none => rw [rn_le (show k + 1 ≤ n by omega) e2] at hv; cases hv
        | some p => exact ⟨p.1, p.2, rfl⟩
      obtain ⟨st', o', er'⟩ := hnext
      have hq : nx st (ch k) o ≠ 99 := fun q => by
        rw [rn, er] at er'
        dsimp only at er'
        rw [if_pos q] at er'
        cases er'
      obtain ⟨g1, g2⟩ := rn_ok hT.2.2.2 k (by omega) st o er
      obtain ⟨w1, w2, w3⟩ := nx_ok g1 (by omega) g2 hq
      have fin : ∀ y' o2, OnJ s y' → Jd y' P (fun f => eStep (cn f) ch k (eRun (cn f) ch k)) o2 → OnJ c y' ∧ ∃ o, Jd y' P (fun f => eRun (cn f) ch (k + 1)) o ∧ ∃ st, rn ch (k + 1) = some (st, o) := fun y' o2 h1 h2 => by
        refine ⟨hy.tr h1, o2, h2, st', ?_⟩
        have a := h2.2.2.1 0
        have b := eLev (cn := cn 0) er'
        have a' : (eRun (cn 0) ch (k + 1)).1 = o2 := a
        rw [b] at a'
        rw [← a']; exact er'
      by_cases q : 97 ≤ ch k ∧ ch k ≤ 122
      · obtain ⟨x, ex, hx⟩ := hc k hk q s hy
        obtain ⟨y', h1, h2, h3⟩ := take_eq hj (x := x) (b := fun f => cn f k) (fun f hf hp => hx f hf hp)
        refine ⟨y', fin y' o h2 ?_, fun n' => ?_⟩
        · have : (fun f => eStep (cn f) ch k (eRun (cn f) ch k)) = fun f => eTake (eRun (cn f) ch k) (cn f k) := by
            funext f; rw [eStep, if_pos q]
          rw [this]; exact h3
        · show L_X4_filesFor_11 _ _ _ _ _ = _
          rw [hst, if_pos q, ex, Option.bind_some, h1, Option.bind_some]
      · obtain ⟨y', o2, h1, h2, h3⟩ := operate_eq hj (by rw [hy.2.2.1]; exact hP) (ch := ch) (k := k) (by omega) q w2 w3 cn
        refine ⟨y', fin y' o2 h2 h3, fun n' => ?_⟩
        show L_X4_filesFor_11 _ _ _ _ _ = _
        rw [hst, if_neg q, h1, Option.bind_some])
    (by
      refine ⟨OnJ.pI.tr ((OnJ.pM (by decide)).tr ((OnJ.pM (by decide)).tr OnJ.pA)), 0, ⟨by rw [gI_pA, gI_pM, gI_pM, gI_pI, if_pos rfl]; rfl, by decide, fun f => rfl, fun l hl => ?_⟩, 0, rfl⟩
      obtain rfl : l = 0 := by omega
      refine ⟨fun f hf => ?_, fun f hf => ?_, fun f => ?_⟩
      · rw [gM_pA, gM_pM_ne (by decide), gM_pM_at, if_pos rfl, hb_0]
        show false = (P f && false)
        rw [Bool.and_false]
      · rw [gM_pA, gM_pM_at, if_pos rfl, gL_pI, hP f hf]
        show P f = (P f && true)
        rw [Bool.and_true]
      · rw [gA_pA_at, if_pos rfl]; rfl)
  obtain ⟨st, er⟩ := eo
  rw [hv] at er
  have eo0 : o = 0 := ((Prod.mk.inj (Option.some.inj er)).2).symm
  subst eo0
  refine ⟨_, y, e, hy, fun f hf => ?_⟩
  obtain ⟨a1, a2, -⟩ := hj.2.2.2 0 (Nat.le_refl _)
  rw [hb_or, a1 f hf, a2 f hf, eVal]
  cases P f <;> rfl
