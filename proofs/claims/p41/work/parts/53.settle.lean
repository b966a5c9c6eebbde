/-! ===== the albums' relation, and settling ===== -/
def AlW (c m : Sx) (a : Nat) (ch : Nat → Nat) (n : Nat) : Prop := Tx c a ch n ∧ gA m 36 a = nI n ∧ (∀ k, k < n → gA m 37 (80 * a + k) = nI (ch k)) ∧ Rul ch n ∧ ∀ p, p < n → ch p = 97 → ch (p + 1) - 48 < a ∧ iA m (ch (p + 1) - 48) = true
def AlD (c m : Sx) (a : Nat) : Prop := gL c (100 + a) = gM m 2 a ∧ (∃ fld, fld < 5 ∧ gI c (110 + a) = nI fld ∧ gA m 38 a = nI fld) ∧ gI c (120 + a) = b2 (decide (gA m 39 a ≠ 0)) ∧ gI c (130 + a) = gA m 40 (2 * a + 1) ∧ gI c (140 + a) = gA m 40 (2 * a)
def RAl (c m : Sx) : Prop := ∀ a, a < 8 → gI c (100 + a) = b2 (iA m a) ∧ (iA m a = true → (∃ ch n, AlW c m a ch n) ∧ AlD c m a)
/-- the members of an album are the files that satisfy its rule -/
def DMa (m : Sx) (a : Nat) : Prop := ∃ ch n, okc ch n ∧ n ≤ 80 ∧ gA m 36 a = nI n ∧ (∀ k, k < n → gA m 37 (80 * a + k) = nI (ch k)) ∧ (∀ p, p < n → ch p = 97 → ch (p + 1) - 48 < a) ∧ ∀ f, f < 64 → hb (gM m 2 a) f = ((decide (f < 40) && iF m f) && sat m ch n f)
def Mp (m : Sx) (k : Nat) : Prop := ∀ a, a < k → iA m a = true → DMa m a
theorem ce_sat {m y : Sx} (h : SameG m y) {ch : Nat → Nat} {n f : Nat} (hM : ∀ p, p < n → ch p = 97 → gM y 2 (ch (p + 1) - 48) = gM m 2 (ch (p + 1) - 48)) : sat y ch n f = sat m ch n f := by
  unfold sat eVal
  rw [eRun_cong (fun p hp => ce_cnd h (hM p hp))]
theorem DMa.on {m y : Sx} {a : Nat} (h : DMa m a) (s : SameG m y) (e36 : gA y 36 a = gA m 36 a) (e37 : gA y 37 = gA m 37) (eM : ∀ b, b ≤ a → gM y 2 b = gM m 2 b) : DMa y a := by
  obtain ⟨ch, n, h1, h2, h3, h4, h5, h6⟩ := h
  refine ⟨ch, n, h1, h2, e36.trans h3, fun k hk => by rw [e37]; exact h4 k hk, h5, fun f hf => ?_⟩
  rw [eM a (Nat.le_refl _), h6 f hf, ce_iF s, ce_sat s (fun p hp e => eM _ (by have := h5 p hp e; omega))]
theorem Mp.out {m : Sx} {k : Nat} (h : Mp m k) : ∀ a, a < k → iA m a = true → ∀ f, f < 64 → hb (gM m 2 a) f = true → f < 40 ∧ iF m f = true := fun a ha hA f hf w => by
  obtain ⟨ch, n, -, -, -, -, -, h6⟩ := h a ha hA
  rw [h6 f hf] at w
  have := (Bool.and_eq_true _ _).mp ((Bool.and_eq_true _ _).mp w).1
  exact ⟨of_decide_eq_true this.1, this.2⟩
def alm (m : Sx) (x : Int32) : Bool := inr x 0 7 && iA m (ix x)
theorem alm_nI {m : Sx} {a : Nat} (ha : a < 8) : alm m (nI a) = iA m a := by
  unfold alm
  rw [show (7 : Int32) = nI 7 from rfl, inr_nI (by omega) (by decide), decide_eq_true (by omega), ix_nI (by omega), Bool.true_and]
theorem alm_out {m : Sx} {x : Int32} (h : alm m x = true) : ∃ a, a < 8 ∧ x = nI a ∧ iA m a = true := by
  unfold alm at h
  obtain ⟨h1, h2⟩ := (Bool.and_eq_true _ _).mp h
  obtain ⟨a, ha, rfl⟩ := inr_out (n := 7) (by decide) h1
  rw [ix_nI (by omega)] at h2
  exact ⟨a, by omega, rfl, h2⟩
theorem hasAlbum_eq {c m : Sx} (h : RAl c m) (x : Int32) : f_X8_hasAlbum c x = some (b2 (alm m x)) := by
  unfold f_X8_hasAlbum
  rw [isWithin_eq, Option.bind_some]
  unfold alm
  cases q : inr x 0 7 with
  | false => rw [bF, Bool.false_and]; rfl
  | true =>
    obtain ⟨a, ha, rfl⟩ := inr_out (n := 7) (by decide) q
    rw [bT, Bool.true_and, gd_pos (vin_nI (by omega) (by decide)), ix_nI (by omega)]
    unfold f_X0_exists
    rw [(h a (by omega)).1, gd_pos (gz_b2 _), Option.bind_some]
    cases iA m a <;> rfl
theorem there8_eq (m : Sx) (x : Int32) : f_X9_there8 m x = some (b2 (alm m x)) := by
  unfold f_X9_there8
  rw [in_eq, Option.bind_some]
  unfold alm
  cases q : inr x 0 7 with
  | false => rw [bF, Bool.false_and]; rfl
  | true =>
    obtain ⟨a, ha, rfl⟩ := inr_out (n := 7) (by decide) q
    rw [bT, Bool.true_and, gd_pos (vin_nI (by omega) (by decide)), ix_nI (by omega)]
    unfold iA
    by_cases q : gA m 35 a = 0
    · rw [if_pos q, decide_eq_false (fun w => w q)]; rfl
    · rw [if_neg q, decide_eq_true q]; rfl
theorem RJ.on {c m c' m' : Sx} (h : RJ c m) (e49 : gI c' 49 = gI c 49) (e50 : gI c' 50 = gI c 50) (e53 : gI m' 53 = gI m 53) (e20 : gA c' 20 = gA c 20) (e21 : gA c' 21 = gA c 21) (e22 : gA c' 22 = gA c 22) (e41 : gA m' 41 = gA m 41) : RJ c' m' := by
  unfold RJ
  rw [e49, e50, e53, e20, e21, e22, e41]
  exact h
/-- all but the albums' members settled -/
def Pre (c m : Sx) : Prop := Ba c m ∧ RAl c m ∧ RJ c m
def Inv (c m : Sx) : Prop := Ba c m ∧ De c m ∧ RAl c m ∧ RJ c m ∧ Mp m 8
theorem RMem.of {c m : Sx} (h : RAl c m) : RMem c m := fun a ha hA => ((h a ha).2 hA).2.1
theorem CF.of {c m : Sx} (b : Ba c m) (d : De c m) (h : RAl c m) : CF c m := ⟨b.2.2.2.2.1, d.1, d.2.1, d.2.2, b.2.2.2.2.2.2.2.2.1.2.2.2.2, RMem.of h⟩
theorem AlW.nmd {c m : Sx} {a : Nat} {ch : Nat → Nat} {n : Nat} (ha : a < 8) (h : AlW c m a ch n) : nmd m ch n := fun p hp e => ⟨by have := (h.2.2.2.2 p hp e).1; omega, (h.2.2.2.2 p hp e).2⟩
def SI (c m : Sx) (k : Nat) (y z : Sx) : Prop := Ba y z ∧ De y z ∧ RAl y z ∧ RJ y z ∧ Mp z k ∧ FrM c y ∧ FrC m z ∧ (∀ a, a < 40 → gA z a = gA m a) ∧ gI z 52 = gI m 52
theorem settle_none {c m y z : Sx} {k : Nat} (hk : k < 8) (h : SI c m k y z) (hA : iA z k = false) : SI c m (k + 1) y (pM z 2 k 0) := by
  obtain ⟨h1, h2, h3, h4, h5, h6, h7, h8, h9⟩ := h
  refine ⟨h1.onM (fun a _ => rfl) rfl, h2.onM (fun a _ => rfl), fun a ha => ⟨(h3 a ha).1, fun hA' => ?_⟩, h4.on rfl rfl rfl rfl rfl rfl rfl, fun a ha hA' => ?_, h6, h7.tr ⟨fun _ _ => rfl, fun _ _ => rfl, fun _ => rfl, gM_pM_ne (by decide), gM_pM_ne (by decide), fun w => ⟨fun a ha hA' => ?_, w.2⟩⟩, h8, h9⟩
  · obtain ⟨g1, g2⟩ := (h3 a ha).2 hA'
    have ne : a ≠ k := fun w => by subst w; rw [show iA (pM z 2 a 0) a = iA z a from rfl, hA] at hA'; cases hA'
    refine ⟨g1, ?_, g2.2⟩
    rw [gM_pM_at, if_neg ne]; exact g2.1
  · have ne : a ≠ k := fun w => by subst w; rw [show iA (pM z 2 a 0) a = iA z a from rfl, hA] at hA'; cases hA'
    refine (h5 a (by omega) hA').on (fun _ _ _ => rfl) rfl rfl (fun b hb' => ?_)
    rw [gM_pM_at, if_neg (by omega)]
  · have ne : a ≠ k := fun w => by subst w; rw [show iA (pM z 2 a 0) a = iA z a from rfl, hA] at hA'; cases hA'
    rw [gM_pM_at, if_neg ne]
    exact w.1 a ha hA'
theorem settle_some {c m y z : Sx} {k : Nat} (hk : k < 8) (h : SI c m k y z) (hA : iA z k = true) : ∃ x y1 y2 z1 z3, f_X4_filesFor y k = some (x, y1) ∧ f_X0_become y1 k x (nI k) = some y2 ∧ f_X9_takesAlbum z (nI k) = some z1 ∧ (∀ kont : Int32 → Int64 → Sx → Option Sx, L_X9_settles_27 (nI k) (fun z2 z3 t4 => L_X9_settles_78 (nI k) z2 (fun z7 t8 => kont z7 z2 t8) FU 0 t4) FU 0 0 z1 = kont (nI 40) x z3) ∧ SI c m (k + 1) y2 (pM z3 2 k x) := by
  obtain ⟨h1, h2, h3, h4, h5, h6, h7, h8, h9⟩ := h
  obtain ⟨⟨ch, n, hw⟩, hd⟩ := (h3 k hk).2 hA
  obtain ⟨hT, h36, h37, hR, hlow⟩ := hw
  have hN : nmd z ch n := AlW.nmd hk ⟨hT, h36, h37, hR, hlow⟩
  have hC := CF.of h1 h2 h3
  obtain ⟨sn, hv, -⟩ := hR.2
  obtain ⟨x, y1, e1, o1, b1⟩ := filesFor_eq (c := y) (P := fun f => decide (f < 40) && iF z f) h1.2.2.2.2.1 hT hv (fun f p => cnd z ch n f p) (fun p hp hl y' hy' => condition_eq h1.1 h1.2.1 h1.2.2.1 (hC.on hy') (hT.on hy') hR hN hp hl)
  obtain ⟨z1, e2, o2, hX⟩ := takesAlbum_eq (m := z) hk hT.1 h36 h37 hR.1
  have s1 : SameD z z1 := ⟨fun a ha => o2.1 a (by omega), by rw [o2.2.2.2]⟩
  have hA1 : iA z1 k = true := by rw [cg_iA s1]; exact hA
  obtain ⟨x', z2, e3, o3, b3⟩ := now_eq (cg_WOrd s1 h1.1) (cg_WVal s1 h1.2.1) (cg_WStk s1 h1.2.2.1) hX hR (cg_nmd s1 hN) hk hA1
  have hx : x' = x := hb_ext fun f hf => by rw [b3 f hf, b1 f hf, cg_iF s1, cg_sat s1]; rfl
  subst hx
  have s2 : SameD z z2 := ⟨fun a ha => (o3.sd.1 a ha).trans (s1.1 a ha), o3.sd.2.trans s1.2⟩
  have r40 : gA z2 40 = gA z 40 := by rw [o3.1 40 (by decide) (by decide) (by decide), o2.1 40 (by decide)]
  have r41 : gA z2 41 = gA z 41 := by rw [o3.1 41 (by decide) (by decide) (by decide), o2.1 41 (by decide)]
  have hJ : RJ y1 z2 := h4.on (o1.2.1 49 (by decide)) (o1.2.1 50 (by decide)) (by rw [o3.2.1 53 (by decide), o2.2.1 53 (by decide)]) (o1.1 20 (by decide)) (o1.1 21 (by decide)) (o1.1 22 (by decide)) r41
  obtain ⟨y2, z3, e4, e5, hJ2, oB, oN, gx, g130, g140, gmv⟩ := become_pair (c := y1) (m := z2) (a := k) (x := x') hk (by rw [cg_iA s2]; exact hA) hJ (by rw [o1.2.2.1, s2.2]; exact hd.1) (by rw [o1.2.1 _ (by omega), r40]; exact hd.2.2.2.1) (by rw [o1.2.1 _ (by omega), r40]; exact hd.2.2.2.2)
  refine ⟨x', y1, y2, z1, z3, e1, e4, e2, fun kont => by rw [e3, e5], ?_⟩
  -- what has changed
  have cA : ∀ i, i ≠ 19 → i ≠ 20 → i ≠ 21 → i ≠ 22 → gA y2 i = gA y i := fun i q1 q2 q3 q4 => by rw [oB.2.2.2 i q2 q3 q4, o1.1 i q1]
  have cI : ∀ i, i ≠ 49 → i ≠ 50 → i ≠ 51 → i ≠ 130 + k → i ≠ 140 + k → gI y2 i = gI y i := fun i q1 q2 q3 q4 q5 => by rw [oB.1 i q1 q2 q4 q5, o1.2.1 i q3]
  have cL : ∀ i, i ≠ 100 + k → gL y2 i = gL y i := fun i q => by rw [oB.2.1 i q, o1.2.2.1]
  have mA : ∀ i, i ≠ 40 → i ≠ 41 → i ≠ 42 → i ≠ 43 → i ≠ 44 → i ≠ 45 → gA z3 i = gA z i := fun i q1 q2 q3 q4 q5 q6 => by rw [oN.2.2.2.1 i q1 q2, o3.1 i q3 q4 q5, o2.1 i q6]
  have mI : ∀ i, i ≠ 53 → i ≠ 54 → i ≠ 55 → gI z3 i = gI z i := fun i q1 q2 q3 => by rw [oN.1 i q1, o3.2.1 i q2, o2.2.1 i q3]
  have mM : gM z3 = gM z := by rw [oN.2.2.1, o3.2.2.2, o2.2.2.2]
  have mL : gL z3 = gL z := by rw [oN.2.1, o3.2.2.1, o2.2.2.1]
  have m40 : ∀ i, i ≠ 2 * k → i ≠ 2 * k + 1 → gA z3 40 i = gA z 40 i := fun i q1 q2 => by rw [oN.2.2.2.2 i q1 q2, r40]
  have sA : ∀ a, a < 40 → gA (pM z3 2 k x') a = gA z a := fun a ha => by rw [gA_pM]; exact mA a (by omega) (by omega) (by omega) (by omega) (by omega) (by omega)
  have s52 : gI (pM z3 2 k x') 52 = gI z 52 := by rw [gI_pM]; exact mI 52 (by decide) (by decide) (by decide)
  have iAe : iA (pM z3 2 k x') = iA z := by funext a; unfold iA; rw [sA 35 (by decide)]
  have iFe : iF (pM z3 2 k x') = iF z := by funext a; unfold iF; rw [sA 23 (by decide)]
  refine ⟨?_, ?_, fun a ha => ⟨?_, fun hA' => ⟨?_, ?_⟩⟩, ?_, fun a ha hA' => ?_, ?_, ?_, ?_, ?_⟩
  · exact (h1.onC (fun a ha _ => cA a (by omega) (by omega) (by omega) (by omega)) (cA 108 (by decide) (by decide) (by decide) (by decide)) (cL 8 (by omega)) (cL 11 (by omega)) (cI 158 (by decide) (by decide) (by decide) (by omega) (by omega))).onM sA s52
  · exact (h2.onC (cA 12 (by decide) (by decide) (by decide) (by decide)) (fun i hi => cL i (by omega))).onM sA
  · rw [iAe, cI _ (by omega) (by omega) (by omega) (by omega) (by omega)]; exact (h3 a ha).1
  · rw [iAe] at hA'
    obtain ⟨⟨ch', n', w1, w2, w3, w4, w5⟩, -⟩ := (h3 a ha).2 hA'
    refine ⟨ch', n', ⟨w1.1, ?_, fun i hi => ?_, w1.2.2.2⟩, ?_, fun i hi => ?_, w4, fun p hp e => ?_⟩
    · rw [cI _ (by omega) (by omega) (by omega) (by omega) (by omega)]; exact w1.2.1
    · rw [cA _ (by omega) (by omega) (by omega) (by omega)]; exact w1.2.2.1 i hi
    · rw [sA 36 (by decide)]; exact w2
    · rw [sA 37 (by decide)]; exact w3 i hi
    · rw [iAe]; exact w5 p hp e
  · rw [iAe] at hA'
    obtain ⟨-, d1, ⟨fld, d2, d3, d4⟩, d5, d6, d7⟩ := (h3 a ha).2 hA'
    by_cases q : a = k
    · subst q
      refine ⟨?_, ⟨fld, d2, ?_, ?_⟩, ?_, ?_, ?_⟩
      · rw [gM_pM_at, if_pos rfl, gx]
      · rw [cI _ (by omega) (by omega) (by omega) (by omega) (by omega)]; exact d3
      · rw [sA 38 (by decide)]; exact d4
      · rw [cI _ (by omega) (by omega) (by omega) (by omega) (by omega), sA 39 (by decide)]; exact d5
      · rw [gA_pM]; exact g130
      · rw [gA_pM]; exact g140
    · refine ⟨?_, ⟨fld, d2, ?_, ?_⟩, ?_, ?_, ?_⟩
      · rw [gM_pM_at, if_neg q, cL _ (by omega), mM]; exact d1
      · rw [cI _ (by omega) (by omega) (by omega) (by omega) (by omega)]; exact d3
      · rw [sA 38 (by decide)]; exact d4
      · rw [cI _ (by omega) (by omega) (by omega) (by omega) (by omega), sA 39 (by decide)]; exact d5
      · rw [gA_pM, cI _ (by omega) (by omega) (by omega) (by omega) (by omega), m40 _ (by omega) (by omega)]; exact d6
      · rw [gA_pM, cI _ (by omega) (by omega) (by omega) (by omega) (by omega), m40 _ (by omega) (by omega)]; exact d7
  · exact hJ2.on rfl rfl rfl rfl rfl rfl rfl
  · rw [iAe] at hA'
    by_cases q : a = k
    · subst q
      refine ⟨ch, n, hT.2.2.2, hT.1, by rw [sA 36 (by decide)]; exact h36, fun i hi => by rw [sA 37 (by decide)]; exact h37 i hi, fun p hp e => (hlow p hp e).1, fun f hf => ?_⟩
      rw [gM_pM_at, if_pos rfl, b1 f hf, iFe, ce_sat (m := z) (fun i _ hi => sA i (by omega)) (fun p hp e => ?_)]
      · rfl
      · have := (hlow p hp e).1
        rw [gM_pM_at, if_neg (by omega), mM]
    · refine (h5 a (by omega) hA').on (fun i _ hi => sA i (by omega)) (by rw [sA 36 (by decide)]) (sA 37 (by decide)) (fun b hb' => ?_)
      rw [gM_pM_at, if_neg (by omega), mM]
  · exact h6.tr ⟨fun i q1 q2 => cA i (by omega) (by omega) (by omega) (by omega), fun i q1 q2 => cI i (by omega) (by omega) (by omega) (by omega) (by omega), by rw [oB.2.2.1, o1.2.2.2 2 (by decide)]⟩
  · refine h7.tr ⟨fun i q => by rw [gA_pM]; exact mA i (by omega) (by omega) (by omega) (by omega) (by omega) (by omega), fun i q => by rw [gI_pM]; exact mI i (by omega) (by omega) (by omega), fun i => by show gL z3 i = _; rw [mL], by rw [gM_pM_ne (by decide), mM], by rw [gM_pM_ne (by decide), mM], fun w => ⟨fun a ha hA' => ?_, ?_, ?_⟩⟩
    · rw [iAe] at hA'
      rw [gA_pM, gM_pM_at]
      by_cases q : a = k
      · subst q
        rw [if_pos rfl, gmv, r40, s2.2, w.1 a ha hA']
        grind
      · rw [if_neg q, m40 _ (by omega) (by omega), m40 _ (by omega) (by omega), mM]
        exact w.1 a ha hA'
    · unfold Dg; rw [sA 24 (by decide)]; exact w.2.1
    · unfold Op; rw [sA 28 (by decide)]; exact w.2.2
  · intro a ha; rw [sA a ha]; exact h8 a ha
  · rw [s52]; exact h9
/-- what is sure of a state that has been settled -/
def St (m m' : Sx) : Prop := (∀ a, a < 40 → gA m' a = gA m a) ∧ gI m' 52 = gI m 52
theorem settle_pair {c m : Sx} (h : Pre c m) : ∃ c' m', f_X8_settle c = some c' ∧ f_X9_settles m = some m' ∧ Inv c' m' ∧ FrM c c' ∧ FrC m m' ∧ St m m' := by
  obtain ⟨hB, hA, hJ⟩ := h
  obtain ⟨w1, w2, w3, w4, r1, r2, r3, r4, r5, r6, -⟩ := id hB
  unfold f_X8_settle f_X9_settles
  obtain ⟨c1, e1, o1, dV⟩ := settleValues_eq w1 w2 r1 r4 r3
  have b1 : Ba c1 m := hB.onC (fun a ha hn => o1.1 a hn) (o1.1 108 (by decide)) (by rw [o1.2.2.1]) (by rw [o1.2.2.1]) (by rw [o1.2.1])
  obtain ⟨c2, e2, o2, dK⟩ := regroup_eq w1 w2 b1.2.2.2.2.1 b1.2.2.2.2.2.1 dV
  have b2' : Ba c2 m := b1.onC (fun a ha hn => by rw [o2.1]) (by rw [o2.1]) (o2.2.2.2 8 (by decide) (by decide)) (o2.2.2.2 11 (by decide) (by decide)) (by rw [o2.2.1])
  have dV2 : DVal c2 m := fun f hf hp => by rw [o2.1]; exact dV f hf hp
  obtain ⟨c3, e3, o3, dC⟩ := findCovers_eq w1 w2 w3 b2'.2.2.2.2.2.2.2.2.1 dV2
  have b3 : Ba c3 m := b2'.onC (fun a ha hn => by rw [o3.1]) (by rw [o3.1]) (o3.2.2.2 8 (by decide)) (o3.2.2.2 11 (by decide)) (by rw [o3.2.1])
  have d3 : De c3 m := ⟨fun f hf hp => by rw [o3.1]; exact dV2 f hf hp, fun k hk => by rw [o3.2.2.2 9 (by decide), o3.2.2.2 10 (by decide)]; exact dK k hk, dC⟩
  have cA : ∀ i, i ≠ 12 → gA c3 i = gA c i := fun i hi => by rw [o3.1, o2.1, o1.1 i hi]
  have cI : gI c3 = gI c := by rw [o3.2.1, o2.2.1, o1.2.1]
  have cM : gM c3 = gM c := by rw [o3.2.2.1, o2.2.2.1, o1.2.2.2]
  have cL : ∀ i, i ≠ 9 → i ≠ 10 → i ≠ 12 → gL c3 i = gL c i := fun i q1 q2 q3 => by rw [o3.2.2.2 i q3, o2.2.2.2 i q1 q2, o1.2.2.1]
  have a3 : RAl c3 m := fun a ha => by
    obtain ⟨g1, g2⟩ := hA a ha
    refine ⟨by rw [cI]; exact g1, fun hA' => ?_⟩
    obtain ⟨⟨ch, n, u1, u2⟩, d1, d2, d3, d4, d5⟩ := g2 hA'
    exact ⟨⟨ch, n, ⟨u1.1, by rw [cI]; exact u1.2.1, fun k hk => by rw [cA _ (by omega)]; exact u1.2.2.1 k hk, u1.2.2.2⟩, u2⟩, by rw [cL _ (by omega) (by omega) (by omega)]; exact d1, by rw [cI]; exact d2, by rw [cI]; exact d3, by rw [cI]; exact d4, by rw [cI]; exact d5⟩
  have j3 : RJ c3 m := hJ.on (by rw [cI]) (by rw [cI]) rfl (cA 20 (by decide)) (cA 21 (by decide)) (cA 22 (by decide)) rfl
  have f3 : FrM c c3 := ⟨fun i q1 q2 => cA i (by omega), fun i _ _ => by rw [cI], by rw [cM]⟩
  rw [e1, Option.bind_some, e2, Option.bind_some, e3, Option.bind_some]
  obtain ⟨y, z, hS, p1, p2⟩ := loop02 (L1 := fun n i s => L_X8_settle_23 (fun z10 t11 => some t11) n i s) (E1 := fun s => some s) (L2 := fun n i s => L_X9_settles_2 (fun z17 t18 => some t18) n i s) (E2 := fun s => some s) (N := 8) (by decide) (y := c3) (z := m)
    (fun k y z => SI c m k y z)
    (fun n y z _ => by
      show L_X8_settle_23 _ _ _ _ = _
      rw [L_X8_settle_23, if_pos (by decide)])
    (fun n y z _ => by
      show L_X9_settles_2 _ _ _ _ = _
      rw [L_X9_settles_2, if_pos (by decide)])
    (fun k y z hk hS => by
      have l1 : ∀ n, L_X8_settle_23 (fun z10 t11 => some t11) (n + 1) (nI k) y = if b2 (iA z k) = 0 then L_X8_settle_23 (fun z10 t11 => some t11) n (nI (k + 1)) y else (f_X4_filesFor y k).bind fun r7 => (f_X0_become r7.2 k r7.1 (nI k)).bind fun r9 => L_X8_settle_23 (fun z10 t11 => some t11) n (nI (k + 1)) r9 := fun n => by
        rw [L_X8_settle_23, if_neg (ngo (x := 8) (N := 8) rfl hk (by decide)), hasAlbum_eq hS.2.2.1, alm_nI hk, Option.bind_some, gd_pos (vin_nI hk (by decide)), ix_nI (by omega), nI_lit1]
        simp only [gd_pos (vin_nI hk (by decide : 8 < 2 ^ 31))]
      cases hA' : iA z k with
      | false =>
        have q : gA z 35 k = 0 := by simpa [iA] using hA'
        refine ⟨y, pM z 2 k 0, settle_none hk hS hA', fun n => ?_, fun n => ?_⟩
        · show L_X8_settle_23 _ _ _ _ = _
          rw [l1, hA', if_pos b2_f]
        · show L_X9_settles_2 _ _ _ _ = _
          rw [L_X9_settles_2, if_neg (ngo (x := 8) (N := 8) rfl hk (by decide)), gd_pos (vin_nI hk (by decide)), ix_nI (by omega), if_pos q, now_none hk hA', notes_none hk hA', gd_pos (vin_nI hk (by decide)), bd_eq, nI_lit1]
      | true =>
        have q : ¬ gA z 35 k = 0 := by simpa [iA] using hA'
        obtain ⟨x, y1, y2, z1, z3, g1, g2, g3, g4, g5⟩ := settle_some hk hS hA'
        refine ⟨y2, pM z3 2 k x, g5, fun n => ?_, fun n => ?_⟩
        · show L_X8_settle_23 _ _ _ _ = _
          rw [l1, hA', if_neg (by decide), g1, Option.bind_some, g2, Option.bind_some]
        · show L_X9_settles_2 _ _ _ _ = _
          rw [L_X9_settles_2, if_neg (ngo (x := 8) (N := 8) rfl hk (by decide)), gd_pos (vin_nI hk (by decide)), ix_nI (by omega), if_neg q, g3, Option.bind_some, nI_lit1]
          simp only [gd_pos (vin_nI hk (by decide : 8 < 2 ^ 31)), bd_eq]
          exact g4 (fun _ z2 t8 => L_X9_settles_2 (fun z17 t18 => some t18) n (nI (k + 1)) (pM t8 2 k z2)))
    ⟨b3, d3, a3, j3, fun a ha => absurd ha (by omega), f3, FrC.rf m, fun _ _ => rfl, rfl⟩
  exact ⟨y, z, p1, p2, ⟨hS.1, hS.2.1, hS.2.2.1, hS.2.2.2.1, hS.2.2.2.2.1⟩, hS.2.2.2.2.2.1, hS.2.2.2.2.2.2.1, hS.2.2.2.2.2.2.2⟩
