/-! ===== satisfies, select ===== -/
theorem Inv.onJ {c c' m : Sx} (h : Inv c m) (o : OnJ c c') : Inv c' m := by
  obtain ⟨hB, hD, hA, hJ, hM⟩ := h
  exact ⟨hB.onC (fun a ha _ => o.1 a (by omega)) (o.1 108 (by decide)) (by rw [o.2.2.1]) (by rw [o.2.2.1]) (o.2.1 158 (by decide)), hD.onC (o.1 12 (by decide)) (fun k _ => by rw [o.2.2.1]), hA.on (fun k hk _ => o.2.1 k (by omega)) (fun a ha _ => o.1 a (by omega)) (fun k _ => by rw [o.2.2.1]) (fun _ _ _ => rfl) rfl, hJ.on (o.2.1 49 (by decide)) (o.2.1 50 (by decide)) rfl (o.1 20 (by decide)) (o.1 21 (by decide)) (o.1 22 (by decide)) rfl, hM⟩
theorem Inv.onX {c m m' : Sx} (h : Inv c m) (eA : ∀ a, a < 42 → gA m' a = gA m a) (e52 : gI m' 52 = gI m 52) (e53 : gI m' 53 = gI m 53) (eM : gM m' 2 = gM m 2) : Inv c m' := by
  obtain ⟨hB, hD, hA, hJ, hM⟩ := h
  exact ⟨hB.onM (fun a ha => eA a (by omega)) e52, hD.onM (fun a ha => eA a (by omega)), hA.on (fun _ _ _ => rfl) (fun _ _ _ => rfl) (fun _ _ => rfl) (fun a _ ha => eA a (by omega)) eM, hJ.on rfl rfl e53 rfl rfl rfl (eA 41 (by decide)), hM.on (fun a _ ha => eA a (by omega)) (eA 35 (by decide)) (eA 36 (by decide)) (eA 37 (by decide)) eM⟩
theorem OnJ.frM {c c' : Sx} (o : OnJ c c') : FrM c c' := ⟨fun a h1 h2 => o.1 a (by omega), fun k h1 h2 => o.2.1 k (by omega), o.2.2.2 2 (by decide)⟩
theorem OnE.frC {c c' : Sx} (o : OnE c c') : FrC c c' := FrC.ofM (fun a h1 => o.1 a (by omega) (by omega) (by omega)) (fun k h1 => o.2.1 k (by omega)) (fun k => by rw [o.2.2.1]) o.2.2.2
theorem OnR.frC {c c' : Sx} (o : OnR c c') : FrC c c' := FrC.ofM (fun a h1 => o.1 a (by omega)) (fun k h1 => o.2.1 k (by omega)) (fun k => by rw [o.2.2.1]) o.2.2.2
theorem OnR.inv {c m m' : Sx} (o : OnR m m') (h : Inv c m) : Inv c m' := h.onX (fun a ha => o.1 a (by omega)) (o.2.1 52 (by decide)) (o.2.1 53 (by decide)) (by rw [o.2.2.2])
theorem OnE.inv {c m m' : Sx} (o : OnE m m') (h : Inv c m) : Inv c m' := h.onX (fun a ha => o.1 a (by omega) (by omega) (by omega)) (o.2.1 52 (by decide)) (o.2.1 53 (by decide)) (by rw [o.2.2.2])
theorem OnR.sd {m m' : Sx} (o : OnR m m') : SameD m m' := ⟨fun a ha => o.1 a (by omega), by rw [o.2.2.2]⟩
theorem usb_nmd {m : Sx} {b : Nat} (h : usb m b) : nmd m (tch m) (tpd m) := fun p hp e => ⟨(h.2 p hp e).1, (h.2 p hp e).2.2⟩
theorem textFiles {c m : Sx} (h : Inv c m) {b : Nat} (u : usb m b) : ∃ x c', f_X4_filesFor c 8 = some (x, c') ∧ OnJ c c' ∧ ∀ f, f < 64 → hb x f = (decide (f < 40) && (iF m f && sat m (tch m) (tpd m) f)) := by
  obtain ⟨hB, hD, hA, hJ, hM⟩ := h
  have hC := CF.of hB hD hA
  have hT := tx_of hB.wT hB.rT
  obtain ⟨sn, hv, -⟩ := u.1.2
  obtain ⟨x, c', e1, o1, b1⟩ := filesFor_eq (c := c) (P := fun f => decide (f < 40) && iF m f) hB.rP hT hv (fun f p => cnd m (tch m) (tpd m) f p) (fun p hp hl y' hy' => condition_eq hB.wO hB.wV hB.wS (hC.on hy') (hT.on hy') u.1 (usb_nmd u) hp hl)
  exact ⟨x, c', e1, o1, fun f hf => by rw [b1 f hf, Bool.and_assoc]; rfl⟩
theorem nb8 : (8 : Int32) = nI 8 := rfl
/-- a call that only works out: what it asks for stays, members too -/
def CalQ (F G : Sx → Option (Int32 × Sx)) (v : Sx → Int32 → Prop) : Prop := ∀ c m, Inv c m → ∃ r c' m', F c = some (r, c') ∧ G m = some (r, m') ∧ Inv c' m' ∧ (∀ a, a < 42 → gA m' a = gA m a) ∧ gM m' 2 = gM m 2 ∧ gI m' 52 = gI m 52 ∧ v m r
theorem calQ_satisfies (a1 : Int32) : CalQ (fun t => f_X8_satisfies t a1) (fun t => f_X9_satisfies t a1) (fun m r => (fil (iF m) a1 = false → r = -1) ∧ (fil (iF m) a1 = true → usb m 8 → r = b2 (sat m (tch m) (tpd m) (ix a1)))) := fun c m h => by
  show ∃ r c' m', f_X8_satisfies c a1 = some (r, c') ∧ f_X9_satisfies m a1 = some (r, m') ∧ _
  unfold f_X8_satisfies f_X9_satisfies
  rw [hasC h.1, there_eq, Option.bind_some, Option.bind_some]
  cases q : fil (iF m) a1 with
  | false => exact ⟨-1, c, m, by rw [bF], by rw [bF], h, fun _ _ => rfl, rfl, rfl, fun _ => rfl, fun w => by rw [q] at w; cases w⟩
  | true =>
    obtain ⟨f, hf, rfl, hp⟩ := fil_out q
    obtain ⟨m1, e1, o1, hX⟩ := isRule_eq h.1.wT (b := 8) (Nat.le_refl _)
    rw [bT, bT, nb8, usable_eq h.1 h.2.2.1 (Nat.le_refl _), e1, Option.bind_some, Option.bind_some]
    cases u : pb (usb m 8) with
    | false =>
      exact ⟨-2, c, m1, by rw [bF], by rw [if_pos b2_f], o1.inv h, fun a ha => o1.1 a (by omega), by rw [o1.2.2.2], o1.2.1 52 (by decide), fun w => (by rw [fil_nI hf, hp] at w; cases w), fun _ w => by rw [pb_iff.mpr w] at u; cases u⟩
    | true =>
      have u' := pb_iff.mp u
      obtain ⟨x, c1, e2, o2, hx⟩ := textFiles h u'
      have sd := o1.sd
      obtain ⟨m2, e3, o3⟩ := isRight_eq (cg_WOrd sd h.1.wO) (cg_WVal sd h.1.wV) (cg_WStk sd h.1.wS) (hX u') u'.1 (cg_nmd sd (usb_nmd u')) hf (by rw [cg_iF sd]; exact hp)
      rw [cg_sat sd] at e3
      rw [bT, if_neg (show ¬ (b2 true, m1).1 = 0 from by show ¬ (1 : Int32) = 0; decide), e2, Option.bind_some, holds_eq _ _ (by omega), Option.bind_some, hx f (by omega), decide_eq_true hf, hp, Bool.true_and, Bool.true_and, e3, Option.bind_some]
      refine ⟨b2 (sat m (tch m) (tpd m) f), c1, m2, ?_, ?_, o3.inv (o1.inv (h.onJ o2)), fun a ha => (o3.1 a (by omega) (by omega) (by omega)).trans (o1.1 a (by omega)), by rw [o3.2.2.2, o1.2.2.2], (o3.2.1 52 (by decide)).trans (o1.2.1 52 (by decide)), fun w => (by rw [fil_nI hf, hp] at w; cases w), fun _ _ => by rw [ix_nI (by omega)]⟩
      · cases sat m (tch m) (tpd m) f <;> rfl
      · cases sat m (tch m) (tpd m) f <;> rfl
theorem calQ_select : CalQ (fun t => f_X8_select t) (fun t => f_X9_select t) (fun m r => usb m 8 → r = nI (fb_ct (fun f => iF m f && sat m (tch m) (tpd m) f) 40)) := fun c m h => by
  show ∃ r c' m', f_X8_select c = some (r, c') ∧ f_X9_select m = some (r, m') ∧ _
  unfold f_X8_select f_X9_select
  obtain ⟨m1, e1, o1, hX⟩ := isRule_eq h.1.wT (b := 8) (Nat.le_refl _)
  rw [nb8, usable_eq h.1 h.2.2.1 (Nat.le_refl _), e1, Option.bind_some, Option.bind_some]
  cases u : pb (usb m 8) with
  | false =>
    exact ⟨-2, c, m1, by rw [bF], by rw [if_pos b2_f], o1.inv h, fun a ha => o1.1 a (by omega), by rw [o1.2.2.2], o1.2.1 52 (by decide), fun w => by rw [pb_iff.mpr w] at u; cases u⟩
  | true =>
    have u' := pb_iff.mp u
    obtain ⟨x, c1, e2, o2, hx⟩ := textFiles h u'
    have sd := o1.sd
    obtain ⟨s, ⟨hE, hs⟩, r⟩ := loop0 (L := fun n i (s : Int32 × Sx) => L_X9_select_16 (fun z3 z4 t5 => some (z3, t5)) n s.1 i s.2) (E := fun s => some s) (N := 40) (by decide) (y := ((0 : Int32), m1))
      (fun k s => OnE m1 s.2 ∧ s.1 = nI (fb_ct (fun f => iF m f && sat m (tch m) (tpd m) f) k))
      (fun i s _ => by
        show L_X9_select_16 _ _ _ _ _ = _
        rw [L_X9_select_16, if_pos (by decide)])
      (fun k s hk hh => by
        obtain ⟨h1, h2⟩ := hh
        have sd2 : SameD m s.2 := ⟨fun a ha => (h1.sd.1 a ha).trans (sd.1 a ha), h1.sd.2.trans sd.2⟩
        have step : ∀ i, L_X9_select_16 (fun z3 z4 t5 => some (z3, t5)) (i + 1) s.1 (nI k) s.2 = if gA m 23 k = 0 then L_X9_select_16 (fun z3 z4 t5 => some (z3, t5)) i (s.1 + 0) (nI (k + 1)) s.2 else (f_X9_isRight s.2 (nI k)).bind fun r2 => if r2.1 = 0 then L_X9_select_16 (fun z3 z4 t5 => some (z3, t5)) i (s.1 + 0) (nI (k + 1)) r2.2 else L_X9_select_16 (fun z3 z4 t5 => some (z3, t5)) i (s.1 + 1) (nI (k + 1)) r2.2 := fun i => by
          rw [L_X9_select_16, if_neg (ngo (x := 40) (N := 40) rfl hk (by decide)), gd_pos (vin_nI hk (by decide)), ix_nI (by omega), sd2.1 23 (by decide), nI_lit1]
        cases hp : iF m k with
        | false =>
          refine ⟨s, ⟨h1, by rw [h2, fb_ct_succ, hp]; rfl⟩, fun i => ?_⟩
          show L_X9_select_16 _ _ _ _ _ = _
          rw [step, if_pos (iF_dec.mpr hp), Int32.add_zero]
        | true =>
          obtain ⟨y', e, hE'⟩ := isRight_eq (cg_WOrd sd2 h.1.wO) (cg_WVal sd2 h.1.wV) (cg_WStk sd2 h.1.wS) ((hX u').on h1) u'.1 (cg_nmd sd2 (usb_nmd u')) hk (by rw [cg_iF sd2]; exact hp)
          rw [cg_sat sd2] at e
          refine ⟨(nI (fb_ct (fun f => iF m f && sat m (tch m) (tpd m) f) (k + 1)), y'), ⟨h1.tr hE', rfl⟩, fun i => ?_⟩
          show L_X9_select_16 _ _ _ _ _ = L_X9_select_16 _ _ _ _ _
          rw [step, if_neg (iF_ne hp), e, Option.bind_some, h2, fb_ct_succ, hp, Bool.true_and]
          cases sat m (tch m) (tpd m) k with
          | true => rw [if_neg (show ¬ (b2 true, y').1 = 0 from by show ¬ (1 : Int32) = 0; decide), if_pos rfl, nI_lit1]
          | false => rw [if_pos (show (b2 false, y').1 = 0 from rfl), if_neg (by decide), Int32.add_zero]; rfl)
      ⟨OnE.rf _, rfl⟩
    rw [bT, if_neg (show ¬ (b2 true, m1).1 = 0 from by show ¬ (1 : Int32) = 0; decide), e2, Option.bind_some, bitCount_eq, Option.bind_some, cnt40 hx]
    refine ⟨_, c1, s.2, rfl, ?_, hE.inv (o1.inv (h.onJ o2)), fun a ha => (hE.1 a (by omega) (by omega) (by omega)).trans (o1.1 a (by omega)), by rw [hE.2.2.2, o1.2.2.2], (hE.2.1 52 (by decide)).trans (o1.2.1 52 (by decide)), fun _ => rfl⟩
    dsimp only at r ⊢
    rw [r, ← hs]
