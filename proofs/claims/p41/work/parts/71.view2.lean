theorem cnt_fl (p : Nat → Bool) : fb_ct (fun k => decide (k < 40) && p k) 40 = fb_ct p 40 := ct_cut p (Nat.le_refl _)
theorem ask_viewSize (a1 : Int32) : Ask (fun t => f_X8_viewSize t a1) (fun t => f_X9_viewSize t a1) := fun c m h => by
  show ∃ r, f_X8_viewSize c a1 = some r ∧ f_X9_viewSize m a1 = some r
  unfold f_X8_viewSize f_X9_viewSize
  rw [hasAlbum_eq h.2.2.1, there8_eq]
  simp only [Option.bind_some]
  cases q : alm m a1 with
  | false => exact ⟨-1, by rw [bF], by rw [bF]⟩
  | true =>
    obtain ⟨a, ha, rfl, hA⟩ := alm_out q
    obtain ⟨x, e, hx⟩ := shown_eq h ha hA
    rw [bT, bT, gd_pos (vin_nI ha (by decide)), ix_nI (by omega), e, Option.bind_some, bitCount_eq, cnt40 hx, Option.bind_some]
    refine ⟨_, rfl, ?_⟩
    unfold f_X9_shown
    rw [cnt0 (L := fun n i s => L_X9_shown_4 m (nI a) (fun z2 z3 => some z2) n s i) (E := fun s => some s) (p := shw m (hb (gM m 2 a))) (N := 40) (by decide) (fun n s => by
      show L_X9_shown_4 _ _ _ _ _ _ = _
      rw [L_X9_shown_4, if_pos (by decide)]) (fun n k s hk => by
      show L_X9_shown_4 _ _ _ _ _ _ = L_X9_shown_4 _ _ _ _ _ _
      rw [L_X9_shown_4, if_neg (ngo (x := 40) (N := 40) rfl hk (by decide)), isShown_eq h.1 ha hk, Option.bind_some, nI_lit1]
      cases q : shw m (hb (gM m 2 a)) k with
      | false => rw [bF, if_neg (by decide), Int32.add_zero]
      | true => rw [bT, if_pos rfl])]
    rfl
/-- whether a file comes ahead of another one -/
def cb (m : Sx) (fld : Nat) (dn : Bool) (f g : Nat) : Bool := if vOr m f fld (-1) = vOr m g fld (-1) then decide (f < g) else if vOr m g fld (-1) = -1 then true else if vOr m f fld (-1) = -1 then false else if dn = true then decide (vOr m g fld (-1) < vOr m f fld (-1)) else decide (vOr m f fld (-1) < vOr m g fld (-1))
theorem lt_dec (x y : Int32) : (if y ≤ x then some (0 : Int32) else some 1) = some (b2 (decide (x < y))) := by
  by_cases q : y ≤ x
  · rw [if_pos q, decide_eq_false (by rw [i_lt]; rw [i_le] at q; omega)]; rfl
  · rw [if_neg q, decide_eq_true (by rw [i_lt]; rw [i_le] at q; omega)]; rfl
theorem lt_decN {f g : Nat} (hf : f < 40) (hg : g < 40) : (if nI g ≤ nI f then some (0 : Int32) else some 1) = some (b2 (decide (f < g))) := by
  rw [lt_dec, decide_eq_decide.mpr (nI_lt_iff (by omega) (by omega))]
theorem comesBefore_eq {c m : Sx} (dV : DVal c m) {a fld : Nat} {dn : Bool} (hfl : fld < 5) (e1 : gI c (110 + a) = nI fld) (e2 : gI c (120 + a) = b2 dn) {f g : Nat} (hf : f < 40) (hg : g < 40) (pf : iF m f = true) (pg : iF m g = true) : f_X7_comesBefore c a (nI f) (nI g) = some (b2 (cb m fld dn f g)) := by
  unfold f_X7_comesBefore f_X0_sortField f_X0_isDescending
  simp only [Option.bind_some]
  rw [e1, e2, settledValue_eq c hf (by omega), settledValue_eq c hg (by omega), (dV f hf pf).1 fld hfl, (dV g hg pg).1 fld hfl, Option.bind_some, Option.bind_some]
  unfold cb
  by_cases w : vOr m f fld (-1) = vOr m g fld (-1)
  · rw [if_pos w, if_pos w, lt_decN hf hg]
  · rw [if_neg w, if_neg w]
    by_cases w1 : vOr m f fld (-1) = -1
    · by_cases w2 : vOr m g fld (-1) = -1
      · exact absurd (by rw [w1, w2]) w
      · rw [if_pos w1, if_neg w2, if_neg w2, if_pos w1]; rfl
    · rw [if_neg w1, if_neg w1]
      by_cases w2 : vOr m g fld (-1) = -1
      · rw [if_pos w2, if_pos w2, if_pos w2]; rfl
      · rw [if_neg w2, if_neg w2, gd_pos (gz_b2 _), Option.bind_some]
        cases dn with
        | false => rw [bF, lt_dec]; rfl
        | true => rw [bT, lt_dec]; rfl
theorem isAhead_eq {c m : Sx} (h : Ba c m) {a fld : Nat} (ha : a < 8) (hfl : fld < 5) (e1 : gA m 38 a = nI fld) {f g : Nat} (hf : f < 40) (hg : g < 40) : f_X9_isAhead m (nI a) (nI f) (nI g) = some (b2 (cb m fld (decide (gA m 39 a ≠ 0)) f g)) := by
  unfold f_X9_isAhead
  have ga : vp_in (nI a) 8 := vin_nI ha (by decide)
  have xa : ix (nI a) = a := ix_nI (by omega)
  simp only [gd_pos ga, xa]
  rw [e1, valueOr_eq h.wO hf (by omega), valueOr_eq h.wO hg (by omega), Option.bind_some, Option.bind_some]
  unfold cb
  have neg : ∀ k, k < 40 → (vOr m k fld (-1) < 0 ↔ vOr m k fld (-1) = -1) := fun k hk => by
    rcases vOr_cases h.wO h.wV hk (show fld < 6 by omega) with ⟨_, e⟩ | ⟨v, hv, _, e⟩
    · rw [e]; decide
    · rw [e]; exact ⟨fun w => absurd w (nI_pos (by omega)), fun w => absurd w (nI_ne_m1 (by omega))⟩
  by_cases w : vOr m f fld (-1) = vOr m g fld (-1)
  · rw [if_pos w, if_pos w, lt_decN hf hg]
  · rw [if_neg w, if_neg w]
    by_cases w2 : vOr m g fld (-1) = -1
    · rw [if_pos ((neg g hg).mpr w2), if_pos w2]; rfl
    · rw [if_neg (fun u => w2 ((neg g hg).mp u)), if_neg w2]
      by_cases w1 : vOr m f fld (-1) = -1
      · rw [if_pos ((neg f hf).mpr w1), if_pos w1]; rfl
      · rw [if_neg (fun u => w1 ((neg f hf).mp u)), if_neg w1]
        by_cases d : gA m 39 a = 0
        · rw [if_pos d, show decide (gA m 39 a ≠ 0) = false from decide_eq_false (fun u => u d), lt_dec]; rfl
        · rw [if_neg d, show decide (gA m 39 a ≠ 0) = true from decide_eq_true d, lt_dec]; rfl
theorem cb_self (m : Sx) (fld : Nat) (dn : Bool) (f : Nat) : cb m fld dn f f = false := by
  unfold cb
  rw [if_pos rfl, decide_eq_false (by omega)]
theorem ask_viewAt (a1 a2 : Int32) : Ask (fun t => f_X8_viewAt t a1 a2) (fun t => f_X9_viewAt t a1 a2) := fun c m h => by
  show ∃ r, f_X8_viewAt c a1 a2 = some r ∧ f_X9_viewAt m a1 a2 = some r
  unfold f_X8_viewAt f_X9_viewAt f_X7_fileAt
  rw [hasAlbum_eq h.2.2.1, there8_eq]
  simp only [Option.bind_some]
  cases q : alm m a1 with
  | false => exact ⟨-1, by rw [bF], by rw [bF]⟩
  | true =>
    obtain ⟨a, ha, rfl, hA⟩ := alm_out q
    obtain ⟨x, e, hx⟩ := shown_eq h ha hA
    obtain ⟨-, d1, ⟨fld, d2, d3, d3'⟩, d4, -, -⟩ := (h.2.2.1 a ha).2 hA
    rw [bT, bT]
    by_cases w : 0 ≤ a2
    · rw [if_pos w, if_pos w, gd_pos (vin_nI ha (by decide)), ix_nI (by omega), e, Option.bind_some]
      have sh40 : ∀ f, f < 40 → hb x f = shw m (hb (gM m 2 a)) f := fun f hf => by rw [hx f (by omega), decide_eq_true hf, Bool.true_and]
      have shF : ∀ f, f < 40 → shw m (hb (gM m 2 a)) f = true → iF m f = true := fun f hf u => by
        unfold shw at u
        exact (Mp.out h.2.2.2.2 a ha hA f (by omega) ((Bool.and_eq_true _ _).mp u).1).2
      -- how many come ahead
      have plc : ∀ f, f < 40 → shw m (hb (gM m 2 a)) f = true → f_X7_placeOf c a x (nI f) = some (nI (fb_ct (fun g => shw m (hb (gM m 2 a)) g && cb m fld (decide (gA m 39 a ≠ 0)) g f) 40)) := fun f hf pf => by
        unfold f_X7_placeOf
        exact cnt0 (L := fun n i s => L_X7_placeOf_6 c a x (nI f) (fun z3 z4 => some z3) n s i) (E := fun s => some s) (p := fun g => shw m (hb (gM m 2 a)) g && cb m fld (decide (gA m 39 a ≠ 0)) g f) (N := 40) (by decide) (fun n s => by
          show L_X7_placeOf_6 _ _ _ _ _ _ _ _ = _
          rw [L_X7_placeOf_6, if_pos (by decide)]) (fun n g s hg => by
          show L_X7_placeOf_6 _ _ _ _ _ _ _ _ = L_X7_placeOf_6 _ _ _ _ _ _ _ _
          rw [L_X7_placeOf_6, if_neg (ngo (x := 40) (N := 40) rfl hg (by decide)), holds_eq _ _ (by omega), sh40 g hg, Option.bind_some, nI_lit1]
          cases pg : shw m (hb (gM m 2 a)) g with
          | false => rw [bF]; rfl
          | true =>
            rw [bT, comesBefore_eq h.2.1.1 d2 d3 d4 hg hf (shF g hg pg) (shF f hf pf), Option.bind_some, Bool.true_and]
            cases cb m fld (decide (gA m 39 a ≠ 0)) g f with
            | false => rw [bF, if_neg (by decide)]
            | true => rw [bT, if_pos rfl])
      have ahd : ∀ f, f < 40 → ∀ kont : Int32 → Int32 → Option Int32, shw m (hb (gM m 2 a)) f = true → L_X9_viewAt_28 m (nI a) a2 (nI f) kont FU 0 0 = kont (nI (fb_ct (fun g => shw m (hb (gM m 2 a)) g && cb m fld (decide (gA m 39 a ≠ 0)) g f) 40)) (nI 40) := fun f hf kont pf => by
        exact cnt0 (L := fun n i s => L_X9_viewAt_28 m (nI a) a2 (nI f) kont n s i) (E := fun s => kont s (nI 40)) (p := fun g => shw m (hb (gM m 2 a)) g && cb m fld (decide (gA m 39 a ≠ 0)) g f) (N := 40) (by decide) (fun n s => by
          show L_X9_viewAt_28 _ _ _ _ _ _ _ _ = _
          rw [L_X9_viewAt_28, if_pos (by decide)]) (fun n g s hg => by
          show L_X9_viewAt_28 _ _ _ _ _ _ _ _ = L_X9_viewAt_28 _ _ _ _ _ _ _ _
          rw [L_X9_viewAt_28, if_neg (ngo (x := 40) (N := 40) rfl hg (by decide)), isShown_eq h.1 ha hf, pf, Option.bind_some, if_neg (by decide), nI_lit1]
          by_cases gf : g = f
          · rw [if_pos (by rw [gf]), gf, cb_self, Bool.and_false, if_neg (by decide), Int32.add_zero]
          · rw [if_neg (by rw [nI_eq_iff (by omega) (by omega)]; exact gf), isShown_eq h.1 ha hg, Option.bind_some]
            cases pg : shw m (hb (gM m 2 a)) g with
            | false => rw [bF, Int32.add_zero]; rfl
            | true =>
              rw [bT, isAhead_eq h.1 ha d2 d3' hg hf, Option.bind_some, Bool.true_and]
              cases cb m fld (decide (gA m 39 a ≠ 0)) g f with
              | false => rw [bF, if_neg (by decide), Int32.add_zero]
              | true => rw [bT, if_pos rfl])
      have skp : ∀ f, f < 40 → ∀ kont : Int32 → Int32 → Option Int32, shw m (hb (gM m 2 a)) f = false → L_X9_viewAt_28 m (nI a) a2 (nI f) kont FU 0 0 = kont 0 0 := fun f hf kont pf => by
        obtain ⟨fu, ef⟩ := FU_ge (n := 1) (by decide)
        rw [ef, L_X9_viewAt_28, if_neg (by decide), isShown_eq h.1 ha hf, pf, Option.bind_some, if_pos b2_f]
      have r1 := find0 (L := fun n i => L_X7_fileAt_9 c a a2 x (fun z4 => some (-1)) n i) (p := fun f => shw m (hb (gM m 2 a)) f && decide (nI (fb_ct (fun g => shw m (hb (gM m 2 a)) g && cb m fld (decide (gA m 39 a ≠ 0)) g f) 40) = a2)) (N := 40) (A := some (-1)) (B := fun f => some (nI f)) (by decide) (fun n => by
        show L_X7_fileAt_9 _ _ _ _ _ _ _ = _
        rw [L_X7_fileAt_9, if_pos (by decide)]) (fun n f hf => by
        show L_X7_fileAt_9 _ _ _ _ _ _ _ = _
        rw [L_X7_fileAt_9, if_neg (ngo (x := 40) (N := 40) rfl hf (by decide)), holds_eq _ _ (by omega), sh40 f hf, Option.bind_some, nI_lit1]
        cases pf : shw m (hb (gM m 2 a)) f with
        | false => rw [bF]; rfl
        | true =>
          rw [bT, plc f hf pf, Option.bind_some, Bool.true_and]
          by_cases u : nI (fb_ct (fun g => shw m (hb (gM m 2 a)) g && cb m fld (decide (gA m 39 a ≠ 0)) g f) 40) = a2
          · rw [if_pos u, decide_eq_true u, if_pos rfl]
          · rw [if_neg u, decide_eq_false u, if_neg (by decide)])
      have r2 := find0 (L := fun n i => L_X9_viewAt_16 m (nI a) a2 (fun z8 => some (-4)) n i) (p := fun f => shw m (hb (gM m 2 a)) f && decide (nI (fb_ct (fun g => shw m (hb (gM m 2 a)) g && cb m fld (decide (gA m 39 a ≠ 0)) g f) 40) = a2)) (N := 40) (A := some (-4)) (B := fun f => some (nI f)) (by decide) (fun n => by
        show L_X9_viewAt_16 _ _ _ _ _ _ = _
        rw [L_X9_viewAt_16, if_pos (by decide)]) (fun n f hf => by
        show L_X9_viewAt_16 _ _ _ _ _ _ = _
        rw [L_X9_viewAt_16, if_neg (ngo (x := 40) (N := 40) rfl hf (by decide)), nI_lit1]
        cases pf : shw m (hb (gM m 2 a)) f with
        | false =>
          rw [skp f hf _ pf, isShown_eq h.1 ha hf, pf, Option.bind_some, if_pos b2_f, Bool.false_and, if_neg (by decide)]
        | true =>
          rw [ahd f hf _ pf, isShown_eq h.1 ha hf, pf, Option.bind_some, if_neg (by decide), Bool.true_and]
          by_cases u : nI (fb_ct (fun g => shw m (hb (gM m 2 a)) g && cb m fld (decide (gA m 39 a ≠ 0)) g f) 40) = a2
          · rw [if_pos u, decide_eq_true u, if_pos rfl]
          · rw [if_neg u, decide_eq_false u, if_neg (by decide)])
      rw [r1, r2]
      cases ef : fst? (fun f => shw m (hb (gM m 2 a)) f && decide (nI (fb_ct (fun g => shw m (hb (gM m 2 a)) g && cb m fld (decide (gA m 39 a ≠ 0)) g f) 40) = a2)) 0 40 with
      | none => exact ⟨-4, rfl, rfl⟩
      | some f =>
        have := (fst?_some ef).2.1
        refine ⟨nI f, ?_, rfl⟩
        dsimp only
        rw [Option.bind_some, orNF, nI_not_m1 (by omega)]; rfl
    · rw [if_neg w, if_neg w]; exact ⟨_, rfl, rfl⟩
