/-! ===== calls that only ask ===== -/
section BA
variable {c m : Sx}
theorem Ba.wO (h : Ba c m) : WOrd m := h.1
theorem Ba.wV (h : Ba c m) : WVal m := h.2.1
theorem Ba.wS (h : Ba c m) : WStk m := h.2.2.1
theorem Ba.wT (h : Ba c m) : WTxt m := h.2.2.2.1
theorem Ba.rP (h : Ba c m) : RPres c m := h.2.2.2.2.1
theorem Ba.rD (h : Ba c m) : RDig c m := h.2.2.2.2.2.1
theorem Ba.rV (h : Ba c m) : RVal c m := h.2.2.2.2.2.2.1
theorem Ba.rO (h : Ba c m) : ROrd c m := h.2.2.2.2.2.2.2.1
theorem Ba.rS (h : Ba c m) : RStk c m := h.2.2.2.2.2.2.2.2.1
theorem Ba.rT (h : Ba c m) : RTxt c m := h.2.2.2.2.2.2.2.2.2.1
theorem Ba.wG (h : Ba c m) : WTg m := h.2.2.2.2.2.2.2.2.2.2
theorem hasC (h : Ba c m) (x : Int32) : f_X1_has c x = some (b2 (fil (iF m) x)) := by rw [has_eq, fil_pres h.rP]
end BA
def Ask (F G : Sx → Option Int32) : Prop := ∀ c m, Inv c m → ∃ r, F c = some r ∧ G m = some r
/-- a loop that counts -/
theorem cnt0 {Rt : Type} {L : Nat → Int32 → Int32 → Rt} {E : Int32 → Rt} {p : Nat → Bool} {N : Nat} (hN : N < 2000) (hexit : ∀ n s, L (n + 1) (nI N) s = E s)
    (hstep : ∀ n k s, k < N → L (n + 1) (nI k) s = L n (nI (k + 1)) (if p k = true then s + 1 else s)) : L FU 0 0 = E (nI (fb_ct p N)) := by
  obtain ⟨s, hs, e⟩ := loop0G (L := L) (E := E) hN (y := (0 : Int32)) (fun k s => s = nI (fb_ct p k)) (fun n y _ => hexit n y) (fun k s hk h => by
    refine ⟨if p k = true then s + 1 else s, ?_, fun n => hstep n k s hk⟩
    rw [h, fb_ct_succ]
    cases p k with
    | true => rw [if_pos rfl, if_pos rfl, nI_lit1]
    | false => rw [if_neg (by decide), if_neg (by decide)]; rfl) rfl
  rw [e, hs]
/-- a loop that adds up -/
def smR (p : Nat → Bool) (v : Nat → Int32) : Nat → Int32
  | 0 => 0
  | k + 1 => if p k = true then smR p v k + v k else smR p v k
theorem smR_cong {p q : Nat → Bool} {v w : Nat → Int32} : ∀ {n : Nat}, (∀ k, k < n → p k = q k ∧ (q k = true → v k = w k)) → smR p v n = smR q w n
  | 0, _ => rfl
  | n + 1, h => by
    rw [smR, smR, smR_cong (fun k hk => h k (by omega)), (h n (by omega)).1]
    by_cases q' : q n = true
    · rw [if_pos q', if_pos q', (h n (by omega)).2 q']
    · rw [if_neg q', if_neg q']
theorem sum0 {Rt : Type} {L : Nat → Int32 → Int32 → Rt} {E : Int32 → Rt} {p : Nat → Bool} {v : Nat → Int32} {N : Nat} (hN : N < 2000) (hexit : ∀ n s, L (n + 1) (nI N) s = E s)
    (hstep : ∀ n k s, k < N → L (n + 1) (nI k) s = L n (nI (k + 1)) (if p k = true then s + v k else s)) : L FU 0 0 = E (smR p v N) := by
  obtain ⟨s, hs, e⟩ := loop0G (L := L) (E := E) hN (y := (0 : Int32)) (fun k s => s = smR p v k) (fun n y _ => hexit n y) (fun k s hk h => by
    refine ⟨if p k = true then s + v k else s, ?_, fun n => hstep n k s hk⟩
    rw [h, smR]) rfl
  rw [e, hs]
theorem howMany_eq {c m : Sx} (h : RPres c m) : f_X1_howMany c = some (nI (fb_ct (iF m) 40)) := by
  unfold f_X1_howMany
  rw [bitCount_eq, Option.bind_some, cnt40 h]
theorem fileCountM (m : Sx) : f_X9_fileCount m = some (nI (fb_ct (iF m) 40)) := by
  unfold f_X9_fileCount
  exact cnt0 (L := fun n i s => L_X9_fileCount_4 m (fun z1 z2 => some z1) n s i) (E := fun s => some s) (p := iF m) (N := 40) (by decide) (fun n s => by
    show L_X9_fileCount_4 _ _ _ _ _ = _
    rw [L_X9_fileCount_4, if_pos (by decide)]) (fun n k s hk => by
    show L_X9_fileCount_4 _ _ _ _ _ = L_X9_fileCount_4 _ _ _ _ _
    rw [L_X9_fileCount_4, if_neg (ngo (x := 40) (N := 40) rfl hk (by decide)), gd_pos (vin_nI hk (by decide)), ix_nI (by omega), nI_lit1]
    cases q : iF m k with
    | false => rw [if_pos (iF_dec.mpr q), if_neg (by decide), Int32.add_zero]
    | true => rw [if_neg (fun w => by rw [iF_dec.mp w] at q; cases q), if_pos rfl])
theorem ask_fileCount : Ask (fun t => f_X8_fileCount t) (fun t => f_X9_fileCount t) := fun c m h => by
  refine ⟨nI (fb_ct (iF m) 40), ?_, fileCountM m⟩
  show f_X8_fileCount c = _
  unfold f_X8_fileCount
  rw [howMany_eq h.1.rP, Option.bind_some]
theorem sumOfSizes_eq (c : Sx) (x : Int64) : f_X1_sumOfSizes c x = some (smR (hb x) (gA c 10) 40) := by
  unfold f_X1_sumOfSizes
  exact sum0 (L := fun n i s => L_X1_sumOfSizes_5 c x (fun z2 z3 => some z2) n s i) (E := fun s => some s) (p := hb x) (v := gA c 10) (N := 40) (by decide) (fun n s => by
    show L_X1_sumOfSizes_5 _ _ _ _ _ _ = _
    rw [L_X1_sumOfSizes_5, if_pos (by decide)]) (fun n k s hk => by
    show L_X1_sumOfSizes_5 _ _ _ _ _ _ = L_X1_sumOfSizes_5 _ _ _ _ _ _
    rw [L_X1_sumOfSizes_5, if_neg (ngo (x := 40) (N := 40) rfl hk (by decide)), holds_eq _ _ (by omega), Option.bind_some, nI_lit1]
    cases q : hb x k with
    | false => rw [bF, if_neg (by decide)]
    | true => rw [bT, if_pos rfl, gd_pos (vin_nI hk (by decide)), ix_nI (by omega)])
theorem orNF (c : Sx) (x : Int32) : f_X8_orNotFound c x = some (if x = -1 then -4 else x) := by
  unfold f_X8_orNotFound
  split <;> rfl
theorem nI_not_m1 {n : Nat} (h : n < 2 ^ 31) : (if nI n = -1 then (-4 : Int32) else nI n) = nI n := if_neg (nI_ne_m1 h)
theorem nI_or (a b : Nat) : nI a ||| nI b = nI (a ||| b) := by
  apply Int32.toBitVec_inj.mp
  rw [Int32.toBitVec_or]
  show BitVec.ofNat 32 a ||| BitVec.ofNat 32 b = BitVec.ofNat 32 (a ||| b)
  rw [BitVec.ofNat_or]
theorem tgs_small {m : Sx} (h0 : WTg m) {f : Nat} (hf : f < 40) : ∃ v, v < 1024 ∧ tgs m f = nI v := by
  have h := h0.1
  have g : ∀ k, k ≤ 3 → ∃ v, v < 2 ^ 10 ∧ tgR m f k = nI v := by
    intro k
    induction k with
    | zero => intro _; exact ⟨0, by decide, rfl⟩
    | succ k ih =>
      intro hk
      obtain ⟨v, hv, e⟩ := ih (by omega)
      rw [tgR, e]
      cases q : iT m (18 * f + 6 * k + 5) with
      | false => exact ⟨v, hv, by rw [if_neg (by decide)]; show nI v ||| nI 0 = nI v; rw [nI_or, Nat.or_zero]⟩
      | true =>
        obtain ⟨w, hw, e2⟩ := h f hf k (by omega) q
        exact ⟨v ||| w, Nat.or_lt_two_pow hv (by omega), by rw [if_pos rfl, e2, nI_or]⟩
  exact g 3 (Nat.le_refl _)
theorem ask_value (a1 a2 : Int32) : Ask (fun t => f_X8_value t a1 a2) (fun t => f_X9_value t a1 a2) := fun c m h => by
  show ∃ r, f_X8_value c a1 a2 = some r ∧ f_X9_value m a1 a2 = some r
  unfold f_X8_value f_X9_value
  rw [hasC h.1, there_eq, Option.bind_some, Option.bind_some]
  cases q : fil (iF m) a1 with
  | false => exact ⟨-1, by rw [bF], by rw [bF]⟩
  | true =>
    obtain ⟨f, hf, rfl, hp⟩ := fil_out q
    rw [bT, bT, isWithin_eq, in_eq, Option.bind_some, Option.bind_some]
    cases q2 : inr a2 0 7 with
    | false => exact ⟨-1, by rw [bF], by rw [bF]⟩
    | true =>
      obtain ⟨k, hk, rfl⟩ := inr_out (n := 7) (by decide) q2
      rw [bT, bT]
      obtain ⟨d1, d2⟩ := h.1.rD f hf hp
      obtain ⟨v1, v2⟩ := h.2.1.1 f hf hp
      rcases (show k < 5 ∨ k = 5 ∨ k = 6 ∨ k = 7 by omega) with w | w | w | w
      · rw [if_neg (by rw [show (6 : Int32) = nI 6 from rfl, nI_eq_iff (by omega) (by decide)]; omega), if_neg (by rw [show (7 : Int32) = nI 7 from rfl, nI_eq_iff (by omega) (by decide)]; omega), if_neg (ngo (x := 5) (N := 5) rfl w (by decide)), settledValue_eq c hf (by omega), Option.bind_some, orNF, Option.bind_some, valueOr_eq h.1.wO hf (by omega), Option.bind_some, v1 k w]
        refine ⟨_, rfl, ?_⟩
        rcases vOr_cases h.1.wO h.1.wV hf (show k < 6 by omega) with ⟨_, e⟩ | ⟨v, hv, _, e⟩
        · rw [e, e]; rfl
        · rw [e, e, nI_not_m1 (by omega)]
      · subst w
        rw [if_neg (by decide), if_neg (by decide), if_pos (by decide), if_pos (by decide), settledValue_eq c hf (by omega), Option.bind_some, orNF, Option.bind_some, tags_eq hf, Option.bind_some, v2]
        refine ⟨_, rfl, ?_⟩
        congr 1
        refine (if_neg fun w => ?_).symm
        obtain ⟨v, hv, e⟩ := tgs_small h.1.wG hf
        rw [e] at w
        exact nI_ne_m1 (by omega) w
      · subst w
        rw [if_pos (by decide), if_pos (by decide), if_neg (by decide), if_pos (by decide)]
        unfold f_X1_digest
        rw [gd_pos (vin_nI hf (by decide)), gd_pos (vin_nI hf (by decide)), ix_nI (by omega), d1]
        exact ⟨_, rfl, rfl⟩
      · subst w
        rw [if_neg (by decide), if_pos (by decide), if_pos (by decide), if_neg (by decide), if_neg (by decide)]
        unfold f_X1_bytes
        rw [gd_pos (vin_nI hf (by decide)), gd_pos (vin_nI hf (by decide)), ix_nI (by omega), d2]
        exact ⟨_, rfl, rfl⟩
