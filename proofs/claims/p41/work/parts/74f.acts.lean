/-! ===== p41: what is done to the catalog ===== -/
theorem and_pos (z : Int32) : ∃ v, v < 2 ^ 31 ∧ z &&& 2147483647 = nI v := by
  refine ⟨(z.toBitVec &&& 2147483647#32).toNat, ?_, ?_⟩
  · rw [BitVec.toNat_and]
    exact Nat.lt_of_le_of_lt Nat.and_le_right (by decide)
  · apply Int32.toBitVec_inj.mp
    rw [Int32.toBitVec_and]
    show z.toBitVec &&& 2147483647#32 = BitVec.ofNat 32 _
    rw [BitVec.ofNat_toNat, BitVec.setWidth_eq]
theorem shr_ok {v : Nat} (hv : v < 2 ^ 31) (s : Int32) : ∃ w, w < 2 ^ 31 ∧ nI v >>> s = nI w := by
  have e : (nI v >>> s).toInt = (v : Int) >>> (s.toBitVec.smod 32).toNat := by
    show ((nI v).toBitVec.sshiftRight' (s.toBitVec.smod 32)).toInt = _
    rw [BitVec.toInt_sshiftRight']
    show (nI v).toInt >>> _ = _
    rw [nI_toInt hv]
  have l : v >>> (s.toBitVec.smod 32).toNat < 2 ^ 31 := Nat.lt_of_le_of_lt (Nat.shiftRight_le v _) hv
  refine ⟨v >>> (s.toBitVec.smod 32).toNat, l, Int32.toInt_inj.mp ?_⟩
  rw [nI_toInt l, e]
  rfl
theorem irem_nI {v d : Nat} (hv : v < 2 ^ 31) (hd0 : 0 < d) (hd : d < 2 ^ 31) : nI v - nI v / nI d * nI d = nI (v % d) := by
  have l : v / d < 2 ^ 31 := Nat.lt_of_le_of_lt (Nat.div_le_self v d) hv
  have e : nI v / nI d = nI (v / d) := Int32.toInt_inj.mp (by
    rw [Int32.toInt_div_of_ne_right _ _ (nI_ne_m1 hd), nI_toInt hv, nI_toInt hd, nI_toInt l]
    exact (Int.ofNat_tdiv v d).symm)
  rw [e, nI_mul]
  have e2 : nI v = nI (v % d) + nI (v / d * d) := by rw [nI_add, Nat.mod_add_div']
  rw [e2]
  grind
theorem cell_ok (xs : Nat → Int32) {L k : Nat} (hL : L ≤ 260) (hk : k < 100) : ∃ v, v < 2 ^ 31 ∧ cellF xs L (nI k) = some (nI v) := by
  unfold cellF
  by_cases q : Int32.ofNat L ≤ nI k
  · obtain ⟨v, hv, e⟩ := and_pos ((15485959 * nI k) + 109)
    exact ⟨v, hv, by rw [if_pos q, e]⟩
  · have q' : ¬ nI L ≤ nI k := q
    rw [nI_le_iff (by omega) (by omega)] at q'
    obtain ⟨v, hv, e⟩ := and_pos (xs (ix (nI k)))
    exact ⟨v, hv, by rw [if_neg q, gd_pos (vin_nI (by omega) (by omega)), e]⟩
theorem fst?_at {p : Nat → Bool} {N k : Nat} (hk : k < N) (h1 : p k = true) (h2 : ∀ i, i < k → p i = false) : fst? p 0 N = some k := by
  cases e : fst? p 0 N with
  | none =>
    have := fst?_none e k (by omega) (by omega)
    rw [h1] at this
    cases this
  | some j =>
    obtain ⟨-, -, h3, h4⟩ := fst?_some e
    rcases Nat.lt_trichotomy j k with w | w | w
    · rw [h2 j w] at h3; cases h3
    · rw [w]
    · rw [h4 k (by omega) w] at h1; cases h1
section LEAF
variable {c m : Sx}
theorem leaf_cal (h : PI c m) {lo b : Int32} {F G : Sx → Option (Int32 × Sx)} (hc : Cal lo F G) (hb : b < lo) : ∃ c' m', ((F c).bind fun r => if r.1 ≤ b then some ((0 : Int32), r.2) else some ((1 : Int32), r.2)) = some (1, c') ∧ PI c' m' := by
  obtain ⟨r, c', m', e1, -, i, -, f, l⟩ := hc c m h.1
  refine ⟨c', m', ?_, h.fr i f⟩
  have l' := l h.2.1
  rw [e1, Option.bind_some, if_neg (by rw [i_le]; rw [i_lt] at hb; rw [i_le] at l'; show ¬ r.toInt ≤ b.toInt; omega)]
theorem leaf_add (h : PI c m) {d s : Nat} (hd : d ≤ 9999) (hs : s < 100000) : ∃ c' m', ((f_X8_fileCount c).bind fun r => if 11 < r then some ((1 : Int32), c) else (f_X8_add c (nI d) (1 + nI s)).bind fun r8 => if r8.1 < 0 then some ((0 : Int32), r8.2) else some ((1 : Int32), r8.2)) = some (1, c') ∧ PI c' m' := by
  have l40 := fb_ct_le (iF m) 40
  rw [v_files h.1, Option.bind_some]
  by_cases q : (11 : Int32) < nI (fb_ct (iF m) 40)
  · rw [if_pos q]; exact ⟨c, m, rfl, h⟩
  · rw [if_neg q]
    rw [show (11 : Int32) = nI 11 from rfl, nI_lt_iff (by decide) (by omega)] at q
    have g1 : inr (nI d) 0 9999 = true := inr_iff.mpr ⟨nI_pos' (by omega), nI_le (b := 9999) hd (by decide)⟩
    have g2 : inr (1 + nI s) 1 100000 = true := by
      rw [show (1 : Int32) + nI s = nI (1 + s) from nI_add 1 s]
      exact inr_iff.mpr ⟨nI_le (a := 1) (by omega) (by omega), nI_le (b := 100000) (by omega) (by decide)⟩
    have hex : ∃ f, fst? (fun k => !iF m k) 0 40 = some f := by
      cases e : fst? (fun k => !iF m k) 0 40 with
      | some f => exact ⟨f, rfl⟩
      | none =>
        have : fb_ct (iF m) 40 = 40 := fb_ct_all.mpr (fun k hk => by
          have := fst?_none e k (by omega) (by omega)
          simpa using this)
        omega
    obtain ⟨f, ef⟩ := hex
    have hf := (fst?_some ef).2.1
    obtain ⟨c', m', e1, -, i, fr, -⟩ := add_full h.1 g1 g2 ef
    refine ⟨c', m', ?_, h.fr i fr⟩
    rw [e1, Option.bind_some, if_neg (show ¬ nI f < 0 from nI_pos (by omega))]
end LEAF
theorem m3_tab : ∀ g, g < 12 → (nI g - nI g / 3 * 3 = nI (g % 3)) ∧ ((nI g + 1) - (nI g + 1) / 3 * 3 = nI ((g + 1) % 3)) ∧ ((nI g + 2) - (nI g + 2) / 3 * 3 = nI ((g + 2) % 3)) := fun g hg => ⟨irem_nI (d := 3) (by omega) (by decide) (by decide), by
  rw [nI_lit1]; exact irem_nI (d := 3) (by omega) (by decide) (by decide), by
  rw [show nI g + 2 = nI (g + 2) from nI_add g 2]; exact irem_nI (d := 3) (by omega) (by decide) (by decide)⟩
theorem acts_ok {c m : Sx} (h : PI c m) {v : Nat} (hv : v < 2 ^ 31) : ∃ c' m', f_L_acts c (nI v) = some (1, c') ∧ PI c' m' := by
  obtain ⟨w4, h4, e4⟩ := shr_ok hv ((4 : Int32) &&& 31)
  obtain ⟨w8, h8, e8⟩ := shr_ok hv ((8 : Int32) &&& 31)
  obtain ⟨wc, hc, ec⟩ := shr_ok hv ((12 : Int32) &&& 31)
  obtain ⟨wf, hf, ef⟩ := shr_ok hv ((15 : Int32) &&& 31)
  have r4 : nI w4 - nI w4 / 12 * 12 = nI (w4 % 12) := irem_nI (d := 12) h4 (by decide) (by decide)
  have r8 : nI w8 - nI w8 / 12 * 12 = nI (w8 % 12) := irem_nI (d := 12) h8 (by decide) (by decide)
  have rc : nI wc - nI wc / 6 * 6 = nI (wc % 6) := irem_nI (d := 6) hc (by decide) (by decide)
  have rf : nI wf - nI wf / 100 * 100 = nI (wf % 100) := irem_nI (d := 100) hf (by decide) (by decide)
  obtain ⟨g1, g2, g3⟩ := m3_tab (w8 % 12) (Nat.mod_lt _ (by decide))
  have lg : w8 % 12 < 12 := Nat.mod_lt _ (by decide)
  have lc6 : wc % 6 < 6 := Nat.mod_lt _ (by decide)
  have lf : wf % 100 < 100 := Nat.mod_lt _ (by decide)
  unfold f_L_acts
  simp only [gd_pos (show ¬ (12 : Int32) = 0 by decide), gd_pos (show ¬ (16 : Int32) = 0 by decide), gd_pos (show ¬ (6 : Int32) = 0 by decide), gd_pos (show ¬ (100 : Int32) = 0 by decide), gd_pos (show ¬ (3 : Int32) = 0 by decide), gd_pos (show ¬ (2 : Int32) = 0 by decide), gd_pos (show ¬ (4 : Int32) = 0 by decide), bd_eq, e4, e8, ec, ef, r4, r8, rc, rf, g1, g2, g3]
  generalize nI v - nI v / 16 * 16 = z
  generalize w8 % 12 = g at lg
  generalize nI (w4 % 12) = x
  have order : ∀ c m, PI c m → ∃ c' m', ((f_X8_setOrder c (nI (g % 3)) (nI ((g + 1) % 3)) (nI ((g + 2) % 3))).bind fun r52 => if r52.1 < 12 then some ((0 : Int32), r52.2) else some ((1 : Int32), r52.2)) = some (1, c') ∧ PI c' m' := fun c m h => by
    have i3 : ∀ k, k < 3 → inr (nI k) 0 2 = true := fun k hk => inr_iff.mpr ⟨nI_pos' (by omega), nI_le (b := 2) (by omega) (by decide)⟩
    have ne : ∀ i j, i < 3 → j < 3 → i ≠ j → ¬ nI i = nI j := fun i j hi hj hn => by rw [nI_eq_iff (by omega) (by omega)]; exact hn
    obtain ⟨r, c', m', e1, -, i, f, l⟩ := ord_full h.1 (i3 _ (Nat.mod_lt g (by decide))) (i3 _ (Nat.mod_lt (g + 1) (by decide))) (i3 _ (Nat.mod_lt (g + 2) (by decide))) (ne _ _ (by omega) (by omega) (by omega)) (ne _ _ (by omega) (by omega) (by omega)) (ne _ _ (by omega) (by omega) (by omega))
    have l' := l h.2.1
    refine ⟨c', m', ?_, h.fr i f⟩
    rw [e1, Option.bind_some, if_neg (show ¬ r < 12 from by rw [i_lt]; rw [i_le] at l'; omega)]
  by_cases q0 : z = 0
  · rw [if_pos q0]; exact leaf_add h (by omega) (by omega)
  rw [if_neg q0]
  by_cases q1 : z = 1
  · rw [if_pos q1]; exact leaf_add h (by omega) (by omega)
  rw [if_neg q1]
  by_cases q2 : z = 2
  · rw [if_pos q2]; exact leaf_add h (by omega) (by omega)
  rw [if_neg q2]
  by_cases q3 : z = 3
  · rw [if_pos q3]; exact leaf_cal h (cal_setValue _ _ _ _) (by decide)
  rw [if_neg q3]
  by_cases q4 : z = 4
  · rw [if_pos q4]; exact leaf_cal h (cal_setValue _ _ _ _) (by decide)
  rw [if_neg q4]
  by_cases q5 : z = 5
  · rw [if_pos q5]; exact leaf_cal h (cal_setValue _ _ _ _) (by decide)
  rw [if_neg q5]
  by_cases q6 : z = 6
  · rw [if_pos q6]; exact leaf_cal h (cal_setValue _ _ _ _) (by decide)
  rw [if_neg q6]
  by_cases q7 : z = 7
  · rw [if_pos q7]; exact leaf_cal h (cal_clearValue _ _ _) (by decide)
  rw [if_neg q7]
  by_cases q8 : z = 8
  · rw [if_pos q8]; exact leaf_cal h (cal_stack _ _) (by decide)
  rw [if_neg q8]
  by_cases q9 : z = 9
  · rw [if_pos q9]; exact leaf_cal h (cal_stack _ _) (by decide)
  rw [if_neg q9]
  by_cases q10 : z = 10
  · rw [if_pos q10]; exact leaf_cal h (cal_putInto _ _ _) (by decide)
  rw [if_neg q10]
  by_cases q11 : z = 11
  · rw [if_pos q11]; exact leaf_cal h (cal_takeOut _) (by decide)
  rw [if_neg q11]
  by_cases q12 : z = 12
  · rw [if_pos q12]
    obtain ⟨r, c', m', e1, -, i, -, f, l⟩ := cal_collapse (nI (g % 3)) (x - x / 2 * 2) c m h.1
    have e1' : f_X8_collapse c (nI (g % 3)) (x - x / 2 * 2) = some (r, c') := e1
    have l' := l h.2.1
    rw [e1', Option.bind_some, if_neg (show ¬ r ≤ -2 from by rw [i_le, show (-2 : Int32).toInt = -2 from rfl]; rw [i_le, show (-1 : Int32).toInt = -1 from rfl] at l'; omega)]
    exact leaf_cal (h.fr i f) (cal_chooseCover _ _) (by decide)
  rw [if_neg q12]
  by_cases q13 : z = 13
  · rw [if_pos q13]
    split
    · exact ⟨c, m, rfl, h⟩
    · exact leaf_cal h (cal_merge _) (by decide)
  rw [if_neg q13]
  by_cases q14 : z = 14
  · rw [if_pos q14]
    split
    · exact ⟨c, m, rfl, h⟩
    · exact leaf_cal h (cal_remove _) (by decide)
  rw [if_neg q14]
  obtain ⟨r, c', m', e1, -, i, -, f, l⟩ := cal_setDigest x (nI (wc % 6)) c m h.1
  have e1' : f_X8_setDigest c x (nI (wc % 6)) = some (r, c') := e1
  have l' := l h.2.1
  rw [e1', Option.bind_some, if_neg (show ¬ r ≤ -2 from by rw [i_le, show (-2 : Int32).toInt = -2 from rfl]; rw [i_le, show (-1 : Int32).toInt = -1 from rfl] at l'; omega)]
  exact order _ _ (h.fr i f)
