/-! ===== rules: the reference works a rule out, token by token ===== -/
theorem isField_eq (t : Sx) {v : Nat} (h : v < 2000) : f_X9_isField t (nI v) = some (b2 (fldc v)) := by
  unfold f_X9_isField fldc
  have z : ∀ k, k < 2000 → ((nI v = nI k) ↔ v = k) := fun k hk => nI_eq_iff (by omega) (by omega)
  have z107 : (nI v = 107) ↔ v = 107 := z 107 (by decide)
  have z114 : (nI v = 114) ↔ v = 114 := z 114 (by decide)
  have z121 : (nI v = 121) ↔ v = 121 := z 121 (by decide)
  have z99 : (nI v = 99) ↔ v = 99 := z 99 (by decide)
  have z100 : (nI v = 100) ↔ v = 100 := z 100 (by decide)
  simp only [z107, z114, z121, z99, z100]
  by_cases a : v = 107
  · subst a; rfl
  · by_cases b : v = 114
    · subst b; rfl
    · by_cases c : v = 121
      · subst c; rfl
      · by_cases d : v = 99
        · subst d; rfl
        · by_cases e : v = 100
          · subst e; rfl
          · simp [a, b, c, d, e, b2]
theorem tk_tab : ((List.range 9).all fun s => (List.range 127).all fun ch => (List.range 11).all fun op => nx s ch op == 99 || !(s == 0 || s == 8 || (decide (3 ≤ s) && decide (s ≤ 6) && !dgt ch)) || (fldc ch && nx s ch op == 1 && decide (97 ≤ ch) && decide (ch ≤ 122)) || (ch == 33 && nx s ch op == 0) || (ch == 40 && nx s ch op == 0) || ((ch == 116 || ch == 97) && nx s ch op == 7) || ((ch == 115 || ch == 118 || ch == 117 || ch == 98) && nx s ch op == 8) || ((ch == 38 || ch == 124) && nx s ch op == 0) || (ch == 41 && nx s ch op == 8)) = true := by decide +kernel
theorem tk_ok {s ch op : Nat} (hs : s < 9) (hc : ch < 127) (ho : op < 11) (h : nx s ch op ≠ 99) (ht : s = 0 ∨ (aft s ∧ dgt ch = false)) : (fldc ch = true ∧ nx s ch op = 1 ∧ 97 ≤ ch ∧ ch ≤ 122) ∨ (fldc ch = false ∧ ((ch = 33 ∧ nx s ch op = 0) ∨ (ch = 40 ∧ nx s ch op = 0) ∨ ((ch = 116 ∨ ch = 97) ∧ nx s ch op = 7) ∨ ((ch = 115 ∨ ch = 118 ∨ ch = 117 ∨ ch = 98) ∧ nx s ch op = 8) ∨ ((ch = 38 ∨ ch = 124) ∧ nx s ch op = 0) ∨ (ch = 41 ∧ nx s ch op = 8))) := by
  have h1 := List.all_eq_true.mp tk_tab s (List.mem_range.mpr hs)
  have h2 := List.all_eq_true.mp h1 ch (List.mem_range.mpr hc)
  have h3 := List.all_eq_true.mp h2 op (List.mem_range.mpr ho)
  simp only [Bool.or_eq_true, Bool.and_eq_true, beq_iff_eq, Bool.not_eq_true', Bool.or_eq_false_iff, Bool.and_eq_false_iff, decide_eq_false_iff_not, decide_eq_true_eq, Bool.not_eq_false'] at h3
  have nf : ∀ {v : Nat}, v = ch → (v = 33 ∨ v = 40 ∨ v = 116 ∨ v = 97 ∨ v = 115 ∨ v = 118 ∨ v = 117 ∨ v = 98 ∨ v = 38 ∨ v = 124 ∨ v = 41) → fldc ch = false := fun e w => by
    subst e
    rcases w with rfl | rfl | rfl | rfl | rfl | rfl | rfl | rfl | rfl | rfl | rfl <;> rfl
  rcases h3 with (((((((h3 | h3) | h3) | h3) | h3) | h3) | h3) | h3) | h3
  · exact absurd h3 h
  · exfalso
    obtain ⟨⟨a, b⟩, c⟩ := h3
    rcases ht with w | ⟨w1 | w1, w2⟩
    · simp [w] at a
    · simp [w1] at b
    · rcases c with c | c
      · rcases c with c | c <;> omega
      · rw [w2] at c; cases c
  · exact Or.inl ⟨h3.1.1.1, h3.1.1.2, h3.1.2, h3.2⟩
  · exact Or.inr ⟨nf rfl (by omega), Or.inl h3⟩
  · exact Or.inr ⟨nf rfl (by omega), Or.inr (Or.inl h3)⟩
  · exact Or.inr ⟨nf rfl (by omega), Or.inr (Or.inr (Or.inl h3))⟩
  · exact Or.inr ⟨nf rfl (by omega), Or.inr (Or.inr (Or.inr (Or.inl ⟨by omega, h3.2⟩)))⟩
  · exact Or.inr ⟨nf rfl (by omega), Or.inr (Or.inr (Or.inr (Or.inr (Or.inl h3))))⟩
  · exact Or.inr ⟨nf rfl (by omega), Or.inr (Or.inr (Or.inr (Or.inr (Or.inr h3))))⟩
/-- where a token may begin -/
def tks (ch : Nat → Nat) (n q : Nat) : Prop := q ≤ n ∧ ∃ s o, rn ch q = some (s, o) ∧ (s = 0 ∨ (aft s ∧ ¬ (q < n ∧ dgt (ch q) = true)))
theorem eSkip (cn : Nat → Bool) (ch : Nat → Nat) {k : Nat} (h : 48 ≤ ch k ∧ ch k ≤ 63) : eRun cn ch (k + 1) = eRun cn ch k := by
  rw [eRun, eStep, if_neg (by omega), if_neg (by omega), if_neg (by omega), if_neg (by omega), if_neg (by omega)]
theorem eSkips (cn : Nat → Bool) (ch : Nat → Nat) : ∀ (d k : Nat), (∀ i, k ≤ i → i < k + d → 48 ≤ ch i ∧ ch i ≤ 63) → eRun cn ch (k + d) = eRun cn ch k
  | 0, k, _ => rfl
  | d + 1, k, h => by
    rw [← Nat.add_assoc, eSkip cn ch (h (k + d) (by omega) (by omega)), eSkips cn ch d k (fun i h1 h2 => h i h1 (by omega))]
theorem aft_stop {ch : Nat → Nat} {n : Nat} (hR : Rul ch n) {q o : Nat} (e : rn ch q = some (8, o)) : ¬ (q < n ∧ dgt (ch q) = true) := fun w => by
  obtain ⟨sn, hv, -⟩ := id hR.2
  obtain ⟨s1, o1, e1, g1, g2, g3, g4⟩ := rn_at hR.1 hv w.1
  rw [e] at e1
  cases e1
  rw [nxA (Or.inl rfl) w.2, if_pos rfl] at g3
  exact g3 rfl
theorem isSo_eq {y : Sx} (hO : WOrd y) (hV : WVal y) (wS : WStk y) {ch : Nat → Nat} {n f p : Nat} (hf : f < 40) (hp : iF y f = true) (hc : ch p = 115 ∨ ch p = 118 ∨ ch p = 117 ∨ ch p = 98) : f_X9_isSo y (nI f) (nI (ch p)) = some (b2 (cnd y ch n f p)) := by
  have h40 : vp_in (nI f) 40 := vin_nI hf (by decide)
  unfold f_X9_isSo
  rcases hc with q | q | q | q
  · have ec : cnd y ch n f p = decide (gA y 29 f ≠ -1) := by
      rw [cnd, q, if_neg (by decide), if_neg (by decide), if_neg (by decide), if_pos rfl]
    rw [q, ec, if_pos rfl, gd_pos h40, ix_nI (by omega)]
    rcases wS.1 f hf with u | ⟨s, hs, es, -⟩
    · rw [u, if_neg (by decide)]; rfl
    · rw [es, if_pos (nI_pos' (by omega)), decide_eq_true (nI_ne_m1 (by omega))]; rfl
  · have ec : cnd y ch n f p = (decide (gA y 29 f ≠ -1) && decide (cov y (ix (gA y 29 f)) = f)) := by
      rw [cnd, q, if_neg (by decide), if_neg (by decide), if_neg (by decide), if_neg (by decide), if_pos rfl]
    rw [q, ec]
    rcases wS.1 f hf with u | ⟨s, hs, es, -, k, hk, -⟩
    · simp only [show (nI 118 = 115) ↔ False from by decide, show (nI 118 = 117) ↔ False from by decide, show (nI 118 = 118) ↔ True from by decide, show (nI 118 = 116) ↔ False from by decide, if_false, if_true]
      rw [gd_pos h40, ix_nI (by omega), u, if_neg (by decide)]; rfl
    · simp only [show (nI 118 = 115) ↔ False from by decide, show (nI 118 = 117) ↔ False from by decide, show (nI 118 = 118) ↔ True from by decide, show (nI 118 = 116) ↔ False from by decide, if_false, if_true]
      rw [gd_pos h40, ix_nI (by omega), es, if_pos (nI_pos' (by omega)), gd_pos h40, cover_eq hO hV wS hs (by omega), Option.bind_some, decide_eq_true (nI_ne_m1 (by omega)), Bool.true_and, ix_nI (by omega)]
      have := (cov_ok wS hs (show 0 < mn y s by omega)).1
      by_cases w : cov y s = f
      · rw [if_pos (by rw [w]), decide_eq_true w]; rfl
      · rw [if_neg (fun u => w ((nI_eq_iff (by omega) (by omega)).mp u)), decide_eq_false w]; rfl
  · have ec : cnd y ch n f p = decide (1 < fb_ct (grp y f) 40) := by
      rw [cnd, q, if_neg (by decide), if_neg (by decide), if_neg (by decide), if_neg (by decide), if_neg (by decide), if_pos rfl]
    rw [q, ec]
    simp only [show (nI 117 = 115) ↔ False from by decide, show (nI 117 = 118) ↔ False from by decide, show (nI 117 = 117) ↔ True from by decide, show (nI 117 = 116) ↔ False from by decide, if_false, if_true]
    rw [group_eq hf, Option.bind_some]
    have hle := fb_ct_le (grp y f) 40
    have := nle_lit (N := 1) (k := fb_ct (grp y f) 40) (x := 1) rfl (by decide) (by omega)
    by_cases w : 1 < fb_ct (grp y f) 40
    · rw [if_neg (by rw [this]; omega), decide_eq_true w]; rfl
    · rw [if_pos (by rw [this]; omega), decide_eq_false w]; rfl
  · have ec : cnd y ch n f p = pb (KP y f f) := by
      rw [cnd, q, if_neg (by decide), if_neg (by decide), if_neg (by decide), if_neg (by decide), if_neg (by decide), if_neg (by decide)]
    rw [q, ec]
    simp only [show (nI 98 = 115) ↔ False from by decide, show (nI 98 = 118) ↔ False from by decide, show (nI 98 = 117) ↔ False from by decide, show (nI 98 = 116) ↔ False from by decide, if_false, if_true]
    obtain ⟨k, ek, hk⟩ := keeper_eq hO hV hf hp
    rw [ek, Option.bind_some]
    have := hk.1
    by_cases w : k = f
    · subst w
      rw [if_pos rfl, pb_iff.mpr hk]; rfl
    · rw [if_neg (fun u => w ((nI_eq_iff (by omega) (by omega)).mp u)), show pb (KP y f f) = false from by
        cases v : pb (KP y f f) with
        | false => rfl
        | true => exact absurd (KP_one hk (pb_iff.mp v)) w]
      rfl
