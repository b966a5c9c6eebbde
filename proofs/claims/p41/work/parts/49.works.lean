/-! ===== rules: the reference works a rule out, token by token ===== -/
theorem isField_eq (t : Sx) {v : Nat} (h : v < 2000) : f_X9_isField t (nI v) = some (b2 (fldc v)) := by
  unfold f_X9_isField fldc
  have z : ∀ k, k < 2000 → ((nI v = nI k) ↔ v = k) := fun k hk => nI_eq_iff (by omega) (by omega)
  have z107 : (nI v = 107) ↔ v = 107 := z 107 (by decide)
  have z114 : (nI v = 114) ↔ v = 114 := z 114 (by decide)
  have z121 : (nI v = 121) ↔ v = 121 := z 121 (by decide)
  have z99 : (nI v = 99) ↔ v = 99 := z 99 (by decide)
  have z100 : (nI v = 100) ↔ v = 100 := z 100 (by decide)
  simp only [z107, z114, z121, z99, z100]
  by_cases a : v = 107
  · subst a; rfl
  · by_cases b : v = 114
    · subst b; rfl
    · by_cases c : v = 121
      · subst c; rfl
      · by_cases d : v = 99
        · subst d; rfl
        · by_cases e : v = 100
          · subst e; rfl
          · simp [a, b, c, d, e, b2]
theorem tk_tab : ((List.range 9).all fun s => (List.range 127).all fun ch => (List.range 11).all fun op => nx s ch op == 99 || !(s == 0 || s == 8 || (decide (3 ≤ s) && decide (s ≤ 6) && !dgt ch)) || (fldc ch && nx s ch op == 1 && decide (97 ≤ ch) && decide (ch ≤ 122)) || (ch == 33 && nx s ch op == 0) || (ch == 40 && nx s ch op == 0) || ((ch == 116 || ch == 97) && nx s ch op == 7) || ((ch == 115 || ch == 118 || ch == 117 || ch == 98) && nx s ch op == 8) || ((ch == 38 || ch == 124) && nx s ch op == 0) || (ch == 41 && nx s ch op == 8)) = true := by decide +kernel
theorem tk_ok {s ch op : Nat} (hs : s < 9) (hc : ch < 127) (ho : op < 11) (h : nx s ch op ≠ 99) (ht : s = 0 ∨ (aft s ∧ dgt ch = false)) : (fldc ch = true ∧ nx s ch op = 1 ∧ 97 ≤ ch ∧ ch ≤ 122) ∨ (fldc ch = false ∧ ((ch = 33 ∧ nx s ch op = 0) ∨ (ch = 40 ∧ nx s ch op = 0) ∨ ((ch = 116 ∨ ch = 97) ∧ nx s ch op = 7) ∨ ((ch = 115 ∨ ch = 118 ∨ ch = 117 ∨ ch = 98) ∧ nx s ch op = 8) ∨ ((ch = 38 ∨ ch = 124) ∧ nx s ch op = 0) ∨ (ch = 41 ∧ nx s ch op = 8))) := by
  have h1 := List.all_eq_true.mp tk_tab s (List.mem_range.mpr hs)
  have h2 := List.all_eq_true.mp h1 ch (List.mem_range.mpr hc)
  have h3 := List.all_eq_true.mp h2 op (List.mem_range.mpr ho)
  simp only [Bool.or_eq_true, Bool.and_eq_true, beq_iff_eq, Bool.not_eq_true', Bool.or_eq_false_iff, Bool.and_eq_false_iff, decide_eq_false_iff_not, decide_eq_true_eq, Bool.not_eq_false'] at h3
  have nf : ∀ {v : Nat}, v = ch → (v = 33 ∨ v = 40 ∨ v = 116 ∨ v = 97 ∨ v = 115 ∨ v = 118 ∨ v = 117 ∨ v = 98 ∨ v = 38 ∨ v = 124 ∨ v = 41) → fldc ch = false := fun e w => by
    subst e
    rcases w with rfl | rfl | rfl | rfl | rfl | rfl | rfl | rfl | rfl | rfl | rfl <;> rfl
  rcases h3 with (((((((h3 | h3) | h3) | h3) | h3) | h3) | h3) | h3) | h3
  · exact absurd h3 h
  · exfalso
    obtain ⟨⟨a, b⟩, c⟩ := h3
    rcases ht with w | ⟨w1 | w1, w2⟩
    · simp [w] at a
    · simp [w1] at b
    · rcases c with c | c
      · rcases c with c | c <;> omega
      · rw [w2] at c; cases c
  · exact Or.inl ⟨h3.1.1.1, h3.1.1.2, h3.1.2, h3.2⟩
  · exact Or.inr ⟨nf rfl (by omega), Or.inl h3⟩
  · exact Or.inr ⟨nf rfl (by omega), Or.inr (Or.inl h3)⟩
  · exact Or.inr ⟨nf rfl (by omega), Or.inr (Or.inr (Or.inl h3))⟩
  · exact Or.inr ⟨nf rfl (by omega), Or.inr (Or.inr (Or.inr (Or.inl ⟨by omega, h3.2⟩)))⟩
  · exact Or.inr ⟨nf rfl (by omega), Or.inr (Or.inr (Or.inr (Or.inr (Or.inl h3))))⟩
  · exact Or.inr ⟨nf rfl (by omega), Or.inr (Or.inr (Or.inr (Or.inr (Or.inr h3))))⟩
/-- where a token may begin -/
def tks (ch : Nat → Nat) (n q : Nat) : Prop := q ≤ n ∧ ∃ s o, rn ch q = some (s, o) ∧ (s = 0 ∨ (aft s ∧ ¬ (q < n ∧ dgt (ch q) = true)))
theorem eSkip (cn : Nat → Bool) (ch : Nat → Nat) {k : Nat} (h : 48 ≤ ch k ∧ ch k ≤ 63) : eRun cn ch (k + 1) = eRun cn ch k := by
  rw [eRun, eStep, if_neg (by omega), if_neg (by omega), if_neg (by omega), if_neg (by omega), if_neg (by omega)]
theorem eSkips (cn : Nat → Bool) (ch : Nat → Nat) : ∀ (d k : Nat), (∀ i, k ≤ i → i < k + d → 48 ≤ ch i ∧ ch i ≤ 63) → eRun cn ch (k + d) = eRun cn ch k
  | 0, k, _ => rfl
  | d + 1, k, h => by
    rw [← Nat.add_assoc, eSkip cn ch (h (k + d) (by omega) (by omega)), eSkips cn ch d k (fun i h1 h2 => h i h1 (by omega))]
theorem aft_stop {ch : Nat → Nat} {n : Nat} (hR : Rul ch n) {q o : Nat} (e : rn ch q = some (8, o)) : ¬ (q < n ∧ dgt (ch q) = true) := fun w => by
  obtain ⟨sn, hv, -⟩ := id hR.2
  obtain ⟨s1, o1, e1, g1, g2, g3, g4⟩ := rn_at hR.1 hv w.1
  rw [e] at e1
  cases e1
  rw [nxA (Or.inl rfl) w.2, if_pos rfl] at g3
  exact g3 rfl
theorem isSo_eq {y : Sx} (hO : WOrd y) (hV : WVal y) (wS : WStk y) {ch : Nat → Nat} {n f p : Nat} (hf : f < 40) (hp : iF y f = true) (hc : ch p = 115 ∨ ch p = 118 ∨ ch p = 117 ∨ ch p = 98) : f_X9_isSo y (nI f) (nI (ch p)) = some (b2 (cnd y ch n f p)) := by
  have h40 : vp_in (nI f) 40 := vin_nI hf (by decide)
  unfold f_X9_isSo
  rcases hc with q | q | q | q
  · have ec : cnd y ch n f p = decide (gA y 29 f ≠ -1) := by
      rw [cnd, q, if_neg (by decide), if_neg (by decide), if_neg (by decide), if_pos rfl]
    rw [q, ec, if_pos (show nI 115 = 115 from rfl), gd_pos h40, ix_nI (by omega)]
    rcases wS.1 f hf with u | ⟨s, hs, es, -⟩
    · rw [u, if_pos (by decide)]; rfl
    · rw [es, if_neg (nI_pos (by omega)), decide_eq_true (nI_ne_m1 (by omega))]; rfl
  · have ec : cnd y ch n f p = (decide (gA y 29 f ≠ -1) && decide (cov y (ix (gA y 29 f)) = f)) := by
      rw [cnd, q, if_neg (by decide), if_neg (by decide), if_neg (by decide), if_neg (by decide), if_pos rfl]
    rw [q, ec]
    rcases wS.1 f hf with u | ⟨s, hs, es, -, k, hk, -⟩
    · simp only [show (nI 118 = 115) ↔ False from by decide, show (nI 118 = 117) ↔ False from by decide, show (nI 118 = 118) ↔ True from by decide, show (nI 118 = 116) ↔ False from by decide, if_false, if_true]
      rw [gd_pos h40, ix_nI (by omega), u, if_pos (by decide)]; rfl
    · simp only [show (nI 118 = 115) ↔ False from by decide, show (nI 118 = 117) ↔ False from by decide, show (nI 118 = 118) ↔ True from by decide, show (nI 118 = 116) ↔ False from by decide, if_false, if_true]
      rw [gd_pos h40, ix_nI (by omega), es, if_neg (nI_pos (by omega)), gd_pos h40, cover_eq hO hV wS hs (by omega), Option.bind_some, decide_eq_true (nI_ne_m1 (by omega)), Bool.true_and, ix_nI (by omega)]
      have := (cov_ok wS hs (show 0 < mn y s by omega)).1
      by_cases w : cov y s = f
      · rw [if_pos (by rw [w]), decide_eq_true w]; rfl
      · rw [if_neg (fun u => w ((nI_eq_iff (by omega) (by omega)).mp u)), decide_eq_false w]; rfl
  · have ec : cnd y ch n f p = decide (1 < fb_ct (grp y f) 40) := by
      rw [cnd, q, if_neg (by decide), if_neg (by decide), if_neg (by decide), if_neg (by decide), if_neg (by decide), if_pos rfl]
    rw [q, ec]
    simp only [show (nI 117 = 115) ↔ False from by decide, show (nI 117 = 118) ↔ False from by decide, show (nI 117 = 117) ↔ True from by decide, show (nI 117 = 116) ↔ False from by decide, if_false, if_true]
    rw [group_eq hf, Option.bind_some]
    have hle := fb_ct_le (grp y f) 40
    have := nle_lit (N := 1) (k := fb_ct (grp y f) 40) (x := 1) rfl (by decide) (by omega)
    by_cases w : 1 < fb_ct (grp y f) 40
    · rw [if_neg (by rw [this]; omega), decide_eq_true w]; rfl
    · rw [if_pos (by rw [this]; omega), decide_eq_false w]; rfl
  · have ec : cnd y ch n f p = pb (KP y f f) := by
      rw [cnd, q, if_neg (by decide), if_neg (by decide), if_neg (by decide), if_neg (by decide), if_neg (by decide), if_neg (by decide)]
    rw [q, ec]
    simp only [show (nI 98 = 115) ↔ False from by decide, show (nI 98 = 118) ↔ False from by decide, show (nI 98 = 117) ↔ False from by decide, show (nI 98 = 116) ↔ False from by decide, if_false, if_true]
    obtain ⟨k, ek, hk⟩ := keeper_eq hO hV hf hp
    rw [ek, Option.bind_some]
    have := hk.1
    by_cases w : k = f
    · subst w
      rw [if_pos rfl, pb_iff.mpr hk]; rfl
    · rw [if_neg (fun u => w ((nI_eq_iff (by omega) (by omega)).mp u)), show pb (KP y f f) = false from by
        cases v : pb (KP y f f) with
        | false => rfl
        | true => exact absurd (KP_one hk (pb_iff.mp v)) w]
      rfl
theorem eLet {cn : Nat → Bool} {ch : Nat → Nat} {k : Nat} (h : 97 ≤ ch k ∧ ch k ≤ 122) : eRun cn ch (k + 1) = eTake (eRun cn ch k) (cn k) := by rw [eRun, eStep, if_pos h]
theorem shrL_c (x : Int64) {f : Nat} (hf : f < 64) : (lg_cmp (shrL x (nI f) &&& 1) 1 = 0) ↔ hb x f = true := by
  rw [lg_cmp_eq, s_bit x hf]
  cases hb x f <;> decide
theorem tbit_sub {v : Nat} (hd : dgt v = true) : nI v - 48 = nI (v - 48) := by
  obtain ⟨h1, h2⟩ := dgt_iff.mp hd
  obtain ⟨w, rfl⟩ : ∃ w, v = w + 48 := ⟨v - 48, by omega⟩
  rw [← nI_add w 48, show (48 : Int32) = nI 48 from rfl, Int32.add_sub_cancel, Nat.add_sub_cancel]
theorem works_eq {y : Sx} (hO : WOrd y) (hV : WVal y) (wS : WStk y) {ch : Nat → Nat} {n : Nat} (hX : Rx y ch n) (hR : Rul ch n) (hN : nmd y ch n) {f p : Nat} (hf : f < 40) (hpf : iF y f = true) {o0 : Nat} (hM : Me y (eRun (cnd y ch n f) ch p) o0) (ht : tks ch n p) (hp : p < n) : ∃ y' q o', f_X9_works y (nI f) (nI p) = some (nI q, y') ∧ p < q ∧ tks ch n q ∧ OnE y y' ∧ Me y' (eRun (cnd y ch n f) ch q) o' := by
  have hn := hX.1
  obtain ⟨sn, hv, -⟩ := id hR.2
  obtain ⟨s, o, e, g1, g2, g3, g4⟩ := rn_at hR.1 hv hp
  obtain ⟨c1, c2⟩ := hR.1 p hp
  have eo : o0 = o := by
    have := eLev (cn := cnd y ch n f) e
    rw [hM.2.2.1] at this
    exact this
  subst eo
  have hs : s = 0 ∨ (aft s ∧ dgt (ch p) = false) := by
    obtain ⟨-, s', o', e', w⟩ := ht
    rw [e] at e'
    cases e'
    rcases w with w | ⟨w1, w2⟩
    · exact Or.inl w
    · refine Or.inr ⟨w1, ?_⟩
      cases hd : dgt (ch p) with
      | false => rfl
      | true => exact absurd ⟨hp, hd⟩ w2
  have ep : gA y 45 p = nI (ch p) := hX.2.2 p hp
  have g80 : vp_in (nI p) 80 := vin_nI (by omega) (by decide)
  have g12 : vp_in (gI y 54) 12 := by rw [hM.1]; exact vin_nI (by have := hM.2.1; omega) (by decide)
  have ixo : ix (gI y 54) = o0 := by rw [hM.1, ix_nI (by have := hM.2.1; omega)]
  have z : ∀ k, k < 2000 → ((nI (ch p) = nI k) ↔ ch p = k) := fun k hk => nI_eq_iff (by omega) (by omega)
  have z33 : (nI (ch p) = 33) ↔ ch p = 33 := z 33 (by decide)
  have z38 : (nI (ch p) = 38) ↔ ch p = 38 := z 38 (by decide)
  have z40 : (nI (ch p) = 40) ↔ ch p = 40 := z 40 (by decide)
  have z41 : (nI (ch p) = 41) ↔ ch p = 41 := z 41 (by decide)
  have z97 : (nI (ch p) = 97) ↔ ch p = 97 := z 97 (by decide)
  have z116 : (nI (ch p) = 116) ↔ ch p = 116 := z 116 (by decide)
  have z124 : (nI (ch p) = 124) ↔ ch p = 124 := z 124 (by decide)
  unfold f_X9_works
  rw [gd_pos g80, ix_nI (by omega), ep, isField_eq y (by omega), Option.bind_some]
  rcases tk_ok g1 (by omega) g2 g3 hs with ⟨w1, w2, w3, w4⟩ | ⟨w1, hk⟩
  · rw [w2, if_neg (by omega), if_neg (by omega)] at g4
    have hc : ch p = 107 ∨ ch p = 114 ∨ ch p = 121 ∨ ch p = 99 ∨ ch p = 100 := by
      simp only [fldc, Bool.or_eq_true, beq_iff_eq] at w1
      omega
    have ha : ∃ y' q, f_X9_asks y (nI f) (nI p) = some (nI q, y') ∧ OnE y y' ∧ Me y' (eTake (eRun (cnd y ch n f) ch p) (cnd y ch n f p)) o0 ∧ q = (if ch (p + 1) = 63 then p + 2 else nend ch n 5 (p + 2)) := by
      rcases hc with h | h | h | h | h
      · exact asks_107 hO hV hX hR hf hM (by omega) g4 h
      · exact asks_114 hO hV hX hR hf hM (by omega) g4 h
      · exact asks_121 hO hV hX hR hf hM (by omega) g4 h
      · exact asks_99 hO hV hX hR hf hM (by omega) g4 h
      · exact asks_100 hO hV hX hR hf hM (by omega) g4 h
    obtain ⟨y', q, ea, a1, a2, eq⟩ := ha
    obtain ⟨hp1, htok⟩ := field_tok hR g4 (by omega)
    rw [w1, bT, ea, Option.bind_some]
    refine ⟨y', q, o0, rfl, ?_⟩
    rcases htok with ⟨h63, e2⟩ | ⟨h6, hp2, hd, ⟨s', e2, hs'⟩, hle, hstop⟩
    · rw [if_pos h63] at eq
      subst eq
      have e8 : eRun (cnd y ch n f) ch (p + 2) = eTake (eRun (cnd y ch n f) ch p) (cnd y ch n f p) := by
        rw [show p + 2 = p + 1 + 1 from rfl, eSkip _ ch (by omega), eLet ⟨w3, w4⟩]
      exact ⟨by omega, ⟨by omega, 8, o0, e2, Or.inr ⟨Or.inl rfl, aft_stop hR e2⟩⟩, a1, by rw [e8]; exact a2⟩
    · rw [if_neg (by omega)] at eq
      subst eq
      obtain ⟨n1, n2⟩ := nend_ge ch n 5 (p + 2)
      have e8 : eRun (cnd y ch n f) ch (nend ch n 5 (p + 2)) = eTake (eRun (cnd y ch n f) ch p) (cnd y ch n f p) := by
        obtain ⟨d, hd2⟩ : ∃ d, nend ch n 5 (p + 2) = p + 1 + d := ⟨nend ch n 5 (p + 2) - (p + 1), by omega⟩
        rw [hd2, eSkips _ ch d (p + 1) (fun i h1 h2 => ?_), eLet ⟨w3, w4⟩]
        rcases Nat.eq_or_lt_of_le h1 with u | u
        · rw [← u]; omega
        · have := dgt_iff.mp (n2 i (by omega) (by omega)); omega
      exact ⟨by omega, ⟨hle, s', o0, e2, Or.inr ⟨hs', hstop⟩⟩, a1, by rw [e8]; exact a2⟩
  · rw [w1, bF, bd_eq]
    rcases hk with ⟨q, qn⟩ | ⟨q, qn⟩ | ⟨q, qn⟩ | ⟨q, qn⟩ | ⟨q, qn⟩ | ⟨q, qn⟩
    · -- !
      rw [qn, if_neg (by omega), if_neg (by omega)] at g4
      have e8 : eRun (cnd y ch n f) ch (p + 1) = ((eRun (cnd y ch n f) ch p).1, (eRun (cnd y ch n f) ch p).2.1, (eRun (cnd y ch n f) ch p).2.2.1, upf (eRun (cnd y ch n f) ch p).2.2.2 (eRun (cnd y ch n f) ch p).1 (!(eRun (cnd y ch n f) ch p).2.2.2 (eRun (cnd y ch n f) ch p).1)) := by rw [eRun, eStep, if_neg (by omega), if_pos q]
      obtain ⟨m1, m2, m3, m4⟩ := hM
      have key : ∀ v : Bool, v = (!(eRun (cnd y ch n f) ch p).2.2.2 o0) → OnE y (pA y 44 o0 (b2 v)) ∧ Me (pA y 44 o0 (b2 v)) (eRun (cnd y ch n f) ch (p + 1)) o0 := fun v hv2 => by
        rw [e8]
        refine ⟨OnE.pA (by omega), m1, m2, m3, fun l hl => ?_⟩
        obtain ⟨a1, a2, a3⟩ := m4 l hl
        refine ⟨?_, ?_, ?_⟩
        · rw [gA_pA_ne (by decide)]; exact a1
        · rw [gA_pA_ne (by decide)]; exact a2
        · rw [gA_pA_at]
          show _ = b2 (upf _ _ _ l)
          unfold upf
          rw [m3]
          by_cases u : l = o0
          · rw [if_pos u, if_pos u, hv2]
          · rw [if_neg u, if_neg u]; exact a3
      rw [if_pos (z33.mpr q), gd_pos g12, gd_pos g12, gd_pos g12, ixo, (m4 o0 (Nat.le_refl _)).2.2, nI_lit1]
      cases u : (eRun (cnd y ch n f) ch p).2.2.2 o0 with
      | false =>
        rw [bF, bd_eq]
        obtain ⟨k1, k2⟩ := key true (by rw [u]; rfl)
        exact ⟨_, p + 1, o0, rfl, by omega, ⟨by omega, 0, o0, g4, Or.inl rfl⟩, k1, k2⟩
      | true =>
        rw [bT, bd_eq]
        obtain ⟨k1, k2⟩ := key false (by rw [u]; rfl)
        exact ⟨_, p + 1, o0, rfl, by omega, ⟨by omega, 0, o0, g4, Or.inl rfl⟩, k1, k2⟩
    · -- (
      have ho10 := (nx_ok g1 (show ch p < 127 by omega) g2 g3).2.1 q
      rw [qn, if_pos q] at g4
      have e8 : eRun (cnd y ch n f) ch (p + 1) = ((eRun (cnd y ch n f) ch p).1 + 1, upf (eRun (cnd y ch n f) ch p).2.1 ((eRun (cnd y ch n f) ch p).1 + 1) false, upf (eRun (cnd y ch n f) ch p).2.2.1 ((eRun (cnd y ch n f) ch p).1 + 1) true, upf (eRun (cnd y ch n f) ch p).2.2.2 ((eRun (cnd y ch n f) ch p).1 + 1) false) := by rw [eRun, eStep, if_neg (by omega), if_neg (by omega), if_pos q]
      obtain ⟨m1, m2, m3, m4⟩ := hM
      rw [if_neg (fun u => by have := z33.mp u; omega), if_neg (fun u => by have := z38.mp u; omega), if_pos (z40.mpr q), bd_eq, m1, nI_lit1, enters_eq (y := pI y 54 (nI (o0 + 1))) (o := o0 + 1) (by rw [gI_pI, if_pos rfl]) (by omega), Option.bind_some, nI_lit1]
      refine ⟨_, p + 1, o0 + 1, rfl, by omega, ⟨by omega, 0, o0 + 1, g4, Or.inl rfl⟩, OnE.pI.tr ((OnE.pA (by omega)).tr ((OnE.pA (by omega)).tr (OnE.pA (by omega)))), by rw [gI_pA, gI_pA, gI_pA, gI_pI, if_pos rfl], by omega, by rw [e8]; show _ + 1 = _; rw [m3], fun l hl => ?_⟩
      rw [e8]
      have hold := fun (h : l ≤ o0) => m4 l h
      refine ⟨?_, ?_, ?_⟩
      · rw [gA_pA_ne (by decide), gA_pA_ne (by decide), gA_pA_at]
        show _ = b2 (upf _ _ _ l)
        unfold upf
        rw [m3]
        by_cases u : l = o0 + 1
        · rw [if_pos u, if_pos u]; rfl
        · rw [if_neg u, if_neg u]; exact (hold (by omega)).1
      · rw [gA_pA_ne (by decide), gA_pA_at]
        show _ = b2 (upf _ _ _ l)
        unfold upf
        rw [m3]
        by_cases u : l = o0 + 1
        · rw [if_pos u, if_pos u]; rfl
        · rw [if_neg u, if_neg u, gA_pA_ne (by decide)]; exact (hold (by omega)).2.1
      · rw [gA_pA_at]
        show _ = b2 (upf _ _ _ l)
        unfold upf
        rw [m3]
        by_cases u : l = o0 + 1
        · rw [if_pos u, if_pos u]; rfl
        · rw [if_neg u, if_neg u, gA_pA_ne (by decide), gA_pA_ne (by decide)]; exact (hold (by omega)).2.2
    · -- t, a
      rw [qn, if_neg (by omega), if_neg (by omega)] at g4
      obtain ⟨hp1, hd, e2, -⟩ := one_digit hR g4 (by omega)
      have hd2 := dgt_iff.mp hd
      have e8 : eRun (cnd y ch n f) ch (p + 2) = eTake (eRun (cnd y ch n f) ch p) (cnd y ch n f p) := by
        rw [show p + 2 = p + 1 + 1 from rfl, eSkip _ ch (by omega), eLet (by omega)]
      have ep1 : gA y 45 (p + 1) = nI (ch (p + 1)) := hX.2.2 (p + 1) hp1
      have g81 : vp_in (nI (p + 1)) 80 := vin_nI (by omega) (by decide)
      have p2 : nI p + 2 = nI (p + 2) := by rw [show (2 : Int32) = nI 2 from rfl, nI_add]
      have htk : tks ch n (p + 2) := ⟨by omega, 8, o0, e2, Or.inr ⟨Or.inl rfl, aft_stop hR e2⟩⟩
      obtain ⟨y', a1, a2, a3⟩ := tells_eq hM (cnd y ch n f p)
      rcases q with q | q
      · have ec : cnd y ch n f p = tbit y f (ch (p + 1) - 48) := by rw [cnd, w1, if_neg (by decide), if_pos q]
        rw [if_neg (fun u => by have := z33.mp u; omega), if_neg (fun u => by have := z38.mp u; omega), if_neg (fun u => by have := z40.mp u; omega), if_neg (fun u => by have := z41.mp u; omega), if_neg (fun u => by have := z97.mp u; omega), if_pos (z116.mpr q), tags_eq hf, Option.bind_some, nI_lit1, gd_pos g81, ix_nI (by omega), ep1, tbit_sub hd, bd_eq, p2]
        refine ⟨y', p + 2, o0, ?_, by omega, htk, a2, by rw [e8]; exact a3⟩
        rw [ec] at a1
        unfold tbit at a1
        by_cases u : (tgs y f >>> (nI (ch (p + 1) - 48) &&& 31)) &&& 1 = 1
        · rw [decide_eq_true u] at a1
          rw [if_pos u, show f_X9_tells y 1 = some y' from a1]; rfl
        · rw [decide_eq_false u] at a1
          rw [if_neg u, show f_X9_tells y 0 = some y' from a1]; rfl
      · obtain ⟨v1, v2⟩ := hN p hp q
        have ec : cnd y ch n f p = hb (gM y 2 (ch (p + 1) - 48)) f := by rw [cnd, w1, if_neg (by decide), if_neg (by omega), if_pos q]
        rw [if_neg (fun u => by have := z33.mp u; omega), if_neg (fun u => by have := z38.mp u; omega), if_neg (fun u => by have := z40.mp u; omega), if_neg (fun u => by have := z41.mp u; omega), if_pos (z97.mpr q), nI_lit1, gd_pos g81, ix_nI (by omega), ep1, tbit_sub hd, gd_pos (vin_nI v1 (by decide)), ix_nI (by omega), bd_eq, p2]
        refine ⟨y', p + 2, o0, ?_, by omega, htk, a2, by rw [e8]; exact a3⟩
        rw [ec] at a1
        have hz := shrL_c (gM y 2 (ch (p + 1) - 48)) (f := f) (by omega)
        cases u : hb (gM y 2 (ch (p + 1) - 48)) f with
        | true =>
          rw [u] at a1
          rw [if_pos (hz.mpr u), show f_X9_tells y 1 = some y' from a1]; rfl
        | false =>
          rw [u] at a1
          rw [if_neg (fun k => by rw [hz.mp k] at u; cases u), show f_X9_tells y 0 = some y' from a1]; rfl
    · -- s, v, u, b
      rw [qn, if_neg (by omega), if_neg (by omega)] at g4
      have e8 : eRun (cnd y ch n f) ch (p + 1) = eTake (eRun (cnd y ch n f) ch p) (cnd y ch n f p) := eLet (by omega)
      obtain ⟨y', a1, a2, a3⟩ := tells_eq hM (cnd y ch n f p)
      rw [if_neg (fun u => by have := z33.mp u; omega), if_neg (fun u => by have := z38.mp u; omega), if_neg (fun u => by have := z40.mp u; omega), if_neg (fun u => by have := z41.mp u; omega), if_neg (fun u => by have := z97.mp u; omega), if_neg (fun u => by have := z116.mp u; omega), if_neg (fun u => by have := z124.mp u; omega), isSo_eq hO hV wS (ch := ch) (n := n) (p := p) hf hpf q, Option.bind_some, a1, Option.bind_some, nI_lit1]
      exact ⟨y', p + 1, o0, rfl, by omega, ⟨by omega, 8, o0, g4, Or.inr ⟨Or.inl rfl, aft_stop hR g4⟩⟩, a2, by rw [e8]; exact a3⟩
    · -- & |
      rw [qn, if_neg (by omega), if_neg (by omega)] at g4
      rcases q with q | q
      · have e8 : eRun (cnd y ch n f) ch (p + 1) = eRun (cnd y ch n f) ch p := by
          rw [eRun, eStep, if_neg (by omega), if_neg (by omega), if_neg (by omega), if_neg (by omega), if_neg (by omega)]
        rw [if_neg (fun u => by have := z33.mp u; omega), if_pos (z38.mpr q), nI_lit1]
        exact ⟨y, p + 1, o0, rfl, by omega, ⟨by omega, 0, o0, g4, Or.inl rfl⟩, OnE.rf _, by rw [e8]; exact hM⟩
      · have e8 : eRun (cnd y ch n f) ch (p + 1) = ((eRun (cnd y ch n f) ch p).1, upf (eRun (cnd y ch n f) ch p).2.1 (eRun (cnd y ch n f) ch p).1 ((eRun (cnd y ch n f) ch p).2.1 (eRun (cnd y ch n f) ch p).1 || (eRun (cnd y ch n f) ch p).2.2.1 (eRun (cnd y ch n f) ch p).1), upf (eRun (cnd y ch n f) ch p).2.2.1 (eRun (cnd y ch n f) ch p).1 true, (eRun (cnd y ch n f) ch p).2.2.2) := by rw [eRun, eStep, if_neg (by omega), if_neg (by omega), if_neg (by omega), if_neg (by omega), if_pos q]
        obtain ⟨m1, m2, m3, m4⟩ := hM
        obtain ⟨b1, b2', b3⟩ := m4 o0 (Nat.le_refl _)
        have key : ∀ v : Bool, v = ((eRun (cnd y ch n f) ch p).2.1 o0 || (eRun (cnd y ch n f) ch p).2.2.1 o0) → OnE y (pA (pA y 42 o0 (b2 v)) 43 o0 1) ∧ Me (pA (pA y 42 o0 (b2 v)) 43 o0 1) (eRun (cnd y ch n f) ch (p + 1)) o0 := fun v hv2 => by
          rw [e8]
          refine ⟨(OnE.pA (by omega)).tr (OnE.pA (by omega)), m1, m2, m3, fun l hl => ?_⟩
          obtain ⟨a1, a2, a3⟩ := m4 l hl
          refine ⟨?_, ?_, ?_⟩
          · rw [gA_pA_ne (by decide), gA_pA_at]
            show _ = b2 (upf _ _ _ l)
            unfold upf
            rw [m3]
            by_cases u : l = o0
            · rw [if_pos u, if_pos u, hv2]
            · rw [if_neg u, if_neg u]; exact a1
          · rw [gA_pA_at]
            show _ = b2 (upf _ _ _ l)
            unfold upf
            rw [m3]
            by_cases u : l = o0
            · rw [if_pos u, if_pos u]; rfl
            · rw [if_neg u, if_neg u, gA_pA_ne (by decide)]; exact a2
          · rw [gA_pA_ne (by decide), gA_pA_ne (by decide)]; exact a3
        rw [if_neg (fun u => by have := z33.mp u; omega), if_neg (fun u => by have := z38.mp u; omega), if_neg (fun u => by have := z40.mp u; omega), if_neg (fun u => by have := z41.mp u; omega), if_neg (fun u => by have := z97.mp u; omega), if_neg (fun u => by have := z116.mp u; omega), if_pos (z124.mpr q)]
        rw [gd_pos g12, gd_pos g12, gd_pos g12, gd_pos g12, ixo, b1, b2', nI_lit1]
        have ht2 : tks ch n (p + 1) := ⟨by omega, 0, o0, g4, Or.inl rfl⟩
        cases u1 : (eRun (cnd y ch n f) ch p).2.1 o0 with
        | true =>
          rw [bT, bd_eq, gI_pA, gd_pos g12, bd_eq, ixo]
          obtain ⟨k1, k2⟩ := key true (by rw [u1]; rfl)
          exact ⟨_, p + 1, o0, rfl, by omega, ht2, k1, k2⟩
        | false =>
          rw [bF]
          cases u2 : (eRun (cnd y ch n f) ch p).2.2.1 o0 with
          | true =>
            rw [bT, bd_eq, gI_pA, gd_pos g12, bd_eq, ixo]
            obtain ⟨k1, k2⟩ := key true (by rw [u1, u2]; rfl)
            exact ⟨_, p + 1, o0, rfl, by omega, ht2, k1, k2⟩
          | false =>
            rw [bF, bd_eq, gI_pA, gd_pos g12, bd_eq, ixo]
            obtain ⟨k1, k2⟩ := key false (by rw [u1, u2]; rfl)
            exact ⟨_, p + 1, o0, rfl, by omega, ht2, k1, k2⟩
    · -- )
      have ho1 := (nx_ok g1 (show ch p < 127 by omega) g2 g3).2.2 q
      rw [qn, if_neg (by omega), if_pos q] at g4
      have e8 : eRun (cnd y ch n f) ch (p + 1) = eTake ((eRun (cnd y ch n f) ch p).1 - 1, (eRun (cnd y ch n f) ch p).2.1, (eRun (cnd y ch n f) ch p).2.2.1, (eRun (cnd y ch n f) ch p).2.2.2) ((eRun (cnd y ch n f) ch p).2.1 (eRun (cnd y ch n f) ch p).1 || (eRun (cnd y ch n f) ch p).2.2.1 (eRun (cnd y ch n f) ch p).1) := by rw [eRun, eStep, if_neg (by omega), if_neg (by omega), if_neg (by omega), if_pos q]
      obtain ⟨m1, m2, m3, m4⟩ := hM
      obtain ⟨b1, b2', b3⟩ := m4 o0 (Nat.le_refl _)
      have eo1 : nI o0 - 1 = nI (o0 - 1) := by
        obtain ⟨q, rfl⟩ : ∃ q, o0 = q + 1 := ⟨o0 - 1, by omega⟩
        rw [nI_pred]; rfl
      have hM2 : Me (pI y 54 (nI (o0 - 1))) ((eRun (cnd y ch n f) ch p).1 - 1, (eRun (cnd y ch n f) ch p).2.1, (eRun (cnd y ch n f) ch p).2.2.1, (eRun (cnd y ch n f) ch p).2.2.2) (o0 - 1) := ⟨by rw [gI_pI, if_pos rfl], by omega, by show _ - 1 = _; rw [m3], fun l hl => m4 l (by omega)⟩
      obtain ⟨y', a1, a2, a3⟩ := tells_eq hM2 ((eRun (cnd y ch n f) ch p).2.1 o0 || (eRun (cnd y ch n f) ch p).2.2.1 o0)
      have gl : gI (pI y 54 (nI (o0 - 1))) 54 + 1 = nI o0 := by
        rw [gI_pI, if_pos rfl, nI_lit1, Nat.sub_add_cancel ho1]
      have g13 : vp_in (nI o0) 12 := vin_nI (by omega) (by decide)
      rw [if_neg (fun u => by have := z33.mp u; omega), if_neg (fun u => by have := z38.mp u; omega), if_neg (fun u => by have := z40.mp u; omega), if_pos (z41.mpr q), bd_eq, m1, eo1, gl, gd_pos g13, gd_pos g13, ix_nI (by omega), gA_pI, gA_pI, b1, b2', nI_lit1]
      refine ⟨y', p + 1, o0 - 1, ?_, by omega, ⟨by omega, 8, o0 - 1, g4, Or.inr ⟨Or.inl rfl, aft_stop hR g4⟩⟩, OnE.pI.tr a2, by rw [m3] at a3; rw [e8, m3]; exact a3⟩
      cases u1 : (eRun (cnd y ch n f) ch p).2.1 o0 with
      | true =>
        rw [u1] at a1
        rw [bT, show f_X9_tells (pI y 54 (nI (o0 - 1))) 1 = some y' from a1]; rfl
      | false =>
        rw [u1] at a1
        rw [bF]
        cases u2 : (eRun (cnd y ch n f) ch p).2.2.1 o0 with
        | true =>
          rw [u2] at a1
          rw [bT, show f_X9_tells (pI y 54 (nI (o0 - 1))) 1 = some y' from a1]; rfl
        | false =>
          rw [u2] at a1
          rw [bF, show f_X9_tells (pI y 54 (nI (o0 - 1))) 0 = some y' from a1]; rfl
theorem tks_n {ch : Nat → Nat} {n : Nat} (hR : Rul ch n) : ∃ s o, rn ch n = some (s, o) ∧ o = 0 := by
  obtain ⟨s, e, -⟩ := hR.2
  exact ⟨s, 0, e, rfl⟩
theorem L_isRight {m : Sx} (hO : WOrd m) (hV : WVal m) (wS : WStk m) {ch : Nat → Nat} {n : Nat} (hX : Rx m ch n) (hR : Rul ch n) (hN : nmd m ch n) {f : Nat} (hf : f < 40) (hpf : iF m f = true) (kont : Int32 → Sx → Option (Int32 × Sx)) : ∀ (d p fu : Nat) (y : Sx) (o : Nat), n - p ≤ d → d < fu → tks ch n p → OnE m y → Me y (eRun (cnd m ch n f) ch p) o → ∃ y' o', L_X9_isRight_11 (nI f) kont fu (nI p) y = kont (nI n) y' ∧ OnE m y' ∧ Me y' (eRun (cnd m ch n f) ch n) o' := by
  have hn := hX.1
  intro d
  induction d with
  | zero =>
    intro p fu y o hd hfu ht hE hM
    obtain ⟨fu, rfl⟩ : ∃ r, fu = r + 1 := ⟨fu - 1, by omega⟩
    obtain rfl : p = n := by have := ht.1; omega
    exact ⟨y, o, by rw [L_X9_isRight_11, (hX.on hE).2.1, if_pos (nI_le (Nat.le_refl _) (by omega))], hE, hM⟩
  | succ d ih =>
    intro p fu y o hd hfu ht hE hM
    obtain ⟨fu, rfl⟩ : ∃ r, fu = r + 1 := ⟨fu - 1, by omega⟩
    have sd := hE.sd
    rw [L_X9_isRight_11, (hX.on hE).2.1]
    by_cases hl : p < n
    · have ec := cg_cnd sd
      obtain ⟨y', q, o', e, hq, ht', hE', hM'⟩ := works_eq (cg_WOrd sd hO) (cg_WVal sd hV) (cg_WStk sd wS) (hX.on hE) hR (fun p hp h => by rw [cg_iA sd]; exact hN p hp h) hf (by rw [cg_iF sd]; exact hpf) (by rw [ec]; exact hM) ht hl
      rw [ec] at hM'
      rw [if_neg (by rw [nI_le_iff (by omega) (by omega)]; omega), e, Option.bind_some]
      exact ih q fu y' o' (by omega) (by omega) ht' (hE.tr hE') hM'
    · obtain rfl : p = n := by have := ht.1; omega
      exact ⟨y, o, by rw [if_pos (nI_le (Nat.le_refl _) (by omega))], hE, hM⟩
/-- whether a file satisfies a rule -/
noncomputable def sat (m : Sx) (ch : Nat → Nat) (n f : Nat) : Bool := eVal (cnd m ch n f) ch n
theorem isRight_eq {m : Sx} (hO : WOrd m) (hV : WVal m) (wS : WStk m) {ch : Nat → Nat} {n : Nat} (hX : Rx m ch n) (hR : Rul ch n) (hN : nmd m ch n) {f : Nat} (hf : f < 40) (hpf : iF m f = true) : ∃ m', f_X9_isRight m (nI f) = some (b2 (sat m ch n f), m') ∧ OnE m m' := by
  have hn := hX.1
  unfold f_X9_isRight
  rw [bd_eq, enters_eq (y := pI m 54 0) (o := 0) (by rw [gI_pI, if_pos rfl]; rfl) (by decide), Option.bind_some]
  have g0 : vp_in 0 12 := vin_nI (n := 0) (by decide) (by decide)
  have hE : OnE m (pA (pA (pA (pI m 54 0) 42 0 0) 43 0 1) 44 0 0) := OnE.pI.tr ((OnE.pA (by omega)).tr ((OnE.pA (by omega)).tr (OnE.pA (by omega))))
  obtain ⟨y, o, e, hE', hM⟩ := L_isRight hO hV wS hX hR hN hf hpf (fun z4 t5 => gd (vp_in 0 12) (if (gA t5 42 (ix 0)) = 0 then gd (vp_in 0 12) (if (gA t5 43 (ix 0)) = 0 then some (0, t5) else some (1, t5)) else some (1, t5))) 85 0 FU _ 0 (by omega) (by rw [FU_eq]; decide) ⟨by omega, 0, 0, rfl, Or.inl rfl⟩ hE (by
    refine ⟨by rw [gI_pA, gI_pA, gI_pA, gI_pI, if_pos rfl]; rfl, by decide, rfl, fun l hl => ?_⟩
    obtain rfl : l = 0 := by omega
    refine ⟨?_, ?_, ?_⟩
    · rw [gA_pA_ne (by decide), gA_pA_ne (by decide), gA_pA_at, if_pos rfl]; rfl
    · rw [gA_pA_ne (by decide), gA_pA_at, if_pos rfl]; rfl
    · rw [gA_pA_at, if_pos rfl]; rfl)
  rw [nI_0] at e
  rw [e]
  have i0 : ix 0 = 0 := rfl
  obtain ⟨a1, a2, -⟩ := hM.2.2.2 0 (Nat.zero_le _)
  rw [gd_pos g0, gd_pos g0, i0, a1, a2]
  refine ⟨y, ?_, hE'⟩
  unfold sat eVal
  cases (eRun (cnd m ch n f) ch n).2.1 0 with
  | true => rfl
  | false =>
    cases (eRun (cnd m ch n f) ch n).2.2.1 0 <;> rfl
