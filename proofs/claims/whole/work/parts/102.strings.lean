/-! string, node, strings: both sides -/
theorem size_or (v : Int32) : (∃ m : Nat, 2 ≤ m ∧ m ≤ 4 ∧ v = nI m ∧ f_X0_isSize v = some 1 ∧ f_X12_in v.toInt64 2 4 = some 1) ∨ (f_X0_isSize v = some 0 ∧ f_X12_in v.toInt64 2 4 = some 0) := by
  by_cases c1 : v < 2
  · right
    exact ⟨by unfold f_X0_isSize; rw [if_pos c1], in_0l (b := 2) rfl c1⟩
  · by_cases c2 : 4 < v
    · right
      exact ⟨by unfold f_X0_isSize; rw [if_neg c1, if_pos c2], in_0h (c := 4) rfl ((i32_nle _ _).mpr c2)⟩
    · left
      have e2 : (2 : Int32).toInt = 2 := rfl
      have e4 : (4 : Int32).toInt = 4 := rfl
      have e0 : (0 : Int32).toInt = 0 := rfl
      have d1 := c1
      have d2 := c2
      rw [i32_lt] at d1 d2
      obtain ⟨m, hm, rfl⟩ := nI_of (x := v) (by rw [i32_lt]; omega)
      rw [nIt hm] at d1 d2
      exact ⟨m, by omega, by omega, rfl, by unfold f_X0_isSize; rw [if_neg c1, if_neg c2], in_1 (b := 2) (c := 4) rfl rfl c1 ((i32_nlt _ _).mp c2)⟩
theorem pw16 {m : Nat} (h2 : 2 ≤ m) (h4 : m ≤ 4) : 4 ≤ 2 ^ m ∧ 2 ^ m ≤ 16 := by
  rcases (show m = 2 ∨ m = 3 ∨ m = 4 by omega) with rfl | rfl | rfl <;> decide
theorem WS_15 (p : Nat → Bool) {m : Nat} (hm : 2 ^ m ≤ 16) : WS p (2 ^ m - 1) < 32768 := by
  have h := WS_lt p (2 ^ m - 1)
  have h2 : 2 ^ (2 ^ m - 1) ≤ 2 ^ 15 := Nat.pow_le_pow_right (by decide) (by omega)
  omega
theorem sy_cg {a b : Nat → Int32} (h : SI a b) (res : Nat → Int32) (ref v : Int32) {m : Nat} (hm : 2 ^ m ≤ 16) : WS (syB a res ref v (2 ^ m)) (2 ^ m - 1) = WS (syB b res ref v (2 ^ m)) (2 ^ m - 1) := by
  refine WS_cg _ fun i h1 h2 => ?_
  unfold syB
  rw [(h i h1 (by omega)).1]
theorem bl_0 (below res : Nat → Int32) (h0 : below 0 = 0) (n : Nat) : fb_put below (fun k => SR res (k + 1)) 1 n 0 = 0 := by rw [fb_put_out (by omega)]; exact h0
set_option maxHeartbeats 4000000 in
theorem Inv_str {x : TX} {y : TM} (hI : Inv x y) {r s : Int32} {b : Nat → Int32} (hb0 : b 0 = 0) : Inv (xu_string x (r, s, b)) y := by
  obtain ⟨n, hb, hR, ho, hT, hf, hS, hM, h0, h1, h2, h3, hK, -⟩ := id hI
  exact ⟨n, hb, hR, ho, hT, hf, hS, hM, h0, h1, h2, h3, hK, hb0⟩
theorem inv_below {x : TX} {y : TM} (hI : Inv x y) : X_comparers_below x 0 = 0 := by
  obtain ⟨n, hb, hR, ho, hT, hf, hS, hM, h0, h1, h2, h3, hK, h⟩ := id hI
  exact h
theorem st_string : ST_string Inv := by
  intro x y hI v1 v2 v3
  have hb0 := inv_below hI
  obtain ⟨n, hb, hR, ho, hT, hf, hS, -⟩ := id hI
  obtain ⟨hn, g0, g1, g2, g3, g4, g5, g6, g7, gt, gu, go, gl, gr, gm, gs, -⟩ := id hR
  suffices H : ∃ r s b, b 0 = 0 ∧ f_X11_string v1 v2 v3 (X_rules_ref x) (X_rules_resistors x) (X_comparers_size x) (X_comparers_stuck x) (X_comparers_below x) = some (r, s, b) ∧ f_X12_string v1 v2 v3 (M_holds y) (M_stuck y) = some r by
    obtain ⟨r, s, b, hb, e1, e2⟩ := H
    exact ⟨(r, s, b), r, e1, e2, rfl, Inv_str hI hb⟩
  unfold f_X11_string f_X12_string
  rcases size_or v1 with ⟨m, m2, m4, rfl, e1, e2⟩ | ⟨e1, e2⟩
  · have hp := pw16 m2 m4
    rw [e1, e2, zb_s, zb_s, if_neg n10, if_neg n10]
    rcases volt_or v2 with hv | hv
    · rw [x_volt1 hv, m_volt1 hv, zb_s, zb_s, if_neg n10, if_neg n10]
      by_cases c0 : v3 < 0
      · rw [if_pos c0, in_0l (B := 0) (b := 0) rfl c0, zb_s, if_pos rfl]
        exact ⟨_, _, _, hb0, rfl, rfl⟩
      · rw [if_neg c0]
        by_cases c3 : v3 ≤ 3
        · have hw := WS_15 (syB (M_stuck y) (X_rules_resistors x) (X_rules_ref x) v2 (2 ^ m)) hp.2
          rw [if_pos c3, in_1 (B := 0) (C := 3) (b := 0) (c := 3) rfl rfl c0 c3, zb_s, if_neg n10, x_sumRes m4 _ _ hb0, zb_s]
          simp only []
          rw [x_words hp.2 _ hb0 gr hv gs, zb_s, m_said hp.2 (by omega) gr hv gs g5 g7, zb_s, sy_cg hS _ _ _ hp.2, x_saying hw, x_edge hw, bub hw, m_countOf hw, m_edgeOf hw, zb_s, zb_s, zb_s, zb_s]
          by_cases d0 : v3 = 0
          · rw [if_pos d0, if_pos d0]
            exact ⟨_, _, _, bl_0 _ _ hb0 _, rfl, rfl⟩
          rw [if_neg d0, if_neg d0]
          by_cases d1 : v3 = 1
          · rw [if_pos d1, if_pos d1]
            exact ⟨_, _, _, bl_0 _ _ hb0 _, rfl, rfl⟩
          rw [if_neg d1, if_neg d1]
          by_cases d2 : v3 = 2
          · rw [if_pos d2, if_pos d2]
            exact ⟨_, _, _, bl_0 _ _ hb0 _, rfl, rfl⟩
          rw [if_neg d2, if_neg d2]
          have b : WS (syB (M_stuck y) (X_rules_resistors x) (X_rules_ref x) v2 (2 ^ m)) (2 ^ m - 1) / 2 ^ 1 &&& (WS (syB (M_stuck y) (X_rules_resistors x) (X_rules_ref x) v2 (2 ^ m)) (2 ^ m - 1) ^^^ 4294967295) ≤ WS (syB (M_stuck y) (X_rules_resistors x) (X_rules_ref x) v2 (2 ^ m)) (2 ^ m - 1) / 2 ^ 1 := Nat.and_le_left
          rw [nI_xm1, pk_shrN (by omega) ((1 : Int32) &&& 31) 1 (by decide), fa_and, m_countOf (by omega), zb_s, zb_s]
          exact ⟨_, _, _, bl_0 _ _ hb0 _, rfl, rfl⟩
        · rw [if_neg c3, in_0h (C := 3) (c := 3) rfl c3, zb_s, if_pos rfl]
          exact ⟨_, _, _, hb0, rfl, rfl⟩
    · rw [x_volt0 hv, m_volt0 hv, zb_s, zb_s, if_pos rfl, if_pos rfl]
      exact ⟨_, _, _, hb0, rfl, rfl⟩
  · rw [e1, e2, zb_s, zb_s, if_pos rfl, if_pos rfl]
    exact ⟨_, _, _, hb0, rfl, rfl⟩
theorem st_node : ST_node Inv := by
  intro x y hI v1 v2
  have hb0 := inv_below hI
  obtain ⟨n, hb, hR, ho, hT, hf, hS, -⟩ := id hI
  obtain ⟨hn, g0, g1, g2, g3, g4, g5, g6, g7, gt, gu, go, gl, gr, gm, gs, -⟩ := id hR
  suffices H : ∃ r s b, b 0 = 0 ∧ f_X11_node v1 v2 (X_rules_ref x) (X_rules_resistors x) (X_comparers_size x) (X_comparers_below x) = some (r, s, b) ∧ f_X12_node v1 v2 (M_holds y) = some r by
    obtain ⟨r, s, b, hb, e1, e2⟩ := H
    exact ⟨(r, s, b), r, e1, e2, rfl, Inv_str (r := r) hI hb⟩
  unfold f_X11_node f_X12_node
  rcases size_or v1 with ⟨m, m2, m4, rfl, e1, e2⟩ | ⟨e1, e2⟩
  · have hp := pw16 m2 m4
    rw [e1, e2, zb_s, zb_s, if_neg n10, if_neg n10, sh1 (by omega)]
    by_cases c0 : v2 < 1
    · rw [if_pos c0, in_0l (B := 1) (b := 1) rfl c0, zb_s, if_pos rfl]
      exact ⟨_, _, _, hb0, rfl, rfl⟩
    · rw [if_neg c0]
      by_cases c3 : v2 < nI (2 ^ m)
      · have e1' : (1 : Int32).toInt = 1 := rfl
        have e0' : (0 : Int32).toInt = 0 := rfl
        have d1 := c0
        have d2 := c3
        rw [i32_lt] at d1 d2
        rw [nIt (by omega)] at d2
        obtain ⟨j, hj, rfl⟩ := nI_of (x := v2) (by rw [i32_lt]; omega)
        rw [nIt hj] at d1 d2
        have b1 := SR_b gs (2 ^ m) hp.2
        have hpos : 0 < SR (X_rules_resistors x) (2 ^ m) := by rw [i32_lt]; omega
        have hne : ¬ SR (X_rules_resistors x) (2 ^ m) = 0 := by rw [i32_eq]; omega
        rw [if_pos c3, in_1 (B := 1) (b := 1) (c := nI (2 ^ m) - 1) rfl rfl c0 (by rw [nI_m1 (by omega)]; exact nI_le (by omega) (by omega)), zb_s, if_neg n10, x_sumRes m4 _ _ hb0, zb_s]
        simp only []
        unfold f_X0_leastVolt f_X11_dividedUp
        rw [bl_at hp.2 _ _ hb0 (by omega), zb_s, bl_at hp.2 _ _ hb0 (Nat.le_refl _), zb_s, if_pos hpos, zn_ne hne, zb_s, zb_s, m_sumTo g7 hp.2, zb_s, zc_l rfl, m_sumTo g7 (by omega), zb_s, zn_ne hne, cl5, g5]
        exact ⟨_, _, _, bl_0 _ _ hb0 _, rfl, rfl⟩
      · rw [if_neg c3, in_0h (C := (nI (2 ^ m) - 1).toInt64) (c := nI (2 ^ m) - 1) rfl, zb_s, if_pos rfl]
        · exact ⟨_, _, _, hb0, rfl, rfl⟩
        · rw [nI_m1 (by omega), i32_le, nIt (by omega)]
          rw [i32_lt, nIt (by omega)] at c3
          omega
  · rw [e1, e2, zb_s, zb_s, if_pos rfl, if_pos rfl]
    exact ⟨_, _, _, hb0, rfl, rfl⟩
theorem st_strings : ST_strings Inv := by
  intro x y hI v1 v2
  have hb0 := inv_below hI
  obtain ⟨n, hb, hR, ho, hT, hf, hS, -⟩ := id hI
  obtain ⟨hn, g0, g1, g2, g3, g4, g5, g6, g7, gt, gu, go, gl, gr, gm, gs, -⟩ := id hR
  suffices H : ∃ r s b, b 0 = 0 ∧ f_X11_strings v1 v2 (X_rules_ref x) (X_rules_resistors x) (X_comparers_size x) (X_comparers_stuck x) (X_comparers_below x) = some (r, s, b) ∧ f_X12_strings v1 v2 (M_holds y) (M_stuck y) = some r by
    obtain ⟨r, s, b, hb, e1, e2⟩ := H
    exact ⟨(r, s, b), r, e1, e2, rfl, Inv_str (r := r) hI hb⟩
  unfold f_X11_strings f_X12_strings
  rcases size_or v1 with ⟨m, m2, m4, rfl, e1, e2⟩ | ⟨e1, e2⟩
  · have hp := pw16 m2 m4
    rw [e1, e2, zb_s, zb_s, if_neg n10, if_neg n10]
    by_cases c0 : v2 < 0
    · rw [if_pos c0, in_0l (B := 0) (b := 0) rfl c0, zb_s, if_pos rfl]
      exact ⟨_, _, _, hb0, rfl, rfl⟩
    · rw [if_neg c0]
      by_cases c1 : v2 ≤ 1
      · obtain ⟨rf, hrf, erf⟩ : ∃ k : Nat, (1 ≤ k ∧ k ≤ 999) ∧ X_rules_ref x = nI k := by
          obtain ⟨j, hj, e⟩ := nI_of (x := X_rules_ref x) (by rw [i32_lt]; have : (0 : Int32).toInt = 0 := rfl; omega)
          rw [e, nIt hj] at gr
          exact ⟨j, by omega, e⟩
        have hvl : ∀ j : Nat, j ≤ 999 → isV (nI j) := fun j hj => by unfold isV; rw [nIt (by omega)]; omega
        rw [if_pos c1, in_1 (B := 0) (C := 1) (b := 0) (c := 1) rfl rfl c0 c1, zb_s, if_neg n10, x_sumRes m4 _ _ hb0, zb_s]
        simp only []
        have hw : ∀ v, WS (syB (M_stuck y) (X_rules_resistors x) (X_rules_ref x) v (2 ^ m)) (2 ^ m - 1) < 32768 := fun v => WS_15 _ hp.2
        have hwo : ∀ j : Nat, j ≤ 999 → f_X0_wordsOf (nI j) (nI (2 ^ m)) (X_rules_ref x) (X_comparers_stuck x) (fb_put (X_comparers_below x) (fun k => SR (X_rules_resistors x) (k + 1)) 1 (2 ^ m)) = some (nI (WS (syB (M_stuck y) (X_rules_resistors x) (X_rules_ref x) (nI j) (2 ^ m)) (2 ^ m - 1))) := fun j hj => by rw [x_words hp.2 _ hb0 gr (hvl j hj) gs, sy_cg hS _ _ _ hp.2]
        have hsa : ∀ j : Nat, j ≤ 999 → f_X12_said (nI m) (nI j) (M_holds y) (M_stuck y) = some (nI (WS (syB (M_stuck y) (X_rules_resistors x) (X_rules_ref x) (nI j) (2 ^ m)) (2 ^ m - 1))) := fun j hj => m_said hp.2 (by omega) gr (hvl j hj) gs g5 g7
        have hne : ¬ X_rules_ref x = 0 := by rw [i32_eq]; have : (0 : Int32).toInt = 0 := rfl; omega
        have hnp : ¬ X_rules_ref x ≤ 0 := by rw [i32_le]; have : (0 : Int32).toInt = 0 := rfl; omega
        by_cases d0 : v2 = 0
        · rw [if_pos d0]
          unfold f_X0_voltsWithGap
          obtain ⟨a, b, ea, eb, r, i, i', rfl, rfl⟩ := zp_r (f := f_X0_voltsWithGap_L4 (nI (2 ^ m)) (X_rules_ref x) (X_comparers_stuck x) (fb_put (X_comparers_below x) (fun k => SR (X_rules_resistors x) (k + 1)) 1 (2 ^ m))) (g := f_X12_strings_L31 (nI m) v2 (M_holds y) (M_stuck y)) (s := ((0, 0) : Int32 × Int32)) (t := ((0, 0) : Int32 × Int32))
            (fun j s t => ∃ r, s = (r, nI j) ∧ t = (r, nI j)) (fun a b => ∃ r i i', a = (1, (r, i)) ∧ b = (1, (r, i'))) (rf + 1) (by omega) ⟨0, rfl, rfl⟩ (by
              rintro j s t hj ⟨r, rfl, rfl⟩
              unfold f_X0_voltsWithGap_L4 f_X12_strings_L31
              simp only []
              rw [zc_l rfl, cl5, g5]
              by_cases e : j = rf + 1
              · have q : X_rules_ref x < nI j := by rw [erf, e]; exact nI_lt (by omega) (by omega)
                rw [if_pos q, if_pos q]
                exact Or.inr ⟨_, _, rfl, rfl, (by decide : ¬ (1 : Nat) = 0), (by decide : ¬ (1 : Nat) = 0), r, _, _, rfl, rfl⟩
              · have q : ¬ X_rules_ref x < nI j := by rw [erf]; exact nI_nlt (by omega) (by omega)
                rw [if_neg q, if_neg q, hwo j (by omega), zb_s, hsa j (by omega), zb_s, x_saying (hw _), zb_s, x_edge (hw _), zb_s, zc_l rfl, zn_ne hne, zl_e]
                unfold f_X12_strings_J84_31 f_X12_strings_J106_31 f_X12_strings_J114_31 f_X0_voltsWithGap_J35_4
                rw [m_countOf (hw _), zb_s, m_edgeOf (hw _), zb_s]
                simp only [if_pos d0, zl_e, zb_s, nI_1, ite_self]
                refine Or.inl ⟨by omega, ?_⟩
                split
                · exact ⟨_, _, rfl, rfl, r, rfl, by simp⟩
                · exact ⟨_, _, rfl, rfl, r + 1, rfl, rfl⟩)
          rw [ea, eb, zb_s, zb_s, zb_s]
          exact ⟨_, _, _, bl_0 _ _ hb0 _, rfl, rfl⟩
        · rw [if_neg d0]
          unfold f_X0_voltsOffEven
          obtain ⟨a, b, ea, eb, r, i, i', rfl, rfl⟩ := zp_r (f := f_X0_voltsOffEven_L4 (nI (2 ^ m)) (X_rules_ref x) (X_comparers_stuck x) (fb_put (X_comparers_below x) (fun k => SR (X_rules_resistors x) (k + 1)) 1 (2 ^ m))) (g := f_X12_strings_L31 (nI m) v2 (M_holds y) (M_stuck y)) (s := ((0, 0) : Int32 × Int32)) (t := ((0, 0) : Int32 × Int32))
            (fun j s t => ∃ r, s = (r, nI j) ∧ t = (r, nI j)) (fun a b => ∃ r i i', a = (1, (r, i)) ∧ b = (1, (r, i'))) (rf + 1) (by omega) ⟨0, rfl, rfl⟩ (by
              rintro j s t hj ⟨r, rfl, rfl⟩
              unfold f_X0_voltsOffEven_L4 f_X12_strings_L31
              simp only []
              rw [zc_l rfl, cl5, g5]
              by_cases e : j = rf + 1
              · have q : X_rules_ref x < nI j := by rw [erf, e]; exact nI_lt (by omega) (by omega)
                rw [if_pos q, if_pos q]
                exact Or.inr ⟨_, _, rfl, rfl, (by decide : ¬ (1 : Nat) = 0), (by decide : ¬ (1 : Nat) = 0), r, _, _, rfl, rfl⟩
              · have q : ¬ X_rules_ref x < nI j := by rw [erf]; exact nI_nlt (by omega) (by omega)
                have hjm : j * 2 ^ m < 2 ^ 32 := by
                  have : j * 2 ^ m ≤ 999 * 16 := Nat.mul_le_mul (by omega) hp.2
                  omega
                rw [if_neg q, if_neg q, if_neg hnp, zn_ne hne, f_min, zb_s, hwo j (by omega), zb_s, hsa j (by omega), zb_s, x_saying (hw _), zb_s, zc_l rfl, zn_ne hne, zl_e, sh1 (by omega), pk_mul, pk_shlN (nI m &&& 31) m (s_l m (by omega)) hjm]
                unfold f_X12_strings_J84_31 f_X12_strings_J106_31 f_X12_strings_J114_31 f_X0_voltsOffEven_J64_4
                rw [m_countOf (hw _), zb_s]
                simp only [if_neg d0, zl_e, nI_1]
                refine Or.inl ⟨by omega, ?_⟩
                have key : ∀ E : Int32, ∃ s' t', (if nI (pS (WS (syB (M_stuck y) (X_rules_resistors x) (X_rules_ref x) (nI j) (2 ^ m)) (2 ^ m - 1)) 16) = E then some (0, (r, nI (j + 1))) else some (0, (r + 1, nI (j + 1)))) = some (0, s') ∧ (if nI (pS (WS (syB (M_stuck y) (X_rules_resistors x) (X_rules_ref x) (nI j) (2 ^ m)) (2 ^ m - 1)) 16) = E then some (0, (r + 0, nI (j + 1))) else some (0, (r + 1, nI (j + 1)))) = some (0, t') ∧ ∃ r', s' = (r', nI (j + 1)) ∧ t' = (r', nI (j + 1)) := by
                  intro E
                  split
                  · exact ⟨_, _, rfl, rfl, r, rfl, by simp⟩
                  · exact ⟨_, _, rfl, rfl, r + 1, rfl, rfl⟩
                by_cases q2 : nI (j * 2 ^ m) / X_rules_ref x ≤ nI (2 ^ m) - 1
                · rw [if_pos q2]
                  by_cases q3 : nI (j * 2 ^ m) / X_rules_ref x < nI (2 ^ m) - 1
                  · rw [if_pos q3]; exact key _
                  · rw [if_neg q3]
                    have : nI (2 ^ m) - 1 = nI (j * 2 ^ m) / X_rules_ref x := by
                      rw [i32_le] at q2
                      rw [i32_lt] at q3
                      rw [i32_eq]
                      omega
                    rw [this]; exact key _
                · rw [if_neg q2, if_neg (show ¬ nI (j * 2 ^ m) / X_rules_ref x < nI (2 ^ m) - 1 from fun h => q2 (by rw [i32_lt] at h; rw [i32_le]; omega))]
                  exact key _)
          rw [ea, eb, zb_s, zb_s, zb_s]
          exact ⟨_, _, _, bl_0 _ _ hb0 _, rfl, rfl⟩
      · rw [if_neg c1, in_0h (C := 1) (c := 1) rfl c1, zb_s, if_pos rfl]
        exact ⟨_, _, _, hb0, rfl, rfl⟩
  · rw [e1, e2, zb_s, zb_s, if_pos rfl, if_pos rfl]
    exact ⟨_, _, _, hb0, rfl, rfl⟩
