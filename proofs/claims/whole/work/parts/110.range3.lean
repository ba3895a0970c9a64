/-! range: the reference, and both -/
theorem nar_0 : vp_nar .boolean (0 : Int32) = 0 := by decide
theorem nar_1 : vp_nar .boolean (1 : Int32) = 1 := by decide
theorem m_rz (f : Nat → Int32) : zp f_X12_range_L73 zF (0, f) = some (1, (nI 256, fil (fun _ => 0) f 256)) := by
  rw [zp_0 (v := (0, f)) (fun j => (nI j, fil (fun _ => 0) f j)) 256 (t := 1) (w := (nI 256, fil (fun _ => 0) f 256)) (by rw [fil_0]; rfl) (by omega) (by decide)]
  · intro j hj
    unfold f_X12_range_L73
    simp only []
    rw [if_neg (show ¬ (256 : Int32) ≤ nI j from nI_ge (b := 256) hj (by decide)), zc_nI hj (by decide), zl_e, zl_e, nI_1, nI_clamp (by omega), nar_0, ← fil_s]
  · unfold f_X12_range_L73
    simp only []
    rw [if_pos (show (256 : Int32) ≤ nI 256 by decide)]
theorem m_rdown (f : Nat → Int32) {N : Nat} (h1 : 1 ≤ N) (hN : N ≤ 256) : ∃ i, zp (f_X12_range_L172 f) zF (0, -4, nI (N - 1)) = some (1, (nI (cD (fun c => ¬ f c = 0) N N), fD (fun c => f c = 0) N N, i)) := by
  have key := zp_i (f := f_X12_range_L172 f) (s := (0, -4, nI (N - 1))) (fun j w => w = (nI (cD (fun c => ¬ f c = 0) N j), fD (fun c => f c = 0) N j, nI (N - j) - 1)) (fun a => ∃ i, a = (1, (nI (cD (fun c => ¬ f c = 0) N N), fD (fun c => f c = 0) N N, i))) N (by omega) (by rw [show N - 0 = N - 1 + 1 by omega, nI_pred]; rfl) (by
    rintro j w hj rfl
    unfold f_X12_range_L172
    simp only []
    by_cases c : j = N
    · subst c
      right
      rw [Nat.sub_self, if_pos (show nI 0 - (1 : Int32) < 0 by decide)]
      exact ⟨_, rfl, (by decide : ¬ (1 : Nat) = 0), _, rfl⟩
    · left
      refine ⟨by omega, (nI (cD (fun c => ¬ f c = 0) N (j + 1)), fD (fun c => f c = 0) N (j + 1), nI (N - (j + 1)) - 1), ?_, rfl⟩
      rw [show N - j = (N - 1 - j) + 1 by omega, nI_pred, show N - (j + 1) = N - 1 - j by omega, if_neg (nI_pos (by omega)), zc_nI (by omega) (by decide), nI_clamp (by omega)]
      unfold f_X12_range_J194_172 f_X12_range_J214_172
      simp only [zl_e, sb1, zc_nI (show N - 1 - j < 256 by omega) (show 256 < 2 ^ 31 by decide), nI_clamp (show N - 1 - j < 2 ^ 31 by omega)]
      rw [show cD (fun c => ¬ f c = 0) N (j + 1) = if ¬ f (N - 1 - j) = 0 then cD (fun c => ¬ f c = 0) N j + 1 else cD (fun c => ¬ f c = 0) N j from rfl, show fD (fun c => f c = 0) N (j + 1) = if f (N - 1 - j) = 0 then nI (N - 1 - j) else fD (fun c => f c = 0) N j from rfl]
      by_cases q : f (N - 1 - j) = 0
      · rw [if_pos q, if_pos q, if_pos q, if_neg (fun h => h q)]; simp
      · rw [if_neg q, if_neg q, if_neg q, if_pos q, nI_1])
  obtain ⟨a, e, i, rfl⟩ := key
  exact ⟨i, e⟩
theorem ct_b (p : Nat → Bool) (b : Bool) (j : Nat) : (if b then fb_ct p j else 0) ≤ j := by
  have := fb_ct_le p j
  split <;> omega
set_option maxHeartbeats 4000000 in
theorem st_range : ST_range Inv := by
  intro x y hI v1
  obtain ⟨n, hb, hR, ho, -⟩ := id hI
  obtain ⟨hn, g0, g1, g2, g3, g4, g5, g6, g7, gt, gu, go, gl, gr, -⟩ := id hR
  have hp := pw8 hR.1.2
  have hp4 := pw4 hR.1.1 hR.1.2
  have hB := o_B hR ho
  have hlv := lv_le (g := M_levels y) ho hp.1
  suffices H : ∃ r a b lv cm, f_X11_range v1 (X_rules_bits x) (X_rules_unit x) (X_rules_lean x) (X_steps_outs x) (X_steps_span_low x) (X_steps_span_high x) = some (r, a, b) ∧ f_X12_range v1 (M_holds y) (M_levels y) (M_came y) = some (r, lv, cm) by
    obtain ⟨r, a, b, lv, cm, e1, e2⟩ := H
    exact ⟨(r, a, b), (r, lv, cm), e1, e2, rfl, hI⟩
  rw [hb]
  unfold f_X11_range f_X12_range
  by_cases c0 : v1 < 0
  · rw [if_pos c0, in_0l (B := 0) (b := 0) rfl c0, zb_s, if_pos rfl]
    exact ⟨_, _, _, _, _, rfl, rfl⟩
  rw [if_neg c0]
  by_cases c3n : ¬ v1 ≤ 3
  · rw [if_neg c3n, in_0h (C := 3) (c := 3) rfl c3n, zb_s, if_pos rfl]
    exact ⟨_, _, _, _, _, rfl, rfl⟩
  have c3 : v1 ≤ 3 := Classical.byContradiction c3n
  rw [if_pos c3, in_1 (B := 0) (C := 3) (b := 0) (c := 3) rfl rfl c0 c3, zb_s, if_neg n10, m_lay hR, zb_s, zc_l rfl, zc_l rfl, zl_e, m_many hR, zb_s, nI_m1 hp.1, zc_nI (by omega) (by decide), zc_l rfl, zl_e, cl0, cl1, g1, nI_clamp (by omega), hlv 0 (Nat.zero_le _), hlv _ (Nat.le_refl _)]
  generalize fil (OV n (X_rules_unit x) (X_rules_offset x) (X_rules_top x) (X_rules_misses x)) (M_levels y) (2 ^ n) = lv at hlv ⊢
  generalize X_steps_outs x = o at *
  generalize X_rules_unit x = unit at *
  have h0 := hB 0 (Nat.zero_le _)
  have hN := hB (2 ^ n - 1) (Nat.le_refl _)
  have e1 : (1 : Int32).toInt = 1 := rfl
  have e0 : (0 : Int32).toInt = 0 := rfl
  have e2k : (20000 : Int32).toInt = 20000 := rfl
  have eL : (o 0 - unit).toInt = rL o unit := fb_subI (by omega) (by omega)
  have eH : (o (2 ^ n - 1) + unit).toInt = rH o unit (2 ^ n - 1) := fb_addI (by omega) (by omega)
  have bL : -1098 ≤ rL o unit ∧ rL o unit ≤ 124038 := by unfold rL; omega
  have bH : -999 ≤ rH o unit (2 ^ n - 1) ∧ rH o unit (2 ^ n - 1) ≤ 124137 := by unfold rH; omega
  have eD : ((o (2 ^ n - 1) + unit) - (o 0 - unit)).toInt = rH o unit (2 ^ n - 1) - rL o unit := by rw [fb_subI] <;> rw [eL, eH] <;> omega
  have eM : ((o (2 ^ n - 1) + unit) - (o 0 - unit) + 1).toInt = rH o unit (2 ^ n - 1) - rL o unit + 1 := by rw [fb_addI] <;> rw [eD, e1] <;> omega
  have eV : f_X8_rangeVolts (nI n) unit o = some ((o (2 ^ n - 1) + unit) - (o 0 - unit) + 1) := by
    unfold f_X8_rangeVolts f_X8_rangeHigh f_X8_rangeLow
    rw [x_last hR.1.2, zb_s, x_outOf (by omega), zb_s, show (0 : Int32) = nI 0 from rfl, x_outOf (by omega), zb_s, zb_s, zb_s]
  rw [eV, zb_s]
  by_cases c1 : rH o unit (2 ^ n - 1) < rL o unit
  · rw [if_pos (show o (2 ^ n - 1) + unit - (o 0 - unit) + 1 < 1 from by rw [i32_lt, eM, e1]; omega), if_pos (show o (2 ^ n - 1) + unit < o 0 - unit from by rw [i32_lt, eH, eL]; exact c1)]
    exact ⟨_, _, _, _, _, rfl, rfl⟩
  rw [if_neg (show ¬ o (2 ^ n - 1) + unit - (o 0 - unit) + 1 < 1 from by rw [i32_lt, eM, e1]; omega), if_neg (show ¬ o (2 ^ n - 1) + unit < o 0 - unit from by rw [i32_lt, eH, eL]; exact c1)]
  by_cases c2n : ¬ rH o unit (2 ^ n - 1) - rL o unit + 1 ≤ 20000
  · have q : ¬ o (2 ^ n - 1) + unit - (o 0 - unit) + 1 ≤ 20000 := by rw [i32_le, eM, e2k]; exact c2n
    rw [if_neg q, if_neg q]
    exact ⟨_, _, _, _, _, rfl, rfl⟩
  have c2 : rH o unit (2 ^ n - 1) - rL o unit + 1 ≤ 20000 := Classical.byContradiction c2n
  have q2 : o (2 ^ n - 1) + unit - (o 0 - unit) + 1 ≤ 20000 := by rw [i32_le, eM, e2k]; exact c2
  rw [if_pos q2, if_pos q2]
  obtain ⟨M, hM⟩ : ∃ M : Nat, rH o unit (2 ^ n - 1) - rL o unit + 1 = M := ⟨(rH o unit (2 ^ n - 1) - rL o unit + 1).toNat, by omega⟩
  have hM1 : 1 ≤ M ∧ M ≤ 20000 := by omega
  have eMn : o (2 ^ n - 1) + unit - (o 0 - unit) + 1 = nI M := by rw [i32_eq, eM, nIt (by omega), hM]
  -- the loop over the volts
  obtain ⟨i, cm, em, hcm⟩ : ∃ i cm, zp (f_X12_range_L101 v1 (o (2 ^ n - 1) + unit) (M_holds y) lv) zF (0, o 0 - unit, fil (fun _ => 0) (M_came y) 256) = some (1, (nI (if decide (v1 = 3) then fb_ct (fun k => !decide (cdV o n (X_rules_lean x) (rL o unit + k) = nrS (rL o unit + k) (fun c => (o c).toInt) (2 ^ n - 1))) M else 0), i, cm)) ∧ ∀ c, c < 256 → cm c = if cmB o n unit (X_rules_lean x) M c then 1 else 0 := by
    obtain ⟨a, ea, i, cm, rfl, hQ⟩ := zp_i (f := f_X12_range_L101 v1 (o (2 ^ n - 1) + unit) (M_holds y) lv) (s := (0, o 0 - unit, fil (fun _ => 0) (M_came y) 256))
      (fun j w => ∃ cm, w = (nI (if decide (v1 = 3) then fb_ct (fun k => !decide (cdV o n (X_rules_lean x) (rL o unit + k) = nrS (rL o unit + k) (fun c => (o c).toInt) (2 ^ n - 1))) j else 0), (o 0 - unit) + nI j, cm) ∧ ∀ c, c < 256 → cm c = if cmB o n unit (X_rules_lean x) j c then 1 else 0)
      (fun a => ∃ i cm, a = (1, (nI (if decide (v1 = 3) then fb_ct (fun k => !decide (cdV o n (X_rules_lean x) (rL o unit + k) = nrS (rL o unit + k) (fun c => (o c).toInt) (2 ^ n - 1))) M else 0), i, cm)) ∧ ∀ c, c < 256 → cm c = if cmB o n unit (X_rules_lean x) M c then 1 else 0) M (by omega) ⟨_, by simp only [fb_ct, ite_self]; rw [show nI 0 = (0 : Int32) from rfl, Int32.add_zero], fun c hc => by rw [fil_in hc]; rfl⟩ (by
        rintro j w hj ⟨cm, rfl, hh⟩
        have ej : (o 0 - unit + nI j).toInt = rL o unit + j := by rw [fb_addI] <;> rw [eL, nIt (by omega)] <;> omega
        unfold f_X12_range_L101
        simp only []
        by_cases e : j = M
        · subst e
          rw [if_pos (show o (2 ^ n - 1) + unit < o 0 - unit + nI j from by rw [i32_lt, eH, ej]; omega)]
          exact Or.inr ⟨_, rfl, (by decide : ¬ (1 : Nat) = 0), _, cm, rfl, hh⟩
        · rw [if_neg (show ¬ o (2 ^ n - 1) + unit < o 0 - unit + nI j from by rw [i32_lt, eH, ej]; omega)]
          have esum : (o 0 - unit + nI j + X_rules_lean x).toInt = (o 0 - unit + nI j).toInt + (X_rules_lean x).toInt := fb_addI (by omega) (by omega)
          have ecode : hvS (o 0 - unit + nI j) (X_rules_lean x) (-4) lv n n = cdV o n (X_rules_lean x) (rL o unit + j) := by
            rw [hvS_cg (fun c hc => hlv c (by omega)) n (Nat.le_refl _), hv_q hR.1.2 esum n (Nat.le_refl _), Nat.sub_self, Nat.pow_zero, Nat.mul_one, ej]
            rfl
          have hcd : cdV o n (X_rules_lean x) (rL o unit + j) < 2 ^ n := qI_lt _ _ _ _
          have enear : f_X12_nearestOf (o 0 - unit + nI j) (M_holds y) lv = some (nI (nrS (rL o unit + j) (fun c => (o c).toInt) (2 ^ n - 1))) := by
            rw [m_nearestOf hR (by omega) (fun c hc => by rw [hlv c (by omega)]; exact hB c (by omega)), ej, nrS_cg (N := 2 ^ n - 1) (g := fun c => (o c).toInt) (fun c hc => by show Int32.toInt (lv c) = _; rw [hlv c hc]) _ (Nat.le_refl _)]
          rw [m_halved hR, zb_s, ecode, zc_nI (by omega) (by decide), zl_e, nI_clamp (by omega), nar_1, enear, zb_s]
          have hnr := nrS_le (rL o unit + j) (fun c => (o c).toInt) (2 ^ n - 1)
          unfold f_X12_range_J147_101 f_X12_range_J148_101
          simp only [zl_e]
          refine Or.inl ⟨by omega, ?_⟩
          have e4 : o 0 - unit + nI j + 1 = o 0 - unit + nI (j + 1) := by rw [Int32.add_assoc, nI_1]
          rw [e4]
          have hnew : ∀ c, c < 256 → upd cm (cdV o n (X_rules_lean x) (rL o unit + j)) 1 c = if cmB o n unit (X_rules_lean x) (j + 1) c then 1 else 0 := by
            intro c hc
            have hs : cmB o n unit (X_rules_lean x) (j + 1) c = (cmB o n unit (X_rules_lean x) j c || decide (cdV o n (X_rules_lean x) (rL o unit + j) = c)) := rfl
            rw [hs]
            by_cases d : c = cdV o n (X_rules_lean x) (rL o unit + j)
            · subst d; rw [pk_us]; simp
            · rw [pk_un d, hh c hc, decide_eq_false (fun h => d h.symm), Bool.or_false]
          have z0 : ∀ q : Int32, q + 0 = q := fun q => Int32.add_zero q
          by_cases d3 : v1 = 3
          · rw [if_pos d3, decide_eq_true d3]
            simp only [if_true]
            rw [fb_ct_succ]
            by_cases d4 : cdV o n (X_rules_lean x) (rL o unit + j) = nrS (rL o unit + j) (fun c => (o c).toInt) (2 ^ n - 1)
            · rw [if_pos (congrArg nI d4), decide_eq_true d4, z0]
              exact ⟨_, rfl, _, rfl, hnew⟩
            · rw [if_neg (fun h => d4 ((nI_eq (by omega) (by omega)).mp h)), decide_eq_false d4, nI_1]
              exact ⟨_, rfl, _, rfl, hnew⟩
          · rw [if_neg d3, decide_eq_false d3, z0]
            exact ⟨_, rfl, _, rfl, hnew⟩)
    exact ⟨i, cm, ea, hQ⟩
  rw [m_rz, zb_s]
  simp only []
  rw [em, zb_s, zb_s, zl_e]
  simp only []
  obtain ⟨i2, ed⟩ := m_rdown cm (N := 2 ^ n) (by omega) (by omega)
  rw [nI_m1 hp.1, ed, zb_s, cDN]
  have hcu : cU (fun c => ¬ cm c = 0) (2 ^ n) = cU (fun c => cmB o n unit (X_rules_lean x) M c = true) (2 ^ n) := cU_cg _ fun c hc => by
    rw [hcm c (by omega)]
    cases cmB o n unit (X_rules_lean x) M c <;> simp
  have hfd : fD (fun c => cm c = 0) (2 ^ n) (2 ^ n) = fD (fun c => ¬ cmB o n unit (X_rules_lean x) M c = true) (2 ^ n) (2 ^ n) := fD_cg (fun c hc => by
    rw [hcm c (by omega)]
    cases cmB o n unit (X_rules_lean x) M c <;> simp) _ (Nat.le_refl _)
  rw [hcu, hfd]
  simp only []
  obtain ⟨z1, z2, k1⟩ := x_codesCome hn gu gl hB hM (X_steps_span_low x) (X_steps_span_high x)
  obtain ⟨z3, z4, k2⟩ := x_firstNever hn gu gl hB hM (X_steps_span_low x) (X_steps_span_high x)
  obtain ⟨z5, z6, k3⟩ := x_voltsNear hn gu gl hB hM (X_steps_span_low x) (X_steps_span_high x)
  rw [k1, k2, k3, x_codes hR.1.2, zb_s, zb_s, zb_s, zb_s, zb_s]
  by_cases d0 : v1 = 0
  · rw [if_pos d0, if_pos d0]
    exact ⟨_, _, _, _, _, rfl, rfl⟩
  rw [if_neg d0, if_neg d0]
  by_cases d1 : v1 = 1
  · rw [if_pos d1, if_pos d1]
    exact ⟨_, _, _, _, _, rfl, rfl⟩
  rw [if_neg d1, if_neg d1]
  by_cases d2 : v1 = 2
  · rw [if_pos d2, if_pos d2]
    exact ⟨_, _, _, _, _, rfl, rfl⟩
  rw [if_neg d2, if_neg d2]
  have d3 : v1 = 3 := by
    rw [i32_lt, e0] at c0
    rw [i32_le] at c3
    rw [i32_eq] at d0 d1 d2 ⊢
    have e2 : (2 : Int32).toInt = 2 := rfl
    have e3 : (3 : Int32).toInt = 3 := rfl
    omega
  rw [decide_eq_true d3, eMn]
  simp only [if_true]
  have hall := sm_all (N := 2 ^ n) (fun k => cdV o n (X_rules_lean x) (rL o unit + k)) (fun k => nrS (rL o unit + k) (fun c => (o c).toInt) (2 ^ n - 1)) M (fun k hk => qI_lt _ _ _ _)
  have hnot := fb_ct_not (fun k => decide (cdV o n (X_rules_lean x) (rL o unit + k) = nrS (rL o unit + k) (fun c => (o c).toInt) (2 ^ n - 1))) M
  have hsum : fb_sm (ctN o n unit (X_rules_lean x) M) (2 ^ n) = fb_ct (fun k => decide (cdV o n (X_rules_lean x) (rL o unit + k) = nrS (rL o unit + k) (fun c => (o c).toInt) (2 ^ n - 1))) M := hall
  rw [hsum, pk_sub (by omega), show M - fb_ct (fun k => decide (cdV o n (X_rules_lean x) (rL o unit + k) = nrS (rL o unit + k) (fun c => (o c).toInt) (2 ^ n - 1))) M = fb_ct (fun k => !decide (cdV o n (X_rules_lean x) (rL o unit + k) = nrS (rL o unit + k) (fun c => (o c).toInt) (2 ^ n - 1))) M by omega]
  exact ⟨_, _, _, _, _, rfl, rfl⟩
