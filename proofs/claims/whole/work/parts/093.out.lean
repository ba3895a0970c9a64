/-! out, halves, weak, nearest -/
theorem unit_nat {u : Int32} (h : 1 ≤ u.toInt ∧ u.toInt ≤ 99) : ∃ k : Nat, 1 ≤ k ∧ k ≤ 99 ∧ u = nI k := by
  obtain ⟨j, hj, rfl⟩ := nI_of (x := u) (by rw [i32_nlt, i32_le]; have e : (0 : Int32).toInt = 0 := rfl; omega)
  rw [nIt hj] at h
  exact ⟨j, by omega, by omega, rfl⟩
theorem shlU {u k : Nat} (hu : u ≤ 99) (hk : k ≤ 8) : nI u <<< (nI k &&& 31) = nI (u * 2 ^ k) := by
  have h := pw8 hk
  have h2 : u * 2 ^ k ≤ 99 * 256 := Nat.mul_le_mul hu h.2
  exact pk_shlN (nI k &&& 31) k (s_l k (by omega)) (by omega)
theorem evw_b {n j : Nat} {unit top : Int32} (hn : 2 ≤ n ∧ n ≤ 8) (hu : 1 ≤ unit.toInt ∧ unit.toInt ≤ 99) (hj : j < npt n top) : 0 ≤ (evw (nI n) unit top (nI j)).toInt ∧ (evw (nI n) unit top (nI j)).toInt ≤ 12672 := by
  obtain ⟨u, hu1, hu2, rfl⟩ := unit_nat hu
  have key : ∀ k, k ≤ 7 → 0 ≤ (nI u <<< (nI k &&& 31)).toInt ∧ (nI u <<< (nI k &&& 31)).toInt ≤ 12672 := by
    intro k hk
    have h : 2 ^ k ≤ 128 := by
      rcases (show k = 0 ∨ k = 1 ∨ k = 2 ∨ k = 3 ∨ k = 4 ∨ k = 5 ∨ k = 6 ∨ k = 7 by omega) with rfl | rfl | rfl | rfl | rfl | rfl | rfl | rfl <;> decide
    have h2 : u * 2 ^ k ≤ 99 * 128 := Nat.mul_le_mul hu2 h
    rw [shlU hu2 (by omega), nIt (by omega)]
    omega
  unfold evw
  by_cases c : top = 0
  · rw [if_pos c]
    unfold npt at hj
    rw [if_pos c] at hj
    exact key j (by omega)
  · rw [if_neg c]
    unfold npt at hj
    rw [if_neg c] at hj
    have e : nI n - (2 : Int32) = nI (n - 2) := pk_sub (b := 2) hn.1
    rw [e]
    by_cases c2 : nI (n - 2) < nI j
    · rw [if_pos c2]; exact key (n - 2) (by omega)
    · rw [if_neg c2]
      rw [i32_lt, nIt (by omega), nIt (by omega)] at c2
      exact key j (by omega)
section
variable {n : Nat} {unit off top lean ref : Int32} {misses resistors holds : Nat → Int32}
theorem wgt_b (hR : RI n unit off top lean ref misses resistors holds) {j : Nat} (hj : j < npt n top) : 0 ≤ (wgt (nI n) unit top misses j).toInt ∧ (wgt (nI n) unit top misses j).toInt ≤ 13671 := by
  have h9 := npt_le (top := top) hR.1.2
  obtain ⟨hn, h0, h1, h2, h3, h4, h5, h6, h7, ht, hu, ho, hl, hr, hm, -⟩ := hR
  have he := evw_b hn hu hj
  have hmj := hm j (by omega)
  have e : (evw (nI n) unit top (nI j) + misses j).toInt = (evw (nI n) unit top (nI j)).toInt + (misses j).toInt := fb_addI (by omega) (by omega)
  unfold wgt
  have e0 : (0 : Int32).toInt = 0 := rfl
  split
  · next c => rw [i32_le, e, e0] at c; rw [e]; omega
  · rw [e0]; omega
theorem oS_b (hR : RI n unit off top lean ref misses resistors holds) (c : Int32) : ∀ j, j ≤ npt n top → -999 ≤ (oS (nI n) unit off top misses c j).toInt ∧ (oS (nI n) unit off top misses c j).toInt ≤ 999 + 13671 * j := by
  have h9 := npt_le (top := top) hR.1.2
  intro j
  induction j with
  | zero =>
    intro _
    obtain ⟨hn, h0, h1, h2, h3, h4, h5, h6, h7, ht, hu, ho, -⟩ := hR
    simp only [oS]
    omega
  | succ j ih =>
    intro hj
    have h := ih (by omega)
    have hw := wgt_b hR (j := j) (by omega)
    simp only [oS]
    split
    · omega
    · rw [fb_addI (by omega) (by omega)]
      omega
theorem OV_b (hR : RI n unit off top lean ref misses resistors holds) (c : Nat) : -999 ≤ (OV n unit off top misses c).toInt ∧ (OV n unit off top misses c).toInt ≤ 124038 := by
  have h9 := npt_le (top := top) hR.1.2
  have h := oS_b hR (nI c) (npt n top) (Nat.le_refl _)
  unfold OV
  omega
end
theorem st_out : ST_out Inv := by
  intro x y hI v1
  obtain ⟨n, hb, hR, ho, -⟩ := id hI
  have hp := pw8 hR.1.2
  suffices H : ∃ r, f_X11_out v1 (X_rules_bits x) (X_steps_outs x) = some r ∧ f_X12_out v1 (M_holds y) = some r by
    obtain ⟨r, e1, e2⟩ := H
    exact ⟨r, r, e1, e2, rfl, hI⟩
  rw [hb]
  unfold f_X11_out f_X12_out
  rcases code_or n hR.1.2 v1 with ⟨c, hc, rfl⟩ | h
  · rw [x_code1 hR.1.2 hc, m_code1 hR hc, zb_s, zb_s, if_neg (show ¬ (1 : Int32) = 0 by decide), if_neg (show ¬ (1 : Int32) = 0 by decide), x_outOf (by omega), zb_s, m_out hR, zb_s, ho c hc]
    exact ⟨_, rfl, rfl⟩
  · rw [x_code0 hR.1.2 h, m_code0 hR h, zb_s, zb_s, if_pos rfl, if_pos rfl]
    exact ⟨_, rfl, rfl⟩
/-- the levels that the reference lays are the row of the class -/
theorem lv_eq {n : Nat} {f g o : Nat → Int32} (ho : ∀ c, c < 2 ^ n → o c = f c) {c : Nat} (hc : c < 2 ^ n) : fil f g (2 ^ n) c = o c := by rw [fil_in hc, ho c hc]
theorem st_halves : ST_halves Inv := by
  intro x y hI v1 v2
  obtain ⟨n, hb, hR, ho, -⟩ := id hI
  have hn := hR.1
  have h0 := hR.2.1
  suffices H : ∃ r lv, f_X11_halves v1 v2 (X_rules_bits x) (X_rules_lean x) (X_steps_outs x) = some r ∧ f_X12_halves v1 v2 (M_holds y) (M_levels y) = some (r, lv) by
    obtain ⟨r, lv, e1, e2⟩ := H
    exact ⟨r, (r, lv), e1, e2, rfl, hI⟩
  rw [hb]
  unfold f_X11_halves f_X12_halves
  rcases volt_or v1 with hv | hv
  · rw [x_volt1 hv, m_volt1 hv, zb_s, zb_s, if_neg (show ¬ (1 : Int32) = 0 by decide), if_neg (show ¬ (1 : Int32) = 0 by decide), zc_l rfl, cl0, h0, nI_m1 (by omega), f_inI v2 0 (nI (n - 1)) 0 _ rfl rfl, zb_s]
    have both : ∃ r lv, f_X11_halves_J30 v1 v2 (nI n) (X_rules_lean x) (X_steps_outs x) = some r ∧ f_X12_halves_J33 v1 v2 (M_holds y) (M_levels y) = some (r, lv) := by
      unfold f_X11_halves_J30 f_X12_halves_J33
      rw [x_weigh (by omega) hn.2, zb_s, m_lay hR, zb_s, m_halved hR, zb_s, hvS_cg (fun c hc => lv_eq ho hc) n (Nat.le_refl _)]
      exact ⟨_, _, rfl, rfl⟩
    by_cases c4 : v2 = -4
    · rw [if_pos c4, if_neg (show ¬ (0 ≤ v2 ∧ v2 ≤ nI (n - 1)) from fun h => by rw [c4] at h; exact absurd h.1 (by decide)), if_pos rfl, if_pos c4]
      exact both
    · rw [if_neg c4]
      by_cases c : 0 ≤ v2 ∧ v2 ≤ nI (n - 1)
      · rw [if_pos c, if_neg (show ¬ (1 : Int32) = 0 by decide), if_neg ((i32_nlt _ _).mpr c.1), if_pos]
        · exact both
        · have h := c.2
          rw [i32_le, nIt (by omega)] at h
          rw [i32_lt, nIt (by omega)]
          omega
      · rw [if_neg c, if_pos rfl, if_neg c4]
        by_cases c0 : v2 < 0
        · rw [if_pos c0]; exact ⟨_, _, rfl, rfl⟩
        · rw [if_neg c0, if_neg]
          · exact ⟨_, _, rfl, rfl⟩
          · intro h
            apply c
            refine ⟨(i32_nlt _ _).mp c0, ?_⟩
            rw [i32_lt, nIt (by omega)] at h
            rw [i32_le, nIt (by omega)]
            omega
  · rw [x_volt0 hv, m_volt0 hv, zb_s, zb_s, if_pos rfl, if_pos rfl]
    exact ⟨_, _, rfl, rfl⟩
/-- the weak bits after j trials -/
def wkS (v lean : Int32) (outs : Nat → Int32) (n : Nat) : Nat → Nat
  | 0 => 0
  | j + 1 => if nI (hvS v lean (nI j) outs n n) = nI (hvS v lean (-4) outs n n) then wkS v lean outs n j else wkS v lean outs n j ||| 2 ^ j
theorem st_weak : ST_weak Inv := by
  intro x y hI v1
  obtain ⟨n, hb, hR, ho, -⟩ := id hI
  have hn := hR.1
  have h0 := hR.2.1
  suffices H : ∃ r lv, f_X11_weak v1 (X_rules_bits x) (X_rules_lean x) (X_steps_outs x) = some r ∧ f_X12_weak v1 (M_holds y) (M_levels y) = some (r, lv) by
    obtain ⟨r, lv, e1, e2⟩ := H
    exact ⟨r, (r, lv), e1, e2, rfl, hI⟩
  rw [hb]
  unfold f_X11_weak f_X12_weak
  rcases volt_or v1 with hv | hv
  · rw [x_volt1 hv, m_volt1 hv, zb_s, zb_s, if_neg (show ¬ (1 : Int32) = 0 by decide), if_neg (show ¬ (1 : Int32) = 0 by decide), x_weigh (by omega) hn.2, zb_s, m_lay hR, zb_s]
    refine ⟨nI (wkS v1 (X_rules_lean x) (X_steps_outs x) n n), fil (OV n (X_rules_unit x) (X_rules_offset x) (X_rules_top x) (X_rules_misses x)) (M_levels y) (2 ^ n), ?_, ?_⟩
    · rw [zp_0 (v := (0, 0)) (fun j => (nI (wkS v1 (X_rules_lean x) (X_steps_outs x) n j), nI j)) n (t := 1) (w := (nI (wkS v1 (X_rules_lean x) (X_steps_outs x) n n), nI n)) rfl (by omega) (by decide)]
      · rfl
      · intro j hj
        unfold f_X11_weak_L25
        simp only []
        rw [if_neg (nI_ge hj (by omega)), x_weigh (by omega) hn.2, zb_s]
        simp only [f_X11_weak_J58_25, zl_e, wkS, nI_1]
        rw [sh1 (by omega), fa_or]
        split <;> rfl
      · unfold f_X11_weak_L25
        simp only []
        rw [if_pos (nI_le (Nat.le_refl _) (by omega))]
    · rw [zp_0 (v := (0, 0)) (fun j => (nI (wkS v1 (X_rules_lean x) (X_steps_outs x) n j), nI j)) n (t := 1) (w := (nI (wkS v1 (X_rules_lean x) (X_steps_outs x) n n), nI n)) rfl (by omega) (by decide)]
      · rfl
      · intro j hj
        unfold f_X12_weak_L17
        simp only []
        rw [zc_l rfl, cl0, h0, if_neg (nI_ge hj (by omega)), m_halved hR, zb_s, m_halved hR, zb_s, hvS_cg (fun c hc => lv_eq ho hc) n (Nat.le_refl _), hvS_cg (fun c hc => lv_eq ho hc) n (Nat.le_refl _)]
        simp only [f_X12_weak_J51_17, zl_e, wkS, nI_1]
        rw [sh1 (by omega), fa_or]
        split <;> simp
      · unfold f_X12_weak_L17
        simp only []
        rw [zc_l rfl, cl0, h0, if_pos (nI_le (Nat.le_refl _) (by omega))]
  · rw [x_volt0 hv, m_volt0 hv, zb_s, zb_s, if_pos rfl, if_pos rfl]
    exact ⟨_, _, rfl, rfl⟩
/-! nearest -/
theorem absI {a : Int32} (h : a.toInt ≠ -2147483648) : (if 0 ≤ a then a else -a).toInt = a.toInt.natAbs := by
  have e0 : (0 : Int32).toInt = 0 := rfl
  split
  · next c => rw [i32_le, e0] at c; omega
  · next c => rw [i32_le, e0] at c; rw [fb_negI h]; omega
/-- the nearest code among 0 .. j -/
def nrS (v : Int) (o : Nat → Int) : Nat → Nat
  | 0 => 0
  | j + 1 => if (v - o (j + 1)).natAbs < (v - o (nrS v o j)).natAbs then j + 1 else nrS v o j
theorem nrS_le (v : Int) (o : Nat → Int) : ∀ j, nrS v o j ≤ j := by
  intro j
  induction j with
  | zero => exact Nat.le_refl _
  | succ j ih => unfold nrS; exact ite_b (Q := fun x => x ≤ j + 1) (Nat.le_refl _) (by omega)
theorem nrS_cg {v : Int} {f g : Nat → Int} {N : Nat} (h : ∀ c, c ≤ N → f c = g c) : ∀ j, j ≤ N → nrS v f j = nrS v g j := by
  intro j
  induction j with
  | zero => intro _; rfl
  | succ j ih =>
    intro hj
    have h1 := nrS_le v g j
    unfold nrS
    rw [ih (by omega), h _ hj, h _ (by omega)]
theorem x_closest {n : Nat} (hn : 2 ≤ n ∧ n ≤ 8) {v : Int32} (hv : isV v) {outs : Nat → Int32} (ho : ∀ c, c < 2 ^ n → -999 ≤ (outs c).toInt ∧ (outs c).toInt ≤ 124038) : f_X8_closest v (nI n) outs = some (nI (nrS v.toInt (fun c => (outs c).toInt) (2 ^ n - 1))) := by
  have hp := pw8 hn.2
  have hp4 := pw4 hn.1 hn.2
  have hd : ∀ c, c < 2 ^ n → (if 0 ≤ v - outs c then v - outs c else -(v - outs c)).toInt = ((v.toInt - (outs c).toInt).natAbs : Int) := by
    intro c hc
    have h := ho c hc
    have h2 := hv
    unfold isV at h2
    have e : (v - outs c).toInt = v.toInt - (outs c).toInt := fb_subI (by omega) (by omega)
    rw [absI (by omega), e]
  unfold f_X8_closest
  rw [x_last hn.2, zb_s, zp_0 (v := (0, 1)) (fun j => (nI (nrS v.toInt (fun c => (outs c).toInt) j), nI (j + 1))) (2 ^ n - 1) (t := 1) (w := (nI (nrS v.toInt (fun c => (outs c).toInt) (2 ^ n - 1)), nI (2 ^ n - 1 + 1))) rfl (by omega) (by decide)]
  · rfl
  · intro j hj
    have hl := nrS_le v.toInt (fun c => (outs c).toInt) j
    unfold f_X8_closest_L10
    simp only []
    rw [if_neg (nI_nlt (by omega) (by omega)), x_outOf (by omega), zb_s, f_abs, zb_s, x_outOf (by omega), zb_s, f_abs, zb_s]
    simp only [f_X8_closest_J43_10, zl_e, nI_1]
    rw [show nrS v.toInt (fun c => (outs c).toInt) (j + 1) = if (v.toInt - (outs (j + 1)).toInt).natAbs < (v.toInt - (outs (nrS v.toInt (fun c => (outs c).toInt) j)).toInt).natAbs then j + 1 else nrS v.toInt (fun c => (outs c).toInt) j from rfl]
    have h1 := hd (j + 1) (by omega)
    have h2 := hd (nrS v.toInt (fun c => (outs c).toInt) j) (by omega)
    by_cases c : (v.toInt - (outs (j + 1)).toInt).natAbs < (v.toInt - (outs (nrS v.toInt (fun c => (outs c).toInt) j)).toInt).natAbs
    · rw [if_pos c, if_neg (by rw [i32_le, h1, h2]; omega)]
    · rw [if_neg c, if_pos (by rw [i32_le, h1, h2]; omega)]
  · unfold f_X8_closest_L10
    simp only []
    rw [if_pos (nI_lt (by omega) (by omega))]
theorem m_nearestOf {n : Nat} {unit off top lean ref : Int32} {misses resistors holds : Nat → Int32} (hR : RI n unit off top lean ref misses resistors holds) {v : Int32} (hv : -2000000 ≤ v.toInt ∧ v.toInt ≤ 2000000) {outs : Nat → Int32} (ho : ∀ c, c < 2 ^ n → -999 ≤ (outs c).toInt ∧ (outs c).toInt ≤ 124038) : f_X12_nearestOf v holds outs = some (nI (nrS v.toInt (fun c => (outs c).toInt) (2 ^ n - 1))) := by
  have hp := pw8 hR.1.2
  have hp4 := pw4 hR.1.1 hR.1.2
  have hsz : ∀ c, c < 2 ^ n → f_X12_size ((outs c - v).toInt64) = some (lN (v.toInt - (outs c).toInt).natAbs) := by
    intro c hc
    have h := ho c hc
    have e : (outs c - v).toInt = (outs c).toInt - v.toInt := fb_subI (by omega) (by omega)
    have e2 : f_X12_size ((outs c - v).toInt64) = some (if 0 ≤ (outs c - v).toInt64 then (outs c - v).toInt64 else -(outs c - v).toInt64) := by
      unfold f_X12_size
      simp only [lg_ge]
      split <;> rfl
    rw [e2, absL (by rw [w64, e]; omega), w64, e]
    congr 2
    omega
  unfold f_X12_nearestOf
  rw [zp_0 (v := (0, 1)) (fun j => (nI (nrS v.toInt (fun c => (outs c).toInt) j), nI (j + 1))) (2 ^ n - 1) (t := 1) (w := (nI (nrS v.toInt (fun c => (outs c).toInt) (2 ^ n - 1)), nI (2 ^ n - 1 + 1))) rfl (by omega) (by decide)]
  · rfl
  · intro j hj
    have hl := nrS_le v.toInt (fun c => (outs c).toInt) j
    have h1 := ho (j + 1) (by omega)
    have h2 := ho _ (show nrS v.toInt (fun c => (outs c).toInt) j < 2 ^ n by omega)
    unfold f_X12_nearestOf_L4
    simp only []
    rw [m_many hR, zb_s, if_neg (nI_ge (by omega) (by omega)), zc_nI (by omega) (by decide), nI_clamp (by omega), hsz _ (by omega), zb_s, zc_nI (by omega) (by decide), nI_clamp (by omega), hsz _ (by omega), zb_s]
    simp only [f_X12_nearestOf_J45_4, zl_e, nI_1, lg_ge]
    rw [show nrS v.toInt (fun c => (outs c).toInt) (j + 1) = if (v.toInt - (outs (j + 1)).toInt).natAbs < (v.toInt - (outs (nrS v.toInt (fun c => (outs c).toInt) j)).toInt).natAbs then j + 1 else nrS v.toInt (fun c => (outs c).toInt) j from rfl]
    by_cases c : (v.toInt - (outs (j + 1)).toInt).natAbs < (v.toInt - (outs (nrS v.toInt (fun c => (outs c).toInt) j)).toInt).natAbs
    · rw [if_pos c, if_neg (by rw [pk_lLE (by omega) (by omega)]; omega)]
    · rw [if_neg c, if_pos (by rw [pk_lLE (by omega) (by omega)]; omega)]
  · unfold f_X12_nearestOf_L4
    simp only []
    rw [m_many hR, zb_s, if_pos (nI_le (by omega) (by omega))]
theorem st_nearest : ST_nearest Inv := by
  intro x y hI v1
  obtain ⟨n, hb, hR, ho, -⟩ := id hI
  have hp := pw8 hR.1.2
  suffices H : ∃ r lv, f_X11_nearest v1 (X_rules_bits x) (X_steps_outs x) = some r ∧ f_X12_nearest v1 (M_holds y) (M_levels y) = some (r, lv) by
    obtain ⟨r, lv, e1, e2⟩ := H
    exact ⟨r, (r, lv), e1, e2, rfl, hI⟩
  rw [hb]
  unfold f_X11_nearest f_X12_nearest
  rcases volt_or v1 with hv | hv
  · have hb2 : ∀ c, c < 2 ^ n → -999 ≤ (X_steps_outs x c).toInt ∧ (X_steps_outs x c).toInt ≤ 124038 := fun c hc => by rw [ho c hc]; exact OV_b hR c
    rw [x_volt1 hv, m_volt1 hv, zb_s, zb_s, if_neg (show ¬ (1 : Int32) = 0 by decide), if_neg (show ¬ (1 : Int32) = 0 by decide), x_closest hR.1 hv hb2, zb_s, m_lay hR, zb_s, m_nearestOf hR (by unfold isV at hv; omega) (fun c hc => by rw [lv_eq ho hc]; exact hb2 c hc), zb_s]
    refine ⟨nI (nrS v1.toInt (fun c => (X_steps_outs x c).toInt) (2 ^ n - 1)), fil (OV n (X_rules_unit x) (X_rules_offset x) (X_rules_top x) (X_rules_misses x)) (M_levels y) (2 ^ n), rfl, ?_⟩
    rw [nrS_cg (N := 2 ^ n - 1) (g := fun c => (X_steps_outs x c).toInt) (fun c hc => by show Int32.toInt (fil _ _ _ c) = _; rw [lv_eq ho (show c < 2 ^ n by omega)]) _ (Nat.le_refl _)]
  · rw [x_volt0 hv, m_volt0 hv, zb_s, zb_s, if_pos rfl, if_pos rfl]
    exact ⟨_, _, rfl, rfl⟩
