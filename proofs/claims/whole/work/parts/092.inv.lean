/-! the invariant between both sides -/
def TI (len : Int32) (bytes : Nat → Int32) (taped : Int32) (tape : Nat → Int32) : Prop := ∃ k : Nat, k ≤ 200 ∧ len = nI k ∧ taped = nI k ∧ ∀ j, j < k → bytes j = (tape j).toInt8.toInt32 ∧ 0 ≤ (tape j).toInt ∧ (tape j).toInt ≤ 255
def SI (a b : Nat → Int32) : Prop := ∀ j : Nat, 1 ≤ j → j < 16 → a j = b j ∧ (a j = 0 ∨ a j = 1 ∨ a j = -4)
def MI (n : Nat) (size : Int32) (codes volts : Nat → Int32) (meas : Int32) (mc mv : Nat → Int32) : Prop := ∃ k : Nat, k ≤ 12 ∧ size = nI k ∧ meas = nI k ∧ (∀ i, i < k → codes i = mc i ∧ volts i = mv i ∧ (∃ c, c < 2 ^ n ∧ mc i = nI c) ∧ -99999 ≤ (mv i).toInt ∧ (mv i).toInt ≤ 99999) ∧ ∀ i j, i < j → j < k → mc i ≠ mc j
def HI (lane size : Int32) (cells : Nat → Int32) (s : Nat) (lanes lengths mcells : Nat → Int32) : Prop := ((size = -4 ∧ lanes s = -4) ∨ ∃ k : Nat, k ≤ 64 ∧ size = nI k ∧ lengths s = nI k ∧ lanes s = lane ∧ (lane = 0 ∨ lane = 1 ∨ lane = 2)) ∧ ∀ i, i < 64 → cells i = mcells (64 * s + i)
def endsL : List Int32 := [0, 4, 8, 14, 17, 21, 24, 28, 34]
def lettersL : List Int32 := [98, 105, 116, 115, 117, 110, 105, 116, 111, 102, 102, 115, 101, 116, 116, 111, 112, 108, 101, 97, 110, 114, 101, 102, 109, 105, 115, 115, 115, 116, 114, 105, 110, 103]
def KI (ends letters : Nat → Int32) : Prop := (∀ i, i < 9 → ends i = endsL.getD i 0) ∧ ∀ i, i < 34 → letters i = lettersL.getD i 0
def Inv (x : TX) (y : TM) : Prop := ∃ n : Nat, X_rules_bits x = nI n ∧ RI n (X_rules_unit x) (X_rules_offset x) (X_rules_top x) (X_rules_lean x) (X_rules_ref x) (X_rules_misses x) (X_rules_resistors x) (M_holds y) ∧ (∀ c, c < 2 ^ n → X_steps_outs x c = OV n (X_rules_unit x) (X_rules_offset x) (X_rules_top x) (X_rules_misses x) c) ∧ TI (X_tape_length x) (X_tape_bytes x) (M_taped y) (M_tape y) ∧ X_reader_faultFound x = M_fault y ∧ SI (X_comparers_stuck x) (M_stuck y) ∧ MI n (X_measures_size x) (X_measures_codes x) (X_measures_volts x) (M_measured y) (M_measuredCode y) (M_measuredVolt y) ∧ HI (X_sheet0_lane x) (X_sheet0_size x) (X_sheet0_cells x) 0 (M_lanes y) (M_lengths y) (M_cells y) ∧ HI (X_sheet1_lane x) (X_sheet1_size x) (X_sheet1_cells x) 1 (M_lanes y) (M_lengths y) (M_cells y) ∧ HI (X_sheet2_lane x) (X_sheet2_size x) (X_sheet2_cells x) 2 (M_lanes y) (M_lengths y) (M_cells y) ∧ HI (X_sheet3_lane x) (X_sheet3_size x) (X_sheet3_cells x) 3 (M_lanes y) (M_lengths y) (M_cells y) ∧ KI (M_ends y) (M_letters y) ∧ X_comparers_below x 0 = 0
theorem nIt {k : Nat} (h : k < 2 ^ 31) : (nI k).toInt = (k : Int) := nI_toInt h
theorem litI (v : Int32) : (0 : Int32).toInt = 0 ∧ (1 : Int32).toInt = 1 ∧ (2 : Int32).toInt = 2 := by decide
/-! end, fault -/
theorem end_eq (v t : Int32) : f_X12_end v t = f_X11_end v t := by
  unfold f_X12_end f_X11_end
  rw [f_inI v 0 t 0 _ rfl rfl, zb_s]
  by_cases c1 : v < 0
  · have h : ¬ (0 ≤ v ∧ v ≤ t) := fun h => by rw [i32_lt] at c1; rw [i32_le] at h; omega
    rw [if_neg h, if_pos rfl, if_pos c1]
  · by_cases c2 : v ≤ t
    · have h : 0 ≤ v ∧ v ≤ t := ⟨(i32_nlt _ _).mp c1, c2⟩
      rw [if_pos h, if_neg (show ¬ (1 : Int32) = 0 by decide), if_neg c1, if_pos c2]
    · have h : ¬ (0 ≤ v ∧ v ≤ t) := fun h => c2 h.2
      rw [if_neg h, if_pos rfl, if_neg c1, if_neg c2]
theorem st_end : ST_end Inv := by
  intro x y hI v1
  obtain ⟨n, h1, h2, h3, hT, hr⟩ := id hI
  obtain ⟨k, hk, e1, e2, hb⟩ := hT
  rw [end_eq, e1, e2]
  unfold f_X11_end
  by_cases c1 : v1 < 0
  · rw [if_pos c1]
    exact ⟨_, _, rfl, rfl, rfl, n, h1, h2, h3, ⟨k, hk, rfl, rfl, hb⟩, hr⟩
  · rw [if_neg c1]
    by_cases c2 : v1 ≤ nI k
    · rw [if_pos c2]
      obtain ⟨j, hj, rfl⟩ := nI_of2 (nIt (by omega)) c1 c2
      exact ⟨_, _, rfl, rfl, rfl, n, h1, h2, h3, ⟨j, by omega, rfl, rfl, fun i hi => hb i (by omega)⟩, hr⟩
    · rw [if_neg c2]
      exact ⟨_, _, rfl, rfl, rfl, n, h1, h2, h3, ⟨k, hk, rfl, rfl, hb⟩, hr⟩
theorem st_fault : ST_fault Inv := by
  intro x y hI
  exact ⟨_, _, rfl, rfl, hI.choose_spec.2.2.2.2.1, hI⟩
/-! codes and volts -/
theorem code_or (n : Nat) (h : n ≤ 8) (v : Int32) : (∃ c, c < 2 ^ n ∧ v = nI c) ∨ (v < 0 ∨ nI (2 ^ n) ≤ v) := by
  have := pw8 h
  rcases pk_ix v (n := 2 ^ n) (by omega) with h | h | h
  · exact Or.inr (Or.inl h)
  · exact Or.inr (Or.inr h)
  · exact Or.inl h
theorem x_code1 {n c : Nat} (h : n ≤ 8) (hc : c < 2 ^ n) : f_X5_isCode (nI c) (nI n) = some 1 := by
  have := pw8 h
  unfold f_X5_isCode
  rw [if_neg (nI_pos (by omega)), x_codes h, zb_s, if_neg (nI_ge hc (by omega))]
theorem x_code0 {n : Nat} (h : n ≤ 8) {v : Int32} (hv : v < 0 ∨ nI (2 ^ n) ≤ v) : f_X5_isCode v (nI n) = some 0 := by
  unfold f_X5_isCode
  by_cases c : v < 0
  · rw [if_pos c]
  · rw [if_neg c, x_codes h, zb_s, if_pos (hv.resolve_left c)]
section
variable {n : Nat} {unit off top lean ref : Int32} {misses resistors holds : Nat → Int32}
theorem m_code1 (hR : RI n unit off top lean ref misses resistors holds) {c : Nat} (hc : c < 2 ^ n) : f_X12_isCode (nI c) holds = some 1 := by
  have hp := pw8 hR.1.2
  unfold f_X12_isCode
  rw [m_many hR, zb_s, nI_m1 hp.1, f_inI (nI c) 0 (nI (2 ^ n - 1)) 0 _ rfl rfl, zb_s, if_pos ⟨nI_pos' (by omega), nI_le (by omega) (by omega)⟩]
theorem m_code0 (hR : RI n unit off top lean ref misses resistors holds) {v : Int32} (hv : v < 0 ∨ nI (2 ^ n) ≤ v) : f_X12_isCode v holds = some 0 := by
  have hp := pw8 hR.1.2
  unfold f_X12_isCode
  rw [m_many hR, zb_s, nI_m1 hp.1, f_inI v 0 (nI (2 ^ n - 1)) 0 _ rfl rfl, zb_s, if_neg]
  intro h
  rw [i32_le, i32_le, nIt (by omega)] at h
  rcases hv with hv | hv
  · rw [i32_lt] at hv; omega
  · rw [i32_le, nIt (by omega)] at hv; omega
end
def isV (v : Int32) : Prop := -99999 ≤ v.toInt ∧ v.toInt ≤ 99999
theorem volt_or (v : Int32) : isV v ∨ ¬ isV v := Classical.em _
theorem x_volt1 {v : Int32} (h : isV v) : f_X11_isVolt v = some 1 := by
  unfold f_X11_isVolt
  have e1 : (-99999 : Int32).toInt = -99999 := by decide
  have e2 : (99999 : Int32).toInt = 99999 := by decide
  rw [if_neg (by rw [i32_lt, e1]; have := h.1; omega), if_neg (by rw [i32_lt, e2]; have := h.2; omega)]
theorem x_volt0 {v : Int32} (h : ¬ isV v) : f_X11_isVolt v = some 0 := by
  unfold f_X11_isVolt
  have e1 : (-99999 : Int32).toInt = -99999 := by decide
  have e2 : (99999 : Int32).toInt = 99999 := by decide
  by_cases c : v < -99999
  · rw [if_pos c]
  · rw [if_neg c, if_pos]
    rw [i32_lt, e1] at c
    rw [i32_lt, e2]
    unfold isV at h
    omega
theorem m_volt1 {v : Int32} (h : isV v) : f_X12_isVolt v = some 1 := by
  unfold f_X12_isVolt
  have e1 : (-99999 : Int32).toInt = -99999 := by decide
  have e2 : (99999 : Int32).toInt = 99999 := by decide
  rw [f_inI v (-99999) 99999 _ _ (by decide) (by decide), zb_s, if_pos]
  rw [i32_le, i32_le, e1, e2]
  exact h
theorem m_volt0 {v : Int32} (h : ¬ isV v) : f_X12_isVolt v = some 0 := by
  unfold f_X12_isVolt
  have e1 : (-99999 : Int32).toInt = -99999 := by decide
  have e2 : (99999 : Int32).toInt = 99999 := by decide
  rw [f_inI v (-99999) 99999 _ _ (by decide) (by decide), zb_s, if_neg]
  rw [i32_le, i32_le, e1, e2]
  exact h
/-! rule -/
theorem st_rule : ST_rule Inv := by
  intro x y hI v1
  obtain ⟨n, hb, hR, -⟩ := id hI
  have h9 := npt_le (top := X_rules_top x) hR.1.2
  have hp := m_parts hR
  obtain ⟨hn, h0, h1, h2, h3, h4, h5, h6, h7, ht, -⟩ := id hR
  suffices H : ∃ r, f_X11_rule v1 (X_rules_bits x) (X_rules_unit x) (X_rules_offset x) (X_rules_lean x) (X_rules_ref x) (X_rules_top x) (X_rules_misses x) (X_rules_resistors x) = some r ∧ f_X12_rule v1 (M_holds y) = some r by
    obtain ⟨r, e1, e2⟩ := H
    exact ⟨r, r, e1, e2, rfl, hI⟩
  rw [hb]
  unfold f_X11_rule f_X12_rule
  rw [f_inI v1 0 5 0 5 rfl rfl, zb_s]
  by_cases c5 : 0 ≤ v1 ∧ v1 ≤ 5
  · obtain ⟨j, hj, rfl⟩ := nI_of2 (M := 5) (n := 5) rfl ((i32_nlt _ _).mpr c5.1) c5.2
    rw [if_pos c5, if_neg (show ¬ (1 : Int32) = 0 by decide), zc_nI (by omega) (by decide), nI_clamp (by omega)]
    rcases (show j = 0 ∨ j = 1 ∨ j = 2 ∨ j = 3 ∨ j = 4 ∨ j = 5 by omega) with rfl | rfl | rfl | rfl | rfl | rfl
    · exact ⟨_, rfl, by rw [h0]⟩
    · exact ⟨_, rfl, by rw [h1]⟩
    · exact ⟨_, rfl, by rw [h2]⟩
    · refine ⟨X_rules_top x, ?_, by rw [h3]⟩
      show (if X_rules_top x = 0 then some (0 : Int32) else some 1) = some (X_rules_top x)
      rcases ht with e | e <;> rw [e] <;> rfl
    · exact ⟨_, rfl, by rw [h4]⟩
    · exact ⟨_, rfl, by rw [h5]⟩
  · have hne : ∀ k : Nat, k ≤ 5 → ¬ v1 = nI k := by
      intro k hk e
      apply c5
      rw [e]
      exact ⟨nI_pos' (by omega), nI_le (b := 5) hk (by decide)⟩
    rw [if_neg c5, if_pos rfl, f_inI v1 10 18 10 18 rfl rfl, zb_s, if_neg (show ¬ v1 = 0 from hne 0 (by decide)), if_neg (show ¬ v1 = 1 from hne 1 (by decide)), if_neg (show ¬ v1 = 2 from hne 2 (by decide)), if_neg (show ¬ v1 = 3 from hne 3 (by decide)), if_neg (show ¬ v1 = 4 from hne 4 (by decide)), if_neg (show ¬ v1 = 5 from hne 5 (by decide))]
    by_cases c18 : 10 ≤ v1 ∧ v1 ≤ 18
    · obtain ⟨j, hj, rfl⟩ := nI_of2 (M := 18) (n := 18) rfl (by rw [i32_nlt]; have h := c18.1; rw [i32_le] at h ⊢; have e : (10 : Int32).toInt = 10 := rfl; have e0 : (0 : Int32).toInt = 0 := rfl; omega) c18.2
      have hj2 : 10 ≤ j := by
        have h := c18.1
        rw [i32_le, nIt (by omega)] at h
        have e : (10 : Int32).toInt = 10 := rfl
        omega
      have e10 : nI j - (10 : Int32) = nI (j - 10) := pk_sub (b := 10) hj2
      have e6 : (6 : Int32) + nI j - (10 : Int32) = nI (6 + (j - 10)) := by
        rw [show (6 : Int32) + nI j = nI (6 + j) from nI_add 6 j, show nI (6 + j) - (10 : Int32) = nI (6 + j - 10) from pk_sub (b := 10) (by omega)]
        congr 1
        omega
      rw [if_pos c18, if_neg (show ¬ (1 : Int32) = 0 by decide), hp, zb_s, e10, e6]
      rw [if_neg (show ¬ nI j < (10 : Int32) from nI_nlt (b := 10) hj2 (by omega)), if_neg (show ¬ (19 : Int32) ≤ nI j from nI_ge (b := 19) (by omega) (by decide))]
      by_cases cp : j - 10 < npt n (X_rules_top x)
      · refine ⟨X_rules_misses x (j - 10), by rw [x_miss cp h9, zb_s], ?_⟩
        rw [if_neg (nI_ge cp (by omega)), zc_nI (by omega) (by decide), nI_clamp (by omega), h6 _ (by omega)]
      · refine ⟨0, ?_, by rw [if_pos (nI_le (by omega) (by omega))]⟩
        unfold f_X5_missOf
        rw [if_neg (nI_pos (by omega)), x_parts, zb_s, if_pos (nI_le (by omega) (by omega)), zb_s]
    · rw [if_neg c18, if_pos rfl, f_inI v1 30 45 30 45 rfl rfl, zb_s]
      have k120 : (if v1 < 10 then f_X11_rule_J120 v1 (X_rules_resistors x) else if 19 ≤ v1 then f_X11_rule_J120 v1 (X_rules_resistors x) else zb (f_X5_missOf (v1 - 10) (nI n) (X_rules_top x) (X_rules_misses x)) fun z116 => some z116) = f_X11_rule_J120 v1 (X_rules_resistors x) := by
        by_cases a : v1 < 10
        · rw [if_pos a]
        · rw [if_neg a, if_pos]
          rw [i32_le] at *
          rw [i32_lt] at a
          rw [i32_le] at c18
          have e : (10 : Int32).toInt = 10 := rfl
          have e2 : (18 : Int32).toInt = 18 := rfl
          have e3 : (19 : Int32).toInt = 19 := rfl
          omega
      rw [k120]
      unfold f_X11_rule_J120
      by_cases c45 : 30 ≤ v1 ∧ v1 ≤ 45
      · obtain ⟨j, hj, rfl⟩ := nI_of2 (M := 45) (n := 45) rfl (by rw [i32_nlt]; have h := c45.1; rw [i32_le] at h ⊢; have e : (30 : Int32).toInt = 30 := rfl; have e0 : (0 : Int32).toInt = 0 := rfl; omega) c45.2
        have hj2 : 30 ≤ j := by
          have h := c45.1
          rw [i32_le, nIt (by omega)] at h
          have e : (30 : Int32).toInt = 30 := rfl
          omega
        have e30 : nI j - (30 : Int32) = nI (j - 30) := pk_sub (b := 30) hj2
        have e15 : (15 : Int32) + nI j - (30 : Int32) = nI (15 + (j - 30)) := by
          rw [show (15 : Int32) + nI j = nI (15 + j) from nI_add 15 j, show nI (15 + j) - (30 : Int32) = nI (15 + j - 30) from pk_sub (b := 30) (by omega)]
          congr 1
          omega
        rw [if_pos c45, if_neg (show ¬ (1 : Int32) = 0 by decide), e15, e30, if_neg (show ¬ nI j < (30 : Int32) from nI_nlt (b := 30) hj2 (by omega)), if_neg (show ¬ (46 : Int32) ≤ nI j from nI_ge (b := 46) (by omega) (by decide))]
        refine ⟨X_rules_resistors x (j - 30), ?_, by rw [zc_nI (by omega) (by decide), nI_clamp (by omega), h7 _ (by omega)]⟩
        unfold f_X5_resistorAt
        rw [if_neg (nI_pos (by omega)), if_neg (show ¬ (16 : Int32) ≤ nI (j - 30) from nI_ge (b := 16) (by omega) (by decide)), zc_nI (by omega) (by decide), nI_clamp (by omega), zb_s]
      · rw [if_neg c45, if_pos rfl]
        refine ⟨-1000, ?_, rfl⟩
        by_cases a : v1 < 30
        · rw [if_pos a]
        · rw [if_neg a, if_pos]
          rw [i32_le] at *
          rw [i32_lt] at a
          rw [i32_le] at c45
          have e : (30 : Int32).toInt = 30 := rfl
          have e2 : (45 : Int32).toInt = 45 := rfl
          have e3 : (46 : Int32).toInt = 46 := rfl
          omega
