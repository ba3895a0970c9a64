/-! lay -/
theorem b_i8 (v : Int32) {i : Nat} (hi : i < 32) : bt v.toInt8.toInt32 i = bt v (if i < 8 then i else 7) := by
  unfold bt
  have e : v.toInt8.toInt32.toBitVec = (v.toBitVec.setWidth 8).signExtend 32 := by
    simp
    rw [BitVec.signExtend_eq_setWidth_of_le _ (show 8 ≤ 32 by decide)]
  rw [e, BitVec.getLsbD_signExtend, BitVec.msb_eq_getLsbD_last]
  split
  · simp [hi]; omega
  · simp [hi]
theorem b_i16 (v : Int32) {i : Nat} (hi : i < 32) : bt v.toInt16.toInt32 i = bt v (if i < 16 then i else 15) := by
  unfold bt
  have e : v.toInt16.toInt32.toBitVec = (v.toBitVec.setWidth 16).signExtend 32 := by
    simp
    rw [BitVec.signExtend_eq_setWidth_of_le _ (show 16 ≤ 32 by decide)]
  rw [e, BitVec.getLsbD_signExtend, BitVec.msb_eq_getLsbD_last]
  split
  · simp [hi]; omega
  · simp [hi]
theorem sh24 (v : Int32) : (v <<< ((24 : Int32) &&& 31)) >>> ((24 : Int32) &&& 31) = v.toInt8.toInt32 := by
  refine b_ext fun i hi => ?_
  rw [b_i8 v hi, show ((24 : Int32) &&& 31) = (nI 24 &&& 31) from rfl, b_sshr 24 (by omega) _ hi]
  split
  · rw [b_shl 24 (by omega) _ (by omega), if_pos (by omega), show 24 + i - 24 = i by omega]; simp
  · rw [b_shl 24 (by omega) _ (by omega), if_neg (by omega)]; simp
theorem sh16 (v : Int32) : (v <<< ((16 : Int32) &&& 31)) >>> ((16 : Int32) &&& 31) = v.toInt16.toInt32 := by
  refine b_ext fun i hi => ?_
  rw [b_i16 v hi, show ((16 : Int32) &&& 31) = (nI 16 &&& 31) from rfl, b_sshr 16 (by omega) _ hi]
  split
  · rw [b_shl 16 (by omega) _ (by omega), if_pos (by omega), show 16 + i - 16 = i by omega]; simp
  · rw [b_shl 16 (by omega) _ (by omega), if_neg (by omega)]; simp
/-- what a lane keeps -/
def low (lane v : Int32) : Int32 := if lane = 0 then v.toInt8.toInt32 else if lane = 1 then v.toInt16.toInt32 else v
theorem x_low (v lane : Int32) : f_X6_lowestBits v lane = some (low lane v) := by
  unfold f_X6_lowestBits low
  repeat' split
  all_goals first | rfl | contradiction
theorem HI_put {s : Nat} {lane size : Int32} {cells lanes lengths mcells : Nat → Int32} (h : HI lane size cells s lanes lengths mcells) {j : Nat} (hj : j < 64) (w : Int32) : HI lane size (upd cells j w) s lanes lengths (upd mcells (64 * s + j) w) := by
  refine ⟨h.1, fun i hi => ?_⟩
  by_cases c : i = j
  · subst c; rw [pk_us, pk_us]
  · rw [pk_un c, pk_un (by omega)]; exact h.2 i hi
theorem HI_oth {s t : Nat} {lane size : Int32} {cells lanes lengths mcells : Nat → Int32} (hst : t ≠ s) (h : HI lane size cells t lanes lengths mcells) {j : Nat} (hj : j < 64) (w : Int32) : HI lane size cells t lanes lengths (upd mcells (64 * s + j) w) := by
  refine ⟨h.1, fun i hi => ?_⟩
  rw [pk_un (by omega)]; exact h.2 i hi
/-- one sheet's lay, on both sides -/
theorem lay_one {s : Nat} (hs : s < 4) {lane size : Int32} {cells lanes lengths mcells : Nat → Int32} (h : HI lane size cells s lanes lengths mcells) (i v : Int32) :
    (size = -4 ∧ f_X12_lay (nI s) i v lanes lengths mcells = some (-11, mcells)) ∨ (¬ size = -4 ∧ f_X6_hasCell i size = some 0 ∧ f_X12_lay (nI s) i v lanes lengths mcells = some (-12, mcells)) ∨ (¬ size = -4 ∧ f_X6_hasCell i size = some 1 ∧ ∃ j, j < 64 ∧ f_X6_putCell i v lane size cells = some (upd cells j (low lane v)) ∧ f_X12_lay (nI s) i v lanes lengths mcells = some (1, upd mcells (64 * s + j) (low lane v))) := by
  unfold f_X12_lay
  rw [(x_sheet1 hs).2, zb_s, if_neg n10, zc_nI hs (by decide), zc_nI hs (by decide), zc_nI hs (by decide), zc_nI hs (by decide), nI_clamp (by omega)]
  rcases h.1 with ⟨e1, e2⟩ | ⟨k, hk, e1, e2, e3, e4⟩
  · left
    rw [if_pos e2]
    exact ⟨e1, rfl⟩
  · right
    have n1 : ¬ size = -4 := by
      rw [e1, i32_eq, nIt (by omega)]
      have : (-4 : Int32).toInt = -4 := rfl
      omega
    have n2 : ¬ lanes s = -4 := by rw [e3]; rcases e4 with e | e | e <;> rw [e] <;> decide
    rw [if_neg n2, e2, e1]
    have e0 : (0 : Int32).toInt = 0 := rfl
    rcases pk_ix i (n := k) (by omega) with c | c | ⟨j, hj, rfl⟩
    · left
      refine ⟨by rw [← e1]; exact n1, by unfold f_X6_hasCell; rw [if_pos c], ?_⟩
      rw [in_0l (B := 0) (b := 0) rfl c, zb_s, if_pos rfl]
    · left
      have c0 : ¬ i < 0 := by
        rw [i32_le, nIt (by omega)] at c
        rw [i32_lt]
        omega
      refine ⟨by rw [← e1]; exact n1, by unfold f_X6_hasCell; rw [if_neg c0, if_pos c], ?_⟩
      rw [in_0h (c := nI k - 1) rfl, zb_s, if_pos rfl]
      rw [i32_le, nIt (by omega)] at c
      rw [i32_le, fb_subI] <;> rw [nIt (by omega)]
      · have : (1 : Int32).toInt = 1 := rfl
        omega
      · have : (1 : Int32).toInt = 1 := rfl
        omega
      · have : (1 : Int32).toInt = 1 := rfl
        omega
    · right
      have hh : f_X6_hasCell (nI j) (nI k) = some 1 := by
        unfold f_X6_hasCell
        rw [if_neg (nI_pos (by omega)), if_neg (nI_ge hj (by omega)), if_neg (show ¬ (64 : Int32) ≤ nI j from nI_ge (b := 64) (by omega) (by decide))]
      refine ⟨by rw [← e1]; exact n1, hh, j, by omega, ?_, ?_⟩
      · unfold f_X6_putCell
        rw [hh, zb_s, if_neg n10, x_low, zb_s, zc_nI (by omega) (by decide), zl_e, nI_clamp (by omega)]
      · rw [in_1 (v := nI j) (B := 0) (b := 0) (c := nI k - 1) rfl rfl (nI_pos (by omega)) (by rw [nI_m1 (by omega)]; exact nI_le (by omega) (by omega)), zb_s, if_neg n10, e3, sh24, sh16]
        unfold low f_X12_lay_J99
        rw [show (64 : Int32) * nI s + nI j = nI (64 * s + j) from by rw [show (64 : Int32) = nI 64 from rfl, pk_mul, nI_add], zc_nI (by omega) (by decide), zc_nI (by omega) (by decide), zc_nI (by omega) (by decide), nI_clamp (by omega)]
        simp only [zl_e]
        repeat' split
        all_goals rfl
set_option maxHeartbeats 8000000 in
theorem Inv_lay {x : TX} {y : TM} (hI : Inv x y) {r1 r2 : Int32} {c0 c1 c2 c3 ce : Nat → Int32} (h0 : HI (X_sheet0_lane x) (X_sheet0_size x) c0 0 (M_lanes y) (M_lengths y) ce) (h1 : HI (X_sheet1_lane x) (X_sheet1_size x) c1 1 (M_lanes y) (M_lengths y) ce) (h2 : HI (X_sheet2_lane x) (X_sheet2_size x) c2 2 (M_lanes y) (M_lengths y) ce) (h3 : HI (X_sheet3_lane x) (X_sheet3_size x) c3 3 (M_lanes y) (M_lengths y) ce) : Inv (xu_lay x (r1, c0, c1, c2, c3)) (mu_lay y (r2, ce)) := by
  obtain ⟨n, hb, hR, ho, hT, hf, hS, hM, -, -, -, -, hK⟩ := id hI
  exact ⟨n, hb, hR, ho, hT, hf, hS, hM, h0, h1, h2, h3, hK⟩
theorem st_lay : ST_lay Inv := by
  intro x y hI v1 v2 v3
  obtain ⟨n, hb, hR, ho, hT, hf, hS, hM, h0, h1, h2, h3, hK⟩ := id hI
  have nn : ∀ size : Int32, (size = -4 → f_X6_isNothing size = some 1) ∧ (¬ size = -4 → f_X6_isNothing size = some 0) := fun size => ⟨fun h => by unfold f_X6_isNothing; rw [if_pos h], fun h => by unfold f_X6_isNothing; rw [if_neg h]⟩
  unfold f_X11_lay
  rcases sheet_or v1 with ⟨s, hs, rfl⟩ | ⟨e1, e2⟩
  · rw [(x_sheet1 hs).1, zb_s, if_neg n10, zc_nI hs (by decide)]
    rcases (show s = 0 ∨ s = 1 ∨ s = 2 ∨ s = 3 by omega) with rfl | rfl | rfl | rfl
    · rw [if_pos (show nI 0 = (0 : Int32) from rfl)]
      rcases lay_one hs h0 v2 v3 with ⟨e1, e2⟩ | ⟨e1, e2, e3⟩ | ⟨e1, e2, j, hj, e3, e4⟩
      · rw [(nn _).1 e1, e2, zb_s, if_neg n10]; exact ⟨_, _, rfl, rfl, rfl, hI⟩
      · rw [(nn _).2 e1, e2, e3, zb_s, if_pos rfl, zb_s, if_pos rfl]; exact ⟨_, _, rfl, rfl, rfl, hI⟩
      · rw [(nn _).2 e1, e2, e4, zb_s, if_pos rfl, zb_s, if_neg n10, e3, zb_s]
        have q0 : HI (X_sheet0_lane x) (X_sheet0_size x) (upd (X_sheet0_cells x) j (low (X_sheet0_lane x) v3)) 0 (M_lanes y) (M_lengths y) (upd (M_cells y) (64 * 0 + j) (low (X_sheet0_lane x) v3)) := HI_put h0 hj _
        have q1 : HI (X_sheet1_lane x) (X_sheet1_size x) (X_sheet1_cells x) 1 (M_lanes y) (M_lengths y) (upd (M_cells y) (64 * 0 + j) (low (X_sheet0_lane x) v3)) := HI_oth (by decide) h1 hj _
        have q2 : HI (X_sheet2_lane x) (X_sheet2_size x) (X_sheet2_cells x) 2 (M_lanes y) (M_lengths y) (upd (M_cells y) (64 * 0 + j) (low (X_sheet0_lane x) v3)) := HI_oth (by decide) h2 hj _
        have q3 : HI (X_sheet3_lane x) (X_sheet3_size x) (X_sheet3_cells x) 3 (M_lanes y) (M_lengths y) (upd (M_cells y) (64 * 0 + j) (low (X_sheet0_lane x) v3)) := HI_oth (by decide) h3 hj _
        exact ⟨_, _, rfl, rfl, rfl, Inv_lay hI q0 q1 q2 q3⟩
    · rw [if_neg (show ¬ nI 1 = (0 : Int32) by decide), if_pos (show nI 1 = (1 : Int32) from rfl)]
      rcases lay_one hs h1 v2 v3 with ⟨e1, e2⟩ | ⟨e1, e2, e3⟩ | ⟨e1, e2, j, hj, e3, e4⟩
      · rw [(nn _).1 e1, e2, zb_s, if_neg n10]; exact ⟨_, _, rfl, rfl, rfl, hI⟩
      · rw [(nn _).2 e1, e2, e3, zb_s, if_pos rfl, zb_s, if_pos rfl]; exact ⟨_, _, rfl, rfl, rfl, hI⟩
      · rw [(nn _).2 e1, e2, e4, zb_s, if_pos rfl, zb_s, if_neg n10, e3, zb_s]
        have q0 : HI (X_sheet0_lane x) (X_sheet0_size x) (X_sheet0_cells x) 0 (M_lanes y) (M_lengths y) (upd (M_cells y) (64 * 1 + j) (low (X_sheet1_lane x) v3)) := HI_oth (by decide) h0 hj _
        have q1 : HI (X_sheet1_lane x) (X_sheet1_size x) (upd (X_sheet1_cells x) j (low (X_sheet1_lane x) v3)) 1 (M_lanes y) (M_lengths y) (upd (M_cells y) (64 * 1 + j) (low (X_sheet1_lane x) v3)) := HI_put h1 hj _
        have q2 : HI (X_sheet2_lane x) (X_sheet2_size x) (X_sheet2_cells x) 2 (M_lanes y) (M_lengths y) (upd (M_cells y) (64 * 1 + j) (low (X_sheet1_lane x) v3)) := HI_oth (by decide) h2 hj _
        have q3 : HI (X_sheet3_lane x) (X_sheet3_size x) (X_sheet3_cells x) 3 (M_lanes y) (M_lengths y) (upd (M_cells y) (64 * 1 + j) (low (X_sheet1_lane x) v3)) := HI_oth (by decide) h3 hj _
        exact ⟨_, _, rfl, rfl, rfl, Inv_lay hI q0 q1 q2 q3⟩
    · rw [if_neg (show ¬ nI 2 = (0 : Int32) by decide), if_neg (show ¬ nI 2 = (1 : Int32) by decide), if_pos (show nI 2 = (2 : Int32) from rfl)]
      rcases lay_one hs h2 v2 v3 with ⟨e1, e2⟩ | ⟨e1, e2, e3⟩ | ⟨e1, e2, j, hj, e3, e4⟩
      · rw [(nn _).1 e1, e2, zb_s, if_neg n10]; exact ⟨_, _, rfl, rfl, rfl, hI⟩
      · rw [(nn _).2 e1, e2, e3, zb_s, if_pos rfl, zb_s, if_pos rfl]; exact ⟨_, _, rfl, rfl, rfl, hI⟩
      · rw [(nn _).2 e1, e2, e4, zb_s, if_pos rfl, zb_s, if_neg n10, e3, zb_s]
        have q0 : HI (X_sheet0_lane x) (X_sheet0_size x) (X_sheet0_cells x) 0 (M_lanes y) (M_lengths y) (upd (M_cells y) (64 * 2 + j) (low (X_sheet2_lane x) v3)) := HI_oth (by decide) h0 hj _
        have q1 : HI (X_sheet1_lane x) (X_sheet1_size x) (X_sheet1_cells x) 1 (M_lanes y) (M_lengths y) (upd (M_cells y) (64 * 2 + j) (low (X_sheet2_lane x) v3)) := HI_oth (by decide) h1 hj _
        have q2 : HI (X_sheet2_lane x) (X_sheet2_size x) (upd (X_sheet2_cells x) j (low (X_sheet2_lane x) v3)) 2 (M_lanes y) (M_lengths y) (upd (M_cells y) (64 * 2 + j) (low (X_sheet2_lane x) v3)) := HI_put h2 hj _
        have q3 : HI (X_sheet3_lane x) (X_sheet3_size x) (X_sheet3_cells x) 3 (M_lanes y) (M_lengths y) (upd (M_cells y) (64 * 2 + j) (low (X_sheet2_lane x) v3)) := HI_oth (by decide) h3 hj _
        exact ⟨_, _, rfl, rfl, rfl, Inv_lay hI q0 q1 q2 q3⟩
    · rw [if_neg (show ¬ nI 3 = (0 : Int32) by decide), if_neg (show ¬ nI 3 = (1 : Int32) by decide), if_neg (show ¬ nI 3 = (2 : Int32) by decide)]
      rcases lay_one hs h3 v2 v3 with ⟨e1, e2⟩ | ⟨e1, e2, e3⟩ | ⟨e1, e2, j, hj, e3, e4⟩
      · rw [(nn _).1 e1, e2, zb_s, if_neg n10]; exact ⟨_, _, rfl, rfl, rfl, hI⟩
      · rw [(nn _).2 e1, e2, e3, zb_s, if_pos rfl, zb_s, if_pos rfl]; exact ⟨_, _, rfl, rfl, rfl, hI⟩
      · rw [(nn _).2 e1, e2, e4, zb_s, if_pos rfl, zb_s, if_neg n10, e3, zb_s]
        have q0 : HI (X_sheet0_lane x) (X_sheet0_size x) (X_sheet0_cells x) 0 (M_lanes y) (M_lengths y) (upd (M_cells y) (64 * 3 + j) (low (X_sheet3_lane x) v3)) := HI_oth (by decide) h0 hj _
        have q1 : HI (X_sheet1_lane x) (X_sheet1_size x) (X_sheet1_cells x) 1 (M_lanes y) (M_lengths y) (upd (M_cells y) (64 * 3 + j) (low (X_sheet3_lane x) v3)) := HI_oth (by decide) h1 hj _
        have q2 : HI (X_sheet2_lane x) (X_sheet2_size x) (X_sheet2_cells x) 2 (M_lanes y) (M_lengths y) (upd (M_cells y) (64 * 3 + j) (low (X_sheet3_lane x) v3)) := HI_oth (by decide) h2 hj _
        have q3 : HI (X_sheet3_lane x) (X_sheet3_size x) (upd (X_sheet3_cells x) j (low (X_sheet3_lane x) v3)) 3 (M_lanes y) (M_lengths y) (upd (M_cells y) (64 * 3 + j) (low (X_sheet3_lane x) v3)) := HI_put h3 hj _
        exact ⟨_, _, rfl, rfl, rfl, Inv_lay hI q0 q1 q2 q3⟩
  · rw [e1, zb_s, if_pos rfl]
    unfold f_X12_lay
    rw [e2, zb_s, if_pos rfl]
    exact ⟨_, _, rfl, rfl, rfl, hI⟩
