/-! measure, sheet, lay, feed, apart -/
theorem st_measure : ST_measure Inv := by
  intro x y hI v1 v2
  obtain ⟨n, hb, hR, ho, hT, hf, hS, hM, hr⟩ := id hI
  obtain ⟨k, hk, es, em, hk2, hd⟩ := id hM
  have hp := pw8 hR.1.2
  rw [hb]
  unfold f_X11_measure f_X12_measure
  rcases code_or n hR.1.2 v1 with ⟨c, hc, rfl⟩ | h
  · rw [x_code1 hR.1.2 hc, m_code1 hR hc, zb_s, zb_s, if_neg n10, if_neg n10]
    rcases volt_or v2 with hv | hv
    · rw [x_volt1 hv, m_volt1 hv, zb_s, zb_s, if_neg n10, if_neg n10]
      unfold f_X3_put
      rw [es, em]
      obtain ⟨a, b, ea, eb, j, hj, rfl, hnot, hq⟩ := zp_r (f := f_X3_put_L2 (nI c) (nI k) (X_measures_codes x)) (g := f_X12_measure_L19 (nI c) (nI k) (M_measuredCode y)) (s := (0 : Int32)) (t := (0 : Int32))
        (fun j s t => s = nI j ∧ t = nI j ∧ ∀ i, i < j → ¬ M_measuredCode y i = nI c)
        (fun a b => ∃ j, j ≤ k ∧ a = (1, nI j) ∧ (∀ i, i < j → ¬ M_measuredCode y i = nI c) ∧ ((j = k ∧ b = (1, nI j)) ∨ (j < k ∧ b = (2, nI j) ∧ M_measuredCode y j = nI c))) k (by omega) ⟨rfl, rfl, fun i hi => by omega⟩ (by
          rintro j s t hj ⟨rfl, rfl, hn⟩
          unfold f_X3_put_L2 f_X12_measure_L19
          by_cases e : j = k
          · subst e
            rw [if_pos (nI_le (Nat.le_refl _) (by omega)), if_pos (nI_le (Nat.le_refl _) (by omega))]
            exact Or.inr ⟨_, _, rfl, rfl, (by decide : ¬ (1 : Nat) = 0), (by decide : ¬ (1 : Nat) = 0), j, Nat.le_refl _, rfl, hn, Or.inl ⟨rfl, rfl⟩⟩
          · have hcd : f_X3_codeAt (nI j) (X_measures_codes x) = some (M_measuredCode y j) := by
              unfold f_X3_codeAt
              rw [if_neg (nI_pos (by omega)), if_neg (show ¬ (12 : Int32) ≤ nI j from nI_ge (b := 12) (by omega) (by decide)), zc_nI (by omega) (by decide), nI_clamp (by omega), (hk2 j (by omega)).1]
            rw [if_neg (nI_ge (by omega) (by omega)), if_neg (nI_ge (by omega) (by omega)), hcd, zb_s, zc_nI (by omega) (by decide), nI_clamp (by omega)]
            by_cases q : M_measuredCode y j = nI c
            · rw [if_pos q, if_pos q]
              exact Or.inr ⟨_, _, rfl, rfl, (by decide : ¬ (1 : Nat) = 0), (by decide : ¬ (2 : Nat) = 0), j, hj, rfl, hn, Or.inr ⟨by omega, rfl, q⟩⟩
            · rw [if_neg q, if_neg q]
              simp only [zl_e, nI_1]
              exact Or.inl ⟨by omega, _, _, rfl, rfl, rfl, rfl, fun i hi => by
                by_cases e2 : i = j
                · subst e2; exact q
                · exact hn i (by omega)⟩)
      rw [ea, eb, zb_s, zb_s]
      unfold f_X3_put_J25
      simp only []
      rcases hq with ⟨rfl, rfl⟩ | ⟨hjk, rfl, hcj⟩
      · rw [if_pos rfl]
        by_cases e12 : j = 12
        · subst e12
          rw [if_pos (show (12 : Int32) ≤ nI 12 from by decide), if_pos (show nI 12 = (12 : Int32) from rfl), zb_s, if_pos rfl]
          exact ⟨_, _, rfl, rfl, rfl, n, hb, hR, ho, hT, hf, hS, ⟨12, by omega, rfl, rfl, hk2, hd⟩, hr⟩
        · rw [if_neg (show ¬ (12 : Int32) ≤ nI j from nI_ge (b := 12) (by omega) (by decide)), if_pos (show nI j < (12 : Int32) from nI_lt (b := 12) (by omega) (by decide)), if_neg (show ¬ nI j = (12 : Int32) from fun h => e12 ((nI_eq (b := 12) (by omega) (by decide)).mp h))]
          simp only [zc_nI (show j < 12 by omega) (show 12 < 2 ^ 31 by decide), zl_e, f_max, nI_1, if_pos (nI_lt (show j < j + 1 by omega) (show j + 1 < 2 ^ 31 by omega)), zb_s, nI_clamp (show j < 2 ^ 31 by omega)]
          rw [if_neg n10]
          refine ⟨_, _, rfl, rfl, rfl, n, hb, hR, ho, hT, hf, hS, ⟨j + 1, by omega, rfl, rfl, ?_, ?_⟩, hr⟩
          · intro i hi
            show upd (X_measures_codes x) j (nI c) i = upd (M_measuredCode y) j (nI c) i ∧ upd (X_measures_volts x) j v2 i = upd (M_measuredVolt y) j v2 i ∧ (∃ c', c' < 2 ^ n ∧ upd (M_measuredCode y) j (nI c) i = nI c') ∧ -99999 ≤ (upd (M_measuredVolt y) j v2 i).toInt ∧ (upd (M_measuredVolt y) j v2 i).toInt ≤ 99999
            by_cases q : i = j
            · subst q
              rw [pk_us, pk_us, pk_us, pk_us]
              exact ⟨rfl, rfl, ⟨c, hc, rfl⟩, hv⟩
            · rw [pk_un q, pk_un q, pk_un q, pk_un q]
              exact hk2 i (by omega)
          · intro a b hab hbj
            show upd (M_measuredCode y) j (nI c) a ≠ upd (M_measuredCode y) j (nI c) b
            rw [pk_un (show a ≠ j by omega)]
            by_cases q : b = j
            · subst q
              rw [pk_us]
              exact hnot a hab
            · rw [pk_un q]
              exact hd a b hab (by omega)
      · rw [if_neg (show ¬ (2 : Nat) = 1 by decide), if_neg (show ¬ (12 : Int32) ≤ nI j from nI_ge (b := 12) (by omega) (by decide)), if_pos (show nI j < (12 : Int32) from nI_lt (b := 12) (by omega) (by decide))]
        simp only [zc_nI (show j < 12 by omega) (show 12 < 2 ^ 31 by decide), zl_e, f_max, nI_1, if_neg (nI_nlt (show j + 1 ≤ k by omega) (show k < 2 ^ 31 by omega)), zb_s, nI_clamp (show j < 2 ^ 31 by omega)]
        rw [if_neg n10]
        refine ⟨_, _, rfl, rfl, rfl, n, hb, hR, ho, hT, hf, hS, ⟨k, hk, rfl, rfl, ?_, hd⟩, hr⟩
        intro i hi
        show upd (X_measures_codes x) j (nI c) i = M_measuredCode y i ∧ upd (X_measures_volts x) j v2 i = upd (M_measuredVolt y) j v2 i ∧ (∃ c', c' < 2 ^ n ∧ M_measuredCode y i = nI c') ∧ -99999 ≤ (upd (M_measuredVolt y) j v2 i).toInt ∧ (upd (M_measuredVolt y) j v2 i).toInt ≤ 99999
        have h := hk2 i hi
        by_cases q : i = j
        · subst q
          rw [pk_us, pk_us, pk_us]
          exact ⟨hcj.symm, rfl, h.2.2.1, hv⟩
        · rw [pk_un q, pk_un q, pk_un q]
          exact h
    · rw [x_volt0 hv, m_volt0 hv, zb_s, zb_s, if_pos rfl, if_pos rfl]
      exact ⟨_, _, rfl, rfl, rfl, hI⟩
  · rw [x_code0 hR.1.2 h, m_code0 hR h, zb_s, zb_s, if_pos rfl, if_pos rfl]
    exact ⟨_, _, rfl, rfl, rfl, hI⟩
theorem j_fill (v : Int32) (f : Nat → Int32) {N : Nat} (hN : N < 100000) : f_J7_fill_53178 v f N = some (fil (fun _ => v) f N) := by
  unfold f_J7_fill_53178
  rw [zp_0 (v := (0, f)) (fun j => (nI j, fil (fun _ => v) f j)) N (t := 1) (w := (nI N, fil (fun _ => v) f N)) (by rw [fil_0]; rfl) hN (by decide)]
  · rfl
  · intro j hj
    unfold f_J7_fill_53178_L5
    simp only []
    rw [if_neg (show ¬ Int32.ofNat N ≤ nI j from nI_ge hj (by omega)), zc_nI hj (by omega), zl_e, zl_e, nI_1, nI_clamp (by omega), ← fil_s]
  · unfold f_J7_fill_53178_L5
    simp only []
    rw [if_pos (show Int32.ofNat N ≤ nI N from nI_le (Nat.le_refl _) (by omega))]
theorem sheet_or (v : Int32) : (∃ s : Nat, s < 4 ∧ v = nI s) ∨ (f_X11_isSheet v = some 0 ∧ f_X12_in v.toInt64 0 3 = some 0) := by
  rcases pk_ix v (n := 4) (by decide) with h | h | h
  · right
    refine ⟨by unfold f_X11_isSheet; rw [if_pos h], in_0l (b := 0) rfl h⟩
  · right
    have h0 : ¬ v < 0 := by
      rw [i32_le, nIt (by decide)] at h
      rw [i32_lt]
      have e0 : (0 : Int32).toInt = 0 := rfl
      omega
    refine ⟨by unfold f_X11_isSheet; rw [if_neg h0, if_pos (show (4 : Int32) ≤ v from h)], in_0h (c := 3) rfl ?_⟩
    rw [i32_le, nIt (by decide)] at h
    rw [i32_le]
    have e0 : (3 : Int32).toInt = 3 := rfl
    omega
  · exact Or.inl h
theorem x_sheet1 {s : Nat} (h : s < 4) : f_X11_isSheet (nI s) = some 1 ∧ f_X12_in (nI s).toInt64 0 3 = some 1 := by
  refine ⟨?_, in_1 (b := 0) (c := 3) rfl rfl (nI_pos (by omega)) (show nI s ≤ nI 3 from nI_le (by omega) (by decide))⟩
  unfold f_X11_isSheet
  rw [if_neg (nI_pos (by omega)), if_neg (show ¬ (4 : Int32) ≤ nI s from nI_ge (b := 4) h (by decide))]
theorem lane_or (v : Int32) : ((v = 0 ∨ v = 1 ∨ v = 2) ∧ f_X11_isLane v = some 1 ∧ f_X12_in v.toInt64 0 2 = some 1) ∨ (f_X11_isLane v = some 0 ∧ f_X12_in v.toInt64 0 2 = some 0) := by
  rcases pk_ix v (n := 3) (by decide) with h | h | ⟨j, hj, rfl⟩
  · right
    refine ⟨by unfold f_X11_isLane; rw [if_pos h], in_0l (b := 0) rfl h⟩
  · right
    have h0 : ¬ v < 0 := by
      rw [i32_le, nIt (by decide)] at h
      rw [i32_lt]
      have e0 : (0 : Int32).toInt = 0 := rfl
      omega
    refine ⟨by unfold f_X11_isLane; rw [if_neg h0, if_pos (show (3 : Int32) ≤ v from h)], in_0h (c := 2) rfl ?_⟩
    rw [i32_le, nIt (by decide)] at h
    rw [i32_le]
    have e0 : (2 : Int32).toInt = 2 := rfl
    omega
  · left
    rcases (show j = 0 ∨ j = 1 ∨ j = 2 by omega) with rfl | rfl | rfl <;> exact ⟨by decide, by decide, by decide⟩
theorem m_clear (s : Nat) (hs : s < 4) (cells : Nat → Int32) : zp (f_X12_sheet_L56 (nI s)) zF (0, cells) = some (1, (nI 64, fb_put cells (fun _ => 0) (64 * s) 64)) := by
  rw [zp_0 (v := (0, cells)) (fun j => (nI j, fb_put cells (fun _ => 0) (64 * s) j)) 64 (t := 1) (w := (nI 64, fb_put cells (fun _ => 0) (64 * s) 64)) (by rw [fb_put_0]; rfl) (by omega) (by decide)]
  · intro j hj
    unfold f_X12_sheet_L56
    simp only []
    rw [if_neg (show ¬ (64 : Int32) ≤ nI j from nI_ge (b := 64) hj (by decide)), show (64 : Int32) * nI s + nI j = nI (64 * s + j) from by rw [show (64 : Int32) = nI 64 from rfl, pk_mul, nI_add], zc_nI (by omega) (by decide), zl_e, zl_e, nI_1, nI_clamp (by omega), ← fb_put_succ]
  · unfold f_X12_sheet_L56
    simp only []
    rw [if_pos (show (64 : Int32) ≤ nI 64 by decide)]
theorem HI_new {s : Nat} {lane size : Int32} {cells lanes lengths mcells : Nat → Int32} (hl : lane = 0 ∨ lane = 1 ∨ lane = 2) {k : Nat} (hk : k ≤ 64) (he : size = nI k) : HI lane size (fil (fun _ => 0) cells 64) s (upd lanes s lane) (upd lengths s size) (fb_put mcells (fun _ => 0) (64 * s) 64) := by
  refine ⟨Or.inr ⟨k, hk, he, by rw [pk_us]; exact he, by rw [pk_us], hl⟩, fun i hi => ?_⟩
  rw [fil_in hi, fb_put_in (by omega) (by omega)]
theorem HI_old {s t : Nat} {lane size l2 s2 : Int32} {cells lanes lengths mcells : Nat → Int32} (hst : t ≠ s) (h : HI lane size cells t lanes lengths mcells) : HI lane size cells t (upd lanes s l2) (upd lengths s s2) (fb_put mcells (fun _ => 0) (64 * s) 64) := by
  refine ⟨?_, fun i hi => ?_⟩
  · rw [pk_un hst, pk_un hst]; exact h.1
  · rw [fb_put_out (by omega)]; exact h.2 i hi
set_option maxHeartbeats 8000000 in
theorem Inv_sheet {x : TX} {y : TM} (hI : Inv x y) {r1 r2 l0 s0 l1 s1 l2 s2 l3 s3 : Int32} {c0 c1 c2 c3 la le ce : Nat → Int32} (h0 : HI l0 s0 c0 0 la le ce) (h1 : HI l1 s1 c1 1 la le ce) (h2 : HI l2 s2 c2 2 la le ce) (h3 : HI l3 s3 c3 3 la le ce) : Inv (xu_sheet x (r1, l0, s0, c0, l1, s1, c1, l2, s2, c2, l3, s3, c3)) (mu_sheet y (r2, la, le, ce)) := by
  obtain ⟨n, hb, hR, ho, hT, hf, hS, hM, -, -, -, -, hK⟩ := id hI
  exact ⟨n, hb, hR, ho, hT, hf, hS, hM, h0, h1, h2, h3, hK⟩
theorem st_sheet : ST_sheet Inv := by
  intro x y hI v1 v2 v3
  obtain ⟨n, hb, hR, ho, hT, hf, hS, hM, h0, h1, h2, h3, hK⟩ := id hI
  unfold f_X11_sheet f_X12_sheet
  rcases sheet_or v1 with ⟨s, hs, rfl⟩ | ⟨e1, e2⟩
  · rw [(x_sheet1 hs).1, (x_sheet1 hs).2, zb_s, zb_s, if_neg n10, if_neg n10]
    rcases lane_or v2 with ⟨hl, e1, e2⟩ | ⟨e1, e2⟩
    · rw [e1, e2, zb_s, zb_s, if_neg n10, if_neg n10]
      by_cases c64 : v3 ≤ 64
      · rw [if_pos c64, if_pos c64]
        by_cases c0 : 0 ≤ v3
        · obtain ⟨k, hk, rfl⟩ := nI_of2 (x := v3) (M := 64) (n := 64) rfl ((i32_nlt _ _).mpr c0) c64
          rw [if_pos c0, if_pos c0, zc_nI hs (by decide), zc_nI hs (by decide), zl_e, zc_nI hs (by decide), zl_e, m_clear s hs, zb_s, nI_clamp (by omega)]
          have rn : ∀ cells, f_X6_renew v2 (nI k) cells = some (v2, nI k, fil (fun _ => 0) cells 64) := by
            intro cells
            unfold f_X6_renew
            rw [j_fill _ _ (by decide), zb_s]
          rw [rn, rn, rn, rn, zb_s, zb_s, zb_s, zb_s]
          rcases (show s = 0 ∨ s = 1 ∨ s = 2 ∨ s = 3 by omega) with rfl | rfl | rfl | rfl
          · rw [if_pos (show nI 0 = (0 : Int32) from rfl)]
            have q0 : HI v2 (nI k) (fil (fun _ => 0) (X_sheet0_cells x) 64) 0 (upd (M_lanes y) 0 v2) (upd (M_lengths y) 0 (nI k)) (fb_put (M_cells y) (fun _ => 0) (64 * 0) 64) := HI_new hl hk rfl
            have q1 : HI (X_sheet1_lane x) (X_sheet1_size x) (X_sheet1_cells x) 1 (upd (M_lanes y) 0 v2) (upd (M_lengths y) 0 (nI k)) (fb_put (M_cells y) (fun _ => 0) (64 * 0) 64) := HI_old (by decide) h1
            have q2 : HI (X_sheet2_lane x) (X_sheet2_size x) (X_sheet2_cells x) 2 (upd (M_lanes y) 0 v2) (upd (M_lengths y) 0 (nI k)) (fb_put (M_cells y) (fun _ => 0) (64 * 0) 64) := HI_old (by decide) h2
            have q3 : HI (X_sheet3_lane x) (X_sheet3_size x) (X_sheet3_cells x) 3 (upd (M_lanes y) 0 v2) (upd (M_lengths y) 0 (nI k)) (fb_put (M_cells y) (fun _ => 0) (64 * 0) 64) := HI_old (by decide) h3
            exact ⟨_, _, rfl, rfl, rfl, Inv_sheet hI q0 q1 q2 q3⟩
          · rw [if_neg (show ¬ nI 1 = (0 : Int32) by decide), if_pos (show nI 1 = (1 : Int32) from rfl)]
            have q0 : HI (X_sheet0_lane x) (X_sheet0_size x) (X_sheet0_cells x) 0 (upd (M_lanes y) 1 v2) (upd (M_lengths y) 1 (nI k)) (fb_put (M_cells y) (fun _ => 0) (64 * 1) 64) := HI_old (by decide) h0
            have q1 : HI v2 (nI k) (fil (fun _ => 0) (X_sheet1_cells x) 64) 1 (upd (M_lanes y) 1 v2) (upd (M_lengths y) 1 (nI k)) (fb_put (M_cells y) (fun _ => 0) (64 * 1) 64) := HI_new hl hk rfl
            have q2 : HI (X_sheet2_lane x) (X_sheet2_size x) (X_sheet2_cells x) 2 (upd (M_lanes y) 1 v2) (upd (M_lengths y) 1 (nI k)) (fb_put (M_cells y) (fun _ => 0) (64 * 1) 64) := HI_old (by decide) h2
            have q3 : HI (X_sheet3_lane x) (X_sheet3_size x) (X_sheet3_cells x) 3 (upd (M_lanes y) 1 v2) (upd (M_lengths y) 1 (nI k)) (fb_put (M_cells y) (fun _ => 0) (64 * 1) 64) := HI_old (by decide) h3
            exact ⟨_, _, rfl, rfl, rfl, Inv_sheet hI q0 q1 q2 q3⟩
          · rw [if_neg (show ¬ nI 2 = (0 : Int32) by decide), if_neg (show ¬ nI 2 = (1 : Int32) by decide), if_pos (show nI 2 = (2 : Int32) from rfl)]
            have q0 : HI (X_sheet0_lane x) (X_sheet0_size x) (X_sheet0_cells x) 0 (upd (M_lanes y) 2 v2) (upd (M_lengths y) 2 (nI k)) (fb_put (M_cells y) (fun _ => 0) (64 * 2) 64) := HI_old (by decide) h0
            have q1 : HI (X_sheet1_lane x) (X_sheet1_size x) (X_sheet1_cells x) 1 (upd (M_lanes y) 2 v2) (upd (M_lengths y) 2 (nI k)) (fb_put (M_cells y) (fun _ => 0) (64 * 2) 64) := HI_old (by decide) h1
            have q2 : HI v2 (nI k) (fil (fun _ => 0) (X_sheet2_cells x) 64) 2 (upd (M_lanes y) 2 v2) (upd (M_lengths y) 2 (nI k)) (fb_put (M_cells y) (fun _ => 0) (64 * 2) 64) := HI_new hl hk rfl
            have q3 : HI (X_sheet3_lane x) (X_sheet3_size x) (X_sheet3_cells x) 3 (upd (M_lanes y) 2 v2) (upd (M_lengths y) 2 (nI k)) (fb_put (M_cells y) (fun _ => 0) (64 * 2) 64) := HI_old (by decide) h3
            exact ⟨_, _, rfl, rfl, rfl, Inv_sheet hI q0 q1 q2 q3⟩
          · rw [if_neg (show ¬ nI 3 = (0 : Int32) by decide), if_neg (show ¬ nI 3 = (1 : Int32) by decide), if_neg (show ¬ nI 3 = (2 : Int32) by decide)]
            have q0 : HI (X_sheet0_lane x) (X_sheet0_size x) (X_sheet0_cells x) 0 (upd (M_lanes y) 3 v2) (upd (M_lengths y) 3 (nI k)) (fb_put (M_cells y) (fun _ => 0) (64 * 3) 64) := HI_old (by decide) h0
            have q1 : HI (X_sheet1_lane x) (X_sheet1_size x) (X_sheet1_cells x) 1 (upd (M_lanes y) 3 v2) (upd (M_lengths y) 3 (nI k)) (fb_put (M_cells y) (fun _ => 0) (64 * 3) 64) := HI_old (by decide) h1
            have q2 : HI (X_sheet2_lane x) (X_sheet2_size x) (X_sheet2_cells x) 2 (upd (M_lanes y) 3 v2) (upd (M_lengths y) 3 (nI k)) (fb_put (M_cells y) (fun _ => 0) (64 * 3) 64) := HI_old (by decide) h2
            have q3 : HI v2 (nI k) (fil (fun _ => 0) (X_sheet3_cells x) 64) 3 (upd (M_lanes y) 3 v2) (upd (M_lengths y) 3 (nI k)) (fb_put (M_cells y) (fun _ => 0) (64 * 3) 64) := HI_new hl hk rfl
            exact ⟨_, _, rfl, rfl, rfl, Inv_sheet hI q0 q1 q2 q3⟩
        · rw [if_neg c0, if_neg c0]
          exact ⟨_, _, rfl, rfl, rfl, hI⟩
      · rw [if_neg c64, if_neg c64]
        exact ⟨_, _, rfl, rfl, rfl, hI⟩
    · rw [e1, e2, zb_s, zb_s, if_pos rfl, if_pos rfl]
      exact ⟨_, _, rfl, rfl, rfl, hI⟩
  · rw [e1, e2, zb_s, zb_s, if_pos rfl, if_pos rfl]
    exact ⟨_, _, rfl, rfl, rfl, hI⟩
