/-! adopt: what changes -/
section
variable {n : Nat} {unit off top lean ref : Int32} {misses resistors holds : Nat → Int32} {e : Int64} {g rows : Nat → Int64}
theorem RI_2 (h : RI n unit off top lean ref misses resistors holds) {v : Int32} (h1 : -999 ≤ v.toInt) (h2 : v.toInt ≤ 999) : RI n unit v top lean ref misses resistors (upd holds 2 v) := by
  obtain ⟨hn, r0, r1, r2, r3, r4, r5, r6, r7, rt, ru, ro, rl, rr, rm, rz, rn⟩ := h
  refine ⟨hn, ?_, ?_, ud_s _ _ _, ?_, ?_, ?_, fun i hi => ?_, fun i hi => ?_, rt, ru, ⟨h1, h2⟩, rl, rr, rm, rz, rn⟩
  · rw [ud_n _ _ (by omega)]; exact r0
  · rw [ud_n _ _ (by omega)]; exact r1
  · rw [ud_n _ _ (by omega)]; exact r3
  · rw [ud_n _ _ (by omega)]; exact r4
  · rw [ud_n _ _ (by omega)]; exact r5
  · rw [ud_n _ _ (by omega)]; exact r6 i hi
  · rw [ud_n _ _ (by omega)]; exact r7 i hi
theorem RI_m (h : RI n unit off top lean ref misses resistors holds) {j : Nat} (hj : j < 9) {v : Int32} (h1 : -999 ≤ v.toInt) (h2 : v.toInt ≤ 999) : RI n unit off top lean ref (upd misses j v) resistors (upd holds (6 + j) v) := by
  obtain ⟨hn, r0, r1, r2, r3, r4, r5, r6, r7, rt, ru, ro, rl, rr, rm, rz, rn⟩ := h
  refine ⟨hn, ?_, ?_, ?_, ?_, ?_, ?_, fun i hi => ?_, fun i hi => ?_, rt, ru, ro, rl, rr, fun i hi => ?_, rz, rn⟩
  · rw [ud_n _ _ (by omega)]; exact r0
  · rw [ud_n _ _ (by omega)]; exact r1
  · rw [ud_n _ _ (by omega)]; exact r2
  · rw [ud_n _ _ (by omega)]; exact r3
  · rw [ud_n _ _ (by omega)]; exact r4
  · rw [ud_n _ _ (by omega)]; exact r5
  · by_cases c : i = j
    · subst c; rw [ud_s, ud_s]
    · rw [ud_n _ _ (by omega), ud_n _ _ c]; exact r6 i hi
  · rw [ud_n _ _ (by omega)]; exact r7 i hi
  · by_cases c : i = j
    · subst c; rw [ud_s]; exact ⟨h1, h2⟩
    · rw [ud_n _ _ c]; exact rm i hi
theorem nr_32 {u i : Nat} (h : SV u e g rows i) (ok : OKI n unit top e.toInt (g (11 * i + u)).toInt i) : -999 ≤ (nrL n unit top e g u i).toInt32.toInt ∧ (nrL n unit top e g u i).toInt32.toInt ≤ 999 ∧ (nrL n unit top e g u i).toInt32.toInt = (nrL n unit top e g u i).toInt := by
  have e1 := nr_t (n := n) (unit := unit) (top := top) h ok.1
  have e2 := sm32 (z := nrL n unit top e g u i) (by rw [e1]; have := ok.2.2.1; omega) (by rw [e1]; have := ok.2.2.2; omega)
  rw [e2, e1]
  exact ⟨ok.2.2.1, ok.2.2.2, rfl⟩
theorem num_q {u i : Nat} (h : SV u e g rows i) {num : Int64} (ok : e.toInt ∣ (g (11 * i + u)).toInt) (hn : num.toInt = (g (11 * i + u)).toInt / e.toInt) : num = g (11 * i + u) / e := by
  apply Int64.toInt_inj.mp
  rw [hn, (q_t h ok).1]
theorem misses_both (hR : RI n unit off top lean ref misses resistors holds) (hs : ∀ i, i < npt n top + 1 → SV (npt n top + 1) e g rows i) (he : e.toInt ≠ 0) (ok : ∀ i, i < npt n top + 1 → OKI n unit top e.toInt (g (11 * i + (npt n top + 1))).toInt i) (k0 : Int32) : ∃ cnt ms hs' a b, zp (f_X3_adoptAll_L33 (nI (npt n top + 1)) e (nI n) unit top g) zF (k0, 0, misses) = some (1, (cnt, a, ms)) ∧ zp (f_X12_adopt_L169 rows) zF (k0, 0, holds) = some (1, (cnt, b, hs')) ∧ RI n unit off top lean ref ms resistors hs' := by
  have h9 : npt n top ≤ 9 := npt_le hR.1.2
  obtain ⟨a, b, ea, eb, cnt, ms, hs', x, y, rfl, rfl, hq⟩ := zp_r (f := f_X3_adoptAll_L33 (nI (npt n top + 1)) e (nI n) unit top g) (g := f_X12_adopt_L169 rows) (s := (k0, (0 : Int32), misses)) (t := (k0, (0 : Int32), holds)) (fun j w w' => ∃ cnt ms hs', w = (cnt, nI j, ms) ∧ w' = (cnt, nI j, hs') ∧ RI n unit off top lean ref ms resistors hs') (fun a b => ∃ cnt ms hs' x y, a = (1, (cnt, x, ms)) ∧ b = (1, (cnt, y, hs')) ∧ RI n unit off top lean ref ms resistors hs') (npt n top) (by omega) ⟨k0, misses, holds, rfl, rfl, hR⟩ (by
    rintro j w w' hj ⟨cnt, ms, hs', rfl, rfl, hRI⟩
    unfold f_X3_adoptAll_L33 f_X12_adopt_L169 f_X3_adoptAll_J69_33 f_X12_adopt_J218_169
    simp only []
    rw [m_parts hRI, zb_s, nI_m1 (by omega), Nat.add_sub_cancel]
    by_cases cj : j = npt n top
    · right
      rw [if_pos (nI_le (by omega) (by omega)), if_pos (nI_le (by omega) (by omega))]
      exact ⟨_, _, rfl, rfl, (by decide : ¬ (1 : Nat) = 0), (by decide : ¬ (1 : Nat) = 0), cnt, ms, hs', _, _, rfl, rfl, hRI⟩
    · left
      have hsv := hs (j + 1) (by omega)
      have okj := ok (j + 1) (by omega)
      obtain ⟨num, den, -, p2, p3, p4⟩ := val_both (by omega) hsv
      have en := num_q hsv okj.1 (p4 (p3.mpr okj.1))
      obtain ⟨b1, b2, -⟩ := nr_32 hsv okj
      have ev : (nrL n unit top e g (npt n top + 1) (j + 1)).toInt32 = num.toInt32 - evw (nI n) unit top (nI j) := by
        unfold nrL
        rw [if_neg (by omega), Nat.add_sub_cancel, Int64.toInt32_sub, Int32.toInt32_toInt64, ← en]
      refine ⟨by omega, ?_⟩
      rw [if_neg (nI_ge (by omega) (by omega)), if_neg (nI_ge (by omega) (by omega)), show (1 : Int32) + nI j = nI (j + 1) by rw [show (1 : Int32) = nI 1 from rfl, nI_add, Nat.add_comm], x_newRule (by omega) (by omega) he, zb_s, zl_e, x_miss (by omega) h9, zb_s, nI_1, p2, zb_s, if_pos rfl, m_nominal hRI, zb_s, zl_e, zl_e, ← ev, show (6 : Int32) + nI j = nI (6 + j) from nI_add 6 j, zc_nI (by omega) (by decide), nI_clamp (by omega), hRI.2.2.2.2.2.2.2.1 j (by omega)]
      have hpm : f_X5_putMiss (nI j) (nrL n unit top e g (npt n top + 1) (j + 1)).toInt32 ms = some (upd ms j (nrL n unit top e g (npt n top + 1) (j + 1)).toInt32) := by
        unfold f_X5_putMiss
        rw [if_neg (nI_pos (by omega)), if_neg (show ¬ (9 : Int32) ≤ nI j from nI_ge (b := 9) (by omega) (by decide)), zc_nI (by omega) (by decide), zl_e, nI_clamp (by omega)]
      by_cases cq : (nrL n unit top e g (npt n top + 1) (j + 1)).toInt32 = ms j
      · rw [if_pos cq, if_pos cq.symm, hpm, zb_s]
        simp only [zl_e]
        rw [zc_nI (by omega) (by decide), Int32.add_zero]
        exact ⟨_, _, rfl, rfl, _, _, _, rfl, rfl, RI_m hRI (by omega) b1 b2⟩
      · rw [if_neg cq, if_neg (fun hh => cq hh.symm), hpm, zb_s]
        simp only [zl_e]
        rw [zc_nI (by omega) (by decide)]
        exact ⟨_, _, rfl, rfl, _, _, _, rfl, rfl, RI_m hRI (by omega) b1 b2⟩)
  exact ⟨cnt, ms, hs', x, y, ea, eb, hq⟩
theorem all_both (hR : RI n unit off top lean ref misses resistors holds) (hs : ∀ i, i < npt n top + 1 → SV (npt n top + 1) e g rows i) (he : e.toInt ≠ 0) (ok : ∀ i, i < npt n top + 1 → OKI n unit top e.toInt (g (11 * i + (npt n top + 1))).toInt i) (rk : Int32) : ∃ cnt off' ms hs', f_X3_adoptAll (nI (npt n top + 1)) e (nI n) unit off top misses g = some (cnt, off', ms) ∧ f_X12_adopt_J123 1 rk holds rows = some (cnt, rk, hs', rows) ∧ RI n unit off' top lean ref ms resistors hs' := by
  have h9 : npt n top ≤ 9 := npt_le hR.1.2
  have hsv := hs 0 (by omega)
  have ok0 := ok 0 (by omega)
  obtain ⟨num, den, -, p2, p3, p4⟩ := val_both (by omega) hsv
  have en := num_q hsv ok0.1 (p4 (p3.mpr ok0.1))
  obtain ⟨b1, b2, b3⟩ := nr_32 hsv ok0
  have e0 : nrL n unit top e g (npt n top + 1) 0 = num := by
    unfold nrL
    rw [if_pos rfl, en]
  rw [e0] at b1 b2 b3
  have p20 : f_X12_solved 0 0 rows = some num := by
    have := p2 0
    rw [if_pos rfl] at this
    exact this
  unfold f_X3_adoptAll f_X12_adopt_J123
  rw [show f_X3_newRule 0 (nI (npt n top + 1)) e (nI n) unit top g = _ from x_newRule (i := 0) (by decide) (by omega) he, zb_s, zl_e, e0, if_neg n10, zc_l rfl, p20, zb_s, cl2, hR.2.2.2.1]
  have hR' := RI_2 hR b1 b2
  have key : lg_cmp off.toInt64 num = 0 ↔ num.toInt32 = off := by
    rw [lg_eq]
    constructor
    · intro h; rw [← h, Int32.toInt32_toInt64]
    · intro h
      apply Int64.toInt_inj.mp
      rw [w64, ← h, b3]
  by_cases c : num.toInt32 = off
  · obtain ⟨cnt, ms, hs', a, b, f1, f2, f3⟩ := misses_both hR' hs he ok 0
    rw [if_pos c, if_pos (key.mpr c)]
    unfold f_X3_adoptAll_J23 f_X12_adopt_J152
    rw [f1, zb_s, p20, zb_s, zl_e, zc_l rfl, zl_e, cl2, f2, zb_s]
    exact ⟨_, _, _, _, rfl, rfl, f3⟩
  · obtain ⟨cnt, ms, hs', a, b, f1, f2, f3⟩ := misses_both hR' hs he ok 1
    rw [if_neg c, if_neg (fun hh => c (key.mp hh)), zl_e, show (0 : Int32) + 1 = 1 from rfl]
    unfold f_X3_adoptAll_J23 f_X12_adopt_J152
    rw [f1, zb_s, p20, zb_s, zl_e, zc_l rfl, zl_e, cl2, f2, zb_s]
    exact ⟨_, _, _, _, rfl, rfl, f3⟩
end
set_option maxHeartbeats 4000000 in
theorem st_adopt : ST_adopt Inv := by
  intro x y hI
  obtain ⟨n, hb, hR, ho, hT, hF, hS, hM, s0, s1, s2, s3, hK, hz⟩ := id hI
  rw [hb]
  have h9 : npt n (X_rules_top x) ≤ 9 := npt_le hR.1.2
  have hn8 := hR.1.2
  obtain ⟨v, rk, e, g', rows', e1, e2, hv, hs⟩ := solve_both hR hM (X_measures_grid x) (M_rows y)
  unfold f_X11_adopt f_X12_adopt
  rw [e1, zb_s, e2, zb_s]
  simp only []
  by_cases cv : v = 0
  · have hsv := hs cv
    have he : e.toInt ≠ 0 := (hsv 0 (by omega)).choose_spec.2.2.2.1
    rw [if_pos cv, if_pos cv]
    obtain ⟨num, den, -, p2, p3, p4⟩ := val_both (by omega) (hsv 0 (by omega))
    have p20 : f_X12_solved 0 0 rows' = some num := by
      have := p2 0
      rw [if_pos rfl] at this
      exact this
    have p21 : f_X12_solved 0 1 rows' = some den := by
      have := p2 1
      rw [if_neg n10] at this
      exact this
    have flag : ∃ k0, (zb (f_X12_solved 0 1 rows') fun z14 => if lg_cmp z14 1 = 0 then zb (f_X12_solved 0 0 rows') fun z25 => zb (f_X12_in z25 (-999) 999) fun z34 => if z34 = 0 then f_X12_adopt_J44 rk (M_holds y) rows' else f_X12_adopt_J45 1 rk (M_holds y) rows' else f_X12_adopt_J44 rk (M_holds y) rows') = f_X12_adopt_J45 k0 rk (M_holds y) rows' ∧ ((k0 = 1 ∧ OKI n (X_rules_unit x) (X_rules_top x) e.toInt (g' (11 * 0 + (npt n (X_rules_top x) + 1))).toInt 0) ∨ (k0 = 0 ∧ ¬ OKI n (X_rules_unit x) (X_rules_top x) e.toInt (g' (11 * 0 + (npt n (X_rules_top x) + 1))).toInt 0)) := by
      have l9 : (-999 : Int64).toInt = -999 := by decide
      have h9' : (999 : Int64).toInt = 999 := by decide
      unfold f_X12_adopt_J44
      rw [p21, zb_s, p20, zb_s, f_in, zb_s]
      by_cases cd : den = 1
      · have hd := p3.mp cd
        have en := p4 cd
        rw [if_pos ((lg_eq _ _).mpr cd)]
        by_cases cb : (-999 : Int64) ≤ num ∧ num ≤ 999
        · rw [if_pos cb, if_neg n10]
          rw [i64_le, i64_le, l9, h9', en] at cb
          exact ⟨1, rfl, Or.inl ⟨rfl, hd, Or.inl rfl, by unfold evI; rw [if_pos rfl, Int.sub_zero]; exact cb⟩⟩
        · rw [if_neg cb, if_pos rfl]
          rw [i64_le, i64_le, l9, h9', en] at cb
          refine ⟨0, rfl, Or.inr ⟨rfl, fun hh => cb ?_⟩⟩
          have := hh.2.2
          unfold evI at this
          rw [if_pos rfl, Int.sub_zero] at this
          exact this
      · rw [if_neg (fun hh => cd ((lg_eq _ _).mp hh))]
        exact ⟨0, rfl, Or.inr ⟨rfl, fun hh => cd (p3.mpr hh.1)⟩⟩
    obtain ⟨k0, ef, hk0⟩ := flag
    rw [ef]
    unfold f_X12_adopt_J45
    obtain ⟨fl, b, ez, hfl⟩ := m_flag hR hsv k0 hk0
    rw [ez, zb_s]
    simp only []
    rcases x_can (n := n) (unit := X_rules_unit x) (top := X_rules_top x) (by omega) hsv he with ⟨ok, q⟩ | ⟨no, q⟩
    · have e1' : fl = 1 := by
        rcases hfl with ⟨q, -⟩ | ⟨-, q⟩
        · exact q
        · exact absurd ok q
      subst e1'
      obtain ⟨cnt, off', ms, hs', f1, f2, f3⟩ := all_both hR hsv he ok rk
      rw [q, zb_s, if_neg n10, f1, zb_s, f2]
      simp only []
      rw [x_reckon hn8 h9, zb_s]
      exact ⟨_, _, rfl, rfl, rfl, n, hb, f3, fun c hc => fil_in hc, hT, hF, hS, hM, s0, s1, s2, s3, hK, hz⟩
    · have e1' : fl = 0 := by
        rcases hfl with ⟨-, q⟩ | ⟨q, -⟩
        · exact absurd q no
        · exact q
      subst e1'
      unfold f_X12_adopt_J123
      rw [q, zb_s, if_pos rfl, if_pos rfl]
      exact ⟨_, _, rfl, rfl, rfl, n, hb, hR, ho, hT, hF, hS, hM, s0, s1, s2, s3, hK, hz⟩
  · rw [if_neg cv, if_neg cv]
    exact ⟨_, _, rfl, rfl, rfl, n, hb, hR, ho, hT, hF, hS, hM, s0, s1, s2, s3, hK, hz⟩
