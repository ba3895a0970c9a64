/-! reckon -/
section
variable {n : Nat} {unit off top lean ref : Int32} {misses resistors holds : Nat → Int32} {size meas : Int32} {codes volts mc mv : Nat → Int32}
theorem reck_both (hR : RI n unit off top lean ref misses resistors holds) (hM : MI n size codes volts meas mc mv) (v1 v3 : Int32) (fn fd : Int64) (g rows : Nat → Int64) {i : Nat} (hi : i < npt n top + 1)
    (hx : ∀ un dv gr, (if (1 : Int32) < v1 then (if v3 = 0 then f_X11_reckon_J123 v3 30 v1 un dv gr else f_X11_reckon_J123 v3 10 v1 un dv gr) else f_X11_reckon_J126 v3 0 un dv gr) = f_X11_reckon_J126 v3 (nI i) un dv gr)
    (hm : ∀ (rk : Int32) rw', (if (2 : Int32) ≤ v1 then (if (30 : Int32) ≤ v1 then zb (f_X12_solved (v1 - 29) 1 rw') fun z105 => some (z105, rk, rw') else zb (f_X12_solved (v1 - 9) 0 rw') fun z93 => some (z93, rk, rw')) else zb (f_X12_solved 0 v1 rw') fun z75 => some (z75, rk, rw')) = zb (f_X12_solved (nI i) (if v3 = 0 then 1 else 0) rw') fun z => some (z, rk, rw')) :
    ∃ zx zm, f_X11_reckon_J71 v1 v3 (nI n) top fn fd size codes volts g = some zx ∧ f_X12_reckon_J51 v1 meas holds mc mv rows = some zm ∧ zx.1 = zm.1 := by
  have h9 : npt n top ≤ 9 := npt_le hR.1.2
  obtain ⟨v, rk, e, g', rows', e1, e2, hv, hs⟩ := solve_both hR hM g rows
  unfold f_X11_reckon_J71 f_X12_reckon_J51
  rw [e1, zb_s, e2, zb_s]
  simp only []
  rcases hv with rfl | rfl | rfl
  · rw [if_neg (show ¬ (0 : Int32) = -2 by decide), if_neg (show ¬ (0 : Int32) = -4 by decide), hx]
    obtain ⟨num, den, p1, p2, -, -⟩ := val_both (by omega) (hs rfl i hi)
    have hm' := hm rk rows'
    simp only [] at hm'
    first
      | rw [if_pos rfl]
      | rw [if_pos trivial]
    rw [hm']
    unfold f_X11_reckon_J126 f_X11_reckon_J164
    rw [x_solved (by omega) (by omega), zb_s, p1, zb_s, p2, zb_s]
    by_cases c : v3 = 0
    · rw [if_pos c, if_pos c, x_side, zb_s]
      exact ⟨_, _, rfl, rfl, rfl⟩
    · rw [if_neg c, if_neg c, x_side, zb_s]
      exact ⟨_, _, rfl, rfl, rfl⟩
  · rw [if_neg (show ¬ (-4 : Int32) = -2 by decide), if_pos (by first | rfl | trivial), if_neg (show ¬ (-4 : Int32) = 0 by decide)]
    exact ⟨_, _, rfl, rfl, (by decide : (-10000000004 : Int64) = -10000000000 + (-4 : Int32).toInt64)⟩
  · rw [if_pos (by first | rfl | trivial), if_neg (show ¬ (-2 : Int32) = 0 by decide)]
    exact ⟨_, _, rfl, rfl, (by decide : (-10000000002 : Int64) = -10000000000 + (-2 : Int32).toInt64)⟩
end
theorem reck_in {v a p : Int32} {A P : Nat} (ha : a = nI A) (hp : p = nI P) (hA : A + P < 2 ^ 31) : (∃ j, j < P ∧ v = nI (A + j)) ∨ (v < a ∨ a + p ≤ v) := by
  subst ha hp
  rw [nI_add]
  rcases pk_ix v (n := A + P) (by omega) with h | h | ⟨j, hj, rfl⟩
  · right; left
    rw [i32_lt] at h ⊢
    rw [nIt (by omega)]
    have : (0 : Int32).toInt = 0 := rfl
    omega
  · right; right; exact h
  · rcases Nat.lt_or_ge j A with c | c
    · right; left; exact nI_lt c (by omega)
    · left; exact ⟨j - A, by omega, by rw [Nat.add_sub_cancel' c]⟩
theorem st_reckon : ST_reckon Inv := by
  intro x y hI v1
  obtain ⟨n, hb, hR, ho, hT, hF, hS, hM, s0, s1, s2, s3, hK, hz⟩ := id hI
  suffices H : ∃ zx zm, f_X11_reckon v1 (X_rules_bits x) (X_rules_top x) (X_fraction_numerator x) (X_fraction_denominator x) (X_measures_unknowns x) (X_measures_size x) (X_measures_divisor x) (X_measures_codes x) (X_measures_volts x) (X_measures_grid x) = some zx ∧ f_X12_reckon v1 (M_measured y) (M_ranked y) (M_holds y) (M_measuredCode y) (M_measuredVolt y) (M_rows y) = some zm ∧ zx.1 = zm.1 by
    obtain ⟨zx, zm, e1, e2, e3⟩ := H
    exact ⟨zx, zm, e1, e2, e3, n, hb, hR, ho, hT, hF, hS, hM, s0, s1, s2, s3, hK, hz⟩
  rw [hb]
  have h9 : npt n (X_rules_top x) ≤ 9 := npt_le hR.1.2
  have hmp := m_parts hR
  unfold f_X11_reckon
  rw [x_parts, zb_s]
  unfold f_X11_reckon_J26 f_X11_reckon_J30 f_X11_reckon_J31 f_X11_reckon_J51 f_X11_reckon_J55 f_X11_reckon_J56
  generalize hp : npt n (X_rules_top x) = p at *
  have e9 : (9 : Int32) + nI p = nI (9 + p) := nI_add 9 p
  have e29 : (29 : Int32) + nI p = nI (29 + p) := nI_add 29 p
  have e10 : (10 : Int32) + nI p = nI (10 + p) := nI_add 10 p
  have e30 : (30 : Int32) + nI p = nI (30 + p) := nI_add 30 p
  have mref : f_X12_reckon v1 (M_measured y) (M_ranked y) (M_holds y) (M_measuredCode y) (M_measuredVolt y) (M_rows y) = if (0 ≤ v1 ∧ v1 ≤ 1) ∨ ((10 : Int32) ≤ v1 ∧ v1 ≤ nI (9 + p)) ∨ ((30 : Int32) ≤ v1 ∧ v1 ≤ nI (29 + p)) then f_X12_reckon_J51 v1 (M_measured y) (M_holds y) (M_measuredCode y) (M_measuredVolt y) (M_rows y) else some (-10000000000, M_ranked y, M_rows y) := by
    unfold f_X12_reckon
    rw [hmp, zb_s, f_inI v1 0 1 0 1 rfl rfl, zb_s, f_inI v1 10 ((9 : Int32) + nI p) 10 _ rfl rfl, f_inI v1 30 ((29 : Int32) + nI p) 30 _ rfl rfl, e9, e29]
    by_cases a : 0 ≤ v1 ∧ v1 ≤ 1
    · rw [if_pos a, if_neg n10, if_pos (Or.inl a)]
    · rw [if_neg a, if_pos rfl, zb_s]
      by_cases b : (10 : Int32) ≤ v1 ∧ v1 ≤ nI (9 + p)
      · rw [if_pos b, if_neg n10, if_pos (Or.inr (Or.inl b))]
      · rw [if_neg b, if_pos rfl, zb_s]
        by_cases c : (30 : Int32) ≤ v1 ∧ v1 ≤ nI (29 + p)
        · rw [if_pos c, if_neg n10, if_pos (Or.inr (Or.inr c))]
        · rw [if_neg c, if_pos rfl, if_neg (fun hh => hh.elim a (fun hh => hh.elim b c))]
  rw [mref, e10, e30]
  by_cases c0 : v1 = 0
  · subst c0
    rw [if_pos rfl, if_neg (show ¬ (0 : Int32) = 1 by decide), if_pos (show (0 : Int32) < 30 by decide), if_neg n10, if_pos (Or.inl (by decide))]
    refine reck_both hR hM 0 1 _ _ _ _ (i := 0) (by omega) (fun un dv gr => ?_) (fun rk rw' => ?_)
    · rw [if_neg (by decide)]; rfl
    · rw [if_neg (show ¬ (2 : Int32) ≤ 0 by decide), if_neg n10]; rfl
  · by_cases c1 : v1 = 1
    · subst c1
      rw [if_neg n10, if_pos (show (1 : Int32) < 10 by decide), if_pos rfl, if_pos rfl, if_neg n10, if_pos (Or.inl (by decide))]
      refine reck_both hR hM 1 0 _ _ _ _ (i := 0) (by omega) (fun un dv gr => ?_) (fun rk rw' => ?_)
      · rw [if_neg (by decide)]; rfl
      · rw [if_neg (show ¬ (2 : Int32) ≤ 1 by decide), if_pos rfl]; rfl
    · have n01 : ¬ ((0 : Int32) ≤ v1 ∧ v1 ≤ 1) := by
        intro h
        obtain ⟨j, hj, rfl⟩ := nI_of2 (M := 1) (n := 1) rfl ((i32_nlt _ _).mpr h.1) h.2
        rcases (show j = 0 ∨ j = 1 by omega) with rfl | rfl
        · exact c0 rfl
        · exact c1 rfl
      rw [if_neg c0, if_neg c1]
      rcases reck_in (v := v1) (a := 10) (p := nI p) (A := 10) (P := p) rfl rfl (by omega) with ⟨j, hj, rfl⟩ | h10
      · rw [if_neg (show ¬ nI (10 + j) < (10 : Int32) from nI_nlt (b := 10) (by omega) (by omega)), if_neg (show ¬ nI (10 + p) ≤ nI (10 + j) from nI_ge (by omega) (by omega)), if_pos (show nI (10 + j) < (30 : Int32) from nI_lt (b := 30) (by omega) (by decide)), if_neg n10, if_pos (Or.inr (Or.inl ⟨show (10 : Int32) ≤ nI (10 + j) from nI_le (a := 10) (by omega) (by omega), nI_le (by omega) (by omega)⟩))]
        rw [if_neg c1, if_neg n10]
        refine reck_both hR hM (nI (10 + j)) 1 _ _ _ _ (i := j + 1) (by omega) (fun un dv gr => ?_) (fun rk rw' => ?_)
        · rw [if_pos (show (1 : Int32) < nI (10 + j) from nI_lt (a := 1) (by omega) (by omega)), if_neg n10]
          unfold f_X11_reckon_J123
          rw [show nI (10 + j) - (10 : Int32) = nI j from (pk_sub (b := 10) (by omega)).trans (by rw [Nat.add_sub_cancel_left]), nI_1]
        · rw [if_pos (show (2 : Int32) ≤ nI (10 + j) from nI_le (a := 2) (by omega) (by omega)), if_neg (show ¬ (30 : Int32) ≤ nI (10 + j) from nI_ge (b := 30) (by omega) (by decide)), if_neg n10, show nI (10 + j) - (9 : Int32) = nI (j + 1) from (pk_sub (b := 9) (by omega)).trans (by congr 1; omega)]
      · have k10 : ∀ α : Type, ∀ (X Y : α), (if v1 < (10 : Int32) then X else if nI (10 + p) ≤ v1 then X else Y) = X := by
          intro α X Y
          rcases h10 with h | h
          · rw [if_pos h]
          · rw [e10] at h
            by_cases q : v1 < 10
            · rw [if_pos q]
            · rw [if_neg q, if_pos h]
        have m10 : ¬ ((10 : Int32) ≤ v1 ∧ v1 ≤ nI (9 + p)) := by
          rintro ⟨a, b⟩
          rw [i32_le] at a b
          rw [nIt (by omega)] at b
          have e : (10 : Int32).toInt = 10 := rfl
          rcases h10 with h | h
          · rw [i32_lt] at h; omega
          · rw [e10, i32_le, nIt (by omega)] at h; omega
        rw [k10]
        rcases reck_in (v := v1) (a := 30) (p := nI p) (A := 30) (P := p) rfl rfl (by omega) with ⟨j, hj, rfl⟩ | h30
        · rw [if_neg (show ¬ nI (30 + j) < (30 : Int32) from nI_nlt (b := 30) (by omega) (by omega)), if_neg (nI_ge (by omega) (by omega)), if_pos rfl, if_neg n10, if_pos (Or.inr (Or.inr ⟨show (30 : Int32) ≤ nI (30 + j) from nI_le (a := 30) (by omega) (by omega), nI_le (by omega) (by omega)⟩))]
          refine reck_both hR hM (nI (30 + j)) 0 _ _ _ _ (i := j + 1) (by omega) (fun un dv gr => ?_) (fun rk rw' => ?_)
          · rw [if_pos (show (1 : Int32) < nI (30 + j) from nI_lt (a := 1) (by omega) (by omega)), if_pos rfl]
            unfold f_X11_reckon_J123
            rw [show nI (30 + j) - (30 : Int32) = nI j from (pk_sub (b := 30) (by omega)).trans (by rw [Nat.add_sub_cancel_left]), nI_1]
          · rw [if_pos (show (2 : Int32) ≤ nI (30 + j) from nI_le (a := 2) (by omega) (by omega)), if_pos (show (30 : Int32) ≤ nI (30 + j) from nI_le (a := 30) (by omega) (by omega)), if_pos rfl, show nI (30 + j) - (29 : Int32) = nI (j + 1) from (pk_sub (b := 29) (by omega)).trans (by congr 1; omega)]
        · have k30 : ∀ α : Type, ∀ (X Y : α), (if v1 < (30 : Int32) then X else if nI (30 + p) ≤ v1 then X else Y) = X := by
            intro α X Y
            rcases h30 with h | h
            · rw [if_pos h]
            · rw [e30] at h
              by_cases q : v1 < 30
              · rw [if_pos q]
              · rw [if_neg q, if_pos h]
          have m30 : ¬ ((30 : Int32) ≤ v1 ∧ v1 ≤ nI (29 + p)) := by
            rintro ⟨a, b⟩
            rw [i32_le] at a b
            rw [nIt (by omega)] at b
            have e : (30 : Int32).toInt = 30 := rfl
            rcases h30 with h | h
            · rw [i32_lt] at h; omega
            · rw [e30, i32_le, nIt (by omega)] at h; omega
          rw [k30, if_pos rfl, if_pos rfl, if_neg (fun hh => hh.elim n01 (fun hh => hh.elim m10 m30))]
          exact ⟨_, _, rfl, rfl, rfl⟩
