/-! adopt -/
theorem rem_L {a b : Int64} (ha : a.toInt.natAbs < 2 ^ 62) (hb : b.toInt ≠ 0) : (a - a / b * b).toInt = a.toInt.tmod b.toInt := by
  have h0 : (a.toInt.tdiv b.toInt).natAbs ≤ a.toInt.natAbs := by
    rw [Int.natAbs_tdiv]
    exact Nat.div_le_self _ _
  have h1 : (a / b).toInt = a.toInt.tdiv b.toInt := by
    rw [Int64.toInt_div]
    exact fb_bmodL (by omega) (by omega)
  have h2 : (a.toInt.tdiv b.toInt * b.toInt).natAbs ≤ a.toInt.natAbs := by
    rw [Int.natAbs_mul, Int.natAbs_tdiv]
    exact Nat.div_mul_le_self _ _
  have h3 : (a / b * b).toInt = a.toInt.tdiv b.toInt * b.toInt := by
    rw [fb_mulL (by rw [h1]; omega) (by rw [h1]; omega), h1]
  rw [fb_subL (by rw [h3]; omega) (by rw [h3]; omega), h3, Int.tmod_def, Int.mul_comm]
theorem sm32 {z : Int64} (h1 : -2147483648 ≤ z.toInt) (h2 : z.toInt < 2147483648) : z.toInt32.toInt = z.toInt := by
  rw [Int64.toInt_toInt32]
  exact fb_bmod h1 h2
def evI (n : Nat) (unit top : Int32) (i : Nat) : Int := if i = 0 then 0 else (evw (nI n) unit top (nI (i - 1))).toInt
def OKI (n : Nat) (unit top : Int32) (E N : Int) (i : Nat) : Prop := E ∣ N ∧ (i = 0 ∨ 0 ≤ N / E) ∧ -999 ≤ N / E - evI n unit top i ∧ N / E - evI n unit top i ≤ 999
def nrL (n : Nat) (unit top : Int32) (e : Int64) (g : Nat → Int64) (u i : Nat) : Int64 := if i = 0 then g (11 * i + u) / e else g (11 * i + u) / e - (evw (nI n) unit top (nI (i - 1))).toInt64
section
variable {n : Nat} {unit off top lean ref : Int32} {misses resistors holds : Nat → Int32} {e : Int64} {g rows : Nat → Int64} {u : Nat}
theorem q_t {i : Nat} (h : SV u e g rows i) (hd : e.toInt ∣ (g (11 * i + u)).toInt) : (g (11 * i + u) / e).toInt = (g (11 * i + u)).toInt / e.toInt ∧ ((g (11 * i + u)).toInt / e.toInt).natAbs ≤ 39916800 * 99999 := by
  obtain ⟨l, hl, hN, hE, he, bN, bE⟩ := h
  have e1 := div_L (a := g (11 * i + u)) (b := e) (by omega) hd he
  refine ⟨e1, ?_⟩
  obtain ⟨x, hx⟩ := hd
  rw [hx] at bN ⊢
  rw [Int.mul_ediv_cancel_left _ he]
  rw [Int.natAbs_mul] at bN
  have := Nat.mul_le_mul_right x.natAbs (show 1 ≤ e.toInt.natAbs by omega)
  omega
theorem nr_t {i : Nat} (h : SV u e g rows i) (hd : e.toInt ∣ (g (11 * i + u)).toInt) : (nrL n unit top e g u i).toInt = (g (11 * i + u)).toInt / e.toInt - evI n unit top i := by
  obtain ⟨e1, b1⟩ := q_t h hd
  unfold nrL evI
  by_cases c : i = 0
  · rw [if_pos c, if_pos c, e1, Int.sub_zero]
  · rw [if_neg c, if_neg c]
    have r := fb_rng (evw (nI n) unit top (nI (i - 1)))
    rw [fb_subL (by rw [e1, w64]; omega) (by rw [e1, w64]; omega), e1, w64]
theorem x_whole {i : Nat} (hi : i < 12) (hu : u < 11) (he : e.toInt ≠ 0) : f_X3_whole (nI i) (nI u) e g = some (g (11 * i + u) / e) := by
  unfold f_X3_whole
  rw [if_neg (fun hh => he ((lg_z _).mp hh)), x_solved hi hu, zb_s, znl_ne (fun hh => he (by rw [hh]; rfl))]
theorem x_newRule {i : Nat} (hi : i < 12) (hu : u < 11) (he : e.toInt ≠ 0) : f_X3_newRule (nI i) (nI u) e (nI n) unit top g = some (nrL n unit top e g u i) := by
  unfold f_X3_newRule nrL
  by_cases c : i = 0
  · subst c
    rw [if_pos (show nI 0 = (0 : Int32) from rfl), show f_X3_whole 0 (nI u) e g = _ from x_whole (i := 0) (by decide) hu he, zb_s, if_pos rfl]
  · rw [if_neg (show ¬ nI i = (0 : Int32) from fun hh => c (nI_ij (a := i) (b := 0) (by omega) (by decide) hh)), x_whole hi hu he, zb_s, nI_m1 (by omega), x_even, zb_s, if_neg c]
theorem x_within {i : Nat} (hi : i < 12) (hu : u < 11) (h : SV u e g rows i) (hd : e.toInt ∣ (g (11 * i + u)).toInt) : (OKI n unit top e.toInt (g (11 * i + u)).toInt i ∧ f_X3_isWithinBounds (nI i) (nI u) e (nI n) unit top g = some 1) ∨ (¬ OKI n unit top e.toInt (g (11 * i + u)).toInt i ∧ f_X3_isWithinBounds (nI i) (nI u) e (nI n) unit top g = some 0) := by
  have he : e.toInt ≠ 0 := h.choose_spec.2.2.2.1
  obtain ⟨e1, b1⟩ := q_t h hd
  have e2 := nr_t (n := n) (unit := unit) (top := top) h hd
  have l9 : (-999 : Int64).toInt = -999 := by decide
  have h9 : (999 : Int64).toInt = 999 := by decide
  have z0 : (0 : Int64).toInt = 0 := rfl
  have j16 : (i = 0 ∨ 0 ≤ (g (11 * i + u)).toInt / e.toInt) → (OKI n unit top e.toInt (g (11 * i + u)).toInt i ∧ f_X3_isWithinBounds_J16 (nI i) (nI u) e (nI n) unit top g = some 1) ∨ (¬ OKI n unit top e.toInt (g (11 * i + u)).toInt i ∧ f_X3_isWithinBounds_J16 (nI i) (nI u) e (nI n) unit top g = some 0) := by
    intro hpos
    unfold f_X3_isWithinBounds_J16
    rw [x_newRule hi hu he, zb_s]
    simp only [lg_lt, lg_gt, i64_lt, e2, l9, h9]
    by_cases c1 : (g (11 * i + u)).toInt / e.toInt - evI n unit top i < -999
    · rw [if_pos c1]
      exact Or.inr ⟨fun hh => by have := hh.2.2.1; omega, rfl⟩
    · rw [if_neg c1]
      by_cases c2 : 999 < (g (11 * i + u)).toInt / e.toInt - evI n unit top i
      · rw [if_pos c2]
        exact Or.inr ⟨fun hh => by have := hh.2.2.2; omega, rfl⟩
      · rw [if_neg c2]
        exact Or.inl ⟨⟨hd, hpos, by omega, by omega⟩, rfl⟩
  unfold f_X3_isWithinBounds
  by_cases c : i = 0
  · subst c
    rw [if_pos (show nI 0 ≤ (0 : Int32) by decide)]
    exact j16 (Or.inl rfl)
  · rw [if_neg (show ¬ nI i ≤ (0 : Int32) from nI_ge (a := i) (b := 0) |> fun _ => by
        rw [i32_le, nIt (by omega)]
        have : (0 : Int32).toInt = 0 := rfl
        omega), x_whole hi hu he, zb_s]
    by_cases cp : 0 ≤ (g (11 * i + u)).toInt / e.toInt
    · rw [if_pos (by rw [lg_ge, i64_le, e1, z0]; exact cp)]
      exact j16 (Or.inr cp)
    · rw [if_neg (by rw [lg_ge, i64_le, e1, z0]; exact cp)]
      exact Or.inr ⟨fun hh => hh.2.1.elim c cp, rfl⟩
theorem x_can (hu : u < 11) (hs : ∀ i, i < u → SV u e g rows i) (he : e.toInt ≠ 0) : ((∀ i, i < u → OKI n unit top e.toInt (g (11 * i + u)).toInt i) ∧ f_X3_canBeAdopted (nI u) e (nI n) unit top g = some 1) ∨ ((¬ ∀ i, i < u → OKI n unit top e.toInt (g (11 * i + u)).toInt i) ∧ f_X3_canBeAdopted (nI u) e (nI n) unit top g = some 0) := by
  unfold f_X3_canBeAdopted
  obtain ⟨a, ea, hq⟩ := zp_i (f := f_X3_canBeAdopted_L2 (nI u) e (nI n) unit top g) (s := (0 : Int32)) (fun j w => w = nI j ∧ ∀ i, i < j → OKI n unit top e.toInt (g (11 * i + u)).toInt i) (fun a => (a.1 = 1 ∧ ∀ i, i < u → OKI n unit top e.toInt (g (11 * i + u)).toInt i) ∨ (a.1 = 2 ∧ ¬ ∀ i, i < u → OKI n unit top e.toInt (g (11 * i + u)).toInt i)) u (by omega) ⟨rfl, fun i hi => by omega⟩ (by
    rintro j w hj ⟨rfl, hok⟩
    unfold f_X3_canBeAdopted_L2
    by_cases cj : j = u
    · right
      subst cj
      rw [if_pos (nI_le (Nat.le_refl _) (by omega))]
      exact ⟨_, rfl, (by decide : ¬ (1 : Nat) = 0), Or.inl ⟨rfl, hok⟩⟩
    · have hju : j < u := by omega
      have hsv := hs j hju
      rw [if_neg (nI_ge hju (by omega)), if_neg (fun hh => he ((lg_z _).mp hh)), x_solved (by omega) hu, zb_s, znl_ne (fun hh => he (by rw [hh]; rfl))]
      have hr := rem_L (a := g (11 * j + u)) (b := e) (by obtain ⟨l, hl, hN, hE, he, bN, bE⟩ := hsv; omega) he
      by_cases cd : e.toInt ∣ (g (11 * j + u)).toInt
      · rw [if_pos ((lg_z _).mpr (by rw [hr]; exact Int.tmod_eq_zero_of_dvd cd))]
        rcases x_within (n := n) (unit := unit) (top := top) (by omega) hu hsv cd with ⟨o, q⟩ | ⟨o, q⟩
        · left
          rw [q, zb_s, if_neg n10, zl_e, nI_1]
          refine ⟨hju, _, rfl, rfl, fun i hi => ?_⟩
          by_cases c : i = j
          · rw [c]; exact o
          · exact hok i (by omega)
        · right
          rw [q, zb_s, if_pos rfl]
          exact ⟨_, rfl, (by decide : ¬ (2 : Nat) = 0), Or.inr ⟨rfl, fun hh => o (hh j hju)⟩⟩
      · right
        rw [if_neg (fun hh => cd (Int.dvd_of_tmod_eq_zero (by rw [← hr]; exact (lg_z _).mp hh)))]
        exact ⟨_, rfl, (by decide : ¬ (2 : Nat) = 0), Or.inr ⟨rfl, fun hh => cd (hh j hju).1⟩⟩)
  rw [ea, zb_s]
  rcases hq with ⟨q, o⟩ | ⟨q, o⟩
  · rw [if_pos q]; exact Or.inl ⟨o, rfl⟩
  · rw [if_neg (by rw [q]; decide)]; exact Or.inr ⟨o, rfl⟩
/-- the reference's flag -/
theorem m_flag (hR : RI n unit off top lean ref misses resistors holds) (hs : ∀ i, i < npt n top + 1 → SV (npt n top + 1) e g rows i) (k0 : Int32) (hk : (k0 = 1 ∧ OKI n unit top e.toInt (g (11 * 0 + (npt n top + 1))).toInt 0) ∨ (k0 = 0 ∧ ¬ OKI n unit top e.toInt (g (11 * 0 + (npt n top + 1))).toInt 0)) : ∃ fl b, zp (f_X12_adopt_L48 holds rows) zF (k0, 0) = some (1, (fl, b)) ∧ ((fl = 1 ∧ ∀ i, i < npt n top + 1 → OKI n unit top e.toInt (g (11 * i + (npt n top + 1))).toInt i) ∨ (fl = 0 ∧ ¬ ∀ i, i < npt n top + 1 → OKI n unit top e.toInt (g (11 * i + (npt n top + 1))).toInt i)) := by
  have h9 : npt n top ≤ 9 := npt_le hR.1.2
  have l9 : (-999 : Int64).toInt = -999 := by decide
  have h9' : (999 : Int64).toInt = 999 := by decide
  have z0 : (0 : Int64).toInt = 0 := rfl
  obtain ⟨a, ea, fl, b, rfl, hq⟩ := zp_i (f := f_X12_adopt_L48 holds rows) (s := (k0, (0 : Int32))) (fun j w => ∃ fl, w = (fl, nI j) ∧ ((fl = 1 ∧ ∀ i, i < j + 1 → OKI n unit top e.toInt (g (11 * i + (npt n top + 1))).toInt i) ∨ (fl = 0 ∧ ¬ ∀ i, i < npt n top + 1 → OKI n unit top e.toInt (g (11 * i + (npt n top + 1))).toInt i))) (fun a => ∃ fl b, a = (1, (fl, b)) ∧ ((fl = 1 ∧ ∀ i, i < npt n top + 1 → OKI n unit top e.toInt (g (11 * i + (npt n top + 1))).toInt i) ∨ (fl = 0 ∧ ¬ ∀ i, i < npt n top + 1 → OKI n unit top e.toInt (g (11 * i + (npt n top + 1))).toInt i))) (npt n top) (by omega) ⟨k0, rfl, by
      rcases hk with ⟨q, o⟩ | ⟨q, o⟩
      · exact Or.inl ⟨q, fun i hi => by rw [show i = 0 by omega]; exact o⟩
      · exact Or.inr ⟨q, fun hh => o (hh 0 (by omega))⟩⟩ (by
    rintro j w hj ⟨fl, rfl, hfl⟩
    unfold f_X12_adopt_L48 f_X12_adopt_J115_48 f_X12_adopt_J116_48
    rw [m_parts hR, zb_s]
    simp only []
    by_cases cj : j = npt n top
    · right
      rw [if_pos (nI_le (by omega) (by omega))]
      refine ⟨_, rfl, (by decide : ¬ (1 : Nat) = 0), fl, _, rfl, ?_⟩
      rw [cj] at hfl
      exact hfl
    · rw [if_neg (nI_ge (by omega) (by omega))]
      rcases hfl with ⟨rfl, hok⟩ | ⟨rfl, hno⟩
      · left
        have hsv := hs (j + 1) (by omega)
        obtain ⟨num, den, -, p2, p3, p4⟩ := val_both (by omega) hsv
        rw [if_neg n10, nI_1, p2, zb_s, p2, zb_s, if_pos rfl, if_neg n10]
        refine ⟨by omega, ?_⟩
        have yes : OKI n unit top e.toInt (g (11 * (j + 1) + (npt n top + 1))).toInt (j + 1) → ∃ fl, ((1 : Int32), nI (j + 1)) = (fl, nI (j + 1)) ∧ ((fl = 1 ∧ ∀ i, i < j + 1 + 1 → OKI n unit top e.toInt (g (11 * i + (npt n top + 1))).toInt i) ∨ (fl = 0 ∧ ¬ ∀ i, i < npt n top + 1 → OKI n unit top e.toInt (g (11 * i + (npt n top + 1))).toInt i)) := fun o => ⟨1, rfl, Or.inl ⟨rfl, fun i hi => by
          by_cases c : i = j + 1
          · rw [c]; exact o
          · exact hok i (by omega)⟩⟩
        have no : ¬ OKI n unit top e.toInt (g (11 * (j + 1) + (npt n top + 1))).toInt (j + 1) → ∃ fl, ((0 : Int32), nI (j + 1)) = (fl, nI (j + 1)) ∧ ((fl = 1 ∧ ∀ i, i < j + 1 + 1 → OKI n unit top e.toInt (g (11 * i + (npt n top + 1))).toInt i) ∨ (fl = 0 ∧ ¬ ∀ i, i < npt n top + 1 → OKI n unit top e.toInt (g (11 * i + (npt n top + 1))).toInt i)) := fun o => ⟨0, rfl, Or.inr ⟨rfl, fun hh => o (hh (j + 1) (by omega))⟩⟩
        by_cases cd : den = 1
        · have hd := p3.mp cd
          have en := p4 cd
          obtain ⟨-, b1⟩ := q_t hsv hd
          rw [if_pos ((lg_eq _ _).mpr cd)]
          by_cases cn : num.toInt < 0
          · rw [if_pos (by rw [lg_lt, i64_lt, z0]; exact cn), zl_e]
            exact ⟨_, rfl, no (fun hh => by rcases hh.2.1 with q | q <;> omega)⟩
          · rw [if_neg (by rw [lg_lt, i64_lt, z0]; exact cn), m_nominal hR, zb_s, f_in, zb_s]
            have r := fb_rng (evw (nI n) unit top (nI j))
            have ed : (num - (evw (nI n) unit top (nI j)).toInt64).toInt = (g (11 * (j + 1) + (npt n top + 1))).toInt / e.toInt - evI n unit top (j + 1) := by
              rw [fb_subL (by rw [en, w64]; omega) (by rw [en, w64]; omega), en, w64]
              unfold evI
              rw [if_neg (by omega), Nat.add_sub_cancel]
            by_cases cb : (-999 : Int64) ≤ num - (evw (nI n) unit top (nI j)).toInt64 ∧ num - (evw (nI n) unit top (nI j)).toInt64 ≤ 999
            · rw [if_pos cb, if_neg n10, zl_e]
              rw [i64_le, i64_le, ed, l9, h9'] at cb
              exact ⟨_, rfl, yes ⟨hd, Or.inr (by omega), cb⟩⟩
            · rw [if_neg cb, if_pos rfl, zl_e]
              rw [i64_le, i64_le, ed, l9, h9'] at cb
              exact ⟨_, rfl, no (fun hh => cb hh.2.2)⟩
        · rw [if_neg (fun hh => cd ((lg_eq _ _).mp hh)), zl_e]
          exact ⟨_, rfl, no (fun hh => cd (p3.mpr hh.1))⟩
      · right
        rw [if_pos (by first | rfl | trivial)]
        exact ⟨_, rfl, (by decide : ¬ (1 : Nat) = 0), 0, _, rfl, Or.inr ⟨rfl, hno⟩⟩)
  exact ⟨fl, b, ea, hq⟩
end
