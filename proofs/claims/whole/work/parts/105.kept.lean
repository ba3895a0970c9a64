/-! kept, ones, round -/
def cutF (x : Int32) : Int32 := if x < -1000000 then -1000000 else if 1000000 < x then 1000000 else x
def gvF (ref b : Int32) : Int32 := if b = -4 then 0 else if b = 1 then ref else -ref
def bitF (x : Int32) : Int32 := if x < 0 then 0 else 1
def tk (o v ref : Int32) (z : Int32 × Int32 × Int32) : Int32 × Int32 × Int32 :=
  if o = 1 then (cutF (z.1 + v - gvF ref (bitF (z.1 + v))), cutF z.2.1, bitF (z.1 + v))
  else (cutF (z.1 + (v - gvF ref z.2.2)), cutF (z.2.1 + ((z.1 + (v - gvF ref z.2.2)) - gvF ref z.2.2)), bitF (z.2.1 + ((z.1 + (v - gvF ref z.2.2)) - gvF ref z.2.2)))
def kS (o v ref : Int32) : Nat → Int32 × Int32 × Int32
  | 0 => (0, 0, -4)
  | j + 1 => tk o v ref (kS o v ref j)
theorem x_cut (x : Int32) : f_X2_cut x = some (cutF x) := by
  unfold f_X2_cut cutF
  have e1 : (1000000 : Int32).toInt = 1000000 := rfl
  have e2 : (-1000000 : Int32).toInt = -1000000 := rfl
  rw [f_min, zb_s, f_max, zb_s]
  congr 1
  by_cases c1 : x < 1000000
  · rw [if_pos c1]
    by_cases c2 : -1000000 < x
    · rw [if_pos c2, if_neg, if_neg]
      · rw [i32_lt] at *; omega
      · rw [i32_lt] at *; omega
    · rw [if_neg c2]
      by_cases c3 : x < -1000000
      · rw [if_pos c3]
      · rw [if_neg c3, if_neg]
        · rw [i32_lt] at c2 c3; rw [i32_eq]; omega
        · rw [i32_lt] at *; omega
  · rw [if_neg c1, if_pos (by decide), if_neg]
    · by_cases c3 : 1000000 < x
      · rw [if_pos c3]
      · rw [if_neg c3]; rw [i32_lt] at c1 c3; rw [i32_eq]; omega
    · rw [i32_lt] at *; omega
theorem m_cut (x : Int32) : f_X12_cut x = some (cutF x) := by
  unfold f_X12_cut cutF
  have e1 : (1000000 : Int32).toInt = 1000000 := rfl
  have e2 : (-1000000 : Int32).toInt = -1000000 := rfl
  by_cases c1 : x ≤ 1000000
  · rw [if_pos c1]
    by_cases c2 : -1000000 ≤ x
    · rw [if_pos c2, if_neg ((i32_nlt _ _).mpr c2), if_neg ((i32_nlt _ _).mpr c1)]
    · rw [if_neg c2, if_pos ((i32_nle _ _).mp c2)]
  · rw [if_neg c1, if_neg, if_pos ((i32_nle _ _).mp c1)]
    rw [i32_le] at c1
    rw [i32_lt]
    omega
theorem x_given (ref b : Int32) : f_X2_given ref b = some (gvF ref b) := by
  unfold f_X2_given gvF
  repeat' split
  all_goals rfl
theorem x_tick (o v ref s t b : Int32) : f_X2_tick o v ref s t b = some (tk o v ref (s, t, b)) := by
  unfold f_X2_tick f_X2_tick_J34 f_X2_tick_J101 f_X2_tick_J104 tk bitF
  simp only [x_given, x_cut, zb_s, zl_e]
  repeat' split
  all_goals rfl
theorem x_begin (o v ref : Int32) : f_X2_begin o v ref = some (o, v, ref, kS o v ref 0) := rfl
theorem bit01 (o v ref : Int32) (z : Int32 × Int32 × Int32) : (tk o v ref z).2.2 = 0 ∨ (tk o v ref z).2.2 = 1 := by
  unfold tk bitF
  repeat' split
  all_goals simp
theorem kS_t {v ref : Int32} : ∀ j, (kS 1 v ref j).2.1 = 0 := by
  intro j
  induction j with
  | zero => rfl
  | succ j ih =>
    show (tk 1 v ref (kS 1 v ref j)).2.1 = 0
    unfold tk
    rw [if_pos rfl]
    show cutF (kS 1 v ref j).2.1 = 0
    rw [ih]
    rfl
/-- ones among the n ticks behind a -/
def OC (o v ref : Int32) (a : Nat) : Nat → Nat
  | 0 => 0
  | j + 1 => if (kS o v ref (a + (j + 1))).2.2 = 1 then OC o v ref a j + 1 else OC o v ref a j
theorem OC_le (o v ref : Int32) (a : Nat) : ∀ j, OC o v ref a j ≤ j := by
  intro j
  induction j with
  | zero => exact Nat.le_refl _
  | succ j ih => simp only [OC]; split <;> omega
theorem x_twone (o v ref : Int32) (a : Nat) {n : Nat} (hn : n ≤ 400) : f_X2_ticksWithOne (nI n) o v ref (kS o v ref a).1 (kS o v ref a).2.1 (kS o v ref a).2.2 = some (nI (OC o v ref a n), kS o v ref (a + n)) := by
  unfold f_X2_ticksWithOne
  rw [zp_0 (v := (0, 0, (kS o v ref a).1, (kS o v ref a).2.1, (kS o v ref a).2.2)) (fun j => (nI (OC o v ref a j), nI j, kS o v ref (a + j))) n (t := 1) (w := (nI (OC o v ref a n), nI n, kS o v ref (a + n))) rfl (by omega) (by decide)]
  · rfl
  · intro j hj
    unfold f_X2_ticksWithOne_L4
    simp only []
    rw [if_neg (nI_ge hj (by omega)), x_tick, zb_s, zl_e, zl_e, nI_1]
    show some (0, (nI (OC o v ref a j) + (kS o v ref (a + (j + 1))).2.2, nI (j + 1), kS o v ref (a + (j + 1)))) = _
    have h : (kS o v ref (a + (j + 1))).2.2 = 0 ∨ (kS o v ref (a + (j + 1))).2.2 = 1 := bit01 o v ref (kS o v ref (a + j))
    simp only [OC]
    rcases h with h | h
    · rw [h, if_neg (by decide)]; simp
    · rw [h, if_pos rfl, nI_1]
  · unfold f_X2_ticksWithOne_L4
    simp only []
    rw [if_pos (nI_le (Nat.le_refl _) (by omega))]
theorem kept_or (o v : Int32) : ((o = 1 ∨ o = 2) ∧ f_X11_isKept o v = some 1 ∧ f_X12_isKept o v = some 1) ∨ (f_X11_isKept o v = some 0 ∧ f_X12_isKept o v = some 0) := by
  have key : (o = 1 ∨ o = 2) ∨ f_X12_in o.toInt64 1 2 = some 0 ∧ ¬ o = 1 ∧ ¬ o = 2 := by
    by_cases c1 : o = 1
    · exact Or.inl (Or.inl c1)
    · by_cases c2 : o = 2
      · exact Or.inl (Or.inr c2)
      · right
        refine ⟨?_, c1, c2⟩
        rw [f_inI o 1 2 1 2 rfl rfl, if_neg]
        rintro ⟨h1, h2⟩
        rw [i32_le] at h1 h2
        rw [i32_eq] at c1 c2
        have e1 : (1 : Int32).toInt = 1 := rfl
        have e2 : (2 : Int32).toInt = 2 := rfl
        omega
  rcases key with ho | ⟨h1, h2, h3⟩
  · have i1 : f_X12_in o.toInt64 1 2 = some 1 := by rcases ho with rfl | rfl <;> decide
    have k1 : f_X11_isKept o v = f_X11_isKept_J10 v := by unfold f_X11_isKept; rcases ho with rfl | rfl <;> simp
    unfold f_X12_isKept
    rw [k1, i1, zb_s, if_neg n10]
    unfold f_X11_isKept_J10
    by_cases c1 : v < -999
    · right; rw [if_pos c1, in_0l (B := -999) (b := -999) (by decide) c1, zb_s, if_pos rfl]; exact ⟨rfl, rfl⟩
    · by_cases c2 : 999 < v
      · right; rw [if_neg c1, if_pos c2, in_0h (C := 999) (c := 999) rfl ((i32_nle _ _).mpr c2), zb_s, if_pos rfl]; exact ⟨rfl, rfl⟩
      · left; rw [if_neg c1, if_neg c2, in_1 (B := -999) (C := 999) (b := -999) (c := 999) (by decide) rfl c1 ((i32_nlt _ _).mp c2), zb_s, if_neg n10]; exact ⟨ho, rfl, rfl⟩
  · right
    unfold f_X12_isKept f_X11_isKept
    rw [h1, zb_s, if_pos rfl, if_neg h2, if_neg h3]
    exact ⟨rfl, rfl⟩
theorem m_step {o v : Int32} (ho : o = 1 ∨ o = 2) {holds : Nat → Int32} {ref : Int32} (h5 : holds 5 = ref) {N j : Nat} (hj : j < N) (hN : N < 440) {e t g : Nat → Int32} (he : e j = (kS o v ref j).1) (ht : t j = (kS o v ref j).2.1) (hg : g j = (kS o v ref j).2.2) : f_X12_layKept_L25 o v (nI N) holds (nI (j + 1), e, t, g) = some (0, (nI (j + 2), upd e (j + 1) (kS o v ref (j + 1)).1, upd t (j + 1) (kS o v ref (j + 1)).2.1, upd g (j + 1) (kS o v ref (j + 1)).2.2)) := by
  unfold f_X12_layKept_L25
  simp only []
  rw [if_neg (nI_nlt (by omega) (by omega)), nI_m1 (by omega), Nat.add_sub_cancel, zc_nI (by omega) (by decide), zc_nI (by omega) (by decide), zc_l rfl, cl5, h5, nI_clamp (by omega), hg]
  have key : ∀ k0 : Int32, k0 = gvF ref (kS o v ref j).2.2 → f_X12_layKept_J78_25 o v (nI (j + 1)) k0 holds e t g = some (0, (nI (j + 2), upd e (j + 1) (kS o v ref (j + 1)).1, upd t (j + 1) (kS o v ref (j + 1)).2.1, upd g (j + 1) (kS o v ref (j + 1)).2.2)) := by
    intro k0 hk
    unfold f_X12_layKept_J78_25 f_X12_layKept_J102_25 f_X12_layKept_J129_25 f_X12_layKept_J149_25 f_X12_layKept_J157_25 f_X12_layKept_J206_25
    rw [nI_m1 (by omega), Nat.add_sub_cancel, zc_nI (by omega) (by decide)]
    simp only [zl_e, zb_s, m_cut, nI_1, zc_nI (show j < 440 by omega) (show 440 < 2 ^ 31 by decide), zc_nI (show j + 1 < 440 by omega) (show 440 < 2 ^ 31 by decide), nI_clamp (show j + 1 < 2 ^ 31 by omega), nI_clamp (show j < 2 ^ 31 by omega), he, ht, zc_l (i := 5) (n := 31) rfl, cl5, h5, pk_us]
    rcases ho with rfl | rfl
    · have tz : (kS 1 v ref j).2.1 = 0 := kS_t j
      simp only [if_neg (show ¬ (1 : Int32) = 2 by decide), Int32.sub_zero]
      have e1 : kS 1 v ref (j + 1) = (cutF ((kS 1 v ref j).1 + v - gvF ref (bitF ((kS 1 v ref j).1 + v))), cutF (kS 1 v ref j).2.1, bitF ((kS 1 v ref j).1 + v)) := by
        show tk 1 v ref (kS 1 v ref j) = _
        unfold tk
        rw [if_pos rfl]
      rw [e1, tz]
      unfold bitF gvF
      by_cases c : (kS 1 v ref j).1 + v < 0
      · simp only [if_pos c, if_neg (show ¬ (0 : Int32) = 1 by decide), if_neg (show ¬ (0 : Int32) = -4 by decide)]
        rw [show (kS 1 v ref j).1 + v - -ref = (kS 1 v ref j).1 + v + ref from by rw [Int32.sub_eq_add_neg, Int32.neg_neg]]
      · simp only [if_neg c, if_true, if_neg (show ¬ (1 : Int32) = -4 by decide)]
    · simp only [if_true]
      have e1 : kS 2 v ref (j + 1) = (cutF ((kS 2 v ref j).1 + (v - k0)), cutF ((kS 2 v ref j).2.1 + (((kS 2 v ref j).1 + (v - k0)) - k0)), bitF ((kS 2 v ref j).2.1 + (((kS 2 v ref j).1 + (v - k0)) - k0))) := by
        show tk 2 v ref (kS 2 v ref j) = _
        unfold tk
        rw [if_neg (by decide), hk]
      have r1 : (kS 2 v ref j).1 + v - k0 = (kS 2 v ref j).1 + (v - k0) := by rw [Int32.sub_eq_add_neg, Int32.sub_eq_add_neg, Int32.add_assoc]
      have r2 : (kS 2 v ref j).2.1 + ((kS 2 v ref j).1 + (v - k0)) - k0 = (kS 2 v ref j).2.1 + (((kS 2 v ref j).1 + (v - k0)) - k0) := by rw [Int32.sub_eq_add_neg, Int32.sub_eq_add_neg (a := (kS 2 v ref j).1 + (v - k0)), Int32.add_assoc]
      rw [r1, r2, e1]
      unfold bitF
      by_cases c : (kS 2 v ref j).2.1 + (((kS 2 v ref j).1 + (v - k0)) - k0) < 0
      · simp only [if_pos c]
      · simp only [if_neg c]
  by_cases c1 : (kS o v ref j).2.2 = -4
  · rw [if_pos c1]
    exact key 0 (by unfold gvF; rw [if_pos c1])
  · rw [if_neg c1]
    by_cases c2 : (kS o v ref j).2.2 = 1
    · rw [if_pos c2]
      exact key ref (by unfold gvF; rw [if_neg c1, if_pos c2])
    · rw [if_neg c2]
      exact key (-ref) (by unfold gvF; rw [if_neg c1, if_neg c2])
theorem m_layKept {o v : Int32} (ho : o = 1 ∨ o = 2) {holds : Nat → Int32} {ref : Int32} (h5 : holds 5 = ref) {N : Nat} (hN : N < 440) (e t g : Nat → Int32) : ∃ e' t' g', f_X12_layKept o v (nI N) holds e t g = some (e', t', g') ∧ ∀ i, i ≤ N → e' i = (kS o v ref i).1 ∧ t' i = (kS o v ref i).2.1 ∧ g' i = (kS o v ref i).2.2 := by
  unfold f_X12_layKept
  rw [zc_l rfl, zl_e, zc_l rfl, zl_e, zc_l rfl, zl_e, cl0]
  obtain ⟨a, ea, i, e', t', g', rfl, hQ⟩ := zp_i (f := f_X12_layKept_L25 o v (nI N) holds) (s := (1, upd e 0 0, upd t 0 0, upd g 0 (-4)))
    (fun j w => ∃ e' t' g', w = (nI (j + 1), e', t', g') ∧ ∀ i, i ≤ j → e' i = (kS o v ref i).1 ∧ t' i = (kS o v ref i).2.1 ∧ g' i = (kS o v ref i).2.2)
    (fun a => ∃ i e' t' g', a = (1, (i, e', t', g')) ∧ ∀ i, i ≤ N → e' i = (kS o v ref i).1 ∧ t' i = (kS o v ref i).2.1 ∧ g' i = (kS o v ref i).2.2) N (by omega) ⟨_, _, _, rfl, fun i hi => by
      have : i = 0 := by omega
      subst this
      rw [pk_us, pk_us, pk_us]
      exact ⟨rfl, rfl, rfl⟩⟩ (by
      rintro j w hj ⟨e', t', g', rfl, hh⟩
      by_cases c : j = N
      · subst c
        right
        unfold f_X12_layKept_L25
        simp only []
        rw [if_pos (nI_lt (by omega) (by omega))]
        exact ⟨_, rfl, (by decide : ¬ (1 : Nat) = 0), _, e', t', g', rfl, hh⟩
      · left
        have h := hh j (Nat.le_refl _)
        refine ⟨by omega, _, m_step ho h5 (show j < N by omega) hN h.1 h.2.1 h.2.2, _, _, _, rfl, ?_⟩
        intro i hi
        by_cases d : i = j + 1
        · subst d; rw [pk_us, pk_us, pk_us]; exact ⟨rfl, rfl, rfl⟩
        · rw [pk_un d, pk_un d, pk_un d]; exact hh i (by omega))
  rw [ea, zb_s]
  exact ⟨e', t', g', rfl, hQ⟩
theorem m_onesIn {o v ref : Int32} {g : Nat → Int32} {a n M : Nat} (hM : M < 440) (han : a + n ≤ M) (h : ∀ i, i ≤ M → g i = (kS o v ref i).2.2) : f_X12_onesIn (nI (a + 1)) (nI (a + n)) g = some (nI (OC o v ref a n)) := by
  unfold f_X12_onesIn
  rw [zp_0 (v := (0, nI (a + 1))) (fun j => (nI (OC o v ref a j), nI (a + (j + 1)))) n (t := 1) (w := (nI (OC o v ref a n), nI (a + (n + 1)))) rfl (by omega) (by decide)]
  · rfl
  · intro j hj
    unfold f_X12_onesIn_L5
    simp only []
    rw [if_neg (nI_nlt (by omega) (by omega)), zc_nI (by omega) (by decide), nI_clamp (by omega), h _ (by omega)]
    simp only [f_X12_onesIn_J28_5, zl_e, nI_1, OC]
    split
    · rw [show a + (j + 1) + 1 = a + (j + 1 + 1) by omega]
    · rw [show a + (j + 1) + 1 = a + (j + 1 + 1) by omega]; simp
  · unfold f_X12_onesIn_L5
    simp only []
    rw [if_pos (nI_lt (by omega) (by omega))]
theorem st_ones : ST_ones Inv := by
  intro x y hI v1 v2 v3
  obtain ⟨n, hb, hR, -⟩ := id hI
  obtain ⟨hn, g0, g1, g2, g3, g4, g5, -⟩ := id hR
  suffices H : ∃ r a b c d e f es ts gs, f_X11_ones v1 v2 v3 (X_rules_ref x) (X_keeper_order x) (X_keeper_volt x) (X_keeper_ref x) (X_keeper_s x) (X_keeper_t x) (X_keeper_bit x) = some (r, a, b, c, d, e, f) ∧ f_X12_ones v1 v2 v3 (M_holds y) (M_esses y) (M_tees y) (M_gave y) = some (r, es, ts, gs) by
    obtain ⟨r, a, b, c, d, e, f, es, ts, gs, e1, e2⟩ := H
    exact ⟨(r, a, b, c, d, e, f), (r, es, ts, gs), e1, e2, rfl, hI⟩
  unfold f_X11_ones f_X12_ones
  rcases kept_or v1 v2 with ⟨ho, e1, e2⟩ | ⟨e1, e2⟩
  · rw [e1, e2, zb_s, zb_s, if_neg n10, if_neg n10]
    by_cases c1 : v3 < 1
    · rw [if_pos c1, in_0l (B := 1) (b := 1) rfl c1, zb_s, if_pos rfl]
      exact ⟨_, _, _, _, _, _, _, _, _, _, rfl, rfl⟩
    rw [if_neg c1]
    by_cases c2 : v3 ≤ 400
    · obtain ⟨k, hk, rfl⟩ := nI_of2 (x := v3) (M := 400) (n := 400) rfl (by rw [i32_lt] at *; have : (1 : Int32).toInt = 1 := rfl; have : (0 : Int32).toInt = 0 := rfl; omega) c2
      obtain ⟨es, ts, gs, e3, hh⟩ := m_layKept ho (v := v2) g5 (show k < 440 by omega) (M_esses y) (M_tees y) (M_gave y)
      have h1 := x_twone v1 v2 (X_rules_ref x) 0 hk
      have h2 : f_X12_onesIn (1 : Int32) (nI k) gs = some (nI (OC v1 v2 (X_rules_ref x) 0 k)) := by
        have h2 := m_onesIn (o := v1) (v := v2) (ref := X_rules_ref x) (g := gs) (a := 0) (n := k) (M := k) (by omega) (by omega) (fun i hi => (hh i hi).2.2)
        simp only [Nat.zero_add] at h2
        exact h2
      rw [if_pos c2, in_1 (B := 1) (C := 400) (b := 1) (c := 400) rfl rfl c1 c2, zb_s, if_neg n10, x_begin, zb_s, e3, zb_s]
      simp only []
      rw [h1, zb_s, h2, zb_s]
      exact ⟨_, _, _, _, _, _, _, _, _, _, rfl, rfl⟩
    · rw [if_neg c2, in_0h (C := 400) (c := 400) rfl c2, zb_s, if_pos rfl]
      exact ⟨_, _, _, _, _, _, _, _, _, _, rfl, rfl⟩
  · rw [e1, e2, zb_s, zb_s, if_pos rfl, if_pos rfl]
    exact ⟨_, _, _, _, _, _, _, _, _, _, rfl, rfl⟩
theorem st_kept : ST_kept Inv := by
  intro x y hI v1 v2 v3 v4
  obtain ⟨n, hb, hR, -⟩ := id hI
  obtain ⟨hn, g0, g1, g2, g3, g4, g5, -⟩ := id hR
  suffices H : ∃ r a b c d e f es ts gs, f_X11_kept v1 v2 v3 v4 (X_rules_ref x) (X_keeper_order x) (X_keeper_volt x) (X_keeper_ref x) (X_keeper_s x) (X_keeper_t x) (X_keeper_bit x) = some (r, a, b, c, d, e, f) ∧ f_X12_kept v1 v2 v3 v4 (M_holds y) (M_esses y) (M_tees y) (M_gave y) = some (r, es, ts, gs) by
    obtain ⟨r, a, b, c, d, e, f, es, ts, gs, e1, e2⟩ := H
    exact ⟨(r, a, b, c, d, e, f), (r, es, ts, gs), e1, e2, rfl, hI⟩
  unfold f_X11_kept f_X12_kept
  rcases kept_or v1 v2 with ⟨ho, e1, e2⟩ | ⟨e1, e2⟩
  · rw [e1, e2, zb_s, zb_s, if_neg n10, if_neg n10]
    by_cases c1 : v3 < 0
    · rw [if_pos c1, in_0l (B := 0) (b := 0) rfl c1, zb_s, if_pos rfl]
      exact ⟨_, _, _, _, _, _, _, _, _, _, rfl, rfl⟩
    rw [if_neg c1]
    by_cases c2 : 400 < v3
    · rw [if_pos c2, in_0h (C := 400) (c := 400) rfl ((i32_nle _ _).mpr c2), zb_s, if_pos rfl]
      exact ⟨_, _, _, _, _, _, _, _, _, _, rfl, rfl⟩
    rw [if_neg c2, in_1 (B := 0) (C := 400) (b := 0) (c := 400) rfl rfl c1 ((i32_nlt _ _).mp c2), zb_s, if_neg n10]
    by_cases c3 : v4 < 1
    · rw [if_pos c3, in_0l (B := 1) (b := 1) rfl c3, zb_s, if_pos rfl]
      exact ⟨_, _, _, _, _, _, _, _, _, _, rfl, rfl⟩
    rw [if_neg c3]
    by_cases c4 : v4 ≤ 30
    · obtain ⟨f, hf, rfl⟩ := nI_of2 (x := v3) (M := 400) (n := 400) rfl c1 ((i32_nlt _ _).mp c2)
      obtain ⟨k, hk, rfl⟩ := nI_of2 (x := v4) (M := 30) (n := 30) rfl (by rw [i32_lt] at *; have : (1 : Int32).toInt = 1 := rfl; have : (0 : Int32).toInt = 0 := rfl; omega) c4
      obtain ⟨es, ts, gs, e3, hh⟩ := m_layKept ho (v := v2) g5 (show f + k < 440 by omega) (M_esses y) (M_tees y) (M_gave y)
      have h1 := x_twone v1 v2 (X_rules_ref x) 0 hf
      rw [Nat.zero_add] at h1
      rw [if_pos c4, in_1 (B := 1) (C := 30) (b := 1) (c := 30) rfl rfl c3 c4, zb_s, if_neg n10, x_begin, zb_s, nI_add, e3, zb_s]
      simp only []
      rw [h1, zb_s]
      simp only []
      obtain ⟨a, b, ea, eb, r, i, z, i', rfl, rfl⟩ := zp_r (f := f_X11_kept_L65 (nI k) v1 v2 (X_rules_ref x)) (g := f_X12_kept_L51 (nI f) (nI k) gs) (s := (0, 0, (kS v1 v2 (X_rules_ref x) f).1, (kS v1 v2 (X_rules_ref x) f).2.1, (kS v1 v2 (X_rules_ref x) f).2.2)) (t := ((0, 0) : Int32 × Int32))
        (fun j s t => ∃ r, s = (r, nI j, kS v1 v2 (X_rules_ref x) (f + j)) ∧ t = (r, nI j)) (fun a b => ∃ r i z i', a = (1, (r, i, z)) ∧ b = (1, (r, i'))) k (by omega) ⟨0, rfl, rfl⟩ (by
          rintro j s t hj ⟨r, rfl, rfl⟩
          unfold f_X11_kept_L65 f_X12_kept_L51
          simp only []
          by_cases e : j = k
          · subst e
            rw [if_pos (nI_le (Nat.le_refl _) (by omega)), if_pos (nI_le (Nat.le_refl _) (by omega))]
            exact Or.inr ⟨_, _, rfl, rfl, (by decide : ¬ (1 : Nat) = 0), (by decide : ¬ (1 : Nat) = 0), r, _, _, _, rfl, rfl⟩
          · have hg := (hh (f + j + 1) (by omega)).2.2
            rw [if_neg (nI_ge (by omega) (by omega)), if_neg (nI_ge (by omega) (by omega)), x_tick, zb_s, zl_e, zl_e, nI_add, nI_1, nI_1, zc_nI (by omega) (by decide), zl_e, zl_e, nI_clamp (by omega), hg]
            exact Or.inl ⟨by omega, _, _, rfl, rfl, _, rfl, rfl⟩)
      rw [ea, eb, zb_s, zb_s]
      exact ⟨_, _, _, _, _, _, _, _, _, _, rfl, rfl⟩
    · rw [if_neg c4, in_0h (C := 30) (c := 30) rfl c4, zb_s, if_pos rfl]
      exact ⟨_, _, _, _, _, _, _, _, _, _, rfl, rfl⟩
  · rw [e1, e2, zb_s, zb_s, if_pos rfl, if_pos rfl]
    exact ⟨_, _, _, _, _, _, _, _, _, _, rfl, rfl⟩
