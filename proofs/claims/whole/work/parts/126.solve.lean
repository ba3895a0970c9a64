/-! both eliminations go alike -/
theorem fc10 : fc 10 = 3628800 ∧ fc 11 = 39916800 := by decide
theorem sw_lt {i r k s : Nat} (hi : i < s) (hr : r < s) (hk : k < s) : sw i r k < s := by
  unfold sw
  split
  · exact hr
  · split
    · exact hi
    · exact hk
theorem sw_r (i r : Nat) : sw i r r = i := by
  unfold sw
  by_cases h : r = i
  · rw [if_pos h]; exact h
  · rw [if_neg h, if_pos rfl]
theorem sw_id {i r k : Nat} (h1 : k ≠ i) (h2 : k ≠ r) : sw i r k = k := by
  unfold sw
  rw [if_neg h1, if_neg h2]
theorem BS_mul {A B : Nat → Nat → Int} {u t : Nat} {e : Int} (h : BI A u t e B) (he : e ≠ 0) {r k : Nat} (c : Nat) (hk : k ≠ r) (j : Nat) : e * BS B r c e k j = B r c * B k j - B k c * B r j := by
  unfold BS
  rw [if_neg hk]
  obtain ⟨M, hM⟩ := BI_div h hk c j
  rw [hM, Int.mul_ediv_cancel_left _ he]
/-- both states before column c -/
def SL (A : Nat → Nat → Int) (u s c : Nat) (w : Int32 × Int32 × Int64 × (Nat → Int64)) (w' : Int32 × Int32 × (Nat → Int64)) : Prop :=
  ∃ (r : Nat) (e : Int64) (g rows : Nat → Int64) (B R : Nat → Nat → Int), w = (nI r, nI c, e, g) ∧ w' = (nI c, nI r, rows) ∧ r ≤ c ∧ r ≤ s ∧ e.toInt ≠ 0 ∧ CG u s g B ∧ RG s rows R ∧ BI A u r e.toInt B ∧ (∀ i, i < s → PR (XC u (B i)) (R i) ∧ prim (R i)) ∧ (r = c → ∀ i, i < r → B i i = e.toInt ∧ ∀ k, k ≠ i → B k i = 0)
theorem SL_step {A : Nat → Nat → Int} {u s c : Nat} (hu : u ≤ 10) (hs : s ≤ 12) (hA : ∀ i j, (A i j).natAbs ≤ mm u j) (hc : c < u) {w : Int32 × Int32 × Int64 × (Nat → Int64)} {w' : Int32 × Int32 × (Nat → Int64)} (h : SL A u s c w w') : ∃ v v', f_X3_solve_L13 (nI u) (nI s) w = some (0, v) ∧ f_X12_solve_L113 (nI u) (nI s) w' = some (0, v') ∧ SL A u s (c + 1) v v' := by
  obtain ⟨r, e, g, rows, B, R, rfl, rfl, hrc, hrs, he, hC, hR, hB, hP, hdg⟩ := h
  have hmu : ∀ q, q < u → mm u q ≤ 1 := fun q hq => by unfold mm; rw [if_pos hq]; exact Nat.le_refl _
  have hz : ∀ k, k < s → (B k c = 0 ↔ R k c = 0) := by
    intro k hk
    have := (pr_b (hP k hk).1 (q := c) (by omega)).2
    rw [XC_lt hu hc] at this
    exact this
  unfold f_X3_solve_L13 f_X12_solve_L113 f_X12_solve_J148_113 f_X12_solve_J200_113 f_X3_solve_J59_13
  simp only []
  rw [if_neg (nI_ge hc (by omega)), if_neg (nI_ge hc (by omega))]
  obtain ⟨i2, m1, m2, m3, m4, m5⟩ := m_search hR hs (c := c) (r := r) (by omega) hrs
  rw [m5, zb_s]
  rcases x_rowWith hC hu hs (c := c) (r := r) (by omega) hrs with ⟨i, x1, x2, x3, x4, x5⟩ | ⟨x4, x5⟩
  · have hii : i2 = i := by
      rcases Nat.lt_trichotomy i2 i with q | q | q
      · exact absurd ((hz i2 (by omega)).mp (x4 i2 m1 q)) (m3 (by omega))
      · exact q
      · exact absurd ((hz i x2).mpr (m4 i x1 q)) x3
    subst hii
    have n4 : ¬ nI i2 = (-4 : Int32) := fun hh => by
      have := congrArg Int32.toInt hh
      rw [nIt (by omega), show (-4 : Int32).toInt = -4 by decide] at this
      omega
    have hr : r < s := by omega
    obtain ⟨g1, e1, hC1⟩ := x_swap hC hu hs x2 hr
    obtain ⟨rows1, e2, hR1⟩ := m_swap hR hs x2 hr
    have hB1 := BI_swap hB i2 r
    have bb : ∀ k q, q ≤ u → (B (sw i2 r k) q).natAbs ≤ 3628800 * mm u q := by
      intro k q _
      have b1 := BI_b hB1 hA hmu k q
      have b2 : fc (r + 1) ≤ fc 10 := fc_le (by omega)
      rw [fc10.1] at b2
      exact Nat.le_trans b1 (Nat.mul_le_mul_right _ b2)
    obtain ⟨g2, e3, hC2⟩ := x_column (e64 := e) hC1 hu hs hr hc bb he (fun k q hk _ => by
      obtain ⟨M, hM⟩ := BI_div hB1 hk c q
      exact ⟨M, hM⟩)
    have hP1 : ∀ k, k < s → PR (XC u (B (sw i2 r k))) (R (sw i2 r k)) ∧ prim (R (sw i2 r k)) := fun k hk => hP _ (sw_lt x2 hr hk)
    obtain ⟨rows2, R2, e4, hR2, r1, r2⟩ := m_column (c := c) (r := r) hR1 hs hr (by omega) (fun k q hk hq => by
      have b1 := (pr_b (hP1 k hk).1 hq).1
      have b2 : (XC u (B (sw i2 r k)) q).natAbs ≤ 3628800 * 99999 := by
        unfold XC
        split
        · have := bb k u (Nat.le_refl _)
          exact Nat.le_trans this (Nat.mul_le_mul_left _ (mm_le u u))
        · split
          · have := bb k q (by omega)
            exact Nat.le_trans this (Nat.mul_le_mul_left _ (mm_le u q))
          · exact Nat.zero_le _
      omega) (fun k hk => by
      have b1 := (pr_b (hP1 k hk).1 (q := c) (by omega)).1
      rw [XC_lt hu hc] at b1
      have b2 := bb k c (by omega)
      unfold mm at b2
      rw [if_pos hc] at b2
      show (R (sw i2 r k) c).natAbs ≤ 3628800
      omega)
    have hp : B (sw i2 r r) c ≠ 0 := by rw [sw_r]; exact x3
    have hv : (g2 (11 * r + c)).toInt = B (sw i2 r r) c := by
      rw [hC2 r c hr (by omega)]
      unfold BS
      rw [if_pos rfl]
    have hr' : BS (fun k => B (sw i2 r k)) r c e.toInt r = (fun k => B (sw i2 r k)) r := by
      funext q
      unfold BS
      rw [if_pos rfl]
    have hm : ∀ k, k ≠ r → ∀ j, e.toInt * BS (fun k => B (sw i2 r k)) r c e.toInt k j = B (sw i2 r r) c * B (sw i2 r k) j - B (sw i2 r k) c * B (sw i2 r r) j := fun k hk j => BS_mul hB1 he c hk j
    have hB2 := BI_step hB1 he (r := r) (c := c) hp hc hr' hm
    rw [x5, zb_s, if_neg n4, e1, zb_s, e3, zb_s, x_cell (by omega) (by omega), zb_s, zl_e, zl_e, nI_1, nI_1]
    rw [if_neg (nI_ge x2 (by omega)), e2, zb_s, e4, zb_s, zl_e, zl_e]
    refine ⟨_, _, rfl, rfl, r + 1, g2 (11 * r + c), g2, rows2, BS (fun k => B (sw i2 r k)) r c e.toInt, R2, rfl, rfl, by omega, by omega, by rw [hv]; exact hp, hC2, hR2, by rw [hv]; exact hB2, fun k hk => ?_, fun hcc => ?_⟩
    · by_cases ck : k = r
      · subst ck
        rw [hr', r1]
        exact hP1 k hk
      · have ha := r2 k hk ck
        refine ⟨pr_step hu hc he (hP1 k hk).1 (hP1 r hr).1 hp (hm k ck) (hP1 k hk).2 ha, ?_⟩
        rcases ha with ⟨_, q⟩ | ⟨_, q, _⟩
        · rw [q]; exact (hP1 k hk).2
        · exact q
    · have hrc2 : r = c := by omega
      subst hrc2
      have hd0 := hdg rfl
      have dz : ∀ i, i < r → ∀ k, k ≠ i → B (sw i2 r k) i = 0 := by
        intro i hi k hk
        refine (hd0 i hi).2 _ (fun hh => hk ?_)
        have := congrArg (sw i2 r) hh
        rw [sw_sw, sw_id (k := i) (by omega) (by omega)] at this
        exact this
      intro i hi
      rw [hv]
      by_cases ci : i = r
      · subst ci
        refine ⟨by rw [hr'], fun k hk => ?_⟩
        have := hm k hk i
        rw [Int.mul_comm (B (sw i2 i k) i), Int.sub_self] at this
        exact (Int.mul_eq_zero.mp this).resolve_left he
      · have hi2 : i < r := by omega
        have z := dz i hi2
        refine ⟨?_, fun k hk => ?_⟩
        · have := hm i ci i
          rw [z r (by omega), Int.mul_zero, Int.sub_zero, sw_id (k := i) (by omega) ci, (hd0 i hi2).1, Int.mul_comm (B (sw i2 r r) r)] at this
          exact Int.eq_of_mul_eq_mul_left he this
        · by_cases ck : k = r
          · subst ck
            rw [hr']
            exact z k hk
          · have := hm k ck i
            rw [z r (by omega), z k hk, Int.mul_zero, Int.mul_zero, Int.sub_zero] at this
            exact (Int.mul_eq_zero.mp this).resolve_left he
  · have hii : i2 = s := by
      rcases Nat.lt_or_ge i2 s with q | q
      · exact absurd ((hz i2 q).mp (x4 i2 m1 q)) (m3 q)
      · omega
    subst hii
    rw [x5, zb_s, if_pos rfl, zl_e, zl_e, nI_1, if_pos (nI_le (Nat.le_refl _) (by omega))]
    exact ⟨_, _, rfl, rfl, r, e, g, rows, B, R, rfl, rfl, by omega, hrs, he, hC, hR, hB, hP, fun hcc => by omega⟩
theorem rest_both {u s r : Nat} {g rows : Nat → Int64} {B R : Nat → Nat → Int} (hu : u ≤ 10) (hs : s ≤ 12) (hr : r ≤ s) (hC : CG u s g B) (hR : RG s rows R) (hP : ∀ i, i < s → PR (XC u (B i)) (R i) ∧ prim (R i)) : ∃ (t : Nat) (a b : Int32), zp (f_X3_solve_L67 (nI u) (nI s) g) zF (nI r) = some (t, a) ∧ zp (f_X12_solve_L211 (nI s) rows) zF (nI r) = some (t, b) := by
  obtain ⟨a, b, ea, eb, e⟩ := zp_r (f := f_X3_solve_L67 (nI u) (nI s) g) (g := f_X12_solve_L211 (nI s) rows) (s := nI r) (t := nI r) (fun j w w' => w = nI (r + j) ∧ w' = nI (r + j)) (fun a b => a.1 = b.1) (s - r) (by omega) ⟨rfl, rfl⟩ (by
    rintro j w w' hj ⟨rfl, rfl⟩
    unfold f_X3_solve_L67 f_X12_solve_L211
    by_cases cj : j = s - r
    · right
      rw [if_pos (nI_le (by omega) (by omega)), if_pos (nI_le (by omega) (by omega))]
      exact ⟨_, _, rfl, rfl, (by decide : ¬ (1 : Nat) = 0), (by decide : ¬ (1 : Nat) = 0), rfl⟩
    · rw [if_neg (nI_ge (by omega) (by omega)), if_neg (nI_ge (by omega) (by omega)), x_cell (by omega) (by omega), zb_s, show f_X12_at (nI (r + j)) 10 rows = _ from m_at (j := 10) (by omega) (by decide) rows, zb_s]
      have h1 := hC (r + j) u (by omega) (Nat.le_refl _)
      have h2 := hR (r + j) 10 (by omega) (by decide)
      have h3 := (pr_b (hP (r + j) (by omega)).1 (q := 10) (by decide)).2
      rw [XC_10] at h3
      by_cases cz : B (r + j) u = 0
      · left
        rw [if_pos ((lg_z _).mpr (h1.trans cz)), if_pos ((lg_z _).mpr (h2.trans (h3.mp cz))), zl_e, nI_1]
        exact ⟨by omega, _, _, rfl, rfl, rfl, rfl⟩
      · right
        rw [if_neg (fun hh => cz (h1.symm.trans ((lg_z _).mp hh))), if_neg (fun hh => cz (h3.mpr (h2.symm.trans ((lg_z _).mp hh))))]
        exact ⟨_, _, rfl, rfl, (by decide : ¬ (2 : Nat) = 0), (by decide : ¬ (2 : Nat) = 0), rfl⟩)
  obtain ⟨t, x⟩ := a
  obtain ⟨t', y⟩ := b
  have e : t = t' := e
  subst e
  exact ⟨t, x, y, ea, eb⟩
/-- a value solved, the same on both sides -/
def SV (u : Nat) (e : Int64) (g rows : Nat → Int64) (i : Nat) : Prop := ∃ l : Int, l ≠ 0 ∧ (g (11 * i + u)).toInt = l * (rows (11 * i + 10)).toInt ∧ e.toInt = l * (rows (11 * i + i)).toInt ∧ e.toInt ≠ 0 ∧ (g (11 * i + u)).toInt.natAbs ≤ 39916800 * 99999 ∧ e.toInt.natAbs ≤ 39916800
theorem solve_both {n : Nat} {unit off top lean ref : Int32} {misses resistors holds : Nat → Int32} (hR : RI n unit off top lean ref misses resistors holds) {size meas : Int32} {codes volts mc mv : Nat → Int32} (hM : MI n size codes volts meas mc mv) (g rows : Nat → Int64) : ∃ (v rk : Int32) (e : Int64) (g' rows' : Nat → Int64), f_X3_solve size (nI n) top codes volts g = some (v, nI (npt n top + 1), e, g') ∧ f_X12_solve meas holds mc mv rows = some (v, rk, rows') ∧ (v = 0 ∨ v = -4 ∨ v = -2) ∧ (v = 0 → ∀ i, i < npt n top + 1 → SV (npt n top + 1) e g' rows' i) := by
  obtain ⟨s, hs, rfl, rfl, hcv, -⟩ := hM
  have h9 : npt n top ≤ 9 := npt_le hR.1.2
  have hv : ∀ i, i < s → -99999 ≤ (volts i).toInt ∧ (volts i).toInt ≤ 99999 := fun i hi => by
    rw [(hcv i hi).2.1]
    exact (hcv i hi).2.2.2
  obtain ⟨g1, e1, hC1⟩ := x_fill (n := n) (s := s) (top := top) (codes := codes) (volts := volts) hs h9 g
  obtain ⟨rows1, e2, hR1⟩ := m_fill (s := s) (codes := codes) (volts := volts) hR (fun i hi => ⟨(hcv i hi).1, (hcv i hi).2.1⟩) hs h9 rows
  have hA := AM_b (n := n) (top := top) (codes := codes) hv
  unfold f_X3_solve f_X12_solve
  rw [e1, zb_s, m_parts hR, zb_s, show (1 : Int32) + nI (npt n top) = nI (npt n top + 1) by rw [show (1 : Int32) = nI 1 from rfl, nI_add, Nat.add_comm], zl_e, e2, zb_s]
  simp only []
  have h0 : SL (AM n top s codes volts) (npt n top + 1) s 0 (0, 0, 1, g1) (0, 0, rows1) := by
    refine ⟨0, 1, g1, rows1, _, _, rfl, rfl, Nat.le_refl _, Nat.zero_le _, by decide, hC1, hR1, BI_init _ _, fun i hi => ⟨⟨1, by decide, fun q _ => by rw [Int.one_mul]⟩, Or.inr ?_⟩, fun _ i hi => by omega⟩
    have d := gU_dvd (XC (npt n top + 1) (AM n top s codes volts i)) 11 0 (by decide)
    rw [XC_lt (by omega) (by omega)] at d
    have : AM n top s codes volts i 0 = 1 := by
      unfold AM
      rw [if_pos hi, if_pos rfl]
    rw [this] at d
    exact Nat.dvd_one.mp d
  obtain ⟨a, b, ea, eb, r, e, g2, rows2, B, R, rfl, rfl, hru, hrs, he, hC, hRG, hB, hP, hdg⟩ := zp_r (f := f_X3_solve_L13 (nI (npt n top + 1)) (nI s)) (g := f_X12_solve_L113 (nI (npt n top + 1)) (nI s)) (SL (AM n top s codes volts) (npt n top + 1) s) (fun a b => ∃ (r : Nat) (e : Int64) (g rows : Nat → Int64) (B R : Nat → Nat → Int), a = (1, (nI r, nI (npt n top + 1), e, g)) ∧ b = (1, (nI (npt n top + 1), nI r, rows)) ∧ r ≤ npt n top + 1 ∧ r ≤ s ∧ e.toInt ≠ 0 ∧ CG (npt n top + 1) s g B ∧ RG s rows R ∧ BI (AM n top s codes volts) (npt n top + 1) r e.toInt B ∧ (∀ i, i < s → PR (XC (npt n top + 1) (B i)) (R i) ∧ prim (R i)) ∧ (r = npt n top + 1 → ∀ i, i < r → B i i = e.toInt ∧ ∀ k, k ≠ i → B k i = 0)) (npt n top + 1) (by omega) h0 (fun j w w' hj hS => by
    by_cases cj : j = npt n top + 1
    · right
      subst cj
      obtain ⟨r, e, g, rows, B, R, rfl, rfl, rest⟩ := hS
      unfold f_X3_solve_L13 f_X12_solve_L113
      simp only []
      rw [if_pos (nI_le (Nat.le_refl _) (by omega)), if_pos (nI_le (Nat.le_refl _) (by omega))]
      exact ⟨_, _, rfl, rfl, (by decide : ¬ (1 : Nat) = 0), (by decide : ¬ (1 : Nat) = 0), r, e, g, rows, B, R, rfl, rfl, rest⟩
    · left
      obtain ⟨v, v', q1, q2, q3⟩ := SL_step (by omega) hs hA (by omega) hS
      exact ⟨by omega, v, v', q1, q2, q3⟩)
  rw [ea, zb_s, eb, zb_s]
  simp only []
  obtain ⟨t, x, y, f1, f2⟩ := rest_both (by omega) hs hrs hC hRG hP
  rw [f1, zb_s, f2, zb_s]
  simp only []
  by_cases ct : t = 1
  · rw [if_pos ct, if_pos ct]
    by_cases cu : npt n top + 1 ≤ r
    · rw [if_pos (nI_le cu (by omega)), if_pos (nI_le cu (by omega))]
      refine ⟨_, _, _, _, _, rfl, rfl, Or.inl rfl, fun _ i hi => ?_⟩
      have er : r = npt n top + 1 := by omega
      obtain ⟨l, hl, hq⟩ := (hP i (by omega)).1
      have q1 := hq 10 (by decide)
      have q2 := hq i (by omega)
      rw [XC_10] at q1
      rw [XC_lt (by omega) hi, (hdg er i (by omega)).1] at q2
      have hmu : ∀ q, q < npt n top + 1 → mm (npt n top + 1) q ≤ 1 := fun q hq => by unfold mm; rw [if_pos hq]; exact Nat.le_refl _
      have b1 := BI_b hB hA hmu i (npt n top + 1)
      have b2 := BI_b hB hA hmu i i
      have b3 : fc (r + 1) ≤ fc 11 := fc_le (by omega)
      rw [fc10.2] at b3
      rw [(hdg er i (by omega)).1] at b2
      have b4 := Nat.le_trans b1 (Nat.mul_le_mul b3 (mm_le _ _))
      have b5 := Nat.le_trans b2 (Nat.mul_le_mul b3 (hmu i hi))
      refine ⟨l, hl, ?_, ?_, he, ?_, by omega⟩
      · rw [hC i _ (by omega) (Nat.le_refl _), hRG i 10 (by omega) (by decide)]; exact q1
      · rw [hRG i i (by omega) (by omega)]; exact q2
      · rw [hC i _ (by omega) (Nat.le_refl _)]; exact b4
    · rw [if_neg (nI_ge (by omega) (by omega)), if_neg (nI_ge (by omega) (by omega))]
      exact ⟨_, _, _, _, _, rfl, rfl, Or.inr (Or.inl rfl), fun hh => absurd hh (by decide)⟩
  · rw [if_neg ct, if_neg ct]
    exact ⟨_, _, _, _, _, rfl, rfl, Or.inr (Or.inr rfl), fun hh => absurd hh (by decide)⟩
