/-! what was measured, as a grid -/
def AM (n : Nat) (top : Int32) (s : Nat) (codes volts : Nat → Int32) (i j : Nat) : Int :=
  if i < s then (if j = 0 then 1 else if j < npt n top + 1 then (if tkn (nI n) top (codes i) (nI (j - 1)) = 0 then 0 else 1) else if j = npt n top + 1 then (volts i).toInt else 0) else 0
section
variable {n s : Nat} {top : Int32} {codes volts : Nat → Int32}
theorem AM_b (hv : ∀ i, i < s → -99999 ≤ (volts i).toInt ∧ (volts i).toInt ≤ 99999) (i j : Nat) : (AM n top s codes volts i j).natAbs ≤ mm (npt n top + 1) j := by
  unfold AM mm
  by_cases c1 : i < s
  · rw [if_pos c1]
    have := hv i c1
    by_cases c2 : j = 0
    · rw [if_pos c2, if_pos (by omega)]; decide
    · rw [if_neg c2]
      by_cases c3 : j < npt n top + 1
      · rw [if_pos c3, if_pos c3]
        split <;> decide
      · rw [if_neg c3, if_neg c3]
        split <;> omega
  · rw [if_neg c1]
    exact Nat.zero_le _
theorem x_fillL {i : Nat} (hi : i < s) (hs : s ≤ 12) (h9 : npt n top ≤ 9) {g0 : Nat → Int64} (h0 : (g0 (11 * i)).toInt = 1) : ∃ g', zp (f_X3_fillGrid_L34 (nI (npt n top)) (nI i) (nI n) top codes) zF (0, g0) = some (1, (nI (npt n top), g')) ∧ (∀ q, q ≤ npt n top → (g' (11 * i + q)).toInt = AM n top s codes volts i q) ∧ ∀ k q, k ≠ i → q ≤ npt n top + 1 → g' (11 * k + q) = g0 (11 * k + q) := by
  obtain ⟨a, ea, g', rfl, h1, h2⟩ := zp_i (f := f_X3_fillGrid_L34 (nI (npt n top)) (nI i) (nI n) top codes) (s := ((0 : Int32), g0)) (fun j w => ∃ g', w = (nI j, g') ∧ (∀ q, q ≤ j → (g' (11 * i + q)).toInt = AM n top s codes volts i q) ∧ ∀ k q, k ≠ i → q ≤ npt n top + 1 → g' (11 * k + q) = g0 (11 * k + q)) (fun a => ∃ g', a = (1, (nI (npt n top), g')) ∧ (∀ q, q ≤ npt n top → (g' (11 * i + q)).toInt = AM n top s codes volts i q) ∧ ∀ k q, k ≠ i → q ≤ npt n top + 1 → g' (11 * k + q) = g0 (11 * k + q)) (npt n top) (by omega) ⟨g0, rfl, fun q hq => by
      rw [show q = 0 by omega, Nat.add_zero, h0]
      unfold AM
      rw [if_pos hi, if_pos rfl], fun k q _ _ => rfl⟩ (by
    rintro j w hj ⟨g', rfl, hg, ho⟩
    unfold f_X3_fillGrid_L34 f_X3_fillGrid_J65_34
    simp only []
    by_cases cj : j = npt n top
    · right
      rw [if_pos (nI_le (by omega) (by omega))]
      exact ⟨_, rfl, (by decide : ¬ (1 : Nat) = 0), g', by rw [cj], fun q hq => hg q (by omega), ho⟩
    · left
      refine ⟨by omega, ?_⟩
      rw [if_neg (nI_ge (by omega) (by omega)), x_codeAt (by omega), zb_s, x_takes, zb_s, show (1 : Int32) + nI j = nI (j + 1) by rw [show (1 : Int32) = nI 1 from rfl, nI_add, Nat.add_comm]]
      have fin : ∀ v : Int64, v.toInt = AM n top s codes volts i (j + 1) → ∃ s', (zb (f_X3_putCell (nI i) (nI (j + 1)) v g') fun z65 => zl (nI j + 1) fun x68 => some (0, (x68, z65))) = some (0, s') ∧ ∃ g', s' = (nI (j + 1), g') ∧ (∀ q, q ≤ j + 1 → (g' (11 * i + q)).toInt = AM n top s codes volts i q) ∧ ∀ k q, k ≠ i → q ≤ npt n top + 1 → g' (11 * k + q) = g0 (11 * k + q) := by
        intro v hv
        rw [x_putc (by omega) (by omega), zb_s, zl_e, nI_1]
        refine ⟨_, rfl, _, rfl, fun q hq => ?_, fun k q hk hq => ?_⟩
        · by_cases cq : q = j + 1
          · subst cq
            rw [pk_uLs, hv]
          · rw [pk_uLn (by omega)]
            exact hg q (by omega)
        · rw [pk_uLn (by omega)]
          exact ho k q hk hq
      have hA : AM n top s codes volts i (j + 1) = if tkn (nI n) top (codes i) (nI j) = 0 then 0 else 1 := by
        unfold AM
        rw [if_pos hi, if_neg (by omega), if_pos (by omega), Nat.add_sub_cancel]
      by_cases ct : tkn (nI n) top (codes i) (nI j) = 0
      · rw [if_pos ct] at hA ⊢
        exact fin 0 (by rw [hA]; rfl)
      · rw [if_neg ct] at hA ⊢
        exact fin 1 (by rw [hA]; rfl))
  exact ⟨g', ea, h1, h2⟩
theorem x_fill (hs : s ≤ 12) (h9 : npt n top ≤ 9) (g : Nat → Int64) : ∃ g', f_X3_fillGrid (nI s) (nI n) top codes volts g = some (nI (npt n top + 1), g') ∧ CG (npt n top + 1) s g' (AM n top s codes volts) := by
  unfold f_X3_fillGrid
  rw [x_parts, zb_s, show (1 : Int32) + nI (npt n top) = nI (npt n top + 1) by rw [show (1 : Int32) = nI 1 from rfl, nI_add, Nat.add_comm], zl_e]
  obtain ⟨a, ea, g', rfl, h1⟩ := zp_i (f := f_X3_fillGrid_L17 (nI (npt n top)) (nI (npt n top + 1)) (nI s) (nI n) top codes volts) (s := ((0 : Int32), g)) (fun j w => ∃ g', w = (nI j, g') ∧ ∀ i q, i < j → q ≤ npt n top + 1 → (g' (11 * i + q)).toInt = AM n top s codes volts i q) (fun a => ∃ g', a = (1, (nI s, g')) ∧ CG (npt n top + 1) s g' (AM n top s codes volts)) s (by omega) ⟨g, rfl, fun i q hi => by omega⟩ (by
    rintro j w hj ⟨g', rfl, hg⟩
    unfold f_X3_fillGrid_L17
    simp only []
    by_cases cj : j = s
    · right
      subst cj
      rw [if_pos (nI_le (by omega) (by omega))]
      exact ⟨_, rfl, (by decide : ¬ (1 : Nat) = 0), g', rfl, hg⟩
    · left
      refine ⟨by omega, ?_⟩
      rw [if_neg (nI_ge (by omega) (by omega)), show f_X3_putCell (nI j) 0 1 g' = some (vp_updL g' (11 * j + 0) 1) from x_putc (j := 0) (by omega) (by decide) 1 g', zb_s]
      obtain ⟨g2, e2, f1, f2⟩ := x_fillL (n := n) (s := s) (top := top) (codes := codes) (volts := volts) (i := j) (by omega) hs h9 (g0 := vp_updL g' (11 * j + 0) 1) (by rw [Nat.add_zero, pk_uLs]; rfl)
      rw [e2, zb_s, x_voltAt (by omega), zb_s]
      simp only []
      rw [x_putc (by omega) (by omega), zb_s, zl_e, nI_1]
      refine ⟨_, rfl, _, rfl, fun i q hi hq => ?_⟩
      by_cases ci : i = j
      · subst ci
        by_cases cq : q = npt n top + 1
        · subst cq
          rw [pk_uLs, w64]
          unfold AM
          rw [if_pos (by omega), if_neg (by omega), if_neg (by omega), if_pos rfl]
        · rw [pk_uLn (by omega)]
          exact f1 q (by omega)
      · rw [pk_uLn (by omega), f2 i q ci hq, pk_uLn (by omega)]
        exact hg i q (by omega) hq)
  rw [ea, zb_s]
  exact ⟨g', rfl, h1⟩
theorem m_fillL {unit off lean ref : Int32} {misses resistors holds : Nat → Int32} (hR : RI n unit off top lean ref misses resistors holds) {mc mv : Nat → Int32} (hcv : ∀ i, i < s → codes i = mc i ∧ volts i = mv i) {i : Nat} (hi : i < s) (hs : s ≤ 12) (h9 : npt n top ≤ 9) (g0 : Nat → Int64) : ∃ g', zp (f_X12_solve_L19 (nI (npt n top + 1)) (nI i) holds mc mv) zF (0, g0) = some (1, (nI 11, g')) ∧ (∀ q, q < 11 → (g' (11 * i + q)).toInt = XC (npt n top + 1) (AM n top s codes volts i) q) ∧ ∀ k q, k ≠ i → q < 11 → g' (11 * k + q) = g0 (11 * k + q) := by
  obtain ⟨a, ea, g', rfl, h1, h2⟩ := zp_i (f := f_X12_solve_L19 (nI (npt n top + 1)) (nI i) holds mc mv) (s := ((0 : Int32), g0)) (fun j w => ∃ g', w = (nI j, g') ∧ (∀ q, q < j → (g' (11 * i + q)).toInt = XC (npt n top + 1) (AM n top s codes volts i) q) ∧ ∀ k q, k ≠ i → q < 11 → g' (11 * k + q) = g0 (11 * k + q)) (fun a => ∃ g', a = (1, (nI 11, g')) ∧ (∀ q, q < 11 → (g' (11 * i + q)).toInt = XC (npt n top + 1) (AM n top s codes volts i) q) ∧ ∀ k q, k ≠ i → q < 11 → g' (11 * k + q) = g0 (11 * k + q)) 11 (by omega) ⟨g0, rfl, fun q hq => by omega, fun k q _ _ => rfl⟩ (by
    rintro j w hj ⟨g', rfl, hg, ho⟩
    unfold f_X12_solve_L19 f_X12_solve_J54_19 f_X12_solve_J50_19
    simp only []
    by_cases cj : j = 11
    · right
      subst cj
      rw [if_pos (by decide)]
      exact ⟨_, rfl, (by decide : ¬ (1 : Nat) = 0), g', rfl, hg, ho⟩
    · left
      refine ⟨by omega, ?_⟩
      rw [if_neg (show ¬ (11 : Int32) ≤ nI j from nI_ge (b := 11) (by omega) (by decide))]
      have fin : ∀ v : Int64, v.toInt = XC (npt n top + 1) (AM n top s codes volts i) j → ∃ s', f_X12_solve_J93_19 (nI j) v (11 * nI i + nI j) g' = some (0, s') ∧ ∃ g', s' = (nI (j + 1), g') ∧ (∀ q, q < j + 1 → (g' (11 * i + q)).toInt = XC (npt n top + 1) (AM n top s codes volts i) q) ∧ ∀ k q, k ≠ i → q < 11 → g' (11 * k + q) = g0 (11 * k + q) := by
        intro v hv
        unfold f_X12_solve_J93_19
        rw [pos11', zc_nI (by omega) (by decide), zl_e, zl_e, nI_1, nI_clamp (by omega)]
        refine ⟨_, rfl, _, rfl, fun q hq => ?_, fun k q hk hq => ?_⟩
        · by_cases cq : q = j
          · subst cq
            rw [pk_uLs, hv]
          · rw [pk_uLn (by omega)]
            exact hg q (by omega)
        · rw [pk_uLn (by omega)]
          exact ho k q hk hq
      have fin2 : ∀ k0 : Int32, (¬ j = 10 → (if k0 = 0 then 0 else 1) = XC (npt n top + 1) (AM n top s codes volts i) j) → ∃ s', f_X12_solve_J55_19 (nI i) (nI j) k0 mv g' = some (0, s') ∧ ∃ g', s' = (nI (j + 1), g') ∧ (∀ q, q < j + 1 → (g' (11 * i + q)).toInt = XC (npt n top + 1) (AM n top s codes volts i) q) ∧ ∀ k q, k ≠ i → q < 11 → g' (11 * k + q) = g0 (11 * k + q) := by
        intro k0 hk0
        unfold f_X12_solve_J55_19
        by_cases c10 : j = 10
        · subst c10
          rw [if_pos (by decide), zc_nI (by omega) (by decide), nI_clamp (by omega)]
          refine fin _ ?_
          rw [w64, XC_10, ← (hcv i hi).2]
          unfold AM
          rw [if_pos hi, if_neg (by omega), if_neg (by omega), if_pos rfl]
        · rw [if_neg (show ¬ nI j = (10 : Int32) from fun hh => c10 (nI_ij (a := j) (b := 10) (by omega) (by decide) hh))]
          have hz := hk0 c10
          by_cases z : k0 = 0
          · rw [if_pos z] at hz ⊢
            exact fin 0 (by rw [← hz]; rfl)
          · rw [if_neg z] at hz ⊢
            exact fin 1 (by rw [← hz]; rfl)
      by_cases c0 : j = 0
      · subst c0
        rw [if_pos (show nI 0 = (0 : Int32) from rfl)]
        refine fin2 1 (fun _ => ?_)
        rw [if_neg n10, XC_lt (by omega) (by omega)]
        unfold AM
        rw [if_pos hi, if_pos rfl]
      · rw [if_neg (show ¬ nI j = (0 : Int32) from fun hh => c0 (nI_ij (a := j) (b := 0) (by omega) (by decide) hh))]
        by_cases cu : npt n top + 1 ≤ j
        · rw [if_pos (nI_le cu (by omega))]
          refine fin2 0 (fun c10 => ?_)
          rw [if_pos rfl, XC_0 cu (by omega)]
        · rw [if_neg (nI_ge (by omega) (by omega)), zc_nI (by omega) (by decide), nI_clamp (by omega), m_taken hR, zb_s, nI_m1 (by omega), ← (hcv i hi).1]
          have hA : AM n top s codes volts i j = if tkn (nI n) top (codes i) (nI (j - 1)) = 0 then 0 else 1 := by
            unfold AM
            rw [if_pos hi, if_neg c0, if_pos (by omega)]
          by_cases ct : tkn (nI n) top (codes i) (nI (j - 1)) = 0
          · rw [if_pos ct] at hA ⊢
            refine fin2 0 (fun _ => ?_)
            rw [if_pos rfl, XC_lt (by omega) (by omega), hA]
          · rw [if_neg ct] at hA ⊢
            refine fin2 1 (fun _ => ?_)
            rw [if_neg n10, XC_lt (by omega) (by omega), hA])
  exact ⟨g', ea, h1, h2⟩
theorem m_fill {unit off lean ref : Int32} {misses resistors holds : Nat → Int32} (hR : RI n unit off top lean ref misses resistors holds) {mc mv : Nat → Int32} (hcv : ∀ i, i < s → codes i = mc i ∧ volts i = mv i) (hs : s ≤ 12) (h9 : npt n top ≤ 9) (g : Nat → Int64) : ∃ g', zp (f_X12_solve_L9 (nI (npt n top + 1)) (nI s) holds mc mv) zF (0, g) = some (1, (nI s, g')) ∧ RG s g' (fun i => XC (npt n top + 1) (AM n top s codes volts i)) := by
  obtain ⟨a, ea, g', rfl, h1⟩ := zp_i (f := f_X12_solve_L9 (nI (npt n top + 1)) (nI s) holds mc mv) (s := ((0 : Int32), g)) (fun j w => ∃ g', w = (nI j, g') ∧ ∀ i q, i < j → q < 11 → (g' (11 * i + q)).toInt = XC (npt n top + 1) (AM n top s codes volts i) q) (fun a => ∃ g', a = (1, (nI s, g')) ∧ RG s g' (fun i => XC (npt n top + 1) (AM n top s codes volts i))) s (by omega) ⟨g, rfl, fun i q hi => by omega⟩ (by
    rintro j w hj ⟨g', rfl, hg⟩
    unfold f_X12_solve_L9
    simp only []
    by_cases cj : j = s
    · right
      subst cj
      rw [if_pos (nI_le (by omega) (by omega))]
      exact ⟨_, rfl, (by decide : ¬ (1 : Nat) = 0), g', rfl, hg⟩
    · left
      refine ⟨by omega, ?_⟩
      obtain ⟨g2, e2, f1, f2⟩ := m_fillL hR hcv (i := j) (by omega) hs h9 g'
      rw [if_neg (nI_ge (by omega) (by omega)), e2, zb_s, zl_e, nI_1]
      refine ⟨_, rfl, _, rfl, fun i q hi hq => ?_⟩
      by_cases ci : i = j
      · subst ci
        exact f1 q hq
      · show (g2 (11 * i + q)).toInt = _
        rw [f2 i q ci hq]
        exact hg i q (by omega) hq)
  exact ⟨g', ea, h1⟩
end
