/-! the class's grid -/
def CG (u s : Nat) (g : Nat → Int64) (B : Nat → Nat → Int) : Prop := ∀ i j, i < s → j ≤ u → (g (11 * i + j)).toInt = B i j
theorem pos11 {i j : Nat} : nI i * (11 : Int32) + nI j = nI (11 * i + j) := by
  rw [show (11 : Int32) = nI 11 from rfl, pk_mul, nI_add, Nat.mul_comm]
theorem pos11' {i j : Nat} : (11 : Int32) * nI i + nI j = nI (11 * i + j) := by
  rw [show (11 : Int32) = nI 11 from rfl, pk_mul, nI_add]
theorem x_cell {i j : Nat} (hi : i < 12) (hj : j < 11) (g : Nat → Int64) : f_X3_cell (nI i) (nI j) g = some (g (11 * i + j)) := by
  unfold f_X3_cell
  rw [pos11, zl_e, if_neg (nI_pos (by omega)), if_neg (show ¬ (132 : Int32) ≤ nI (11 * i + j) from nI_ge (b := 132) (by omega) (by decide)), zc_nI (by omega) (by decide), nI_clamp (by omega)]
theorem x_putc {i j : Nat} (hi : i < 12) (hj : j < 11) (v : Int64) (g : Nat → Int64) : f_X3_putCell (nI i) (nI j) v g = some (vp_updL g (11 * i + j) v) := by
  unfold f_X3_putCell
  rw [pos11, zl_e, if_neg (nI_pos (by omega)), if_neg (show ¬ (132 : Int32) ≤ nI (11 * i + j) from nI_ge (b := 132) (by omega) (by decide)), zc_nI (by omega) (by decide), zl_e, nI_clamp (by omega)]
theorem lg_z (z : Int64) : lg_cmp z 0 = 0 ↔ z.toInt = 0 := by
  rw [lg_eq, i64_eq]
  exact Iff.rfl
section
variable {u s : Nat} {g : Nat → Int64} {B : Nat → Nat → Int}
theorem x_rowWith (hC : CG u s g B) (hu : u ≤ 10) (hs : s ≤ 12) {c r : Nat} (hc : c ≤ u) (hr : r ≤ s) : (∃ i, r ≤ i ∧ i < s ∧ B i c ≠ 0 ∧ (∀ k, r ≤ k → k < i → B k c = 0) ∧ f_X3_rowWith (nI c) (nI r) (nI s) g = some (nI i)) ∨ ((∀ k, r ≤ k → k < s → B k c = 0) ∧ f_X3_rowWith (nI c) (nI r) (nI s) g = some (-4)) := by
  unfold f_X3_rowWith
  obtain ⟨a, ea, hq⟩ := zp_i (f := f_X3_rowWith_L2 (nI c) (nI s) g) (s := nI r) (fun j w => w = nI (r + j) ∧ ∀ k, r ≤ k → k < r + j → B k c = 0) (fun a => (a.1 = 1 ∧ ∀ k, r ≤ k → k < s → B k c = 0) ∨ (a.1 = 2 ∧ ∃ i, a.2 = nI i ∧ r ≤ i ∧ i < s ∧ B i c ≠ 0 ∧ ∀ k, r ≤ k → k < i → B k c = 0)) (s - r) (by omega) ⟨rfl, fun k h1 h2 => by omega⟩ (by
    rintro j w hj ⟨rfl, hz⟩
    unfold f_X3_rowWith_L2
    by_cases cj : j = s - r
    · right
      rw [if_pos (nI_le (by omega) (by omega))]
      exact ⟨_, rfl, (by decide : ¬ (1 : Nat) = 0), Or.inl ⟨rfl, fun k h1 h2 => hz k h1 (by omega)⟩⟩
    · rw [if_neg (nI_ge (by omega) (by omega)), x_cell (by omega) (by omega), zb_s]
      have hv := hC (r + j) c (by omega) hc
      by_cases cz : B (r + j) c = 0
      · left
        rw [if_pos ((lg_z _).mpr (hv.trans cz)), zl_e, nI_1]
        refine ⟨by omega, _, rfl, rfl, fun k h1 h2 => ?_⟩
        by_cases e : k = r + j
        · rw [e]; exact cz
        · exact hz k h1 (by omega)
      · right
        rw [if_neg (fun hh => cz (hv.symm.trans ((lg_z _).mp hh)))]
        exact ⟨_, rfl, (by decide : ¬ (2 : Nat) = 0), Or.inr ⟨rfl, _, rfl, by omega, by omega, cz, hz⟩⟩)
  rw [ea, zb_s]
  rcases hq with ⟨e, hz⟩ | ⟨e, i, e2, h1, h2, h3, h4⟩
  · right
    rw [if_pos e]
    exact ⟨hz, rfl⟩
  · left
    rw [if_neg (by rw [e]; decide), e2]
    exact ⟨i, h1, h2, h3, h4, rfl⟩
theorem x_swap (hC : CG u s g B) (hu : u ≤ 10) (hs : s ≤ 12) {i r : Nat} (hi : i < s) (hr : r < s) : ∃ g', f_X3_swapRows (nI i) (nI r) (nI u) g = some g' ∧ CG u s g' (fun k => B (sw i r k)) := by
  unfold f_X3_swapRows
  obtain ⟨a, ea, g', rfl, hq⟩ := zp_i (f := f_X3_swapRows_L2 (nI i) (nI r) (nI u)) (s := ((0 : Int32), g)) (fun j w => ∃ g', w = (nI j, g') ∧ ∀ k q, k < s → q ≤ u → (g' (11 * k + q)).toInt = if q < j then B (sw i r k) q else B k q) (fun a => ∃ g', a = (1, (nI (u + 1), g')) ∧ CG u s g' (fun k => B (sw i r k))) (u + 1) (by omega) ⟨g, rfl, fun k q h1 h2 => by rw [if_neg (by omega)]; exact hC k q h1 h2⟩ (by
    rintro j w hj ⟨g', rfl, hg⟩
    unfold f_X3_swapRows_L2
    simp only []
    by_cases cj : j = u + 1
    · right
      subst cj
      rw [if_pos (nI_lt (by omega) (by omega))]
      exact ⟨_, rfl, (by decide : ¬ (1 : Nat) = 0), g', rfl, fun k q h1 h2 => by rw [hg k q h1 h2, if_pos (by omega)]⟩
    · left
      rw [if_neg (nI_nlt (by omega) (by omega)), x_cell (by omega) (by omega), zb_s, x_cell (by omega) (by omega), zb_s, x_putc (by omega) (by omega), zb_s, x_putc (by omega) (by omega), zb_s, zl_e, nI_1]
      refine ⟨by omega, _, rfl, _, rfl, fun k q h1 h2 => ?_⟩
      have hI := hg i j hi (by omega)
      have hR := hg r j hr (by omega)
      rw [if_neg (by omega)] at hI hR
      by_cases cq : q = j
      · subst cq
        rw [if_pos (by omega)]
        by_cases kr : k = r
        · subst kr
          rw [pk_uLs, hI]
          unfold sw
          by_cases e : k = i
          · rw [if_pos e, e]
          · rw [if_neg e, if_pos rfl]
        · rw [pk_uLn (by omega)]
          by_cases ki : k = i
          · subst ki
            rw [pk_uLs, hR]
            unfold sw
            rw [if_pos rfl]
          · rw [pk_uLn (by omega), hg k q h1 h2, if_neg (by omega)]
            unfold sw
            rw [if_neg ki, if_neg kr]
      · rw [pk_uLn (by omega), pk_uLn (by omega), hg k q h1 h2]
        by_cases c2 : q < j
        · rw [if_pos c2, if_pos (by omega)]
        · rw [if_neg c2, if_neg (by omega)])
  rw [ea, zb_s]
  exact ⟨g', rfl, hq⟩
def mm (u q : Nat) : Nat := if q < u then 1 else 99999
theorem mul_n {a b : Int} {x y : Nat} (ha : a.natAbs ≤ x) (hb : b.natAbs ≤ y) : (a * b).natAbs ≤ x * y := by
  rw [Int.natAbs_mul]
  exact Nat.mul_le_mul ha hb
theorem mm_le (u q : Nat) : mm u q ≤ 99999 := by unfold mm; split <;> omega
theorem dif_L {a b c d : Int64} {M : Nat} (ha : a.toInt.natAbs ≤ 3628800) (hb : b.toInt.natAbs ≤ 3628800 * 99999) (hc : c.toInt.natAbs ≤ 3628800) (hd : d.toInt.natAbs ≤ 3628800 * 99999) : (a * b - c * d).toInt = a.toInt * b.toInt - c.toInt * d.toInt ∧ (a.toInt * b.toInt - c.toInt * d.toInt).natAbs ≤ 2 * (3628800 * (3628800 * 99999)) := by
  have h1 := mul_n ha hb
  have h2 := mul_n hc hd
  have e1 : (a * b).toInt = a.toInt * b.toInt := fb_mulL (by omega) (by omega)
  have e2 : (c * d).toInt = c.toInt * d.toInt := fb_mulL (by omega) (by omega)
  refine ⟨?_, by omega⟩
  rw [fb_subL (by rw [e1, e2]; omega) (by rw [e1, e2]; omega), e1, e2]
theorem div_L {a b : Int64} (ha : a.toInt.natAbs < 2 ^ 62) (hd : b.toInt ∣ a.toInt) (hb : b.toInt ≠ 0) : (a / b).toInt = a.toInt / b.toInt := by
  rw [Int64.toInt_div, Int.tdiv_eq_ediv_of_dvd hd]
  obtain ⟨x, hx⟩ := hd
  rw [hx, Int.mul_ediv_cancel_left _ hb]
  have h1 : x.natAbs ≤ a.toInt.natAbs := by
    rw [hx, Int.natAbs_mul]
    have := Nat.mul_le_mul_right x.natAbs (show 1 ≤ b.toInt.natAbs by omega)
    omega
  exact fb_bmodL (by omega) (by omega)
theorem x_clear {k c r : Nat} {bk br : Nat → Int} {p64 e64 : Int64} (hu : u ≤ 10) (hk12 : k < 12) (hr12 : r < 12) (hkr : k ≠ r) (hc : c < u) (hk : ∀ q, q ≤ u → (g (11 * k + q)).toInt = bk q) (hr : ∀ q, q ≤ u → (g (11 * r + q)).toInt = br q) (bp : p64.toInt.natAbs ≤ 3628800) (bbk : ∀ q, q ≤ u → (bk q).natAbs ≤ 3628800 * mm u q) (bbr : ∀ q, q ≤ u → (br q).natAbs ≤ 3628800 * mm u q) (he : e64.toInt ≠ 0) (hd : ∀ q, q ≤ u → e64.toInt ∣ p64.toInt * bk q - bk c * br q) : ∃ g', f_X3_clearCell (nI k) (nI c) (nI r) p64 (nI u) e64 g = some g' ∧ (∀ q, q ≤ u → (g' (11 * k + q)).toInt = (p64.toInt * bk q - bk c * br q) / e64.toInt) ∧ ∀ i q, i ≠ k → q ≤ u → g' (11 * i + q) = g (11 * i + q) := by
  unfold f_X3_clearCell
  have ne : ¬ e64 = 0 := fun hh => he (by rw [hh]; rfl)
  rw [if_neg (fun hh => he ((lg_z _).mp hh)), x_cell hk12 (by omega), zb_s]
  have hcc := hk c (by omega)
  have bc : (bk c).natAbs ≤ 3628800 := by
    have := bbk c (by omega)
    unfold mm at this
    rw [if_pos hc] at this
    omega
  have big : ∀ q, 3628800 * mm u q ≤ 3628800 * 99999 := fun q => Nat.mul_le_mul_left _ (mm_le u q)
  obtain ⟨a, ea, g', rfl, hq⟩ := zp_i (f := f_X3_clearCell_L21 (nI k) (nI r) p64 (g (11 * k + c)) (nI u) e64) (s := ((0 : Int32), g)) (fun j w => ∃ g', w = (nI j, g') ∧ (∀ q, q ≤ u → (g' (11 * k + q)).toInt = if q < j then (p64.toInt * bk q - bk c * br q) / e64.toInt else bk q) ∧ ∀ i q, i ≠ k → q ≤ u → g' (11 * i + q) = g (11 * i + q)) (fun a => ∃ g', a = (1, (nI (u + 1), g')) ∧ (∀ q, q ≤ u → (g' (11 * k + q)).toInt = (p64.toInt * bk q - bk c * br q) / e64.toInt) ∧ ∀ i q, i ≠ k → q ≤ u → g' (11 * i + q) = g (11 * i + q)) (u + 1) (by omega) ⟨g, rfl, fun q h2 => by rw [if_neg (by omega)]; exact hk q h2, fun i q _ _ => rfl⟩ (by
    rintro j w hj ⟨g', rfl, hg, ho⟩
    unfold f_X3_clearCell_L21
    simp only []
    by_cases cj : j = u + 1
    · right
      subst cj
      rw [if_pos (nI_lt (by omega) (by omega))]
      exact ⟨_, rfl, (by decide : ¬ (1 : Nat) = 0), g', rfl, fun q h2 => by rw [hg q h2, if_pos (by omega)], ho⟩
    · left
      rw [if_neg (nI_nlt (by omega) (by omega)), x_cell hk12 (by omega), zb_s, x_cell hr12 (by omega), zb_s, zl_e, znl_ne ne, x_putc hk12 (by omega), zb_s, zl_e, nI_1]
      refine ⟨by omega, _, rfl, _, rfl, fun q h2 => ?_, fun i q hi h2 => ?_⟩
      · by_cases cq : q = j
        · subst cq
          rw [if_pos (by omega), pk_uLs]
          have v1 : (g' (11 * k + q)).toInt = bk q := by rw [hg q h2, if_neg (by omega)]
          have v2 : (g' (11 * r + q)).toInt = br q := by rw [ho r q (by omega) h2]; exact hr q h2
          have b1 := bbk q h2
          have b2 := bbr q h2
          have b3 := big q
          obtain ⟨d1, d2⟩ := dif_L (M := 0) (a := p64) (b := g' (11 * k + q)) (c := g (11 * k + c)) (d := g' (11 * r + q)) bp (by rw [v1]; omega) (by rw [hcc]; exact bc) (by rw [v2]; omega)
          rw [v1, v2, hcc] at d1 d2
          rw [div_L (by rw [d1]; omega) (by rw [d1]; exact hd q h2) he, d1]
        · rw [pk_uLn (by omega), hg q h2]
          by_cases c2 : q < j
          · rw [if_pos c2, if_pos (by omega)]
          · rw [if_neg c2, if_neg (by omega)]
      · rw [pk_uLn (by omega), ho i q hi h2])
  rw [ea, zb_s]
  exact ⟨g', rfl, hq⟩
/-- the matrix after a step -/
def BS (B : Nat → Nat → Int) (r c : Nat) (e : Int) (k q : Nat) : Int := if k = r then B r q else (B r c * B k q - B k c * B r q) / e
theorem x_column {r c : Nat} {e64 : Int64} (hC : CG u s g B) (hu : u ≤ 10) (hs : s ≤ 12) (hr : r < s) (hc : c < u) (bb : ∀ i q, q ≤ u → (B i q).natAbs ≤ 3628800 * mm u q) (he : e64.toInt ≠ 0) (hd : ∀ k q, k ≠ r → q ≤ u → e64.toInt ∣ B r c * B k q - B k c * B r q) : ∃ g', f_X3_clearColumn (nI c) (nI r) (nI u) (nI s) e64 g = some g' ∧ CG u s g' (BS B r c e64.toInt) := by
  unfold f_X3_clearColumn
  rw [x_cell (by omega) (by omega), zb_s]
  have hp := hC r c hr (by omega)
  have bp : (g (11 * r + c)).toInt.natAbs ≤ 3628800 := by
    have := bb r c (by omega)
    unfold mm at this
    rw [if_pos hc] at this
    rw [hp]
    omega
  obtain ⟨a, ea, g', rfl, hq⟩ := zp_i (f := f_X3_clearColumn_L10 (nI c) (nI r) (g (11 * r + c)) (nI u) (nI s) e64) (s := ((0 : Int32), g)) (fun j w => ∃ g', w = (nI j, g') ∧ ∀ i q, i < s → q ≤ u → (g' (11 * i + q)).toInt = if i < j then BS B r c e64.toInt i q else B i q) (fun a => ∃ g', a = (1, (nI s, g')) ∧ CG u s g' (BS B r c e64.toInt)) s (by omega) ⟨g, rfl, fun i q h1 h2 => by rw [if_neg (by omega)]; exact hC i q h1 h2⟩ (by
    rintro j w hj ⟨g', rfl, hg⟩
    unfold f_X3_clearColumn_L10 f_X3_clearColumn_J34_10
    simp only []
    by_cases cj : j = s
    · right
      subst cj
      rw [if_pos (nI_le (by omega) (by omega))]
      exact ⟨_, rfl, (by decide : ¬ (1 : Nat) = 0), g', rfl, fun i q h1 h2 => by rw [hg i q h1 h2, if_pos h1]⟩
    · left
      rw [if_neg (nI_ge (by omega) (by omega))]
      refine ⟨by omega, ?_⟩
      by_cases cr : j = r
      · subst cr
        rw [if_pos rfl, zl_e, nI_1]
        refine ⟨_, rfl, g', rfl, fun i q h1 h2 => ?_⟩
        rw [hg i q h1 h2]
        by_cases c2 : i < j
        · rw [if_pos c2, if_pos (by omega)]
        · rw [if_neg c2]
          by_cases c3 : i = j
          · subst c3
            rw [if_pos (by omega)]
            unfold BS
            rw [if_pos rfl]
          · rw [if_neg (by omega)]
      · rw [if_neg (fun hh => cr (nI_ij (by omega) (by omega) hh))]
        have hR : ∀ q, q ≤ u → (g' (11 * r + q)).toInt = B r q := by
          intro q h2
          rw [hg r q hr h2]
          by_cases c2 : r < j
          · rw [if_pos c2]; unfold BS; rw [if_pos rfl]
          · rw [if_neg c2]
        obtain ⟨g2, e2, f1, f2⟩ := x_clear (g := g') (k := j) (c := c) (r := r) (bk := B j) (br := B r) (p64 := g (11 * r + c)) (e64 := e64) hu (by omega) (by omega) cr hc (fun q h2 => by rw [hg j q (by omega) h2, if_neg (by omega)]) hR bp (fun q h2 => bb j q h2) (fun q h2 => bb r q h2) he (fun q h2 => by rw [hp]; exact hd j q cr h2)
        rw [e2, zb_s, zl_e, nI_1]
        refine ⟨_, rfl, g2, rfl, fun i q h1 h2 => ?_⟩
        by_cases c3 : i = j
        · subst c3
          rw [f1 q h2, if_pos (by omega), hp]
          unfold BS
          rw [if_neg cr]
        · rw [f2 i q c3 h2, hg i q h1 h2]
          by_cases c2 : i < j
          · rw [if_pos c2, if_pos (by omega)]
          · rw [if_neg c2, if_neg (by omega)])
  rw [ea, zb_s]
  exact ⟨g', rfl, hq⟩
end
