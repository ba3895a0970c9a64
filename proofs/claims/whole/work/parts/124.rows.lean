/-! the reference's rows -/
def RG (s : Nat) (rows : Nat → Int64) (R : Nat → Nat → Int) : Prop := ∀ i q, i < s → q < 11 → (rows (11 * i + q)).toInt = R i q
theorem m_at {i j : Nat} (hi : i < 12) (hj : j < 11) (g : Nat → Int64) : f_X12_at (nI i) (nI j) g = some (g (11 * i + j)) := by
  unfold f_X12_at
  rw [pos11', zc_nI (by omega) (by decide), nI_clamp (by omega)]
section
variable {s : Nat} {g : Nat → Int64} {R : Nat → Nat → Int}
theorem m_search (hC : RG s g R) (hs : s ≤ 12) {c r : Nat} (hc : c < 11) (hr : r ≤ s) : ∃ i, r ≤ i ∧ i ≤ s ∧ (i < s → R i c ≠ 0) ∧ (∀ k, r ≤ k → k < i → R k c = 0) ∧ zp (f_X12_solve_L123 (nI c) (nI s) g) zF (nI r) = some (1, nI i) := by
  obtain ⟨a, ea, i, rfl, h1, h2, h3, h4⟩ := zp_i (f := f_X12_solve_L123 (nI c) (nI s) g) (s := nI r) (fun j w => w = nI (r + j) ∧ ∀ k, r ≤ k → k < r + j → R k c = 0) (fun a => ∃ i, a = (1, nI i) ∧ r ≤ i ∧ i ≤ s ∧ (i < s → R i c ≠ 0) ∧ (∀ k, r ≤ k → k < i → R k c = 0)) (s - r) (by omega) ⟨rfl, fun k h1 h2 => by omega⟩ (by
    rintro j w hj ⟨rfl, hz⟩
    unfold f_X12_solve_L123
    by_cases cj : j = s - r
    · right
      rw [if_pos (nI_le (by omega) (by omega))]
      exact ⟨_, rfl, (by decide : ¬ (1 : Nat) = 0), _, rfl, by omega, by omega, fun hh => by omega, fun k h1 h2 => hz k h1 (by omega)⟩
    · rw [if_neg (nI_ge (by omega) (by omega)), m_at (by omega) (by omega), zb_s]
      have hv := hC (r + j) c (by omega) hc
      by_cases cz : R (r + j) c = 0
      · left
        rw [if_pos ((lg_z _).mpr (hv.trans cz)), zl_e, nI_1]
        refine ⟨by omega, _, rfl, rfl, fun k h1 h2 => ?_⟩
        by_cases e : k = r + j
        · rw [e]; exact cz
        · exact hz k h1 (by omega)
      · right
        rw [if_neg (fun hh => cz (hv.symm.trans ((lg_z _).mp hh)))]
        exact ⟨_, rfl, (by decide : ¬ (1 : Nat) = 0), _, rfl, by omega, by omega, fun _ => cz, hz⟩)
  exact ⟨i, h1, h2, h3, h4, ea⟩
theorem m_swap (hC : RG s g R) (hs : s ≤ 12) {i r : Nat} (hi : i < s) (hr : r < s) : ∃ g', f_X12_swapRows (nI i) (nI r) g = some g' ∧ RG s g' (fun k => R (sw i r k)) := by
  unfold f_X12_swapRows
  obtain ⟨a, ea, g', rfl, hq⟩ := zp_i (f := f_X12_swapRows_L2 (nI i) (nI r)) (s := ((0 : Int32), g)) (fun j w => ∃ g', w = (nI j, g') ∧ ∀ k q, k < s → q < 11 → (g' (11 * k + q)).toInt = if q < j then R (sw i r k) q else R k q) (fun a => ∃ g', a = (1, (nI 11, g')) ∧ RG s g' (fun k => R (sw i r k))) 11 (by omega) ⟨g, rfl, fun k q h1 h2 => by rw [if_neg (by omega)]; exact hC k q h1 h2⟩ (by
    rintro j w hj ⟨g', rfl, hg⟩
    unfold f_X12_swapRows_L2
    simp only []
    by_cases cj : j = 11
    · right
      subst cj
      rw [if_pos (by decide)]
      exact ⟨_, rfl, (by decide : ¬ (1 : Nat) = 0), g', rfl, fun k q h1 h2 => by rw [hg k q h1 h2, if_pos (by omega)]⟩
    · left
      rw [if_neg (show ¬ (11 : Int32) ≤ nI j from nI_ge (b := 11) (by omega) (by decide)), m_at (by omega) (by omega), zb_s, m_at (by omega) (by omega), zb_s, pos11', pos11', zc_nI (by omega) (by decide), zl_e, zc_nI (by omega) (by decide), zl_e, zl_e, nI_1, nI_clamp (by omega), nI_clamp (by omega)]
      refine ⟨by omega, _, rfl, _, rfl, fun k q h1 h2 => ?_⟩
      have hI := hg i j hi (by omega)
      have hR := hg r j hr (by omega)
      rw [if_neg (by omega)] at hI hR
      by_cases cq : q = j
      · subst cq
        rw [if_pos (by omega)]
        by_cases kr : k = r
        · subst kr
          rw [pk_uLs, hI]
          unfold sw
          by_cases e : k = i
          · rw [if_pos e, e]
          · rw [if_neg e, if_pos rfl]
        · rw [pk_uLn (by omega)]
          by_cases ki : k = i
          · subst ki
            rw [pk_uLs, hR]
            unfold sw
            rw [if_pos rfl]
          · rw [pk_uLn (by omega), hg k q h1 h2, if_neg (by omega)]
            unfold sw
            rw [if_neg ki, if_neg kr]
      · rw [pk_uLn (by omega), pk_uLn (by omega), hg k q h1 h2]
        by_cases c2 : q < j
        · rw [if_pos c2, if_pos (by omega)]
        · rw [if_neg c2, if_neg (by omega)])
  rw [ea, zb_s]
  exact ⟨g', rfl, hq⟩
theorem lN_t {n : Nat} (h : n < 2 ^ 63) : (lN n).toInt = (n : Int) := by
  exact pk_lT (by omega)
theorem m_absz {z : Int64} (h : z.toInt.natAbs < 2 ^ 63) : f_X12_size z = some (lN z.toInt.natAbs) := by
  unfold f_X12_size
  have := absL (x := z) (by omega)
  simp only [lg_ge]
  rw [← this]
  split <;> rfl
theorem m_gcd {k : Nat} {D : Nat → Int} (hk : k < 12) (hD : ∀ q, q < 11 → (g (11 * k + q)).toInt = D q) (hb : ∀ q, q < 11 → (D q).natAbs < 2 ^ 62) : zp (f_X12_shrink_L5 (nI k) g) zF (0, 0) = some (1, (lN (gU D 11), nI 11)) := by
  rw [zp_0 (v := (0, 0)) (fun j => (lN (gU D j), nI j)) 11 (t := 1) (w := (lN (gU D 11), nI 11)) rfl (by decide) (by decide)]
  · intro j hj
    have h1 := hD j hj
    have h2 := hb j hj
    have h3 : gU D j < 2 ^ 63 := by
      have := gU_le (f := D) (M := 2 ^ 62) j (fun q hq => Nat.le_of_lt (hb q (by omega)))
      omega
    unfold f_X12_shrink_L5
    simp only []
    rw [if_neg (show ¬ (11 : Int32) ≤ nI j from nI_ge (b := 11) hj (by decide)), m_at hk hj, zb_s, m_absz (by rw [h1]; omega), zb_s, h1, show zp f_X12_shrink_L24 zF (lN (gU D j), lN (D j).natAbs) = _ from euc 63 (gU D j) (D j).natAbs zF h3 (by omega) (by omega) (by unfold zF; omega), zb_s, zl_e, nI_1]
    rfl
  · unfold f_X12_shrink_L5
    rw [if_pos (show (11 : Int32) ≤ nI 11 by decide)]
theorem m_shrink {k : Nat} {D : Nat → Int} (hk : k < 12) (hD : ∀ q, q < 11 → (g (11 * k + q)).toInt = D q) (hb : ∀ q, q < 11 → (D q).natAbs < 2 ^ 62) : ∃ g', f_X12_shrink (nI k) g = some g' ∧ (∀ q, q < 11 → (g' (11 * k + q)).toInt = if gU D 11 ≤ 1 then D q else D q / (gU D 11 : Int)) ∧ ∀ i q, i ≠ k → q < 11 → g' (11 * i + q) = g (11 * i + q) := by
  have h3 : gU D 11 < 2 ^ 63 := by
    have := gU_le (f := D) (M := 2 ^ 62) 11 (fun q hq => Nat.le_of_lt (hb q hq))
    omega
  have hle : lg_cmp (lN (gU D 11)) 1 ≤ 0 ↔ gU D 11 ≤ 1 := by
    rw [lg_le, i64_le, lN_t h3]
    have : (1 : Int64).toInt = 1 := rfl
    omega
  unfold f_X12_shrink
  rw [m_gcd hk hD hb, zb_s]
  simp only []
  by_cases c : gU D 11 ≤ 1
  · have e : zp (f_X12_shrink_L56 (nI k) (lN (gU D 11))) zF (0, g) = some (1, (0, g)) := by
      unfold zF
      refine zp_stop ?_ (by decide)
      unfold f_X12_shrink_L56
      simp only []
      rw [if_neg (by decide), if_pos (hle.mpr c)]
    rw [e, zb_s]
    exact ⟨g, rfl, fun q hq => by rw [if_pos c]; exact hD q hq, fun i q _ _ => rfl⟩
  · obtain ⟨a, ea, g', rfl, hq⟩ := zp_i (f := f_X12_shrink_L56 (nI k) (lN (gU D 11))) (s := ((0 : Int32), g)) (fun j w => ∃ g', w = (nI j, g') ∧ (∀ q, q < 11 → (g' (11 * k + q)).toInt = if q < j then D q / (gU D 11 : Int) else D q) ∧ ∀ i q, i ≠ k → q < 11 → g' (11 * i + q) = g (11 * i + q)) (fun a => ∃ g', a = (1, (nI 11, g')) ∧ (∀ q, q < 11 → (g' (11 * k + q)).toInt = D q / (gU D 11 : Int)) ∧ ∀ i q, i ≠ k → q < 11 → g' (11 * i + q) = g (11 * i + q)) 11 (by omega) ⟨g, rfl, fun q h2 => by rw [if_neg (by omega)]; exact hD q h2, fun i q _ _ => rfl⟩ (by
      rintro j w hj ⟨g', rfl, hg, ho⟩
      unfold f_X12_shrink_L56
      simp only []
      by_cases cj : j = 11
      · right
        subst cj
        rw [if_pos (by decide)]
        exact ⟨_, rfl, (by decide : ¬ (1 : Nat) = 0), g', rfl, fun q h2 => by rw [hg q h2, if_pos (by omega)], ho⟩
      · left
        have ne : ¬ lN (gU D 11) = 0 := fun hh => by
          have := congrArg Int64.toInt hh
          rw [lN_t h3] at this
          have e0 : (0 : Int64).toInt = 0 := rfl
          omega
        rw [if_neg (show ¬ (11 : Int32) ≤ nI j from nI_ge (b := 11) (by omega) (by decide)), if_neg (fun hh => c (hle.mp hh)), pos11', zl_e, zc_nI (by omega) (by decide), znl_ne ne, zl_e, zc_nI (by omega) (by decide), zl_e, zl_e, nI_1, nI_clamp (by omega)]
        refine ⟨by omega, _, rfl, _, rfl, fun q h2 => ?_, fun i q hi h2 => ?_⟩
        · by_cases cq : q = j
          · subst cq
            rw [if_pos (by omega), pk_uLs]
            have v1 : (g' (11 * k + q)).toInt = D q := by rw [hg q h2, if_neg (by omega)]
            rw [div_L (by rw [v1]; exact hb q h2) (by rw [v1, lN_t h3]; exact Int.ofNat_dvd_left.mpr (gU_dvd D 11 q h2)) (by rw [lN_t h3]; omega), v1, lN_t h3]
          · rw [pk_uLn (by omega), hg q h2]
            by_cases c2 : q < j
            · rw [if_pos c2, if_pos (by omega)]
            · rw [if_neg c2, if_neg (by omega)]
        · rw [pk_uLn (by omega), ho i q hi h2])
    rw [ea, zb_s]
    exact ⟨g', rfl, fun q h2 => by rw [if_neg c]; exact hq.1 q h2, hq.2⟩
def ALT (c : Nat) (rk rr r' : Nat → Int) : Prop := (rk c = 0 ∧ r' = rk) ∨ (rk c ≠ 0 ∧ prim r' ∧ ∃ m : Int, m ≠ 0 ∧ ∀ q, q < 11 → rk q * rr c - rr q * rk c = m * r' q)
theorem m_free {k c r : Nat} {rk rr : Nat → Int} (hk12 : k < 12) (hr12 : r < 12) (hkr : k ≠ r) (hc : c < 11) (hk : ∀ q, q < 11 → (g (11 * k + q)).toInt = rk q) (hr : ∀ q, q < 11 → (g (11 * r + q)).toInt = rr q) (bk : ∀ q, q < 11 → (rk q).natAbs ≤ 3628800 * 99999) (br : ∀ q, q < 11 → (rr q).natAbs ≤ 3628800 * 99999) (bkc : (rk c).natAbs ≤ 3628800) (brc : (rr c).natAbs ≤ 3628800) : ∃ g' r', f_X12_free (nI k) (nI c) (nI r) g = some g' ∧ (∀ q, q < 11 → (g' (11 * k + q)).toInt = r' q) ∧ (∀ i q, i ≠ k → q < 11 → g' (11 * i + q) = g (11 * i + q)) ∧ ALT c rk rr r' := by
  unfold f_X12_free
  rw [if_neg (fun hh => hkr (nI_ij (by omega) (by omega) hh)), m_at hk12 hc, zb_s]
  by_cases c0 : rk c = 0
  · rw [if_pos ((lg_z _).mpr ((hk c hc).trans c0))]
    exact ⟨g, rk, rfl, hk, fun i q _ _ => rfl, Or.inl ⟨c0, rfl⟩⟩
  · rw [if_neg (fun hh => c0 ((hk c hc).symm.trans ((lg_z _).mp hh))), m_at hr12 hc, zb_s, zb_s]
    obtain ⟨a, ea, g', rfl, h1, h2⟩ := zp_i (f := f_X12_free_L41 (nI k) (g (11 * r + c)) (g (11 * k + c)) (nI r)) (s := ((0 : Int32), g)) (fun j w => ∃ g', w = (nI j, g') ∧ (∀ q, q < 11 → (g' (11 * k + q)).toInt = if q < j then rk q * rr c - rr q * rk c else rk q) ∧ ∀ i q, i ≠ k → q < 11 → g' (11 * i + q) = g (11 * i + q)) (fun a => ∃ g', a = (1, (nI 11, g')) ∧ (∀ q, q < 11 → (g' (11 * k + q)).toInt = rk q * rr c - rr q * rk c) ∧ ∀ i q, i ≠ k → q < 11 → g' (11 * i + q) = g (11 * i + q)) 11 (by omega) ⟨g, rfl, fun q h2 => by rw [if_neg (by omega)]; exact hk q h2, fun i q _ _ => rfl⟩ (by
      rintro j w hj ⟨g', rfl, hg, ho⟩
      unfold f_X12_free_L41
      simp only []
      by_cases cj : j = 11
      · right
        subst cj
        rw [if_pos (by decide)]
        exact ⟨_, rfl, (by decide : ¬ (1 : Nat) = 0), g', rfl, fun q h2 => by rw [hg q h2, if_pos (by omega)], ho⟩
      · left
        rw [if_neg (show ¬ (11 : Int32) ≤ nI j from nI_ge (b := 11) (by omega) (by decide)), pos11', pos11', zc_nI (by omega) (by decide), zc_nI (by omega) (by decide), zl_e, zc_nI (by omega) (by decide), zl_e, zl_e, nI_1, nI_clamp (by omega), nI_clamp (by omega)]
        refine ⟨by omega, _, rfl, _, rfl, fun q h2 => ?_, fun i q hi h2 => ?_⟩
        · by_cases cq : q = j
          · subst cq
            rw [if_pos (by omega), pk_uLs]
            have v1 : (g' (11 * k + q)).toInt = rk q := by rw [hg q h2, if_neg (by omega)]
            have v2 : (g' (11 * r + q)).toInt = rr q := by rw [ho r q (by omega) h2]; exact hr q h2
            obtain ⟨d1, d2⟩ := dif_L (M := 0) (a := g (11 * r + c)) (b := g' (11 * k + q)) (c := g (11 * k + c)) (d := g' (11 * r + q)) (by rw [hr c hc]; exact brc) (by rw [v1]; exact bk q h2) (by rw [hk c hc]; exact bkc) (by rw [v2]; exact br q h2)
            rw [Int64.mul_comm (g' (11 * k + q)), Int64.mul_comm (g' (11 * r + q)), d1, v1, v2, hk c hc, hr c hc, Int.mul_comm (rr c), Int.mul_comm (rk c)]
          · rw [pk_uLn (by omega), hg q h2]
            by_cases c2 : q < j
            · rw [if_pos c2, if_pos (by omega)]
            · rw [if_neg c2, if_neg (by omega)]
        · rw [pk_uLn (by omega), ho i q hi h2])
    rw [ea, zb_s]
    simp only []
    obtain ⟨g2, e2, f1, f2⟩ := m_shrink (g := g') (k := k) (D := fun q => rk q * rr c - rr q * rk c) hk12 h1 (fun q hq => by
      have a1 := mul_n (bk q hq) brc
      have a2 := mul_n (br q hq) bkc
      omega)
    rw [e2, zb_s]
    obtain ⟨r', p1, p2, p3⟩ := pr_shrink (D := fun q => rk q * rr c - rr q * rk c)
    exact ⟨g2, r', rfl, fun q hq => (f1 q hq).trans (p1 q hq).symm, fun i q hi hq => (f2 i q hi hq).trans (h2 i q hi hq), Or.inr ⟨c0, p2, p3⟩⟩
theorem m_column {c r : Nat} (hR : RG s g R) (hs : s ≤ 12) (hr : r < s) (hc : c < 11) (bb : ∀ i q, i < s → q < 11 → (R i q).natAbs ≤ 3628800 * 99999) (bc : ∀ i, i < s → (R i c).natAbs ≤ 3628800) : ∃ g' R', zp (f_X12_solve_L168 (nI c) (nI s) (nI r)) zF (0, g) = some (1, (nI s, g')) ∧ RG s g' R' ∧ R' r = R r ∧ ∀ k, k < s → k ≠ r → ALT c (R k) (R r) (R' k) := by
  obtain ⟨a, ea, g', R', rfl, h1, h2, h3⟩ := zp_i (f := f_X12_solve_L168 (nI c) (nI s) (nI r)) (s := ((0 : Int32), g)) (fun j w => ∃ g' R', w = (nI j, g') ∧ RG s g' R' ∧ (∀ k, j ≤ k ∨ k = r → R' k = R k) ∧ ∀ k, k < j → k ≠ r → ALT c (R k) (R r) (R' k)) (fun a => ∃ g' R', a = (1, (nI s, g')) ∧ RG s g' R' ∧ R' r = R r ∧ ∀ k, k < s → k ≠ r → ALT c (R k) (R r) (R' k)) s (by omega) ⟨g, R, rfl, hR, fun k _ => rfl, fun k hk => by omega⟩ (by
    rintro j w hj ⟨g', R', rfl, hg, hsame, halt⟩
    unfold f_X12_solve_L168
    simp only []
    by_cases cj : j = s
    · right
      subst cj
      rw [if_pos (nI_le (by omega) (by omega))]
      exact ⟨_, rfl, (by decide : ¬ (1 : Nat) = 0), g', R', rfl, hg, hsame r (Or.inr rfl), halt⟩
    · left
      rw [if_neg (nI_ge (by omega) (by omega))]
      refine ⟨by omega, ?_⟩
      by_cases cr : j = r
      · subst cr
        unfold f_X12_free
        rw [if_pos rfl, zb_s, zl_e, nI_1]
        refine ⟨_, rfl, g', R', rfl, hg, fun k hk => hsame k (by omega), fun k hk hkr => halt k (by omega) hkr⟩
      · obtain ⟨g2, r', e2, f1, f2, f3⟩ := m_free (g := g') (k := j) (c := c) (r := r) (rk := R j) (rr := R r) (by omega) (by omega) cr hc (fun q hq => by rw [hg j q (by omega) hq, hsame j (Or.inl (Nat.le_refl _))]) (fun q hq => by rw [hg r q hr hq, hsame r (Or.inr rfl)]) (fun q hq => bb j q (by omega) hq) (fun q hq => bb r q hr hq) (bc j (by omega)) (bc r hr)
        rw [e2, zb_s, zl_e, nI_1]
        refine ⟨_, rfl, g2, fun k => if k = j then r' else R' k, rfl, fun i q hi hq => ?_, fun k hk => ?_, fun k hk hkr => ?_⟩
        · show (g2 (11 * i + q)).toInt = (if i = j then r' else R' i) q
          by_cases ci : i = j
          · subst ci
            rw [if_pos rfl]; exact f1 q hq
          · rw [if_neg ci, f2 i q ci hq]; exact hg i q hi hq
        · show (if k = j then r' else R' k) = R k
          rw [if_neg (by omega)]; exact hsame k (by omega)
        · show ALT c (R k) (R r) (if k = j then r' else R' k)
          by_cases ck : k = j
          · rw [if_pos ck, ck]; exact f3
          · rw [if_neg ck]; exact halt k (by omega) hkr)
  exact ⟨g', R', ea, h1, h2, h3⟩
end
