/-! lsb, wide, bent, worst, back -/
theorem in_1 {v b c : Int32} {B C : Int64} (hb : B = b.toInt64) (hc : C = c.toInt64) (h1 : ¬ v < b) (h2 : v ≤ c) : f_X12_in v.toInt64 B C = some 1 := by
  rw [f_inI v b c B C hb hc, if_pos ⟨(i32_nlt _ _).mp h1, h2⟩]
theorem in_0l {v b : Int32} {B C : Int64} (hb : B = b.toInt64) (h1 : v < b) : f_X12_in v.toInt64 B C = some 0 := by
  rw [f_in, if_neg]
  rintro ⟨h, -⟩
  rw [hb, fa_wide_le] at h
  exact (i32_nlt _ _).mpr h h1
theorem in_0h {v c : Int32} {B C : Int64} (hc : C = c.toInt64) (h2 : ¬ v ≤ c) : f_X12_in v.toInt64 B C = some 0 := by
  rw [f_in, if_neg]
  rintro ⟨-, h⟩
  rw [hc, fa_wide_le] at h
  exact h2 h
theorem n10 : ¬ (1 : Int32) = 0 := by decide
def FS (o : Nat → Int32) (N : Nat) : Int32 := o N - o 0
def wdT (o : Nat → Int32) (N c : Nat) : Int64 := (o (c + 1) - o c).toInt64 * (nI N).toInt64 - (FS o N).toInt64
def bnT (o : Nat → Int32) (N c : Nat) : Int64 := (o c - o 0).toInt64 * (nI N).toInt64 - (nI c).toInt64 * (FS o N).toInt64
def oB (o : Nat → Int32) (N : Nat) : Prop := ∀ c, c ≤ N → -999 ≤ (o c).toInt ∧ (o c).toInt ≤ 124038
theorem oB_d {o : Nat → Int32} {N : Nat} (h : oB o N) {a b : Nat} (ha : a ≤ N) (hb : b ≤ N) : (o a - o b).toInt = (o a).toInt - (o b).toInt ∧ -125037 ≤ (o a - o b).toInt ∧ (o a - o b).toInt ≤ 125037 := by
  have h1 := h a ha
  have h2 := h b hb
  have e : (o a - o b).toInt = (o a).toInt - (o b).toInt := fb_subI (by omega) (by omega)
  omega
theorem mul_b {a b A B : Int} (hA : 0 ≤ A) (ha : -A ≤ a ∧ a ≤ A) (hb : 0 ≤ b ∧ b ≤ B) : -(A * B) ≤ a * b ∧ a * b ≤ A * B := by
  have hB : 0 ≤ B := by omega
  have h1 : a * b ≤ A * b := Int.mul_le_mul_of_nonneg_right ha.2 hb.1
  have h2 : A * b ≤ A * B := Int.mul_le_mul_of_nonneg_left hb.2 hA
  have h3 : (-A) * b ≤ a * b := Int.mul_le_mul_of_nonneg_right ha.1 hb.1
  rw [Int.neg_mul] at h3
  omega
theorem wdT_b {o : Nat → Int32} {N c : Nat} (h : oB o N) (hN : N ≤ 255) (hc : c + 1 ≤ N) : -100000000 ≤ (wdT o N c).toInt ∧ (wdT o N c).toInt ≤ 100000000 := by
  have h1 := oB_d h hc (show c ≤ N by omega)
  have h2 := oB_d h (Nat.le_refl N) (Nat.zero_le N)
  have h3 := mul_b (A := 125037) (B := 255) (by omega) h1.2 (b := N) (by omega)
  unfold wdT FS
  have e1 : ((o (c + 1) - o c).toInt64 * (nI N).toInt64).toInt = (o (c + 1) - o c).toInt * N := by
    rw [fb_mulL] <;> rw [w64, w64, nIt (by omega)] <;> omega
  rw [fb_subL] <;> rw [e1, w64] <;> omega
theorem bnT_b {o : Nat → Int32} {N c : Nat} (h : oB o N) (hN : N ≤ 255) (hc : c ≤ N) : -100000000 ≤ (bnT o N c).toInt ∧ (bnT o N c).toInt ≤ 100000000 := by
  have h1 := oB_d h hc (Nat.zero_le N)
  have h2 := oB_d h (Nat.le_refl N) (Nat.zero_le N)
  have h3 := mul_b (A := 125037) (B := 255) (by omega) h1.2 (b := N) (by omega)
  have h4 := mul_b (A := 125037) (B := 255) (by omega) h2.2 (b := c) (by omega)
  unfold bnT FS
  have e1 : ((o c - o 0).toInt64 * (nI N).toInt64).toInt = (o c - o 0).toInt * N := by
    rw [fb_mulL] <;> rw [w64, w64, nIt (by omega)] <;> omega
  have e2 : ((nI c).toInt64 * (o N - o 0).toInt64).toInt = (o N - o 0).toInt * c := by
    rw [fb_mulL] <;> rw [w64, w64, nIt (by omega), Int.mul_comm] <;> omega
  rw [fb_subL] <;> rw [e1, e2] <;> omega
theorem x_full {n : Nat} (h : n ≤ 8) (o : Nat → Int32) : f_X8_fullScale (nI n) o = some (FS o (2 ^ n - 1)) := by
  have hp := pw8 h
  unfold f_X8_fullScale
  rw [x_last h, zb_s, x_outOf (by omega), zb_s, show (0 : Int32) = nI 0 from rfl, x_outOf (by omega), zb_s]
  rfl
theorem x_step {c : Nat} (h : c + 1 < 256) (o : Nat → Int32) : f_X8_stepOf (nI c) o = some (o (c + 1) - o c) := by
  unfold f_X8_stepOf
  rw [nI_1, x_outOf h, zb_s, x_outOf (by omega), zb_s]
theorem x_wideTop {n c : Nat} (h : n ≤ 8) (hc : c + 1 < 256) (o : Nat → Int32) : f_X8_wideTop (nI c) (nI n) o = some (wdT o (2 ^ n - 1) c) := by
  unfold f_X8_wideTop
  rw [x_step hc, zb_s, x_last h, zb_s, x_full h, zb_s]
  rfl
theorem x_bentTop {n c : Nat} (h : n ≤ 8) (hc : c < 256) (o : Nat → Int32) : f_X8_bentTop (nI c) (nI n) o = some (bnT o (2 ^ n - 1) c) := by
  unfold f_X8_bentTop
  rw [x_outOf hc, zb_s, show (0 : Int32) = nI 0 from rfl, x_outOf (by omega), zb_s, x_last h, zb_s, x_full h, zb_s]
  rfl
section
variable {n : Nat} {unit off top lean ref : Int32} {misses resistors holds : Nat → Int32}
theorem m_whole (hR : RI n unit off top lean ref misses resistors holds) (o : Nat → Int32) : f_X12_whole holds o = some (FS o (2 ^ n - 1)).toInt64 := by
  have hp := pw8 hR.1.2
  unfold f_X12_whole
  rw [m_many hR, zb_s, nI_m1 hp.1, zc_nI (by omega) (by decide), zc_l rfl, nI_clamp (by omega), cl0]
  rfl
theorem m_wideUp (hR : RI n unit off top lean ref misses resistors holds) {c : Nat} (hc : c + 1 < 256) (o : Nat → Int32) : f_X12_wideUp (nI c) holds o = some (wdT o (2 ^ n - 1) c) := by
  have hp := pw8 hR.1.2
  unfold f_X12_wideUp
  rw [nI_1, zc_nI hc (by decide), zc_nI (by omega) (by decide), m_many hR, zb_s, m_whole hR, zb_s, nI_clamp (by omega), nI_clamp (by omega), nI_m1 hp.1]
  rfl
theorem m_bentUp (hR : RI n unit off top lean ref misses resistors holds) {c : Nat} (hc : c < 256) (o : Nat → Int32) : f_X12_bentUp (nI c) holds o = some (bnT o (2 ^ n - 1) c) := by
  have hp := pw8 hR.1.2
  unfold f_X12_bentUp
  rw [zc_nI hc (by decide), zc_l rfl, m_many hR, zb_s, m_whole hR, zb_s, nI_clamp (by omega), cl0, nI_m1 hp.1]
  rfl
end
theorem FS_cg {f g : Nat → Int32} {N : Nat} (h : ∀ c, c ≤ N → f c = g c) : FS f N = FS g N := by unfold FS; rw [h _ (Nat.le_refl _), h _ (Nat.zero_le _)]
theorem wdT_cg {f g : Nat → Int32} {N c : Nat} (h : ∀ c, c ≤ N → f c = g c) (hc : c + 1 ≤ N) : wdT f N c = wdT g N c := by unfold wdT; rw [FS_cg h, h _ hc, h _ (by omega)]
theorem bnT_cg {f g : Nat → Int32} {N c : Nat} (h : ∀ c, c ≤ N → f c = g c) (hc : c ≤ N) : bnT f N c = bnT g N c := by unfold bnT; rw [FS_cg h, h _ hc, h _ (Nat.zero_le _)]
theorem x_side (w : Int32) (a b : Int64) : f_X1_side w a b = some (if w = 0 then a else b) := by unfold f_X1_side; split <;> rfl
theorem lv_le {n : Nat} {f g o : Nat → Int32} (ho : ∀ c, c < 2 ^ n → o c = f c) (hp : 1 ≤ 2 ^ n) : ∀ c, c ≤ 2 ^ n - 1 → fil f g (2 ^ n) c = o c := fun c hc => lv_eq ho (by omega)
theorem o_B {n : Nat} {unit off top lean ref : Int32} {misses resistors holds o : Nat → Int32} (hR : RI n unit off top lean ref misses resistors holds) (ho : ∀ c, c < 2 ^ n → o c = OV n unit off top misses c) : oB o (2 ^ n - 1) := by
  have hp := pw8 hR.1.2
  intro c hc
  rw [ho c (by omega)]
  exact OV_b hR c
theorem st_lsb : ST_lsb Inv := by
  intro x y hI v1
  obtain ⟨n, hb, hR, ho, -⟩ := id hI
  have hp := pw8 hR.1.2
  have hp4 := pw4 hR.1.1 hR.1.2
  have hB := o_B hR ho
  suffices H : ∃ r a b lv, f_X11_lsb v1 (X_rules_bits x) (X_steps_outs x) (X_fraction_numerator x) (X_fraction_denominator x) = some (r, a, b) ∧ f_X12_lsb v1 (M_holds y) (M_levels y) = some (r, lv) by
    obtain ⟨r, a, b, lv, e1, e2⟩ := H
    exact ⟨(r, a, b), (r, lv), e1, e2, rfl, hI⟩
  rw [hb]
  unfold f_X11_lsb f_X12_lsb
  by_cases c0 : v1 < 0
  · rw [if_pos c0, in_0l (B := 0) (b := 0) rfl c0, zb_s, if_pos rfl]
    exact ⟨_, _, _, _, rfl, rfl⟩
  · rw [if_neg c0]
    by_cases c1 : v1 ≤ 1
    · have hd := oB_d hB (Nat.le_refl _) (Nat.zero_le _)
      have q1 : (FS (X_steps_outs x) (2 ^ n - 1)).toInt64.toInt ≠ -9223372036854775808 := by rw [w64]; unfold FS; omega
      have q2 : 0 < (nI (2 ^ n - 1)).toInt64.toInt := by rw [w64, nIt (by omega)]; omega
      rw [if_pos c1, in_1 (B := 0) (C := 1) (b := 0) (c := 1) rfl rfl c0 c1, zb_s, if_neg n10, x_full hR.1.2, zb_s, x_last hR.1.2, zb_s, x_put q1 q2, zb_s, x_side, zb_s, m_lay hR, zb_s, m_whole hR, zb_s, m_many hR, zb_s, nI_m1 hp.1, FS_cg (lv_le ho hp.1), m_lowest v1 q1 q2, zb_s]
      exact ⟨_, _, _, _, rfl, rfl⟩
    · rw [if_neg c1, in_0h (C := 1) (c := 1) rfl c1, zb_s, if_pos rfl]
      exact ⟨_, _, _, _, rfl, rfl⟩
theorem lg_gtI {a : Int32} : 0 < lg_cmp a.toInt64 0 ↔ 0 < a := by
  rw [lg_gt]
  exact fa_wide_lt 0 a
theorem st_wide : ST_wide Inv := by
  intro x y hI v1 v2
  obtain ⟨n, hb, hR, ho, -⟩ := id hI
  have hp := pw8 hR.1.2
  have hp4 := pw4 hR.1.1 hR.1.2
  have hB := o_B hR ho
  have hl := lv_le (g := M_levels y) ho hp.1
  suffices H : ∃ r a b lv, f_X11_wide v1 v2 (X_rules_bits x) (X_steps_outs x) (X_fraction_numerator x) (X_fraction_denominator x) = some (r, a, b) ∧ f_X12_wide v1 v2 (M_holds y) (M_levels y) = some (r, lv) by
    obtain ⟨r, a, b, lv, e1, e2⟩ := H
    exact ⟨(r, a, b), (r, lv), e1, e2, rfl, hI⟩
  rw [hb]
  unfold f_X11_wide f_X12_wide
  rcases code_or n hR.1.2 v1 with ⟨c, hc, rfl⟩ | h
  · rw [if_neg (nI_pos (by omega)), x_last hR.1.2, zb_s, m_code1 hR hc, zb_s, if_neg n10, m_many hR, zb_s, nI_m1 hp.1]
    by_cases e : c = 2 ^ n - 1
    · subst e
      rw [if_neg (nI_nlt (Nat.le_refl _) (by omega)), if_pos rfl]
      exact ⟨_, _, _, _, rfl, rfl⟩
    · rw [if_pos (nI_lt (by omega) (by omega)), if_neg (fun h => e ((nI_eq (by omega) (by omega)).mp h)), x_wideTop hR.1.2 (by omega), zb_s]
      unfold f_X11_uneven
      by_cases c0 : v2 < 0
      · rw [if_pos c0, in_0l (B := 0) (b := 0) rfl c0, zb_s, zb_s, if_pos rfl]
        exact ⟨_, _, _, _, rfl, rfl⟩
      · rw [if_neg c0]
        by_cases c1 : v2 ≤ 1
        · have hd := oB_d hB (Nat.le_refl _) (Nat.zero_le _)
          have hw := wdT_b hB (by omega) (show c + 1 ≤ 2 ^ n - 1 by omega)
          rw [if_pos c1, in_1 (B := 0) (C := 1) (b := 0) (c := 1) rfl rfl c0 c1, zb_s, if_neg n10, x_full hR.1.2, zb_s, zb_s, m_lay hR, zb_s, m_whole hR, zb_s, FS_cg hl]
          by_cases cf : 0 < FS (X_steps_outs x) (2 ^ n - 1)
          · have q1 : (wdT (X_steps_outs x) (2 ^ n - 1) c).toInt ≠ -9223372036854775808 := by omega
            have q2 : 0 < (FS (X_steps_outs x) (2 ^ n - 1)).toInt64.toInt := by rw [w64]; rw [i32_lt] at cf; exact cf
            rw [if_pos cf, if_pos (lg_gtI.mpr cf), x_put q1 q2, zb_s, x_side, zb_s, zb_s, m_wideUp hR (by omega), zb_s, zb_s, wdT_cg hl (by omega), m_lowest v2 q1 q2, zb_s]
            exact ⟨_, _, _, _, rfl, rfl⟩
          · rw [if_neg cf, if_neg (fun h => cf (lg_gtI.mp h)), zb_s]
            exact ⟨_, _, _, _, rfl, rfl⟩
        · rw [if_neg c1, in_0h (C := 1) (c := 1) rfl c1, zb_s, zb_s, if_pos rfl]
          exact ⟨_, _, _, _, rfl, rfl⟩
  · rw [m_code0 hR h, zb_s, if_pos rfl]
    by_cases c0 : v1 < 0
    · rw [if_pos c0]
      exact ⟨_, _, _, _, rfl, rfl⟩
    · rw [if_neg c0, x_last hR.1.2, zb_s, if_neg]
      · exact ⟨_, _, _, _, rfl, rfl⟩
      · have h2 := h.resolve_left c0
        rw [i32_le, nIt (by omega)] at h2
        rw [i32_lt, nIt (by omega)]
        omega
theorem st_bent : ST_bent Inv := by
  intro x y hI v1 v2
  obtain ⟨n, hb, hR, ho, -⟩ := id hI
  have hp := pw8 hR.1.2
  have hp4 := pw4 hR.1.1 hR.1.2
  have hB := o_B hR ho
  have hl := lv_le (g := M_levels y) ho hp.1
  suffices H : ∃ r a b lv, f_X11_bent v1 v2 (X_rules_bits x) (X_steps_outs x) (X_fraction_numerator x) (X_fraction_denominator x) = some (r, a, b) ∧ f_X12_bent v1 v2 (M_holds y) (M_levels y) = some (r, lv) by
    obtain ⟨r, a, b, lv, e1, e2⟩ := H
    exact ⟨(r, a, b), (r, lv), e1, e2, rfl, hI⟩
  rw [hb]
  unfold f_X11_bent f_X12_bent
  rcases code_or n hR.1.2 v1 with ⟨c, hc, rfl⟩ | h
  · rw [x_code1 hR.1.2 hc, zb_s, m_code1 hR hc, zb_s, if_neg n10, if_neg n10, x_bentTop hR.1.2 (by omega), zb_s]
    unfold f_X11_uneven
    by_cases c0 : v2 < 0
    · rw [if_pos c0, in_0l (B := 0) (b := 0) rfl c0, zb_s, zb_s, if_pos rfl]
      exact ⟨_, _, _, _, rfl, rfl⟩
    · rw [if_neg c0]
      by_cases c1 : v2 ≤ 1
      · have hd := oB_d hB (Nat.le_refl _) (Nat.zero_le _)
        have hw := bnT_b hB (by omega) (show c ≤ 2 ^ n - 1 by omega)
        rw [if_pos c1, in_1 (B := 0) (C := 1) (b := 0) (c := 1) rfl rfl c0 c1, zb_s, if_neg n10, x_full hR.1.2, zb_s, zb_s, m_lay hR, zb_s, m_whole hR, zb_s, FS_cg hl]
        by_cases cf : 0 < FS (X_steps_outs x) (2 ^ n - 1)
        · have q1 : (bnT (X_steps_outs x) (2 ^ n - 1) c).toInt ≠ -9223372036854775808 := by omega
          have q2 : 0 < (FS (X_steps_outs x) (2 ^ n - 1)).toInt64.toInt := by rw [w64]; rw [i32_lt] at cf; exact cf
          rw [if_pos cf, if_pos (lg_gtI.mpr cf), x_put q1 q2, zb_s, x_side, zb_s, zb_s, m_bentUp hR (by omega), zb_s, zb_s, bnT_cg hl (by omega), m_lowest v2 q1 q2, zb_s]
          exact ⟨_, _, _, _, rfl, rfl⟩
        · rw [if_neg cf, if_neg (fun h => cf (lg_gtI.mp h)), zb_s]
          exact ⟨_, _, _, _, rfl, rfl⟩
      · rw [if_neg c1, in_0h (C := 1) (c := 1) rfl c1, zb_s, zb_s, if_pos rfl]
        exact ⟨_, _, _, _, rfl, rfl⟩
  · rw [m_code0 hR h, zb_s, x_code0 hR.1.2 h, zb_s, if_pos rfl, if_pos rfl]
    exact ⟨_, _, _, _, rfl, rfl⟩
/-! worst -/
def bwS (z : Nat → Int64) : Nat → Nat
  | 0 => 0
  | j + 1 => if z (j + 1) ≤ z (bwS z j) then bwS z j else j + 1
theorem bwS_le (z : Nat → Int64) : ∀ j, bwS z j ≤ j := by
  intro j
  induction j with
  | zero => exact Nat.le_refl _
  | succ j ih => unfold bwS; exact ite_b (Q := fun x => x ≤ j + 1) (by omega) (Nat.le_refl _)
theorem bwS_cg {f g : Nat → Int64} {N : Nat} (h : ∀ c, c ≤ N → f c = g c) : ∀ j, j ≤ N → bwS f j = bwS g j := by
  intro j
  induction j with
  | zero => intro _; rfl
  | succ j ih =>
    intro hj
    have h1 := bwS_le g j
    unfold bwS
    rw [ih (by omega), h _ hj, h _ (by omega)]
def US (w : Int32) (o : Nat → Int32) (N c : Nat) : Int64 := if w = 0 then wdT o N c else bnT o N c
def UZ (w : Int32) (o : Nat → Int32) (N c : Nat) : Int64 := if 0 ≤ US w o N c then US w o N c else -(US w o N c)
def lim (w : Int32) (N : Nat) : Nat := if w = 0 then N - 1 else N
theorem lim_le (w : Int32) (N : Nat) : lim w N ≤ N := by unfold lim; split <;> omega
theorem US_cg {w : Int32} {f g : Nat → Int32} {N c : Nat} (hN : 1 ≤ N) (h : ∀ c, c ≤ N → f c = g c) (hc : c ≤ lim w N) : US w f N c = US w g N c := by
  unfold lim at hc
  unfold US
  split
  · next q => rw [if_pos q] at hc; exact wdT_cg h (by omega)
  · next q => rw [if_neg q] at hc; exact bnT_cg h hc
theorem US_b {w : Int32} {o : Nat → Int32} {N c : Nat} (h : oB o N) (h1 : 1 ≤ N) (hN : N ≤ 255) (hc : c ≤ lim w N) : -100000000 ≤ (US w o N c).toInt ∧ (US w o N c).toInt ≤ 100000000 := by
  unfold lim at hc
  unfold US
  split
  · next q => rw [if_pos q] at hc; exact wdT_b h hN (by omega)
  · next q => rw [if_neg q] at hc; exact bnT_b h hN hc
theorem UZ_b {w : Int32} {o : Nat → Int32} {N c : Nat} (h : oB o N) (h1 : 1 ≤ N) (hN : N ≤ 255) (hc : c ≤ lim w N) : 0 ≤ (UZ w o N c).toInt ∧ (UZ w o N c).toInt ≤ 100000000 := by
  have hb := US_b h h1 hN hc
  unfold UZ
  rw [absL (by omega), pk_lT (by omega)]
  omega
theorem x_uneven {n c : Nat} (w : Int32) (h : 2 ≤ n ∧ n ≤ 8) (hc : c ≤ lim w (2 ^ n - 1)) (o : Nat → Int32) : f_X8_unevenSize w (nI c) (nI n) o = some (UZ w o (2 ^ n - 1) c) := by
  have hp := pw8 h.2
  have hp4 := pw4 h.1 h.2
  unfold lim at hc
  unfold f_X8_unevenSize f_X8_unevenSize_J17 UZ US
  by_cases q : w = 0
  · rw [if_pos q] at hc
    rw [if_pos q, if_pos q, x_wideTop h.2 (by omega), zb_s, f_absl, zb_s]
  · rw [if_neg q] at hc
    rw [if_neg q, if_neg q, x_bentTop h.2 (by omega), zb_s, f_absl, zb_s]
theorem x_worstCode {n : Nat} (w : Int32) (h : 2 ≤ n ∧ n ≤ 8) (o : Nat → Int32) : f_X8_worstCode w (nI n) o = some (nI (bwS (UZ w o (2 ^ n - 1)) (lim w (2 ^ n - 1)))) := by
  have hp := pw8 h.2
  have hp4 := pw4 h.1 h.2
  have key : f_X8_worstCode_J17 w (nI (lim w (2 ^ n - 1))) (nI n) o = some (nI (bwS (UZ w o (2 ^ n - 1)) (lim w (2 ^ n - 1)))) := by
    have hl := lim_le w (2 ^ n - 1)
    unfold f_X8_worstCode_J17
    rw [zp_0 (v := (0, 1)) (fun j => (nI (bwS (UZ w o (2 ^ n - 1)) j), nI (j + 1))) (lim w (2 ^ n - 1)) (t := 1) (w := (nI (bwS (UZ w o (2 ^ n - 1)) (lim w (2 ^ n - 1))), nI (lim w (2 ^ n - 1) + 1))) rfl (by omega) (by decide)]
    · rfl
    · intro j hj
      have hb := bwS_le (UZ w o (2 ^ n - 1)) j
      unfold f_X8_worstCode_L23
      simp only []
      rw [if_neg (nI_nlt (by omega) (by omega)), x_uneven w h (by omega), zb_s, x_uneven w h (by omega), zb_s]
      simp only [f_X8_worstCode_J49_23, zl_e, nI_1, lg_le, bwS]
      split <;> rfl
    · unfold f_X8_worstCode_L23
      simp only []
      rw [if_pos (nI_lt (by omega) (by omega))]
  unfold f_X8_worstCode
  unfold lim at key ⊢
  by_cases q : w = 0
  · rw [if_pos q] at key
    rw [if_pos q, if_pos q, x_last h.2, zb_s, nI_m1 (by omega), key]
  · rw [if_neg q] at key
    rw [if_neg q, if_neg q, x_last h.2, zb_s, key]
def wsQ (z : Nat → Int64) : Nat → Int32 × Int64 × Int32
  | 0 => (0, -1, 0)
  | j + 1 => (nI (bwS z j), z (bwS z j), nI (j + 1))
theorem m_worst {n : Nat} {unit off top lean ref : Int32} {misses resistors holds : Nat → Int32} (hR : RI n unit off top lean ref misses resistors holds) (w : Int32) {o : Nat → Int32} (hB : oB o (2 ^ n - 1)) : zp (f_X12_worst_L53 w holds o) zF (0, -1, 0) = some (1, wsQ (UZ w o (2 ^ n - 1)) (lim w (2 ^ n - 1) + 1)) := by
  have hp := pw8 hR.1.2
  have hp4 := pw4 hR.1.1 hR.1.2
  have hl := lim_le w (2 ^ n - 1)
  have hsz : ∀ a : Int64, f_X12_size a = some (if 0 ≤ a then a else -a) := by
    intro a
    unfold f_X12_size
    simp only [lg_ge]
    split <;> rfl
  have step : ∀ (a : Int32) (m : Int64) (c : Nat), c ≤ lim w (2 ^ n - 1) → f_X12_worst_L53 w holds o (a, m, nI c) = some (0, (if UZ w o (2 ^ n - 1) c ≤ m then a else nI c, if UZ w o (2 ^ n - 1) c ≤ m then m else UZ w o (2 ^ n - 1) c, nI (c + 1))) := by
    intro a m c hc
    have hc2 := hc
    unfold lim at hc2
    unfold f_X12_worst_L53
    simp only []
    rw [m_many hR, zb_s]
    unfold f_X12_worst_J68_53 f_X12_worst_J91_53 f_X12_worst_J110_53 f_X12_worst_J126_53 UZ US
    simp only [lg_le, zl_e, nI_1]
    by_cases q : w = 0
    · rw [if_pos q] at hc2
      rw [if_pos q, if_neg (by rw [nI_m1 hp.1]; exact nI_ge (by omega) (by omega)), if_pos q, m_wideUp hR (by omega), zb_s, hsz, zb_s]
      simp only [if_pos q]
      repeat' split
      all_goals first | rfl | contradiction
    · rw [if_neg q] at hc2
      rw [if_neg q, if_neg (by rw [show nI (2 ^ n) - (0 : Int32) = nI (2 ^ n) from by simp]; exact nI_ge (by omega) (by omega)), if_neg q, m_bentUp hR (by omega), zb_s, hsz, zb_s]
      simp only [if_neg q]
      repeat' split
      all_goals first | rfl | contradiction
  refine zp_0 (wsQ (UZ w o (2 ^ n - 1))) (lim w (2 ^ n - 1) + 1) rfl (by omega) (by decide) ?_ ?_
  · intro j hj
    cases j with
    | zero =>
      have hb := UZ_b (w := w) hB (by omega) (by omega) (Nat.zero_le _)
      have e : ¬ UZ w o (2 ^ n - 1) 0 ≤ -1 := by
        rw [i64_le]
        have e1 : (-1 : Int64).toInt = -1 := by decide
        omega
      have h := step 0 (-1) 0 (Nat.zero_le _)
      rw [if_neg e, if_neg e] at h
      exact h
    | succ j =>
      have h := step (nI (bwS (UZ w o (2 ^ n - 1)) j)) (UZ w o (2 ^ n - 1) (bwS (UZ w o (2 ^ n - 1)) j)) (j + 1) (by omega)
      show f_X12_worst_L53 w holds o (nI (bwS (UZ w o (2 ^ n - 1)) j), UZ w o (2 ^ n - 1) (bwS (UZ w o (2 ^ n - 1)) j), nI (j + 1)) = _
      rw [h]
      unfold wsQ
      by_cases q : UZ w o (2 ^ n - 1) (j + 1) ≤ UZ w o (2 ^ n - 1) (bwS (UZ w o (2 ^ n - 1)) j)
      · simp only [bwS, if_pos q]
      · simp only [bwS, if_neg q]
  · show f_X12_worst_L53 w holds o (_, _, nI (lim w (2 ^ n - 1) + 1)) = _
    unfold f_X12_worst_L53
    simp only []
    rw [m_many hR, zb_s]
    unfold f_X12_worst_J68_53 wsQ lim
    by_cases q : w = 0
    · rw [if_pos q, if_pos q, if_pos (by rw [nI_m1 hp.1]; exact nI_le (by omega) (by omega))]
    · rw [if_neg q, if_neg q, if_pos (by rw [show nI (2 ^ n) - (0 : Int32) = nI (2 ^ n) from by simp]; exact nI_le (by omega) (by omega))]
theorem st_worst : ST_worst Inv := by
  intro x y hI v1 v2
  obtain ⟨n, hb, hR, ho, -⟩ := id hI
  have hp := pw8 hR.1.2
  have hp4 := pw4 hR.1.1 hR.1.2
  have hB := o_B hR ho
  have hl := lv_le (g := M_levels y) ho hp.1
  suffices H : ∃ r a b lv, f_X11_worst v1 v2 (X_rules_bits x) (X_steps_outs x) (X_fraction_numerator x) (X_fraction_denominator x) = some (r, a, b) ∧ f_X12_worst v1 v2 (M_holds y) (M_levels y) = some (r, lv) by
    obtain ⟨r, a, b, lv, e1, e2⟩ := H
    exact ⟨(r, a, b), (r, lv), e1, e2, rfl, hI⟩
  rw [hb]
  unfold f_X11_worst f_X12_worst
  by_cases c0 : v1 < 0
  · rw [if_pos c0, in_0l (B := 0) (b := 0) rfl c0, zb_s, if_pos rfl]
    exact ⟨_, _, _, _, rfl, rfl⟩
  rw [if_neg c0]
  by_cases c1 : 1 < v1
  · rw [if_pos c1, in_0h (C := 1) (c := 1) rfl ((i32_nle _ _).mpr c1), zb_s, if_pos rfl]
    exact ⟨_, _, _, _, rfl, rfl⟩
  rw [if_neg c1, in_1 (B := 0) (C := 1) (b := 0) (c := 1) rfl rfl c0 ((i32_nlt _ _).mp c1), zb_s, if_neg n10]
  by_cases c2 : v2 < 0
  · rw [if_pos c2, in_0l (B := 0) (b := 0) rfl c2, zb_s, if_pos rfl]
    exact ⟨_, _, _, _, rfl, rfl⟩
  rw [if_neg c2]
  by_cases c3 : v2 ≤ 2
  · have hBl : oB (fil (OV n (X_rules_unit x) (X_rules_offset x) (X_rules_top x) (X_rules_misses x)) (M_levels y) (2 ^ n)) (2 ^ n - 1) := fun c hc => by rw [hl c hc]; exact hB c hc
    have hz : ∀ c, c ≤ lim v1 (2 ^ n - 1) → UZ v1 (fil (OV n (X_rules_unit x) (X_rules_offset x) (X_rules_top x) (X_rules_misses x)) (M_levels y) (2 ^ n)) (2 ^ n - 1) c = UZ v1 (X_steps_outs x) (2 ^ n - 1) c := fun c hc => by unfold UZ; rw [US_cg (by omega) hl hc]
    have hbl := bwS_le (UZ v1 (X_steps_outs x) (2 ^ n - 1)) (lim v1 (2 ^ n - 1))
    rw [if_pos c3, in_1 (B := 0) (C := 2) (b := 0) (c := 2) rfl rfl c2 c3, zb_s, if_neg n10, x_full hR.1.2, zb_s, m_lay hR, zb_s, m_whole hR, zb_s, FS_cg hl]
    by_cases cf : 0 < FS (X_steps_outs x) (2 ^ n - 1)
    · have hzb := UZ_b (w := v1) hB (by omega) (by omega) hbl
      have q1 : (UZ v1 (X_steps_outs x) (2 ^ n - 1) (bwS (UZ v1 (X_steps_outs x) (2 ^ n - 1)) (lim v1 (2 ^ n - 1)))).toInt ≠ -9223372036854775808 := by omega
      have q2 : 0 < (FS (X_steps_outs x) (2 ^ n - 1)).toInt64.toInt := by rw [w64]; rw [i32_lt] at cf; exact cf
      rw [if_pos cf, if_pos (lg_gtI.mpr cf), x_worstCode v1 hR.1, zb_s, m_worst hR v1 hBl, zb_s]
      simp only [wsQ]
      rw [bwS_cg hz _ (Nat.le_refl _), hz _ hbl]
      by_cases c4 : v2 = 0
      · rw [if_pos c4, if_pos c4]
        exact ⟨_, _, _, _, rfl, rfl⟩
      · rw [if_neg c4, if_neg c4, x_uneven v1 hR.1 hbl, zb_s, zb_s, x_put q1 q2, zb_s, x_side, zb_s, zb_s, m_lowest _ q1 q2, zb_s]
        exact ⟨_, _, _, _, rfl, rfl⟩
    · rw [if_neg cf, if_neg (fun h => cf (lg_gtI.mp h))]
      exact ⟨_, _, _, _, rfl, rfl⟩
  · rw [if_neg c3, in_0h (C := 2) (c := 2) rfl c3, zb_s, if_pos rfl]
    exact ⟨_, _, _, _, rfl, rfl⟩
