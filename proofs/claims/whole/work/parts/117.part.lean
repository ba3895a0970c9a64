/-! text: miss and string -/
section
variable {k : Nat} {bytes tape : Nat → Int32} {m : Nat} {ff fp kd pc num bh w wa sp pl tok val : Int32}
theorem i32_b {a b v : Int32} (h : a ≤ v ∧ v ≤ b) {A B : Int} (ha : a.toInt = A) (hb : b.toInt = B) : A ≤ v.toInt ∧ v.toInt ≤ B := by
  rw [i32_le, i32_le, ha, hb] at h
  exact h
theorem m_90 {i : Nat} (hi : i < 31) (x told : Int32) (reads : Nat → Int32) : ∃ reads', f_X12_readLine_J90 (nI i) x (nI k) w wa sp pl tok val told tape reads = f_X12_readLine_J234 (nI k) w wa sp pl tok val told tape reads' ∧ (w = 0 → reads' = upd reads i x) := by
  unfold f_X12_readLine_J90 f_X12_readLine_J115
  by_cases c : w = 0
  · rw [if_pos c, zc_nI hi (by decide), zl_e, nI_clamp (by omega)]
    exact ⟨_, rfl, fun _ => rfl⟩
  · rw [if_neg c, zc_nI hi (by decide), zc_nI hi (by decide), zl_e]
    exact ⟨_, rfl, fun hh => absurd hh c⟩
theorem miss_both (h : TB k bytes tape) (hG : G k tape m ff fp kd pc num bh w wa sp pl tok val) {tm told : Int32} (hT : ∀ i, i < 9 → bt told (6 + i) = bt tm i) (ms reads : Nat → Int32) : ∃ ff' fp' tm' kd' pc' num' bh' ms' w' wa' sp' pl' tok' val' told' reads', f_X4_readMiss ff fp tm (nI k) kd pc num bh bytes ms = some (ff', fp', tm', kd', pc', num', bh', ms') ∧ (zb (f_X12_readOf 6 9 (nI k) w wa sp pl tok val told tape) fun z38 => f_X12_readLine_J52 6 z38.1 (nI k) z38.2.1 z38.2.2.1 z38.2.2.2.1 z38.2.2.2.2.1 z38.2.2.2.2.2.1 z38.2.2.2.2.2.2.1 z38.2.2.2.2.2.2.2 tape reads) = f_X12_readLine_J234 (nI k) w' wa' sp' pl' tok' val' told' tape reads' ∧ G k tape m ff' fp' kd' pc' num' bh' w' wa' sp' pl' tok' val' ∧ (w' = 0 → w = 0 ∧ ∃ i v, i < 9 ∧ tm' = tm ||| bitI i ∧ ms' = upd ms i v ∧ told' = told ||| bitI (6 + i) ∧ reads' = upd reads (6 + i) v ∧ -999 ≤ v.toInt ∧ v.toInt ≤ 999) := by
  obtain ⟨u1, ff1, fp1, kd1, pc1, num1, bh1, v1, w1, wa1, sp1, pl1, tok1, val1, told1, e1, e2, g1, c1, j1, hj1, ej1⟩ := fresh_both h hG (cap := 9) (base := 6) (by decide) hT
  obtain ⟨sg, ff2, fp2, kd2, pc2, num2, bh2, w2, wa2, sp2, pl2, tok2, val2, hs, e3, e4, g2, c2⟩ := sgn_both h g1 (lo := -999) (by decide) 999
  obtain ⟨u3, ff3, fp3, kd3, pc3, num3, bh3, v3, w3, wa3, sp3, pl3, tok3, val3, e5, e6, g3, c3⟩ := num_both h g2 (-999) 999 (-999) 999 sg (fun _ _ => Iff.rfl)
  obtain ⟨reads', e7, c4⟩ := m_90 (k := k) (tape := tape) (w := w3) (wa := wa3) (sp := sp3) (pl := pl3) (tok := tok3) (val := val3) hj1 v3 told1 reads
  unfold f_X4_readMiss
  rw [show f_X4_takeFresh 9 tm ff fp (nI k) kd pc num bh bytes = _ from e1, zb_s]
  simp only []
  rw [e3, e5, zb_s]
  simp only []
  rw [show f_X12_readOf 6 9 (nI k) w wa sp pl tok val told tape = _ from e2, zb_s]
  unfold f_X12_readLine_J52
  simp only []
  rw [e4, zb_s, if_pos trivial]
  simp only []
  rw [e6, zb_s]
  simp only []
  rw [ej1, e7]
  by_cases cw : w3 = 0
  · obtain ⟨d1, d2, d3⟩ := c3 cw
    obtain ⟨d4, i, hi, eu, ev, et⟩ := c1 (c2 d1)
    have hf : ff3 = 0 := by
      rcases g3 with ⟨a, -⟩ | ⟨a, -⟩ | ⟨a, b, -⟩
      · exact a
      · exact a
      · rw [b, cw]
    have eij : j1 = 6 + i := nI_ij (by omega) (by omega) (ej1.symm.trans ev)
    rw [if_pos hf, zl_e, eu]
    unfold f_X5_putMiss
    rw [if_neg (nI_pos (by omega)), if_neg (show ¬ (9 : Int32) ≤ nI i from nI_ge (b := 9) hi (by decide)), zc_nI hi (by decide), zl_e, zb_s, nI_clamp (by omega)]
    exact ⟨_, _, _, _, _, _, _, _, _, _, _, _, _, _, _, _, rfl, rfl, g3, fun _ => ⟨d4, i, u3, hi, rfl, rfl, et, by rw [c4 cw, eij, d2], i32_b d3 rfl rfl⟩⟩
  · by_cases hf : ff3 = 0
    · rw [if_pos hf, zl_e]
      have hp : ∃ ms', f_X5_putMiss u1 u3 ms = some ms' := by
        unfold f_X5_putMiss
        by_cases a : u1 < 0
        · rw [if_pos a]; exact ⟨_, rfl⟩
        · rw [if_neg a]
          by_cases b : (9 : Int32) ≤ u1
          · rw [if_pos b]; exact ⟨_, rfl⟩
          · obtain ⟨i, hi, rfl⟩ := nI_of2 (M := 9) (n := 9) rfl a (by rw [i32_le]; rw [i32_le] at b; omega)
            have hi9 : i < 9 := by
              rw [i32_le, nIt (by omega)] at b
              have : (9 : Int32).toInt = 9 := rfl
              omega
            rw [if_neg b, zc_nI hi9 (by decide), zl_e]; exact ⟨_, rfl⟩
      obtain ⟨ms', hp⟩ := hp
      rw [hp, zb_s]
      exact ⟨_, _, _, _, _, _, _, _, _, _, _, _, _, _, _, _, rfl, rfl, g3, fun hh => absurd hh cw⟩
    · rw [if_neg hf]
      exact ⟨_, _, _, _, _, _, _, _, _, _, _, _, _, _, _, _, rfl, rfl, g3, fun hh => absurd hh cw⟩
theorem res_both (h : TB k bytes tape) (hG : G k tape m ff fp kd pc num bh w wa sp pl tok val) {tr told : Int32} (hT : ∀ i, i < 16 → bt told (15 + i) = bt tr i) (rs reads : Nat → Int32) : ∃ ff' fp' tr' kd' pc' num' bh' rs' w' wa' sp' pl' tok' val' told' reads', f_X4_readResistor ff fp tr (nI k) kd pc num bh bytes rs = some (ff', fp', tr', kd', pc', num', bh', rs') ∧ (zb (f_X12_readOf 15 16 (nI k) w wa sp pl tok val told tape) fun z49 => f_X12_readLine_J52 7 z49.1 (nI k) z49.2.1 z49.2.2.1 z49.2.2.2.1 z49.2.2.2.2.1 z49.2.2.2.2.2.1 z49.2.2.2.2.2.2.1 z49.2.2.2.2.2.2.2 tape reads) = f_X12_readLine_J234 (nI k) w' wa' sp' pl' tok' val' told' tape reads' ∧ G k tape m ff' fp' kd' pc' num' bh' w' wa' sp' pl' tok' val' ∧ (w' = 0 → w = 0 ∧ ∃ i v, i < 16 ∧ tr' = tr ||| bitI i ∧ rs' = upd rs i v ∧ told' = told ||| bitI (15 + i) ∧ reads' = upd reads (15 + i) v ∧ 1 ≤ v.toInt ∧ v.toInt ≤ 99) := by
  obtain ⟨u1, ff1, fp1, kd1, pc1, num1, bh1, v1, w1, wa1, sp1, pl1, tok1, val1, told1, e1, e2, g1, c1, j1, hj1, ej1⟩ := fresh_both h hG (cap := 16) (base := 15) (by decide) hT
  obtain ⟨sg, ff2, fp2, kd2, pc2, num2, bh2, w2, wa2, sp2, pl2, tok2, val2, hs, e3, e4, g2, c2⟩ := sgn_both h g1 (lo := -9) (by decide) 89
  obtain ⟨u3, ff3, fp3, kd3, pc3, num3, bh3, v3, w3, wa3, sp3, pl3, tok3, val3, e5, e6, g3, c3⟩ := num_both h g2 (-9) 89 (-9) 89 sg (fun _ _ => Iff.rfl)
  obtain ⟨reads', e7, c4⟩ := m_90 (k := k) (tape := tape) (w := w3) (wa := wa3) (sp := sp3) (pl := pl3) (tok := tok3) (val := val3) hj1 (v3 + 10) told1 reads
  unfold f_X4_readResistor
  rw [show f_X4_takeFresh 16 tr ff fp (nI k) kd pc num bh bytes = _ from e1, zb_s]
  simp only []
  rw [e3, e5, zb_s]
  simp only []
  rw [show f_X12_readOf 15 16 (nI k) w wa sp pl tok val told tape = _ from e2, zb_s]
  unfold f_X12_readLine_J52
  simp only []
  rw [e4, zb_s, if_neg (show ¬ (7 : Int32) = 6 by decide)]
  simp only []
  rw [e6, zb_s]
  simp only []
  rw [ej1, e7]
  by_cases cw : w3 = 0
  · obtain ⟨d1, d2, d3⟩ := c3 cw
    obtain ⟨d4, i, hi, eu, ev, et⟩ := c1 (c2 d1)
    have hf : ff3 = 0 := by
      rcases g3 with ⟨a, -⟩ | ⟨a, -⟩ | ⟨a, b, -⟩
      · exact a
      · exact a
      · rw [b, cw]
    have eij : j1 = 15 + i := nI_ij (by omega) (by omega) (ej1.symm.trans ev)
    have hb := i32_b (A := -9) (B := 89) d3 (by decide) (by decide)
    have hv : ((10 : Int32) + u3).toInt = 10 + u3.toInt := by
      have e10 : (10 : Int32).toInt = 10 := rfl
      rw [Int32.toInt_add, e10, Int.bmod_eq_of_le] <;> omega
    rw [if_pos hf, zl_e, eu]
    unfold f_X5_putResistor
    rw [if_neg (nI_pos (by omega)), if_neg (show ¬ (16 : Int32) ≤ nI i from nI_ge (b := 16) hi (by decide)), zc_nI hi (by decide), zl_e, zb_s, nI_clamp (by omega)]
    exact ⟨_, _, _, _, _, _, _, _, _, _, _, _, _, _, _, _, rfl, rfl, g3, fun _ => ⟨d4, i, 10 + u3, hi, rfl, rfl, et, by rw [c4 cw, eij, d2, Int32.add_comm], by omega, by omega⟩⟩
  · by_cases hf : ff3 = 0
    · rw [if_pos hf, zl_e]
      have hp : ∃ ms', f_X5_putResistor u1 (10 + u3) rs = some ms' := by
        unfold f_X5_putResistor
        by_cases a : u1 < 0
        · rw [if_pos a]; exact ⟨_, rfl⟩
        · rw [if_neg a]
          by_cases b : (16 : Int32) ≤ u1
          · rw [if_pos b]; exact ⟨_, rfl⟩
          · obtain ⟨i, hi, rfl⟩ := nI_of2 (M := 16) (n := 16) rfl a (by rw [i32_le]; rw [i32_le] at b; omega)
            have hi9 : i < 16 := by
              rw [i32_le, nIt (by omega)] at b
              have : (16 : Int32).toInt = 16 := rfl
              omega
            rw [if_neg b, zc_nI hi9 (by decide), zl_e]; exact ⟨_, rfl⟩
      obtain ⟨ms', hp⟩ := hp
      rw [hp, zb_s]
      exact ⟨_, _, _, _, _, _, _, _, _, _, _, _, _, _, _, _, rfl, rfl, g3, fun hh => absurd hh cw⟩
    · rw [if_neg hf]
      exact ⟨_, _, _, _, _, _, _, _, _, _, _, _, _, _, _, _, rfl, rfl, g3, fun hh => absurd hh cw⟩
/-- a number line without a sign, and with one -/
theorem one_both (h : TB k bytes tape) (hG : G k tape m ff fp kd pc num bh w wa sp pl tok val) {i : Nat} (hi : i < 31) (lo hi2 lo' hi' sg : Int32) (hs : ∀ v : Nat, v ≤ 999 → (lo ≤ sg * nI v ∧ sg * nI v ≤ hi2 ↔ lo' ≤ sg * nI v ∧ sg * nI v ≤ hi')) (told : Int32) (reads : Nat → Int32) : ∃ u ff' fp' kd' pc' num' bh' w' wa' sp' pl' tok' val' reads', f_X4_takeNumber_J33 lo hi2 sg ff fp (nI k) kd pc num bh bytes = some (u, ff', fp', kd', pc', num', bh') ∧ f_X12_readLine_J208 (nI i) sg lo' hi' (nI k) w wa sp pl tok val told tape reads = f_X12_readLine_J234 (nI k) w' wa' sp' pl' tok' val' told tape reads' ∧ G k tape m ff' fp' kd' pc' num' bh' w' wa' sp' pl' tok' val' ∧ (w' = 0 → w = 0 ∧ reads' = upd reads i u ∧ lo ≤ u ∧ u ≤ hi2) := by
  obtain ⟨u3, ff3, fp3, kd3, pc3, num3, bh3, v3, w3, wa3, sp3, pl3, tok3, val3, e5, e6, g3, c3⟩ := num_both h hG lo hi2 lo' hi' sg hs
  unfold f_X12_readLine_J208
  rw [e6, zb_s, zc_nI hi (by decide), zl_e, nI_clamp (by omega)]
  exact ⟨_, _, _, _, _, _, _, _, _, _, _, _, _, _, e5, rfl, g3, fun hh => ⟨(c3 hh).1, by rw [(c3 hh).2.1], (c3 hh).2.2⟩⟩
theorem neg_v (v : Nat) (hv : v ≤ 999) : ((-1 : Int32) * nI v).toInt = -(v : Int) := by
  rw [Int32.toInt_mul, nIt (by omega), show (-1 : Int32).toInt = -1 by decide, Int.bmod_eq_of_le] <;> omega
theorem two_both (h : TB k bytes tape) (hG : G k tape m ff fp kd pc num bh w wa sp pl tok val) {i : Nat} (hi : i = 2 ∨ i = 4) (told : Int32) (reads : Nat → Int32) : ∃ u ff' fp' kd' pc' num' bh' w' wa' sp' pl' tok' val' reads', f_X4_takeNumber (-999) 999 ff fp (nI k) kd pc num bh bytes = some (u, ff', fp', kd', pc', num', bh') ∧ f_X12_readLine_J138 (nI i) (nI k) w wa sp pl tok val told tape reads = f_X12_readLine_J234 (nI k) w' wa' sp' pl' tok' val' told tape reads' ∧ G k tape m ff' fp' kd' pc' num' bh' w' wa' sp' pl' tok' val' ∧ (w' = 0 → w = 0 ∧ reads' = upd reads i u ∧ -999 ≤ u.toInt ∧ u.toInt ≤ 999) := by
  obtain ⟨sg, ff2, fp2, kd2, pc2, num2, bh2, w2, wa2, sp2, pl2, tok2, val2, hs, e3, e4, g2, c2⟩ := sgn_both h hG (lo := -999) (by decide) 999
  have l9 : (-999 : Int32).toInt = -999 := by decide
  have h9 : (999 : Int32).toInt = 999 := by decide
  have z0 : (0 : Int32).toInt = 0 := rfl
  unfold f_X12_readLine_J138
  rw [e3, e4, zb_s]
  have hi0 : ¬ nI i = 3 := by rcases hi with rfl | rfl <;> decide
  have hi1 : ¬ nI i = 0 := by rcases hi with rfl | rfl <;> decide
  have hi2 : ¬ nI i = 1 := by rcases hi with rfl | rfl <;> decide
  rcases hs with rfl | rfl
  · obtain ⟨u, ff', fp', kd', pc', num', bh', w', wa', sp', pl', tok', val', reads', f1, f2, f3, f4⟩ := one_both h g2 (i := i) (by omega) (-999) 999 0 999 1 (fun v hv => by
      rw [Int32.one_mul, i32_le, i32_le, i32_le, nIt (by omega), l9, h9, z0]; omega) told reads
    have e : f_X12_readLine_J146 (nI i) 1 (nI k) w2 wa2 sp2 pl2 tok2 val2 told tape reads = f_X12_readLine_J208 (nI i) 1 0 999 (nI k) w2 wa2 sp2 pl2 tok2 val2 told tape reads := by
      unfold f_X12_readLine_J146 f_X12_readLine_J172 f_X12_readLine_J185
      rw [if_neg hi0, if_pos (by decide), if_neg hi1, if_neg hi2]
      rcases hi with rfl | rfl
      · rw [if_pos (by decide)]
      · rw [if_neg (by decide), if_pos (by decide)]
    exact ⟨u, ff', fp', kd', pc', num', bh', w', wa', sp', pl', tok', val', reads', f1, e.trans f2, f3, fun hh => ⟨c2 (f4 hh).1, (f4 hh).2.1, i32_b (f4 hh).2.2 l9 h9⟩⟩
  · obtain ⟨u, ff', fp', kd', pc', num', bh', w', wa', sp', pl', tok', val', reads', f1, f2, f3, f4⟩ := one_both h g2 (i := i) (by omega) (-999) 999 (-999) 999 (-1) (fun v hv => Iff.rfl) told reads
    have e : f_X12_readLine_J146 (nI i) (-1) (nI k) w2 wa2 sp2 pl2 tok2 val2 told tape reads = f_X12_readLine_J208 (nI i) (-1) (-999) 999 (nI k) w2 wa2 sp2 pl2 tok2 val2 told tape reads := by
      unfold f_X12_readLine_J146 f_X12_readLine_J185
      rw [if_neg hi0, if_neg (by decide), if_neg hi1, if_neg hi2]
    exact ⟨u, ff', fp', kd', pc', num', bh', w', wa', sp', pl', tok', val', reads', f1, e.trans f2, f3, fun hh => ⟨c2 (f4 hh).1, (f4 hh).2.1, i32_b (f4 hh).2.2 l9 h9⟩⟩
end
