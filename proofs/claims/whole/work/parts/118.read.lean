/-! text: a whole line -/
section
variable {k : Nat} {bytes tape ends letters : Nat → Int32} {m : Nat} {fp kd pc num bh wa sp pl tok val tl tm tr told b u o l r t : Int32} {ms rs reads : Nat → Int32}
def LB (k : Nat) (tape : Nat → Int32) (m : Nat) (a : Option (Int32 × Int32 × Int32 × Int32 × Int32 × Int32 × Int32 × Int32 × Int32 × Int32 × Int32 × Int32 × Int32 × Int32 × Int32 × (Nat → Int32) × (Nat → Int32))) (c : Option (Int32 × Int32 × Int32 × Int32 × Int32 × Int32 × Int32 × (Nat → Int32))) : Prop :=
  ∃ ff' fp' tl' tm' tr' kd' pc' num' bh' b' u' o' l' r' t' ms' rs' w' wa' sp' pl' tok' val' told' reads', a = some (ff', fp', tl', tm', tr', kd', pc', num', bh', b', u', o', l', r', t', ms', rs') ∧ c = some (w', wa', sp', pl', tok', val', told', reads') ∧ G k tape m ff' fp' kd' pc' num' bh' w' wa' sp' pl' tok' val' ∧ (w' = 0 → DR b' u' o' l' r' t' ms' rs' reads' ∧ TR tl' tm' tr' told')
theorem end_both {ff w : Int32} {m : Nat} (h : TB k bytes tape) (hG : G k tape m ff fp kd pc num bh w wa sp pl tok val) (hd : w = 0 → DR b u o l r t ms rs reads ∧ TR tl tm tr told) : LB k tape (m + 1) (f_X4_readLine_J246 ff fp tl tm tr (nI k) kd pc num bh bytes b u o l r t ms rs) (f_X12_readLine_J234 (nI k) w wa sp pl tok val told tape reads) := by
  obtain ⟨ff', fp', kd', pc', num', bh', w', wa', sp', pl', tok', val', e1, e2, g, hc⟩ := semi_both h hG tl tm tr b u o l r t told ms rs reads
  exact ⟨_, _, _, _, _, _, _, _, _, _, _, _, _, _, _, _, _, _, _, _, _, _, _, _, _, e1, e2, g, fun hh => hd (hc hh)⟩
theorem e222 {ff : Int32} {i : Nat} (hi : i < 6) : f_X4_readLine_J222 (nI i) ff fp tl tm tr (nI k) kd pc num bh bytes b u o l r t ms rs = f_X4_readLine_J246 ff fp (tl ||| bitI i) tm tr (nI k) kd pc num bh bytes b u o l r t ms rs := by
  unfold f_X4_readLine_J222
  rw [if_neg, if_neg, zl_e]
  · rfl
  · intro hh; have := nI_ij (a := i) (b := 7) (by omega) (by decide) hh; omega
  · intro hh; have := nI_ij (a := i) (b := 6) (by omega) (by decide) hh; omega
theorem once_no {i : Nat} (hi : i < 31) (c : ¬ bt told i = true) : f_X12_once (nI i) 0 wa pl told = some (0, wa, told ||| bitI i) := by
  unfold f_X12_once f_X12_once_J24 f_X12_once_J43
  rw [if_pos rfl, if_neg (fun hh => c ((told_iff told (by omega)).mp hh)), if_pos rfl, zl_e]
  rfl
theorem once_yes {i : Nat} (hi : i < 31) (c : bt told i = true) : f_X12_once (nI i) 0 wa pl told = some (4, pl, told) := by
  unfold f_X12_once f_X12_once_J24 f_X12_once_J43 f_X12_fails
  rw [if_pos rfl, if_pos ((told_iff told (by omega)).mpr c), if_pos rfl, zb_s]
  simp only []
  rw [if_neg (by decide), zl_e, or_0]
theorem e146_0 {w : Int32} : f_X12_readLine_J146 (nI 0) 1 (nI k) w wa sp pl tok val told tape reads = f_X12_readLine_J208 (nI 0) 1 2 8 (nI k) w wa sp pl tok val told tape reads := by
  unfold f_X12_readLine_J146 f_X12_readLine_J185
  rw [if_neg (by decide), if_pos (by decide), if_neg (by decide), if_neg (by decide), if_pos (by decide), if_pos (by decide)]
theorem e146_1 {w : Int32} : f_X12_readLine_J146 (nI 1) 1 (nI k) w wa sp pl tok val told tape reads = f_X12_readLine_J208 (nI 1) 1 1 99 (nI k) w wa sp pl tok val told tape reads := by
  unfold f_X12_readLine_J146 f_X12_readLine_J185
  rw [if_neg (by decide), if_pos (by decide), if_neg (by decide), if_neg (by decide), if_neg (by decide), if_neg (by decide), if_pos (by decide)]
theorem e146_5 {w : Int32} : f_X12_readLine_J146 (nI 5) 1 (nI k) w wa sp pl tok val told tape reads = f_X12_readLine_J208 (nI 5) 1 1 999 (nI k) w wa sp pl tok val told tape reads := by
  unfold f_X12_readLine_J146 f_X12_readLine_J185
  rw [if_neg (by decide), if_pos (by decide), if_neg (by decide), if_neg (by decide), if_neg (by decide), if_neg (by decide), if_neg (by decide)]
theorem line_both (h : TB k bytes tape) (hK : KI ends letters) (hA : GA k tape m kd pc num bh sp pl tok val) (h0 : ¬ kd = 0) (hD : DR b u o l r t ms rs reads) (hT : TR tl tm tr told) : LB k tape (m + 2) (f_X4_readLine 0 fp tl tm tr (nI k) kd pc num bh bytes b u o l r t ms rs) (f_X12_readLine (nI k) 0 wa sp pl tok val told tape ends letters reads) := by
  obtain ⟨p, q, h1, h2, h3, rfl, rfl, rfl, rfl, hk⟩ := hA
  have bad : ¬ kd = 1 → ¬ kd = 5 → ¬ tok = 1 → LB k tape (m + 2) (f_X4_readLine 0 fp tl tm tr (nI k) kd (nI p) num (nI q) bytes b u o l r t ms rs) (f_X12_readLine (nI k) 0 wa (nI q) (nI p) tok val told tape ends letters reads) := by
    intro b1 b5 bt
    unfold f_X4_readLine f_X12_readLine f_X12_fails
    rw [st_no 1 b1 b5, zb_s, m_noname _ _ _ _ bt hK, zb_s, if_pos rfl, if_pos rfl, if_pos rfl, zb_s]
    simp only []
    exact ⟨_, _, _, _, _, _, _, _, _, _, _, _, _, _, _, _, _, _, _, _, _, _, _, _, _, rfl, rfl, Or.inr (Or.inr ⟨by decide, rfl, rfl⟩), fun hh => absurd hh (by decide)⟩
  rcases hk with ⟨rfl, rfl⟩ | ⟨hpq, ⟨rfl, rfl, hr⟩ | ⟨rfl, rfl, v, hv, rfl, rfl⟩ | ⟨rfl, rfl, rfl⟩ | ⟨rfl, rfl, rfl⟩⟩
  · exact absurd rfl h0
  · obtain ⟨x, y, ex, hF⟩ := x_line h hr
    have ey := m_name h hK hr hF
    unfold f_X4_readLine f_X12_readLine
    rw [st_yes, zb_s, ey, zb_s]
    simp only []
    rw [if_neg n10, ex, zb_s]
    rcases hF with ⟨rfl, rfl, -⟩ | ⟨i, hi, rfl, rfl, -⟩
    · rw [if_pos rfl, if_pos rfl]
      unfold f_X4_refuse f_X12_fails
      rw [if_pos rfl, zb_s, zb_s]
      exact ⟨_, _, _, _, _, _, _, _, _, _, _, _, _, _, _, _, _, _, _, _, _, _, _, _, _, rfl, rfl, Or.inr (Or.inr ⟨(by decide : (0 : Int32) < 2), rfl, rfl⟩), fun hh => absurd hh (by decide : ¬ (2 : Int32) = 0)⟩
    · have n1 : ¬ nI i = (-1 : Int32) := fun hh => by
        have := congrArg Int32.toInt hh
        rw [nIt (by omega), show (-1 : Int32).toInt = -1 by decide] at this
        omega
      have n4 : ¬ nI i = (-4 : Int32) := fun hh => by
        have := congrArg Int32.toInt hh
        rw [nIt (by omega), show (-4 : Int32).toInt = -4 by decide] at this
        omega
      rw [if_neg n1, if_neg n4, x_told tl (by omega), zb_s]
      by_cases c6 : i < 6
      · rw [if_pos (show nI i < (6 : Int32) from nI_lt (b := 6) c6 (by decide))]
        by_cases ct : bt tl i = true
        · rw [if_pos ct, if_neg n10, once_yes (by omega) ((hT.1 i c6).trans ct), zb_s]
          simp only []
          rw [w_next (by decide), zb_s]
          unfold f_X4_refuse
          rw [zb_s]
          simp only []
          have e : ∀ P Q : Prop, [Decidable P] → [Decidable Q] → ∃ sp' pl' tok' val' told' reads', (if P then f_X12_readLine_J138 (nI i) (nI k) 4 (nI p) (nI q) (nI p) 1 val told tape reads else if Q then f_X12_readLine_J138 (nI i) (nI k) 4 (nI p) (nI q) (nI p) 1 val told tape reads else f_X12_readLine_J146 (nI i) 1 (nI k) 4 (nI p) (nI q) (nI p) 1 val told tape reads) = some (4, nI p, sp', pl', tok', val', told', reads') := by
            intro P Q _ _
            split
            · exact w_138 (by decide) (by omega) _ _ _
            · split
              · exact w_138 (by decide) (by omega) _ _ _
              · exact w_146 (by decide) (by omega) _ _ _ _
          obtain ⟨sp', pl', tok', val', told', reads', e⟩ := e (nI i = 2) (nI i = 4)
          rw [e]
          exact ⟨_, _, _, _, _, _, _, _, _, _, _, _, _, _, _, _, _, _, _, _, _, _, _, _, _, rfl, rfl, Or.inr (Or.inr ⟨by decide, rfl, rfl⟩), fun hh => absurd hh (by decide)⟩
        · have ct2 : ¬ bt told i = true := fun hh => ct ((hT.1 i c6).symm.trans hh)
          obtain ⟨kd1, pc1, num1, bh1, w1, wa1, sp1, pl1, tok1, val1, e1, e2, g1⟩ := adv h h3 num wa (nI p) 1 val fp
          have g1 := G_up (show m + 1 ≤ q by omega) g1
          have hT2 := TR_l hT c6
          rw [if_neg ct, if_pos rfl, once_no (by omega) ct2, zb_s, e1, zb_s]
          simp only []
          rw [e2, zb_s]
          simp only []
          have numl : ∀ lo hi2 : Int32, 0 ≤ lo → f_X12_readLine_J146 (nI i) 1 (nI k) w1 wa1 sp1 pl1 tok1 val1 (told ||| bitI i) tape reads = f_X12_readLine_J208 (nI i) 1 lo hi2 (nI k) w1 wa1 sp1 pl1 tok1 val1 (told ||| bitI i) tape reads → ∃ u1 ff2 fp2 kd2 pc2 num2 bh2 w2 wa2 sp2 pl2 tok2 val2 reads2, f_X4_takeNumber lo hi2 0 fp (nI k) kd1 pc1 num1 bh1 bytes = some (u1, ff2, fp2, kd2, pc2, num2, bh2) ∧ f_X12_readLine_J146 (nI i) 1 (nI k) w1 wa1 sp1 pl1 tok1 val1 (told ||| bitI i) tape reads = f_X12_readLine_J234 (nI k) w2 wa2 sp2 pl2 tok2 val2 (told ||| bitI i) tape reads2 ∧ G k tape (m + 1) ff2 fp2 kd2 pc2 num2 bh2 w2 wa2 sp2 pl2 tok2 val2 ∧ (w2 = 0 → w1 = 0 ∧ reads2 = upd reads i u1 ∧ lo ≤ u1 ∧ u1 ≤ hi2) := by
            intro lo hi2 hlo e
            obtain ⟨u1, ff2, fp2, kd2, pc2, num2, bh2, w2, wa2, sp2, pl2, tok2, val2, reads2, f1, f2, f3, f4⟩ := one_both h g1 (i := i) (by omega) lo hi2 lo hi2 1 (fun _ _ => Iff.rfl) (told ||| bitI i) reads
            exact ⟨u1, ff2, fp2, kd2, pc2, num2, bh2, w2, wa2, sp2, pl2, tok2, val2, reads2, by rw [tn_pos hlo]; exact f1, e.trans f2, f3, f4⟩
          rcases (show i = 0 ∨ i = 1 ∨ i = 2 ∨ i = 3 ∨ i = 4 ∨ i = 5 by omega) with rfl | rfl | rfl | rfl | rfl | rfl
          · obtain ⟨u1, ff2, fp2, kd2, pc2, num2, bh2, w2, wa2, sp2, pl2, tok2, val2, reads2, f1, f2, f3, f4⟩ := numl 2 8 (by decide) e146_0
            rw [if_pos (by decide), if_neg (by decide), if_neg (by decide), f1, zb_s, f2]
            simp only []
            rw [e222 (by decide)]
            exact end_both h f3 (fun hh => ⟨by rw [(f4 hh).2.1]; exact DR_0 hD (f4 hh).2.2.1 (f4 hh).2.2.2, hT2⟩)
          · obtain ⟨u1, ff2, fp2, kd2, pc2, num2, bh2, w2, wa2, sp2, pl2, tok2, val2, reads2, f1, f2, f3, f4⟩ := numl 1 99 (by decide) e146_1
            rw [if_neg (by decide), if_pos (by decide), if_neg (by decide), if_neg (by decide), f1, zb_s, f2]
            simp only []
            rw [e222 (by decide)]
            exact end_both h f3 (fun hh => ⟨by rw [(f4 hh).2.1]; exact DR_1 hD (i32_b (f4 hh).2.2 (A := 1) (B := 99) rfl rfl).1 (i32_b (f4 hh).2.2 (A := 1) (B := 99) rfl rfl).2, hT2⟩)
          · obtain ⟨u1, ff2, fp2, kd2, pc2, num2, bh2, w2, wa2, sp2, pl2, tok2, val2, reads2, f1, f2, f3, f4⟩ := two_both h g1 (i := 2) (Or.inl rfl) (told ||| bitI 2) reads
            rw [if_neg (by decide), if_neg (by decide), if_pos (by decide), if_pos (by decide), f1, zb_s, f2]
            simp only []
            rw [e222 (by decide)]
            exact end_both h f3 (fun hh => ⟨by rw [(f4 hh).2.1]; exact DR_2 hD (f4 hh).2.2.1 (f4 hh).2.2.2, hT2⟩)
          · rw [if_neg (by decide), if_neg (by decide), if_neg (by decide), if_pos (by decide), if_neg (by decide), if_neg (by decide), e222 (by decide)]
            unfold f_X12_readLine_J146
            rw [if_pos (by decide), zc_l rfl, zl_e]
            exact end_both h g1 (fun hh => ⟨DR_3 hD, hT2⟩)
          · obtain ⟨u1, ff2, fp2, kd2, pc2, num2, bh2, w2, wa2, sp2, pl2, tok2, val2, reads2, f1, f2, f3, f4⟩ := two_both h g1 (i := 4) (Or.inr rfl) (told ||| bitI 4) reads
            rw [if_neg (by decide), if_neg (by decide), if_neg (by decide), if_neg (by decide), if_pos (by decide), if_neg (by decide), if_pos (by decide), f1, zb_s, f2]
            simp only []
            rw [e222 (by decide)]
            exact end_both h f3 (fun hh => ⟨by rw [(f4 hh).2.1]; exact DR_4 hD (f4 hh).2.2.1 (f4 hh).2.2.2, hT2⟩)
          · obtain ⟨u1, ff2, fp2, kd2, pc2, num2, bh2, w2, wa2, sp2, pl2, tok2, val2, reads2, f1, f2, f3, f4⟩ := numl 1 999 (by decide) e146_5
            rw [if_neg (by decide), if_neg (by decide), if_neg (by decide), if_neg (by decide), if_neg (by decide), if_pos (by decide), if_neg (by decide), if_neg (by decide), f1, zb_s, f2]
            simp only []
            rw [e222 (by decide)]
            exact end_both h f3 (fun hh => ⟨by rw [(f4 hh).2.1]; exact DR_5 hD (i32_b (f4 hh).2.2 (A := 1) (B := 999) rfl rfl).1 (i32_b (f4 hh).2.2 (A := 1) (B := 999) rfl rfl).2, hT2⟩)
      · have hb : ¬ bt tl i = true := by
          rcases (show i = 6 ∨ i = 7 by omega) with rfl | rfl
          · rw [hT.2.1]; decide
          · rw [hT.2.2.1]; decide
        obtain ⟨kd1, pc1, num1, bh1, w1, wa1, sp1, pl1, tok1, val1, e1, e2, g1⟩ := adv h h3 num wa (nI p) 1 val fp
        have g1 := G_up (show m + 1 ≤ q by omega) g1
        rw [if_neg (show ¬ nI i < (6 : Int32) from nI_nlt (b := 6) (by omega) (by omega)), if_neg hb, if_pos (by decide), e1, e2, zb_s, zb_s]
        simp only []
        rcases (show i = 6 ∨ i = 7 by omega) with rfl | rfl
        · obtain ⟨ff', fp', tm', kd', pc', num', bh', ms', w', wa', sp', pl', tok', val', told', reads', f1, f2, f3, f4⟩ := miss_both h g1 hT.2.2.2.1 ms reads
          rw [if_neg (by decide), if_neg (by decide), if_neg (by decide), if_neg (by decide), if_neg (by decide), if_neg (by decide), if_pos (by decide), if_pos (by decide), f1, zb_s]
          rw [show (nI 6 : Int32) = 6 from rfl, f2]
          unfold f_X4_readLine_J222
          rw [if_pos (by decide)]
          exact end_both h f3 (fun hh => by
            obtain ⟨-, i, v, hi, rfl, rfl, rfl, rfl, d1, d2⟩ := f4 hh
            exact ⟨DR_m hD hi d1 d2, TR_m hT hi⟩)
        · obtain ⟨ff', fp', tr', kd', pc', num', bh', rs', w', wa', sp', pl', tok', val', told', reads', f1, f2, f3, f4⟩ := res_both h g1 hT.2.2.2.2 rs reads
          rw [if_neg (by decide), if_neg (by decide), if_neg (by decide), if_neg (by decide), if_neg (by decide), if_neg (by decide), if_neg (by decide), if_neg (by decide), f1, zb_s]
          rw [show (nI 7 : Int32) = 7 from rfl, f2]
          unfold f_X4_readLine_J222
          rw [if_neg (by decide), if_pos (by decide)]
          exact end_both h f3 (fun hh => by
            obtain ⟨-, i, v, hi, rfl, rfl, rfl, rfl, d1, d2⟩ := f4 hh
            exact ⟨DR_r hD hi d1 d2, TR_r hT hi⟩)
  · exact bad (by decide) (by decide) (by decide)
  · exact bad (by decide) (by decide) (by decide)
  · exact bad (by decide) (by decide) (by decide)
end
