/-! text: numbers, places, the end of a line -/
section
variable {k : Nat} {bytes tape : Nat → Int32} {m : Nat} {ff fp kd pc num bh w wa sp pl tok val : Int32}
theorem G_up {m m' : Nat} (hm : m' ≤ m) (h : G k tape m ff fp kd pc num bh w wa sp pl tok val) : G k tape m' ff fp kd pc num bh w wa sp pl tok val := by
  rcases h with ⟨a, b, p, q, h1, h2⟩ | h | h
  · exact Or.inl ⟨a, b, p, q, by omega, h2⟩
  · exact Or.inr (Or.inl h)
  · exact Or.inr (Or.inr h)
theorem st_no (v : Int32) (hk : ¬ kd = v) (h5 : ¬ kd = 5) : f_X4_stands v 0 fp kd pc = some (0, 2, pc) := by
  unfold f_X4_stands f_X4_stands_J39 f_X4_refuse
  rw [if_pos rfl, if_neg hk, if_neg h5, zb_s]
theorem st_yes (v : Int32) : f_X4_stands v 0 fp v pc = some (1, 0, fp) := by
  unfold f_X4_stands
  rw [if_pos rfl, if_pos rfl]
theorem st_bad (v : Int32) (h5 : ¬ (5 : Int32) = v) : f_X4_stands v 0 fp 5 pc = some (0, 1, pc) := by
  unfold f_X4_stands f_X4_stands_J39 f_X4_refuse
  rw [if_pos rfl, if_neg h5, if_pos rfl, zb_s]
theorem st_err (v : Int32) (hf : ¬ ff = 0) : f_X4_stands v ff fp kd pc = some (0, ff, fp) := by
  unfold f_X4_stands
  rw [if_neg hf]
theorem num_both (h : TB k bytes tape) (hG : G k tape m ff fp kd pc num bh w wa sp pl tok val) (lo hi lo' hi' sg : Int32) (hs : ∀ v : Nat, v ≤ 999 → (lo ≤ sg * nI v ∧ sg * nI v ≤ hi ↔ lo' ≤ sg * nI v ∧ sg * nI v ≤ hi')) : ∃ u ff' fp' kd' pc' num' bh' u' w' wa' sp' pl' tok' val', f_X4_takeNumber_J33 lo hi sg ff fp (nI k) kd pc num bh bytes = some (u, ff', fp', kd', pc', num', bh') ∧ f_X12_number sg lo' hi' (nI k) w wa sp pl tok val tape = some (u', w', wa', sp', pl', tok', val') ∧ G k tape m ff' fp' kd' pc' num' bh' w' wa' sp' pl' tok' val' ∧ (w' = 0 → w = 0 ∧ u = u' ∧ lo ≤ u ∧ u ≤ hi) := by
  unfold f_X4_takeNumber_J33
  rcases hG with ⟨rfl, rfl, p, q, h1, h2, h3, rfl, rfl, rfl, rfl, hk⟩ | ⟨rfl, rfl, rfl, rfl⟩ | ⟨hw, rfl, rfl⟩
  · have bad : ¬ kd = 2 → ¬ kd = 5 → ¬ tok = 2 → ∃ u ff' fp' kd' pc' num' bh' u' w' wa' sp' pl' tok' val', (zb (f_X4_stands 2 0 fp kd (nI p)) fun z35 => if z35.1 = 0 then some (0, z35.2.1, z35.2.2, kd, nI p, num, nI q) else zl (sg * num) fun x52 => if x52 < lo then f_X4_takeNumber_J66 kd (nI p) num (nI q) else if x52 ≤ hi then zb (f_X9_advance (nI k) num (nI q) bytes) fun z84 => some (x52, z35.2.1, z35.2.2, z84.1, z84.2.1, z84.2.2.1, z84.2.2.2) else f_X4_takeNumber_J66 kd (nI p) num (nI q)) = some (u, ff', fp', kd', pc', num', bh') ∧ f_X12_number sg lo' hi' (nI k) 0 wa (nI q) (nI p) tok val tape = some (u', w', wa', sp', pl', tok', val') ∧ G k tape m ff' fp' kd' pc' num' bh' w' wa' sp' pl' tok' val' ∧ (w' = 0 → (0 : Int32) = 0 ∧ u = u' ∧ lo ≤ u ∧ u ≤ hi) := by
      intro b2 b5 bt
      rw [st_no 2 b2 b5, zb_s]
      have e : f_X12_number sg lo' hi' (nI k) 0 wa (nI q) (nI p) tok val tape = some (sg * val, 2, nI p, nI q, nI p, tok, val) := by
        have hh := w_number (tape := tape) (w := 2) (wa := nI p) (sp := nI q) (pl := nI p) (tok := tok) (val := val) (by decide) (nI k) sg lo' hi'
        unfold f_X12_number at hh ⊢
        rw [if_neg (by decide)] at hh
        unfold f_X12_fails
        rw [if_pos rfl, if_neg bt, if_pos rfl, zb_s]
        exact hh
      rw [e]
      exact ⟨_, _, _, _, _, _, _, _, _, _, _, _, _, _, rfl, rfl, Or.inr (Or.inr ⟨(by decide : (0 : Int32) < 2), rfl, rfl⟩), fun hh => absurd hh (by decide : ¬ (2 : Int32) = 0)⟩
    rcases hk with ⟨rfl, rfl⟩ | ⟨hpq, ⟨rfl, rfl, -⟩ | ⟨rfl, rfl, v, hv, rfl, rfl⟩ | ⟨rfl, rfl, rfl⟩ | ⟨rfl, rfl, rfl⟩⟩
    · exact bad (by decide) (by decide) (by decide)
    · exact bad (by decide) (by decide) (by decide)
    · rw [st_yes, zb_s]
      simp only []
      rw [if_neg n10, zl_e]
      unfold f_X12_number f_X12_number_J20 f_X12_number_J53
      rw [if_pos rfl, if_pos rfl, zl_e, if_pos rfl, f_inI _ lo' hi' _ _ rfl rfl, zb_s]
      by_cases c : lo ≤ sg * nI v ∧ sg * nI v ≤ hi
      · rw [if_pos ((hs v hv).mp c), if_neg n10, if_neg ((i32_nlt _ _).mpr c.1), if_pos c.2]
        obtain ⟨kd', pc', num', bh', w', wa', sp', pl', tok', val', e1, e2, e3⟩ := adv h h3 (nI v) wa (nI p) 2 (nI v) fp
        rw [e1, e2, zb_s, zb_s]
        exact ⟨_, _, _, _, _, _, _, _, _, _, _, _, _, _, rfl, rfl, G_up (by omega) e3, fun _ => ⟨trivial, rfl, c⟩⟩
      · have hc : ∃ z : Int32 × Int32 × Int32 × Int32 × Int32 × Int32 × Int32, z = (0, 3, nI p, 2, nI p, nI v, nI q) ∧ (if sg * nI v < lo then f_X4_takeNumber_J66 2 (nI p) (nI v) (nI q) else if sg * nI v ≤ hi then zb (f_X9_advance (nI k) (nI v) (nI q) bytes) fun z84 => some (sg * nI v, (0 : Int32), fp, z84.1, z84.2.1, z84.2.2.1, z84.2.2.2) else f_X4_takeNumber_J66 2 (nI p) (nI v) (nI q)) = some z := by
          refine ⟨_, rfl, ?_⟩
          unfold f_X4_takeNumber_J66 f_X4_refuse
          by_cases c1 : sg * nI v < lo
          · rw [if_pos c1, zb_s]
          · rw [if_neg c1, if_neg (fun hh => c ⟨(i32_nlt _ _).mp c1, hh⟩), zb_s]
        obtain ⟨z, rfl, ez⟩ := hc
        rw [ez, if_neg (fun hh => c ((hs v hv).mpr hh)), if_pos rfl]
        unfold f_X12_fails
        rw [if_pos rfl, zb_s]
        simp only []
        rw [w_next (by decide), zb_s]
        exact ⟨_, _, _, _, _, _, _, _, _, _, _, _, _, _, rfl, rfl, Or.inr (Or.inr ⟨(by decide : (0 : Int32) < 3), rfl, rfl⟩), fun hh => absurd hh (by decide : ¬ (3 : Int32) = 0)⟩
    · exact bad (by decide) (by decide) (by decide)
    · exact bad (by decide) (by decide) (by decide)
  · rw [st_bad 2 (by decide), zb_s, w_number (by decide)]
    exact ⟨_, _, _, _, _, _, _, _, _, _, _, _, _, _, rfl, rfl, Or.inr (Or.inr ⟨by decide, rfl, rfl⟩), fun hh => absurd hh (by decide)⟩
  · rw [st_err 2 (w_ne hw).1, zb_s, w_number hw]
    exact ⟨_, _, _, _, _, _, _, _, _, _, _, _, _, _, rfl, rfl, Or.inr (Or.inr ⟨hw, rfl, rfl⟩), fun hh => absurd hh (w_ne hw).1⟩
theorem sgn_both (h : TB k bytes tape) (hG : G k tape m ff fp kd pc num bh w wa sp pl tok val) {lo : Int32} (hlo : ¬ 0 ≤ lo) (hi : Int32) : ∃ sg ff' fp' kd' pc' num' bh' w' wa' sp' pl' tok' val', (sg = 1 ∨ sg = -1) ∧ f_X4_takeNumber lo hi ff fp (nI k) kd pc num bh bytes = f_X4_takeNumber_J33 lo hi sg ff' fp' (nI k) kd' pc' num' bh' bytes ∧ f_X12_sign (nI k) w wa sp pl tok val tape = some (sg, w', wa', sp', pl', tok', val') ∧ G k tape m ff' fp' kd' pc' num' bh' w' wa' sp' pl' tok' val' ∧ (w' = 0 → w = 0) := by
  unfold f_X4_takeNumber
  rcases id hG with ⟨rfl, rfl, p, q, h1, h2, h3, rfl, rfl, rfl, rfl, hk⟩ | ⟨rfl, rfl, rfl, rfl⟩ | ⟨hw, rfl, rfl⟩
  · rw [if_pos rfl, if_neg hlo]
    unfold f_X12_sign f_X12_sign_J28 f_X12_sign_J29 f_X12_sign_J38
    rw [if_pos rfl]
    rcases hk with ⟨rfl, rfl⟩ | ⟨hpq, ⟨rfl, rfl, -⟩ | ⟨rfl, rfl, v, hv, rfl, rfl⟩ | ⟨rfl, rfl, rfl⟩ | ⟨rfl, rfl, rfl⟩⟩
    · rw [if_neg (by decide), if_neg (by decide), if_pos rfl, if_pos rfl]
      exact ⟨_, _, _, _, _, _, _, _, _, _, _, _, _, Or.inl rfl, rfl, rfl, hG, fun hh => hh⟩
    · rw [if_neg (by decide), if_neg (by decide), if_pos rfl, if_pos rfl]
      exact ⟨_, _, _, _, _, _, _, _, _, _, _, _, _, Or.inl rfl, rfl, rfl, hG, fun hh => hh⟩
    · rw [if_neg (by decide), if_neg (by decide), if_pos rfl, if_pos rfl]
      exact ⟨_, _, _, _, _, _, _, _, _, _, _, _, _, Or.inl rfl, rfl, rfl, hG, fun hh => hh⟩
    · rw [if_pos rfl, if_pos rfl, if_pos rfl, if_neg n10]
      obtain ⟨kd', pc', num', bh', w', wa', sp', pl', tok', val', e1, e2, e3⟩ := adv h h3 num wa (nI p) 3 45 fp
      rw [e1, e2, zb_s, zb_s, if_neg n10]
      exact ⟨_, _, _, _, _, _, _, _, _, _, _, _, _, Or.inr rfl, rfl, rfl, G_up (by omega) e3, fun _ => rfl⟩
    · rw [if_neg (by decide), if_pos rfl, if_neg (by decide), if_pos rfl, if_pos rfl]
      exact ⟨_, _, _, _, _, _, _, _, _, _, _, _, _, Or.inl rfl, rfl, rfl, hG, fun hh => hh⟩
  · rw [if_pos rfl, if_neg hlo, if_neg (by decide), w_sign (by decide)]
    exact ⟨_, _, _, _, _, _, _, _, _, _, _, _, _, Or.inl rfl, rfl, rfl, hG, fun hh => hh⟩
  · rw [if_neg (w_ne hw).1, w_sign hw]
    exact ⟨_, _, _, _, _, _, _, _, _, _, _, _, _, Or.inl rfl, rfl, rfl, hG, fun hh => hh⟩
theorem tn_pos {lo : Int32} (hlo : 0 ≤ lo) (hi : Int32) : f_X4_takeNumber lo hi ff fp (nI k) kd pc num bh bytes = f_X4_takeNumber_J33 lo hi 1 ff fp (nI k) kd pc num bh bytes := by
  unfold f_X4_takeNumber
  rw [if_pos hlo, ite_self]
theorem semi_both (h : TB k bytes tape) (hG : G k tape m ff fp kd pc num bh w wa sp pl tok val) (tl tm tr b u o l r t told : Int32) (ms rs reads : Nat → Int32) : ∃ ff' fp' kd' pc' num' bh' w' wa' sp' pl' tok' val', f_X4_readLine_J246 ff fp tl tm tr (nI k) kd pc num bh bytes b u o l r t ms rs = some (ff', fp', tl, tm, tr, kd', pc', num', bh', b, u, o, l, r, t, ms, rs) ∧ f_X12_readLine_J234 (nI k) w wa sp pl tok val told tape reads = some (w', wa', sp', pl', tok', val', told, reads) ∧ G k tape (m + 1) ff' fp' kd' pc' num' bh' w' wa' sp' pl' tok' val' ∧ (w' = 0 → w = 0) := by
  unfold f_X4_readLine_J246
  rcases id hG with ⟨rfl, rfl, p, q, h1, h2, h3, rfl, rfl, rfl, rfl, hk⟩ | ⟨rfl, rfl, rfl, rfl⟩ | ⟨hw, rfl, rfl⟩
  · have bad : ¬ kd = 4 → ¬ kd = 5 → ¬ (tok = 3 ∧ val = 59) → ∃ ff' fp' kd' pc' num' bh' w' wa' sp' pl' tok' val', (zb (f_X4_stands 4 0 fp kd (nI p)) fun z248 => if z248.1 = 0 then some (z248.2.1, z248.2.2, tl, tm, tr, kd, nI p, num, nI q, b, u, o, l, r, t, ms, rs) else zb (f_X9_advance (nI k) num (nI q) bytes) fun z258 => some (z248.2.1, z248.2.2, tl, tm, tr, z258.1, z258.2.1, z258.2.2.1, z258.2.2.2, b, u, o, l, r, t, ms, rs)) = some (ff', fp', tl, tm, tr, kd', pc', num', bh', b, u, o, l, r, t, ms, rs) ∧ f_X12_readLine_J234 (nI k) 0 wa (nI q) (nI p) tok val told tape reads = some (w', wa', sp', pl', tok', val', told, reads) ∧ G k tape (m + 1) ff' fp' kd' pc' num' bh' w' wa' sp' pl' tok' val' ∧ (w' = 0 → (0 : Int32) = 0) := by
      intro b2 b5 bt
      rw [st_no 4 b2 b5, zb_s]
      have e : f_X12_readLine_J234 (nI k) 0 wa (nI q) (nI p) tok val told tape reads = some (2, nI p, nI q, nI p, tok, val, told, reads) := by
        have e8 : f_X12_readLine_J258 (nI k) 0 wa (nI q) (nI p) tok val told tape reads = some (2, nI p, nI q, nI p, tok, val, told, reads) := by
          unfold f_X12_readLine_J258 f_X12_readLine_J263 f_X12_fails
          rw [if_pos rfl, zb_s]
          simp only []
          rw [w_next (by decide), zb_s]
        unfold f_X12_readLine_J234
        rw [if_pos rfl]
        by_cases c3 : tok = 3
        · rw [if_pos c3, if_neg (fun hh => bt ⟨c3, hh⟩), e8]
        · rw [if_neg c3, e8]
      rw [e]
      exact ⟨_, _, _, _, _, _, _, _, _, _, _, _, rfl, rfl, Or.inr (Or.inr ⟨by decide, rfl, rfl⟩), fun hh => absurd hh (by decide)⟩
    rcases hk with ⟨rfl, rfl⟩ | ⟨hpq, ⟨rfl, rfl, -⟩ | ⟨rfl, rfl, v, hv, rfl, rfl⟩ | ⟨rfl, rfl, rfl⟩ | ⟨rfl, rfl, rfl⟩⟩
    · exact bad (by decide) (by decide) (fun hh => absurd hh.1 (by decide))
    · exact bad (by decide) (by decide) (fun hh => absurd hh.1 (by decide))
    · exact bad (by decide) (by decide) (fun hh => absurd hh.1 (by decide))
    · exact bad (by decide) (by decide) (fun hh => absurd hh.2 (by decide))
    · rw [st_yes, zb_s]
      unfold f_X12_readLine_J234 f_X12_readLine_J263
      obtain ⟨kd', pc', num', bh', w', wa', sp', pl', tok', val', e1, e2, e3⟩ := adv h h3 num wa (nI p) 3 59 fp
      rw [if_pos rfl, if_pos rfl, if_pos rfl, e1, e2, zb_s, zb_s, if_neg n10]
      exact ⟨_, _, _, _, _, _, _, _, _, _, _, _, rfl, rfl, G_up (by omega) e3, fun _ => rfl⟩
  · rw [st_bad 4 (by decide), zb_s, w_234 (by decide)]
    exact ⟨_, _, _, _, _, _, _, _, _, _, _, _, rfl, rfl, Or.inr (Or.inr ⟨by decide, rfl, rfl⟩), fun hh => absurd hh (by decide)⟩
  · rw [st_err 4 (w_ne hw).1, zb_s, w_234 hw]
    exact ⟨_, _, _, _, _, _, _, _, _, _, _, _, rfl, rfl, Or.inr (Or.inr ⟨hw, rfl, rfl⟩), fun hh => absurd hh (w_ne hw).1⟩
theorem x_told (x : Int32) {i : Nat} (hi : i < 32) : f_X4_isTold x (nI i) = some (if bt x i = true then 1 else 0) := by
  unfold f_X4_isTold
  by_cases c : bt x i = true
  · rw [if_pos c, if_pos ((told_iff x hi).mpr c)]
  · rw [if_neg c, if_neg (fun hh => c ((told_iff x hi).mp hh))]
theorem fresh_both (h : TB k bytes tape) (hG : G k tape m ff fp kd pc num bh w wa sp pl tok val) {cap base : Nat} (hcap : base + cap ≤ 31) {tc told : Int32} (hT : ∀ i, i < cap → bt told (base + i) = bt tc i) : ∃ u ff' fp' kd' pc' num' bh' u' w' wa' sp' pl' tok' val' told', f_X4_takeFresh (nI cap) tc ff fp (nI k) kd pc num bh bytes = some (u, ff', fp', kd', pc', num', bh') ∧ f_X12_readOf (nI base) (nI cap) (nI k) w wa sp pl tok val told tape = some (u', w', wa', sp', pl', tok', val', told') ∧ G k tape m ff' fp' kd' pc' num' bh' w' wa' sp' pl' tok' val' ∧ (w' = 0 → w = 0 ∧ ∃ i, i < cap ∧ u = nI i ∧ u' = nI (base + i) ∧ told' = told ||| ((1 : Int32) <<< (nI (base + i) &&& 31))) ∧ ∃ j, j < 31 ∧ u' = nI j := by
  unfold f_X4_takeFresh
  rcases hG with ⟨rfl, rfl, p, q, h1, h2, h3, rfl, rfl, rfl, rfl, hk⟩ | ⟨rfl, rfl, rfl, rfl⟩ | ⟨hw, rfl, rfl⟩
  · have bad : ¬ kd = 2 → ¬ kd = 5 → ¬ tok = 2 → ∃ u ff' fp' kd' pc' num' bh' u' w' wa' sp' pl' tok' val' told', (zb (f_X4_stands 2 0 fp kd (nI p)) fun z2 => if z2.1 = 0 then some (0, z2.2.1, z2.2.2, kd, nI p, num, nI q) else if num < nI cap then zb (f_X4_isTold tc num) fun z39 => if z39 = 0 then zb (f_X9_advance (nI k) num (nI q) bytes) fun z63 => some (num, z2.2.1, z2.2.2, z63.1, z63.2.1, z63.2.2.1, z63.2.2.2) else zb (f_X4_refuse 4 (nI p)) fun z54 => some (0, z54.1, z54.2, kd, nI p, num, nI q) else zb (f_X4_refuse 3 (nI p)) fun z32 => some (0, z32.1, z32.2, kd, nI p, num, nI q)) = some (u, ff', fp', kd', pc', num', bh') ∧ f_X12_readOf (nI base) (nI cap) (nI k) 0 wa (nI q) (nI p) tok val told tape = some (u', w', wa', sp', pl', tok', val', told') ∧ G k tape m ff' fp' kd' pc' num' bh' w' wa' sp' pl' tok' val' ∧ (w' = 0 → (0 : Int32) = 0 ∧ ∃ i, i < cap ∧ u = nI i ∧ u' = nI (base + i) ∧ told' = told ||| ((1 : Int32) <<< (nI (base + i) &&& 31))) ∧ ∃ j, j < 31 ∧ u' = nI j := by
      intro b2 b5 bt
      rw [st_no 2 b2 b5, zb_s]
      have e : f_X12_readOf (nI base) (nI cap) (nI k) 0 wa (nI q) (nI p) tok val told tape = some (0, 2, nI p, nI q, nI p, tok, val, told) := by
        have hh := w_readOf (tape := tape) (w := 2) (wa := nI p) (sp := nI q) (pl := nI p) (tok := tok) (val := val) (by decide) (nI k) (nI base) (nI cap) told
        unfold f_X12_readOf at hh ⊢
        rw [if_neg (by decide)] at hh
        unfold f_X12_fails
        rw [if_pos rfl, if_neg bt, if_pos rfl, zb_s]
        exact hh
      rw [e]
      exact ⟨_, _, _, _, _, _, _, _, _, _, _, _, _, _, _, rfl, rfl, Or.inr (Or.inr ⟨by decide, rfl, rfl⟩), fun hh => absurd hh (by decide), 0, by decide, rfl⟩
    rcases hk with ⟨rfl, rfl⟩ | ⟨hpq, ⟨rfl, rfl, -⟩ | ⟨rfl, rfl, v, hv, rfl, rfl⟩ | ⟨rfl, rfl, rfl⟩ | ⟨rfl, rfl, rfl⟩⟩
    · exact bad (by decide) (by decide) (by decide)
    · exact bad (by decide) (by decide) (by decide)
    · rw [st_yes, zb_s]
      simp only []
      rw [if_neg n10]
      unfold f_X12_readOf f_X12_readOf_J20 f_X12_readOf_J40 f_X12_readOf_J57
      rw [if_pos rfl, if_pos rfl, if_pos rfl]
      by_cases c : v < cap
      · rw [if_pos (nI_lt c (by omega)), if_pos (nI_lt c (by omega)), if_pos rfl, nI_add, x_told tc (by omega), zb_s]
        unfold f_X12_once f_X12_once_J24 f_X12_once_J43
        rw [if_pos rfl]
        by_cases ct : bt tc v = true
        · rw [if_pos ct, if_neg n10, if_pos ((told_iff told (by omega)).mpr ((hT v c).trans ct))]
          unfold f_X4_refuse f_X12_fails
          rw [if_pos rfl, zb_s, zb_s]
          simp only []
          rw [if_neg (show ¬ (4 : Int32) = 0 by decide), zl_e, zb_s]
          simp only []
          rw [w_next (by decide), zb_s]
          exact ⟨_, _, _, _, _, _, _, _, _, _, _, _, _, _, _, rfl, rfl, Or.inr (Or.inr ⟨(by decide : (0 : Int32) < 4), rfl, rfl⟩), fun hh => absurd hh (by decide : ¬ (4 : Int32) = 0), _, by omega, rfl⟩
        · rw [if_neg ct, if_pos rfl, if_neg (fun hh => ct ((hT v c).symm.trans ((told_iff told (by omega)).mp hh))), if_pos rfl, zl_e, zb_s]
          simp only []
          obtain ⟨kd', pc', num', bh', w', wa', sp', pl', tok', val', e1, e2, e3⟩ := adv h h3 (nI v) wa (nI p) 2 (nI v) fp
          rw [e1, e2, zb_s, zb_s]
          exact ⟨_, _, _, _, _, _, _, _, _, _, _, _, _, _, _, rfl, rfl, G_up (by omega) e3, fun _ => ⟨trivial, v, c, rfl, rfl, rfl⟩, _, by omega, rfl⟩
      · rw [if_neg (nI_nlt (by omega) (by omega)), if_neg (nI_nlt (by omega) (by omega))]
        unfold f_X4_refuse f_X12_fails
        rw [if_pos rfl, zb_s, zb_s]
        simp only []
        rw [if_neg (show ¬ (3 : Int32) = 0 by decide), w_once (by decide), zb_s]
        simp only []
        rw [w_next (by decide), zb_s]
        exact ⟨_, _, _, _, _, _, _, _, _, _, _, _, _, _, _, rfl, rfl, Or.inr (Or.inr ⟨(by decide : (0 : Int32) < 3), rfl, rfl⟩), fun hh => absurd hh (by decide : ¬ (3 : Int32) = 0), 0, by decide, rfl⟩
    · exact bad (by decide) (by decide) (by decide)
    · exact bad (by decide) (by decide) (by decide)
  · rw [st_bad 2 (by decide), zb_s, w_readOf (by decide)]
    exact ⟨_, _, _, _, _, _, _, _, _, _, _, _, _, _, _, rfl, rfl, Or.inr (Or.inr ⟨by decide, rfl, rfl⟩), fun hh => absurd hh (by decide), 0, by decide, rfl⟩
  · rw [st_err 2 (w_ne hw).1, zb_s, w_readOf hw]
    exact ⟨_, _, _, _, _, _, _, _, _, _, _, _, _, _, _, rfl, rfl, Or.inr (Or.inr ⟨hw, rfl, rfl⟩), fun hh => absurd hh (w_ne hw).1, 0, by decide, rfl⟩
end
