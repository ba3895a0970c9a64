/-! text -/
theorem zp_rq {σ τ : Type} {f : σ → Option (Nat × σ)} {g : τ → Option (Nat × τ)} (R : Nat → σ → τ → Prop) (Q : Nat × σ → Nat × τ → Prop) (N : Nat) (h : ∀ j s t, j ≤ N → R j s t → (j < N ∧ ∃ s' t', f s = some (0, s') ∧ g t = some (0, t') ∧ R (j + 1) s' t') ∨ ∃ a b, (∀ n, zp f (n + 2) s = some a) ∧ (∀ n, zp g (n + 2) t = some b) ∧ Q a b) : ∀ n k s t, k ≤ N → N + 1 < n + k → R k s t → ∃ a b, zp f n s = some a ∧ zp g n t = some b ∧ Q a b := by
  intro n
  induction n with
  | zero => intro k s t h1 h2; omega
  | succ n ih =>
    intro k s t h1 h2 hR
    rcases h k s t h1 hR with ⟨hk, s', t', e, e', hR'⟩ | ⟨a, b, e, e', hQ⟩
    · rw [zp_step e, zp_step e']
      exact ih (k + 1) s' t' (by omega) (by omega) hR'
    · obtain ⟨n', rfl⟩ : ∃ n', n = n' + 1 := ⟨n - 1, by omega⟩
      exact ⟨a, b, e n', e' n', hQ⟩
section
variable {k : Nat} {bytes tape ends letters : Nat → Int32}
theorem x_lineB {fp pc num bh tl tm tr b u o l r t : Int32} {ms rs : Nat → Int32} : f_X4_readLine 0 fp tl tm tr (nI k) 5 pc num bh bytes b u o l r t ms rs = some (1, pc, tl, tm, tr, 5, pc, num, bh, b, u, o, l, r, t, ms, rs) := by
  unfold f_X4_readLine
  rw [st_bad 1 (by decide), zb_s, if_pos rfl]
/-- the end of the lines -/
def QT (a : Nat × (Int32 × Int32 × Int32 × Int32 × Int32 × Int32 × Int32 × Int32 × Int32 × Int32 × Int32 × Int32 × Int32 × Int32 × Int32 × Int32 × (Nat → Int32) × (Nat → Int32))) (c : Nat × (Int32 × Int32 × Int32 × Int32 × Int32 × Int32 × Int32 × Int32 × (Nat → Int32))) : Prop :=
  ∃ x ff fp tl tm tr kd pc num bh b u o l r t ms rs x' w wa sp pl tok val told reads, a = (1, (x, ff, fp, tl, tm, tr, kd, pc, num, bh, b, u, o, l, r, t, ms, rs)) ∧ c = (1, (x', w, wa, sp, pl, tok, val, told, reads)) ∧ ((ff = 0 ∧ w = 0 ∧ x = x' ∧ DR b u o l r t ms rs reads) ∨ (0 < w ∧ ff = w ∧ fp = wa))
theorem lines_both (h : TB k bytes tape) (hK : KI ends letters) {ff fp tl tm tr kd pc num bh b u o l r t w wa sp pl tok val told : Int32} {ms rs reads : Nat → Int32} (hG : G k tape 0 ff fp kd pc num bh w wa sp pl tok val) (hD : w = 0 → DR b u o l r t ms rs reads ∧ TR tl tm tr told) : ∃ a c, zp (f_X4_readTape_L43 (nI k) bytes) zF (0, ff, fp, tl, tm, tr, kd, pc, num, bh, b, u, o, l, r, t, ms, rs) = some a ∧ zp (f_X12_text_L76 (nI k) tape ends letters) zF (0, w, wa, sp, pl, tok, val, told, reads) = some c ∧ QT a c := by
  have hk := h.1
  refine zp_rq (f := f_X4_readTape_L43 (nI k) bytes) (g := f_X12_text_L76 (nI k) tape ends letters) (fun j s s' => ∃ ff fp tl tm tr kd pc num bh b u o l r t ms rs w wa sp pl tok val told reads, s = (nI j, ff, fp, tl, tm, tr, kd, pc, num, bh, b, u, o, l, r, t, ms, rs) ∧ s' = (nI j, w, wa, sp, pl, tok, val, told, reads) ∧ G k tape (2 * j) ff fp kd pc num bh w wa sp pl tok val ∧ (w = 0 → DR b u o l r t ms rs reads ∧ TR tl tm tr told)) QT 100 ?_ zF 0 _ _ (by decide) (by unfold zF; omega) ⟨_, _, _, _, _, _, _, _, _, _, _, _, _, _, _, _, _, _, _, _, _, _, _, _, _, rfl, rfl, hG, hD⟩
  clear hG hD
  rintro j s s' hj ⟨ff, fp, tl, tm, tr, kd, pc, num, bh, b, u, o, l, r, t, ms, rs, w, wa, sp, pl, tok, val, told, reads, rfl, rfl, hG, hD⟩
  have n200 : ¬ (200 : Int32) ≤ nI j := nI_ge (b := 200) (by omega) (by decide)
  rcases id hG with ⟨rfl, rfl, hA⟩ | ⟨rfl, rfl, rfl, rfl⟩ | ⟨hw, rfl, rfl⟩
  · by_cases c0 : kd = 0
    · right
      have ht : tok = 0 := by
        obtain ⟨p, q, -, -, -, -, -, -, -, hk⟩ := hA
        rcases hk with ⟨-, e⟩ | ⟨-, ⟨e, -⟩ | ⟨e, -⟩ | ⟨e, -⟩ | ⟨e, -⟩⟩
        · exact e
        all_goals (rw [c0] at e; exact absurd e (by decide))
      have e1 : f_X4_readTape_L43 (nI k) bytes (nI j, 0, fp, tl, tm, tr, kd, pc, num, bh, b, u, o, l, r, t, ms, rs) = some (1, (nI j, 0, fp, tl, tm, tr, kd, pc, num, bh, b, u, o, l, r, t, ms, rs)) := by
        unfold f_X4_readTape_L43
        simp only []
        rw [if_neg n200, if_pos trivial, if_pos c0]
      have e2 : f_X12_text_L76 (nI k) tape ends letters (nI j, 0, wa, sp, pl, tok, val, told, reads) = some (1, (nI j, 0, wa, sp, pl, tok, val, told, reads)) := by
        unfold f_X12_text_L76
        simp only []
        rw [if_pos trivial, if_pos ht]
      exact ⟨_, _, fun n => zp_stop e1 (by decide), fun n => zp_stop e2 (by decide), _, _, _, _, _, _, _, _, _, _, _, _, _, _, _, _, _, _, _, _, _, _, _, _, _, _, _, rfl, rfl, Or.inl ⟨rfl, rfl, rfl, (hD rfl).1⟩⟩
    · left
      obtain ⟨ff', fp', tl', tm', tr', kd', pc', num', bh', b', u', o', l', r', t', ms', rs', w', wa', sp', pl', tok', val', told', reads', e1, e2, g, hd⟩ := line_both h hK hA c0 (hD rfl).1 (hD rfl).2 (fp := fp) (wa := wa)
      obtain ⟨p, q, hp, hpq, hq, -, -, -, -, hk2⟩ := id hA
      have ht : ¬ tok = 0 := by
        rcases hk2 with ⟨e, -⟩ | ⟨-, ⟨-, e, -⟩ | ⟨-, e, -⟩ | ⟨-, e, -⟩ | ⟨-, e, -⟩⟩
        · exact absurd e c0
        all_goals (rw [e]; decide)
      have hlt : p < q := by
        rcases hk2 with ⟨e, -⟩ | ⟨e, -⟩
        · exact absurd e c0
        · exact e
      refine ⟨by omega, (nI (j + 1), ff', fp', tl', tm', tr', kd', pc', num', bh', b', u', o', l', r', t', ms', rs'), (nI (j + 1), w', wa', sp', pl', tok', val', told', reads'), ?_, ?_, _, _, _, _, _, _, _, _, _, _, _, _, _, _, _, _, _, _, _, _, _, _, _, _, _, rfl, rfl, g, hd⟩
      · unfold f_X4_readTape_L43
        simp only []
        rw [if_neg n200, if_pos trivial, if_neg c0, e1, zb_s, zl_e, nI_1]
      · unfold f_X12_text_L76
        simp only []
        rw [if_pos trivial, if_neg ht, e2, zb_s, zl_e, nI_1]
  · right
    have e1 : f_X4_readTape_L43 (nI k) bytes (nI j, 0, fp, tl, tm, tr, 5, wa, num, bh, b, u, o, l, r, t, ms, rs) = some (0, (nI (j + 1), 1, wa, tl, tm, tr, 5, wa, num, bh, b, u, o, l, r, t, ms, rs)) := by
      unfold f_X4_readTape_L43
      simp only []
      rw [if_neg n200, if_pos trivial, if_neg (by decide), x_lineB, zb_s, zl_e, nI_1]
    have e1' : f_X4_readTape_L43 (nI k) bytes (nI (j + 1), 1, wa, tl, tm, tr, 5, wa, num, bh, b, u, o, l, r, t, ms, rs) = some (1, (nI (j + 1), 1, wa, tl, tm, tr, 5, wa, num, bh, b, u, o, l, r, t, ms, rs)) := by
      unfold f_X4_readTape_L43
      simp only []
      rw [if_neg (show ¬ (200 : Int32) ≤ nI (j + 1) from nI_ge (b := 200) (by omega) (by decide)), if_neg n10]
    have e2 : f_X12_text_L76 (nI k) tape ends letters (nI j, 1, wa, sp, pl, tok, val, told, reads) = some (1, (nI j, 1, wa, sp, pl, tok, val, told, reads)) := by
      unfold f_X12_text_L76
      simp only []
      rw [if_neg n10]
    have z1 : ∀ n, zp (f_X4_readTape_L43 (nI k) bytes) (n + 2) (nI j, 0, fp, tl, tm, tr, 5, wa, num, bh, b, u, o, l, r, t, ms, rs) = some (1, (nI (j + 1), 1, wa, tl, tm, tr, 5, wa, num, bh, b, u, o, l, r, t, ms, rs)) := by
      intro n
      rw [zp_step (n := n + 1) e1]
      exact zp_stop (n := n) e1' Nat.one_ne_zero
    have z2 : ∀ n, zp (f_X12_text_L76 (nI k) tape ends letters) (n + 2) (nI j, 1, wa, sp, pl, tok, val, told, reads) = some (1, (nI j, 1, wa, sp, pl, tok, val, told, reads)) := fun n => zp_stop (n := n + 1) e2 Nat.one_ne_zero
    exact ⟨_, _, z1, z2, _, _, _, _, _, _, _, _, _, _, _, _, _, _, _, _, _, _, _, _, _, _, _, _, _, _, _, rfl, rfl, Or.inr ⟨by decide, rfl, rfl⟩⟩
  · right
    have e1 : f_X4_readTape_L43 (nI k) bytes (nI j, ff, fp, tl, tm, tr, kd, pc, num, bh, b, u, o, l, r, t, ms, rs) = some (1, (nI j, ff, fp, tl, tm, tr, kd, pc, num, bh, b, u, o, l, r, t, ms, rs)) := by
      unfold f_X4_readTape_L43
      simp only []
      rw [if_neg n200, if_neg (w_ne hw).1]
    have e2 : f_X12_text_L76 (nI k) tape ends letters (nI j, ff, fp, sp, pl, tok, val, told, reads) = some (1, (nI j, ff, fp, sp, pl, tok, val, told, reads)) := by
      unfold f_X12_text_L76
      simp only []
      rw [if_neg (w_ne hw).1]
    exact ⟨_, _, fun n => zp_stop e1 (by decide), fun n => zp_stop e2 (by decide), _, _, _, _, _, _, _, _, _, _, _, _, _, _, _, _, _, _, _, _, _, _, _, _, _, _, _, rfl, rfl, Or.inr ⟨hw, rfl, rfl⟩⟩
def rdI (i : Nat) : Int32 := if i < 15 then 0 else 10
theorem m_L19 (reads : Nat → Int32) : zp f_X12_text_L19 zF (0, reads) = some (1, (nI 31, fil rdI reads 31)) := by
  rw [zp_0 (v := (0, reads)) (fun j => (nI j, fil rdI reads j)) 31 (t := 1) (w := (nI 31, fil rdI reads 31)) (by rw [fil_0]; rfl) (by decide) (by decide)]
  · intro j hj
    unfold f_X12_text_L19 f_X12_text_J42_19
    simp only []
    rw [if_neg (show ¬ (31 : Int32) ≤ nI j from nI_ge (b := 31) hj (by decide)), ← fil_s]
    by_cases c : j < 15
    · rw [if_pos (show nI j < (15 : Int32) from nI_lt (b := 15) c (by decide)), zc_nI hj (by decide), zl_e, zl_e, nI_1, nI_clamp (by omega), show rdI j = 0 from if_pos c]
    · rw [if_neg (show ¬ nI j < (15 : Int32) from nI_nlt (b := 15) (by omega) (by omega)), zc_nI hj (by decide), zl_e, zl_e, nI_1, nI_clamp (by omega), show rdI j = 10 from if_neg c]
  · unfold f_X12_text_L19
    rw [if_pos (show (31 : Int32) ≤ nI 31 by decide)]
theorem m_L167 (reads holds : Nat → Int32) : zp (f_X12_text_L167 reads) zF (0, holds) = some (1, (nI 31, fil reads holds 31)) := by
  rw [zp_0 (v := (0, holds)) (fun j => (nI j, fil reads holds j)) 31 (t := 1) (w := (nI 31, fil reads holds 31)) (by rw [fil_0]; rfl) (by decide) (by decide)]
  · intro j hj
    unfold f_X12_text_L167
    simp only []
    rw [if_neg (show ¬ (31 : Int32) ≤ nI j from nI_ge (b := 31) hj (by decide)), ← fil_s, zc_nI hj (by decide), zl_e, zc_nI hj (by decide), zl_e, zl_e, nI_1, nI_clamp (by omega)]
  · unfold f_X12_text_L167
    rw [if_pos (show (31 : Int32) ≤ nI 31 by decide)]
theorem DR_init (reads ms rs : Nat → Int32) : DR 4 16 0 0 100 0 (fil (fun _ => 0) ms 9) (fil (fun _ => 10) rs 16) (upd (upd (upd (fil rdI reads 31) 0 4) 1 16) 5 100) := by
  refine ⟨4, rfl, by decide, ?_, ?_, ?_, ?_, ?_, ?_, fun i hi => ?_, fun i hi => ?_, Or.inl rfl, by decide, by decide, by decide, by decide, fun i hi => ?_, fun i hi => ?_⟩
  · rw [ud_n _ _ (by decide), ud_n _ _ (by decide), ud_s]; rfl
  · rw [ud_n _ _ (by decide), ud_s]
  · rw [ud_n _ _ (by decide), ud_n _ _ (by decide), ud_n _ _ (by decide), fil_in (by decide)]; rfl
  · rw [ud_n _ _ (by decide), ud_n _ _ (by decide), ud_n _ _ (by decide), fil_in (by decide)]; rfl
  · rw [ud_n _ _ (by decide), ud_n _ _ (by decide), ud_n _ _ (by decide), fil_in (by decide)]; rfl
  · rw [ud_s]
  · rw [ud_n _ _ (by omega), ud_n _ _ (by omega), ud_n _ _ (by omega), fil_in (by omega), fil_in hi]; exact if_pos (by omega)
  · rw [ud_n _ _ (by omega), ud_n _ _ (by omega), ud_n _ _ (by omega), fil_in (by omega), fil_in hi]; exact if_neg (by omega)
  · rw [fil_in hi]; decide
  · rw [fil_in hi]; decide
theorem TR_init : TR 0 0 0 0 := by
  refine ⟨fun i hi => rfl, b_0 _, b_0 _, fun i hi => ?_, fun i hi => ?_⟩ <;> rw [b_0, b_0]
theorem text_both (h : TB k bytes tape) (hK : KI ends letters) (fp num wa pl tok val meas : Int32) (dm dr holds reads : Nat → Int32) : ∃ x ff fp' tl tm tr kd pc num' bh b u o l r t ms rs ret w wa' sp' pl' tok' val' told' meas' holds' reads', f_X4_readTape fp (nI k) num bytes dm dr = some (x, ff, fp', tl, tm, tr, kd, pc, num', bh, b, u, o, l, r, t, ms, rs) ∧ f_X12_text (nI k) wa pl tok val meas tape ends letters holds reads = some (ret, 0, w, w, wa', sp', pl', tok', val', told', meas', holds', reads') ∧ ((ff = 0 ∧ w = 0 ∧ ret = x ∧ meas' = 0 ∧ ∃ n, b = nI n ∧ RI n u o t l r ms rs holds') ∨ (¬ ff = 0 ∧ ff = w ∧ ret = -10 - fp' ∧ meas' = meas ∧ holds' = holds)) := by
  unfold f_X4_readTape f_X12_text f_X5_reset f_X9_rewind
  rw [j_fill _ _ (by decide), zb_s, j_fill _ _ (by decide), zb_s, zb_s, zb_s, m_L19, zb_s, zc_l rfl, zl_e, zc_l rfl, zl_e, zc_l rfl, zl_e]
  simp only []
  obtain ⟨kd1, pc1, num1, bh1, w1, wa1, sp1, pl1, tok1, val1, e1, e2, g1⟩ := adv h (Nat.zero_le k) num wa pl tok val fp
  rw [show f_X9_advance (nI k) num 0 bytes = _ from e1, zb_s, show f_X12_next (nI k) 0 wa 0 pl tok val tape = _ from e2, zb_s]
  simp only []
  obtain ⟨a, c, ea, ec, x, ff, fp', tl, tm, tr, kd, pc, num', bh, b, u, o, l, r, t, ms, rs, x', w, wa', sp, pl', tok', val', told, reads', rfl, rfl, hQ⟩ := lines_both h hK g1 (fun _ => ⟨DR_init reads dm dr, TR_init⟩)
  rw [cl0, cl1, cl5, ea, zb_s, ec, zb_s]
  unfold f_X4_readTape_J77 f_X12_text_J100
  simp only []
  have bad : ∀ (ff : Int32) (fp' pl' : Int32), 0 < ff → f_X12_text_J137 x' ff fp' sp pl' tok' val' told meas holds reads' = some (-10 - fp', 0, ff, ff, fp', sp, pl', tok', val', told, meas, holds, reads') := by
    intro ff fp' pl' hw
    unfold f_X12_text_J137
    rw [if_neg (w_ne hw).2]
  rcases hQ with ⟨rfl, rfl, rfl, hD⟩ | ⟨hw, rfl, rfl⟩
  · have good : (t = 1 → ¬ b = 2) → f_X12_text_J137 x 0 wa' sp pl' tok' val' told meas holds reads' = some (x, 0, 0, 0, wa', sp, pl', tok', val', told, 0, fil reads' holds 31, reads') ∧ ∃ n, b = nI n ∧ RI n u o t l r ms rs (fil reads' holds 31) := by
      intro hb
      obtain ⟨n, e, hn, r0, r1, r2, r3, r4, r5, r6, r7, rt, rest⟩ := id hD
      refine ⟨?_, n, e, hn, ?_, ?_, ?_, ?_, ?_, ?_, fun i hi => ?_, fun i hi => ?_, rt, rest.1, rest.2.1, rest.2.2.1, rest.2.2.2.1, rest.2.2.2.2.1, rest.2.2.2.2.2, fun ht => ?_⟩
      · unfold f_X12_text_J137
        rw [if_pos (by decide), m_L167, zb_s]
      · rw [fil_in (by decide)]; exact r0
      · rw [fil_in (by decide)]; exact r1
      · rw [fil_in (by decide)]; exact r2
      · rw [fil_in (by decide)]; exact r3
      · rw [fil_in (by decide)]; exact r4
      · rw [fil_in (by decide)]; exact r5
      · rw [fil_in (by omega)]; exact r6 i hi
      · rw [fil_in (by omega)]; exact r7 i hi
      · have := hb ht
        rcases Nat.lt_or_ge n 3 with q | q
        · exact absurd (by rw [e, show n = 2 by omega]; rfl) this
        · exact q
    obtain ⟨n, e, hn, r0, r1, r2, r3, r4, r5, r6, r7, rt, rest⟩ := id hD
    rw [if_pos rfl, if_pos rfl, zc_l rfl, zc_l rfl, cl3, cl0, r3, r0]
    rcases rt with rfl | rfl
    · obtain ⟨g1, g2⟩ := good (fun hh => absurd hh (by decide))
      rw [if_pos rfl, if_neg (by decide), g1]
      exact ⟨_, _, _, _, _, _, _, _, _, _, _, _, _, _, _, _, _, _, _, _, _, _, _, _, _, _, _, _, _, rfl, rfl, Or.inl ⟨rfl, rfl, rfl, rfl, g2⟩⟩
    · rw [if_neg n10, if_pos rfl, e]
      by_cases c2 : nI n = 2
      · rw [if_pos c2, if_pos c2]
        unfold f_X4_refuse f_X12_fails
        rw [if_pos rfl, zb_s, zb_s, bad 5 0 0 (by decide)]
        exact ⟨_, _, _, _, _, _, _, _, _, _, _, _, _, _, _, _, _, _, _, _, _, _, _, _, _, _, _, _, _, rfl, rfl, Or.inr ⟨(by decide : ¬ (5 : Int32) = 0), rfl, rfl, rfl, rfl⟩⟩
      · obtain ⟨g1, g2⟩ := good (fun hh => by rw [e]; exact c2)
        rw [if_neg c2, if_neg c2, g1]
        refine ⟨_, _, _, _, _, _, _, _, _, _, _, _, _, _, _, _, _, _, _, _, _, _, _, _, _, _, _, _, _, rfl, rfl, Or.inl ⟨rfl, rfl, rfl, rfl, ?_⟩⟩
        rw [e] at g2
        exact g2
  · rw [if_neg (w_ne hw).1, if_neg (w_ne hw).1, bad _ _ _ hw]
    exact ⟨_, _, _, _, _, _, _, _, _, _, _, _, _, _, _, _, _, _, _, _, _, _, _, _, _, _, _, _, _, rfl, rfl, Or.inr ⟨(w_ne hw).1, rfl, rfl, rfl, rfl⟩⟩
end
theorem RI_cg {n : Nat} {u o t l r : Int32} {ms rs ms' rs' holds : Nat → Int32} (h : RI n u o t l r ms rs holds) (h1 : ∀ i, i < 9 → ms' i = ms i) (h2 : ∀ i, i < 16 → rs' i = rs i) : RI n u o t l r ms' rs' holds := by
  obtain ⟨hn, r0, r1, r2, r3, r4, r5, r6, r7, rt, ru, ro, rl, rr, rm, rz, rn⟩ := h
  exact ⟨hn, r0, r1, r2, r3, r4, r5, fun i hi => (r6 i hi).trans (h1 i hi).symm, fun i hi => (r7 i hi).trans (h2 i hi).symm, rt, ru, ro, rl, rr, fun i hi => by rw [h1 i hi]; exact rm i hi, fun i hi => by rw [h2 i hi]; exact rz i hi, rn⟩
set_option maxHeartbeats 4000000 in
theorem st_text : ST_text Inv := by
  intro x y hI
  obtain ⟨n, hb, hR, ho, ⟨k, hk, e1, e2, hT⟩, hF, hS, hM, s0, s1, s2, s3, hK, hz⟩ := id hI
  obtain ⟨X, ff, fp', tl, tm, tr, kd, pc, num', bh, b, u, o, l, r, t, ms, rs, ret, w, wa', sp', pl', tok', val', told', meas', holds', reads', f1, f2, hQ⟩ := text_both (k := k) ⟨hk, hT⟩ hK (X_reader_faultPlace x) (X_tape_number x) (M_wrongAt y) (M_place y) (M_token y) (M_value y) (M_measured y) (X_draft_misses x) (X_draft_resistors x) (M_holds y) (M_reads y)
  rw [e1, e2, f2]
  unfold f_X11_text
  rw [f1, zb_s]
  simp only []
  rcases hQ with ⟨rfl, rfl, rfl, rfl, n', rfl, hR'⟩ | ⟨hf, rfl, rfl, rfl, rfl⟩
  · have ht := hR'.2.2.2.2.2.2.2.2.2.1
    have hn := hR'.1.2
    rw [if_pos rfl, zz_in ht]
    unfold f_X5_copy
    rw [zl_e, zl_e, zb_s]
    simp only []
    rw [x_reckon hn (npt_le hn), zb_s]
    refine ⟨_, _, rfl, rfl, rfl, n', rfl, RI_cg hR' (fun i hi => ?_) (fun i hi => ?_), fun c hc => fil_in hc, ⟨0, by decide, rfl, rfl, fun j hj => by omega⟩, rfl, hS, ⟨0, by decide, rfl, rfl, fun i hi => by omega, fun i j _ hj => by omega⟩, s0, s1, s2, s3, hK, hz⟩
    · exact (pk_cpy_in (sp := 0) (dp := 0) (n := 9) (Nat.zero_le _) (by omega)).trans (by rw [Nat.sub_zero, Nat.zero_add])
    · exact (pk_cpy_in (sp := 0) (dp := 0) (n := 16) (Nat.zero_le _) (by omega)).trans (by rw [Nat.sub_zero, Nat.zero_add])
  · rw [if_neg hf]
    exact ⟨_, _, rfl, rfl, rfl, n, hb, hR, ho, ⟨0, by decide, rfl, rfl, fun j hj => by omega⟩, rfl, hS, hM, s0, s1, s2, s3, hK, hz⟩
