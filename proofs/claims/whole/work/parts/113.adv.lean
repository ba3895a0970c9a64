/-! text: the next token on both sides -/
theorem b_one : ∀ i, i < 32 → bt 1 i = decide (i = 0) := by decide +kernel
theorem told_iff (x : Int32) {i : Nat} (hi : i < 32) : ((x >>> (nI i &&& 31)) &&& 1) = 1 ↔ bt x i = true := by
  have e : ∀ j, j < 32 → bt ((x >>> (nI i &&& 31)) &&& 1) j = (bt x i && decide (j = 0)) := by
    intro j hj
    rw [b_and, b_one j hj, b_sshr i hi x hj]
    by_cases c : j = 0
    · subst c; rw [if_pos (by omega)]; rfl
    · rw [decide_eq_false c, Bool.and_false, Bool.and_false]
  constructor
  · intro h
    have h0 := e 0 (by decide)
    rw [h, b_one 0 (by decide)] at h0
    simpa using h0.symm
  · intro h
    apply b_ext
    intro j hj
    rw [e j hj, h, b_one j hj, Bool.true_and]
theorem told_set (x : Int32) {i j : Nat} (hi : i < 32) (hj : j < 32) : bt (x ||| ((1 : Int32) <<< (nI i &&& 31))) j = (bt x j || decide (i = j)) := by
  rw [b_or, b_shl i hi 1 hj]
  by_cases c : i ≤ j
  · rw [b_one (j - i) (by omega), decide_eq_true c, Bool.true_and]
    congr 1
    by_cases c2 : i = j
    · rw [decide_eq_true (show j - i = 0 by omega), decide_eq_true c2]
    · rw [decide_eq_false (show ¬ j - i = 0 by omega), decide_eq_false c2]
  · rw [decide_eq_false c, decide_eq_false (show ¬ i = j by omega), Bool.false_and]
theorem or_0 (x : Int32) : x ||| 0 = x := by
  apply b_ext
  intro i _
  rw [b_or, b_0, Bool.or_false]
/-- a good token, read alike -/
def GA (k : Nat) (tape : Nat → Int32) (m : Nat) (kd pc num bh sp pl tok val : Int32) : Prop :=
  ∃ p q : Nat, m ≤ p ∧ p ≤ q ∧ q ≤ k ∧ pc = nI p ∧ pl = nI p ∧ bh = nI q ∧ sp = nI q ∧ ((kd = 0 ∧ tok = 0) ∨ (p < q ∧ ((kd = 1 ∧ tok = 1 ∧ run k tape 1 p q) ∨ (kd = 2 ∧ tok = 2 ∧ ∃ v : Nat, v ≤ 999 ∧ num = nI v ∧ val = nI v) ∨ (kd = 3 ∧ tok = 3 ∧ val = 45) ∨ (kd = 4 ∧ tok = 3 ∧ val = 59))))
def G (k : Nat) (tape : Nat → Int32) (m : Nat) (ff fp kd pc num bh w wa sp pl tok val : Int32) : Prop :=
  (ff = 0 ∧ w = 0 ∧ GA k tape m kd pc num bh sp pl tok val) ∨ (ff = 0 ∧ kd = 5 ∧ w = 1 ∧ wa = pc) ∨ (0 < w ∧ ff = w ∧ fp = wa)
section
variable {k : Nat} {bytes tape : Nat → Int32}
theorem run_pos {d : Int32} {p e : Nat} (hp : p < k) (hd : kc (tape p) = d) (hr : run k tape d p e) : p < e := by
  obtain ⟨a1, a2, a3, a4⟩ := id hr
  rcases a4 with a4 | a4
  · omega
  · rcases Nat.lt_or_ge p e with c | c
    · exact c
    · have : e = p := by omega
      subst this; exact absurd hd a4
theorem kc_in (t : Int32) : kc t = 1 ∨ kc t = 2 ∨ kc t = 6 ∨ kc t = 3 ∨ kc t = 4 ∨ kc t = 5 := by
  unfold kc
  repeat' split
  all_goals simp
theorem kc_45 {t : Int32} : kc t = 3 ↔ t = 45 := by
  have e : (45 : Int32).toInt = 45 := rfl
  rw [i32_eq t 45, e]
  unfold kc
  constructor
  · intro hh
    repeat' split at hh
    all_goals first | omega | exact absurd hh (by decide)
  · intro hh
    rw [if_neg (by omega), if_neg (by omega), if_neg (by omega), if_pos hh]
theorem kc_59 {t : Int32} : kc t = 4 ↔ t = 59 := by
  have e : (59 : Int32).toInt = 59 := rfl
  rw [i32_eq t 59, e]
  unfold kc
  constructor
  · intro hh
    repeat' split at hh
    all_goals first | omega | exact absurd hh (by decide)
  · intro hh
    rw [if_neg (by omega), if_neg (by omega), if_neg (by omega), if_neg (by omega), if_pos hh]
theorem adv (h : TB k bytes tape) {b : Nat} (hb : b ≤ k) (num wa pl tok val fp : Int32) : ∃ kd pc num' bh w wa' sp pl' tok' val', f_X9_advance (nI k) num (nI b) bytes = some (kd, pc, num', bh) ∧ f_X12_next (nI k) 0 wa (nI b) pl tok val tape = some (w, wa', sp, pl', tok', val') ∧ G k tape b 0 fp kd pc num' bh w wa' sp pl' tok' val' := by
  have hk := h.1
  obtain ⟨p, hr⟩ := run_ex (k := k) tape 6 hb
  obtain ⟨r1, r2, r3, r4⟩ := id hr
  unfold f_X9_advance f_X12_next
  rw [x_skip h hr, zb_s, if_pos (show (0 : Int32) ≤ 0 by decide), m_skip h hr, zb_s]
  unfold f_X9_advance_J45
  simp only []
  by_cases ck : p = k
  · subst ck
    rw [x_kindEnd h, zb_s, f_min, zb_s, if_neg (by decide), if_neg (by decide), m_byteEnd h, zb_s, if_pos rfl, nI_1, if_pos (nI_lt (by omega) (by omega))]
    unfold f_X9_advance_J129
    rw [if_neg (by decide)]
    exact ⟨_, _, _, _, _, _, _, _, _, _, rfl, rfl, Or.inl ⟨rfl, rfl, p, p, r1, Nat.le_refl _, Nat.le_refl _, rfl, rfl, rfl, rfl, Or.inl ⟨rfl, rfl⟩⟩⟩
  · have hp : p < k := by omega
    have hn6 := r4.resolve_left ck
    have hn4 : ¬ tape p = (-4 : Int32) := by
      intro hh
      have := (h.2 p hp).2
      rw [hh] at this
      exact absurd this.1 (by decide)
    rw [x_kindAt h hp, zb_s, f_min, zb_s, m_byte h hp, zb_s, if_neg hn4, nI_1, if_neg (nI_nlt (by omega) (by omega)), in_lt, zb_s, in_dg]
    rcases kc_in (tape p) with c | c | c | c | c | c
    · obtain ⟨e, he⟩ := run_ex (k := k) tape 1 r2
      rw [c, if_pos rfl, x_more h hp c he, zb_s]
      simp only []
      unfold f_X9_advance_J129
      rw [if_neg (by decide), if_neg (by decide), m_word h he, zb_s]
      exact ⟨_, _, _, _, _, _, _, _, _, _, rfl, rfl, Or.inl ⟨rfl, rfl, p, e, r1, he.1, he.2.1, rfl, rfl, rfl, rfl, Or.inr ⟨run_pos hp c he, Or.inl ⟨rfl, rfl, he⟩⟩⟩⟩
    · obtain ⟨e, he⟩ := run_ex (k := k) tape 2 r2
      have hpe := run_pos hp c he
      have hek := he.2.1
      obtain ⟨val', ev, hv⟩ := m_figs h he
      rw [c, if_neg (by decide), if_pos rfl, x_more h hp c he, zb_s]
      simp only []
      unfold f_X9_advance_J129
      rw [if_pos rfl, if_pos (by decide), zb_s, if_neg (by decide), ev, zb_s]
      simp only []
      rw [pk_sub he.1]
      by_cases c3 : e - p ≤ 3
      · rw [x_figs h he c3, zb_s, if_pos (show nI (e - p) ≤ (3 : Int32) from nI_le (b := 3) c3 (by decide))]
        obtain ⟨m, hm, em⟩ := fg_b he (e - p) c3 (by omega)
        have hm2 : m ≤ 999 := by
          have : 10 ^ (e - p) ≤ 10 ^ 3 := Nat.pow_le_pow_right (by decide) c3
          omega
        exact ⟨_, _, _, _, _, _, _, _, _, _, rfl, rfl, Or.inl ⟨rfl, rfl, p, e, r1, he.1, he.2.1, rfl, rfl, rfl, rfl, Or.inr ⟨hpe, Or.inr (Or.inl ⟨rfl, rfl, m, hm2, em, by rw [hv c3, em]⟩)⟩⟩⟩
      · have n3 : ¬ nI (e - p) ≤ (3 : Int32) := fun hh => by
          rw [i32_le, nIt (by omega)] at hh
          have : (3 : Int32).toInt = 3 := rfl
          omega
        unfold f_X9_readFigures f_X12_fails
        rw [pk_sub he.1, if_neg n3, if_neg n3, zb_s, if_pos rfl, zb_s]
        exact ⟨_, _, _, _, _, _, _, _, _, _, rfl, rfl, Or.inr (Or.inl ⟨rfl, rfl, rfl, rfl⟩)⟩
    · exact absurd c hn6
    · have e := kc_45.mp c
      rw [c, if_neg (by decide), if_neg (by decide), if_pos (by decide), zb_s, if_pos (by decide), zl_e, e, if_neg (by decide), if_pos rfl]
      unfold f_X9_advance_J129
      rw [if_neg (by decide)]
      exact ⟨_, _, _, _, _, _, _, _, _, _, rfl, rfl, Or.inl ⟨rfl, rfl, p, p + 1, r1, by omega, by omega, rfl, rfl, rfl, rfl, Or.inr ⟨by omega, Or.inr (Or.inr (Or.inl ⟨rfl, rfl, rfl⟩))⟩⟩⟩
    · have e := kc_59.mp c
      rw [c, if_neg (by decide), if_neg (by decide), if_pos (by decide), zb_s, if_pos (by decide), zl_e, e, if_pos rfl]
      unfold f_X9_advance_J129
      rw [if_neg (by decide)]
      exact ⟨_, _, _, _, _, _, _, _, _, _, rfl, rfl, Or.inl ⟨rfl, rfl, p, p + 1, r1, by omega, by omega, rfl, rfl, rfl, rfl, Or.inr ⟨by omega, Or.inr (Or.inr (Or.inr ⟨rfl, rfl, rfl⟩))⟩⟩⟩
    · have n45 : ¬ tape p = 45 := fun hh => by rw [kc_45.mpr hh] at c; exact absurd c (by decide)
      have n59 : ¬ tape p = 59 := fun hh => by rw [kc_59.mpr hh] at c; exact absurd c (by decide)
      rw [c, if_neg (by decide), if_neg (by decide), if_pos (by decide), zb_s, if_pos (by decide), zl_e, if_neg n59, if_neg n45]
      unfold f_X9_advance_J129 f_X12_fails
      rw [if_neg (by decide), if_pos rfl, zb_s]
      exact ⟨_, _, _, _, _, _, _, _, _, _, rfl, rfl, Or.inr (Or.inl ⟨rfl, rfl, rfl, rfl⟩)⟩
/-! the reference when something is wrong already -/
section
variable {w wa sp pl tok val : Int32} (hw : 0 < w)
theorem w_ne (hw : 0 < w) : ¬ w = 0 ∧ ¬ w ≤ 0 := by
  rw [i32_lt] at hw
  rw [i32_le, i32_eq]
  omega
theorem w_fails (hw : 0 < w) (c : Int32) : f_X12_fails c w wa pl = some (w, wa) := by
  unfold f_X12_fails
  rw [if_neg (w_ne hw).1]
theorem w_next (hw : 0 < w) (tp : Int32) : f_X12_next tp w wa sp pl tok val tape = some (w, wa, sp, pl, tok, val) := by
  unfold f_X12_next
  rw [if_neg (w_ne hw).2]
theorem w_number (hw : 0 < w) (tp a b c : Int32) : f_X12_number a b c tp w wa sp pl tok val tape = some (a * val, w, wa, sp, pl, tok, val) := by
  unfold f_X12_number f_X12_number_J20 f_X12_number_J53
  rw [if_neg (w_ne hw).1, zl_e, if_neg (w_ne hw).1, w_next hw, zb_s]
theorem w_sign (hw : 0 < w) (tp : Int32) : f_X12_sign tp w wa sp pl tok val tape = some (1, w, wa, sp, pl, tok, val) := by
  unfold f_X12_sign f_X12_sign_J28 f_X12_sign_J29 f_X12_sign_J38
  rw [if_neg (w_ne hw).1, if_pos rfl, if_pos rfl]
theorem w_once (hw : 0 < w) (i told : Int32) : f_X12_once i w wa pl told = some (w, wa, told) := by
  unfold f_X12_once f_X12_once_J24 f_X12_once_J43
  rw [if_neg (w_ne hw).1, if_neg (w_ne hw).1, zl_e, or_0]
theorem w_readOf (hw : 0 < w) (tp a b told : Int32) : f_X12_readOf a b tp w wa sp pl tok val told tape = some (0, w, wa, sp, pl, tok, val, told) := by
  unfold f_X12_readOf f_X12_readOf_J20 f_X12_readOf_J40 f_X12_readOf_J57
  rw [if_neg (w_ne hw).1, if_neg (w_ne hw).1, if_neg (w_ne hw).1, w_once hw, zb_s]
  simp only []
  rw [w_next hw, zb_s]
theorem w_234 (hw : 0 < w) (tp told : Int32) (reads : Nat → Int32) : f_X12_readLine_J234 tp w wa sp pl tok val told tape reads = some (w, wa, sp, pl, tok, val, told, reads) := by
  unfold f_X12_readLine_J234 f_X12_readLine_J263
  rw [if_neg (w_ne hw).1, w_next hw, zb_s]
theorem w_208 (hw : 0 < w) {i : Nat} (hi : i < 31) (tp a b c told : Int32) (reads : Nat → Int32) : ∃ sp' pl' tok' val' told' reads', f_X12_readLine_J208 (nI i) a b c tp w wa sp pl tok val told tape reads = some (w, wa, sp', pl', tok', val', told', reads') := by
  unfold f_X12_readLine_J208
  rw [w_number hw, zb_s, zc_nI hi (by decide), zl_e]
  simp only []
  rw [w_234 hw]
  exact ⟨_, _, _, _, _, _, rfl⟩
theorem w_146 (hw : 0 < w) {i : Nat} (hi : i < 31) (tp a told : Int32) (reads : Nat → Int32) : ∃ sp' pl' tok' val' told' reads', f_X12_readLine_J146 (nI i) a tp w wa sp pl tok val told tape reads = some (w, wa, sp', pl', tok', val', told', reads') := by
  unfold f_X12_readLine_J146 f_X12_readLine_J172 f_X12_readLine_J185
  by_cases c3 : nI i = 3
  · rw [if_pos c3, zc_l rfl, zl_e, w_234 hw]
    exact ⟨_, _, _, _, _, _, rfl⟩
  · rw [if_neg c3]
    repeat' split
    all_goals exact w_208 hw hi _ _ _ _ _ _
theorem w_138 (hw : 0 < w) {i : Nat} (hi : i < 31) (tp told : Int32) (reads : Nat → Int32) : ∃ sp' pl' tok' val' told' reads', f_X12_readLine_J138 (nI i) tp w wa sp pl tok val told tape reads = some (w, wa, sp', pl', tok', val', told', reads') := by
  unfold f_X12_readLine_J138
  rw [w_sign hw, zb_s]
  exact w_146 hw hi _ _ _ _
end
end
