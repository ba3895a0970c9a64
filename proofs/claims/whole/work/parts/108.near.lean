/-! range: the nearest code, and sums -/
theorem sg2 (x : Int32) : 0 ≤ x ^^^ 2 ↔ 0 ≤ x := by
  have key : ∀ z : Int32, 0 ≤ z ↔ bt z 31 = false := by
    intro z
    have h : z.toBitVec.msb = decide (z.toBitVec.toInt < 0) := BitVec.msb_eq_toInt
    rw [BitVec.msb_eq_getLsbD_last] at h
    have e0 : (0 : Int32).toInt = 0 := rfl
    have e1 : z.toInt = z.toBitVec.toInt := rfl
    rw [i32_le, e0, e1]
    unfold bt
    rw [show (31 : Nat) = 32 - 1 from rfl, h]
    simp
  rw [key, key, b_xor]
  have : bt 2 31 = false := by decide
  rw [this]
  simp
theorem x_floor2 {a : Int32} (h1 : -2000000000 ≤ a.toInt) : ∃ z, f_J9_floorDiv_7cf53 a 2 = some z ∧ z.toInt = a.toInt / 2 := by
  have hr := fb_rng a
  have e2 : (2 : Int32).toInt = 2 := rfl
  have e0 : (0 : Int32).toInt = 0 := rfl
  have e1 : (1 : Int32).toInt = 1 := rfl
  have ed : (a / 2).toInt = a.toInt.tdiv 2 := by
    rw [Int32.toInt_div, e2]
    have hb : -1073741824 ≤ a.toInt.tdiv 2 ∧ a.toInt.tdiv 2 ≤ 1073741824 := by
      rcases Int.le_total 0 a.toInt with h | h
      · rw [Int.tdiv_eq_ediv_of_nonneg h]; omega
      · have : a.toInt.tdiv 2 = -((-a.toInt).tdiv 2) := by rw [Int.neg_tdiv]; omega
        rw [this, Int.tdiv_eq_ediv_of_nonneg (by omega)]; omega
    exact fb_bmod (by omega) (by omega)
  unfold f_J9_floorDiv_7cf53
  rw [zn_ne (by decide), zl_e]
  by_cases c : 0 ≤ a ^^^ 2
  · rw [if_pos c]
    have c2 := (sg2 a).mp c
    rw [i32_le, e0] at c2
    exact ⟨_, rfl, by rw [ed, Int.tdiv_eq_ediv_of_nonneg c2]⟩
  · rw [if_neg c]
    have c2 : a.toInt < 0 := by
      have hn : ¬ 0 ≤ a := fun h => c ((sg2 a).mpr h)
      rw [i32_le, e0] at hn
      omega
    have et : a.toInt.tdiv 2 = -((-a.toInt) / 2) := by
      have : a.toInt.tdiv 2 = -((-a.toInt).tdiv 2) := by rw [Int.neg_tdiv]; omega
      rw [this, Int.tdiv_eq_ediv_of_nonneg (by omega)]
    have em : (a / 2 * 2).toInt = (a / 2).toInt * 2 := by
      rw [fb_mulI] <;> rw [ed, et, e2] <;> omega
    by_cases d : a / 2 * 2 = a
    · rw [if_pos d]
      refine ⟨_, rfl, ?_⟩
      have d2 := congrArg Int32.toInt d
      rw [em] at d2
      omega
    · rw [if_neg d]
      refine ⟨_, rfl, ?_⟩
      have d2 : ¬ (a / 2).toInt * 2 = a.toInt := fun h => d (by rw [i32_eq, em]; exact h)
      rw [fb_subI] <;> rw [ed, et, e1] <;> rw [ed, et] at d2 <;> omega
theorem nrS_pr (v : Int) (o : Nat → Int) : ∀ j, (∀ i, i ≤ j → (v - o (nrS v o j)).natAbs ≤ (v - o i).natAbs) ∧ ∀ i, i < nrS v o j → (v - o (nrS v o j)).natAbs < (v - o i).natAbs := by
  intro j
  induction j with
  | zero =>
    refine ⟨fun i hi => ?_, fun i hi => ?_⟩
    · have : i = 0 := by omega
      subst this; exact Nat.le_refl _
    · simp [nrS] at hi
  | succ j ih =>
    have hl := nrS_le v o j
    simp only [nrS]
    by_cases c : (v - o (j + 1)).natAbs < (v - o (nrS v o j)).natAbs
    · rw [if_pos c]
      refine ⟨fun i hi => ?_, fun i hi => ?_⟩
      · by_cases d : i = j + 1
        · subst d; exact Nat.le_refl _
        · have := ih.1 i (by omega); omega
      · have := ih.1 i (by omega); omega
    · rw [if_neg c]
      refine ⟨fun i hi => ?_, ih.2⟩
      by_cases d : i = j + 1
      · subst d; omega
      · exact ih.1 i (by omega)
theorem nrS_iff {v : Int} {o : Nat → Int} {N c : Nat} (hc : c ≤ N) : nrS v o N = c ↔ ∀ i, i ≤ N → (c < i → (v - o c).natAbs ≤ (v - o i).natAbs) ∧ (i < c → (v - o c).natAbs < (v - o i).natAbs) := by
  have hp := nrS_pr v o N
  have hl := nrS_le v o N
  constructor
  · rintro rfl i hi
    exact ⟨fun _ => hp.1 i hi, fun h => hp.2 i h⟩
  · intro H
    rcases Nat.lt_trichotomy (nrS v o N) c with h | h | h
    · have h1 := (H _ hl).2 h
      have h2 := hp.1 c hc
      omega
    · exact h
    · have h1 := (H _ hl).1 h
      have h2 := hp.2 c h
      omega
/-- what the loop over the other codes keeps -/
def nbB (o : Nat → Int) (c j : Nat) (b : Int32) : Prop := (b = -4 ∧ ∀ i, i < j → ¬ o i < o c) ∨ ∃ k, k < j ∧ b = nI k ∧ o k < o c ∧ (∀ i, i < j → o i < o c → o i ≤ o k) ∧ ∀ i, i < k → o i < o c → o i < o k
def nbA (o : Nat → Int) (c j : Nat) (b : Int32) : Prop := (b = -4 ∧ ∀ i, i < j → ¬ o c < o i) ∨ ∃ k, k < j ∧ b = nI k ∧ o c < o k ∧ (∀ i, i < j → o c < o i → o k ≤ o i) ∧ ∀ i, i < k → o c < o i → o k < o i
theorem nI_n4 {k : Nat} (h : k < 2 ^ 31) : ¬ nI k = (-4 : Int32) := by
  rw [i32_eq, nIt h]
  have : (-4 : Int32).toInt = -4 := rfl
  omega
section
variable {outs : Nat → Int32} {c j : Nat}
theorem stepB (hj : j < 256) (ab : Int32) {bl : Int32} (h : nbB (fun c => (outs c).toInt) c j bl) : ∃ bl', nbB (fun c => (outs c).toInt) c (j + 1) bl' ∧ f_X8_cutToNearest_J69_25 (outs c) bl ab (nI j) (outs j) outs = f_X8_cutToNearest_J94_25 (outs c) bl' ab (nI j) (outs j) outs := by
  unfold f_X8_cutToNearest_J69_25 f_X8_cutToNearest_J91_25
  by_cases d : outs c ≤ outs j
  · rw [if_pos d]
    rw [i32_le] at d
    refine ⟨bl, ?_, rfl⟩
    rcases h with ⟨h1, h2⟩ | ⟨k, h0, h1, h2, h3, h4⟩
    · exact Or.inl ⟨h1, fun i hi => by
        by_cases e : i = j
        · subst e; simp only []; omega
        · exact h2 i (by omega)⟩
    · exact Or.inr ⟨k, by omega, h1, h2, fun i hi hi2 => by
        by_cases e : i = j
        · subst e; simp only [] at hi2; omega
        · exact h3 i (by omega) hi2, h4⟩
  · rw [if_neg d]
    rw [i32_le] at d
    rcases h with ⟨rfl, h2⟩ | ⟨k, h0, rfl, h2, h3, h4⟩
    · rw [if_pos rfl]
      refine ⟨nI j, Or.inr ⟨j, by omega, rfl, by simp only []; omega, fun i hi hi2 => ?_, fun i hi hi2 => absurd hi2 (h2 i hi)⟩, rfl⟩
      by_cases e : i = j
      · subst e; exact Int.le_refl _
      · exact absurd hi2 (h2 i (by omega))
    · rw [if_neg (nI_n4 (by omega)), x_outOf (by omega), zb_s]
      by_cases q : outs j ≤ outs k
      · rw [if_pos q]
        rw [i32_le] at q
        refine ⟨nI k, Or.inr ⟨k, by omega, rfl, h2, fun i hi hi2 => ?_, h4⟩, rfl⟩
        by_cases e : i = j
        · subst e; exact q
        · exact h3 i (by omega) hi2
      · rw [if_neg q]
        rw [i32_le] at q
        refine ⟨nI j, Or.inr ⟨j, by omega, rfl, by simp only []; omega, fun i hi hi2 => ?_, fun i hi hi2 => ?_⟩, rfl⟩
        · by_cases e : i = j
          · subst e; exact Int.le_refl _
          · have := h3 i (by omega) hi2
            simp only [] at this ⊢
            omega
        · have := h3 i hi hi2
          simp only [] at this ⊢
          omega
theorem stepA (hj : j < 256) (bl : Int32) {ab : Int32} (h : nbA (fun c => (outs c).toInt) c j ab) : ∃ ab', nbA (fun c => (outs c).toInt) c (j + 1) ab' ∧ f_X8_cutToNearest_J94_25 (outs c) bl ab (nI j) (outs j) outs = some (0, (bl, ab', nI (j + 1))) := by
  unfold f_X8_cutToNearest_J94_25 f_X8_cutToNearest_J118_25 f_X8_cutToNearest_J122_25
  simp only [zl_e, nI_1]
  by_cases d : outs j ≤ outs c
  · rw [if_pos d]
    rw [i32_le] at d
    refine ⟨ab, ?_, rfl⟩
    rcases h with ⟨h1, h2⟩ | ⟨k, h0, h1, h2, h3, h4⟩
    · exact Or.inl ⟨h1, fun i hi => by
        by_cases e : i = j
        · subst e; simp only []; omega
        · exact h2 i (by omega)⟩
    · exact Or.inr ⟨k, by omega, h1, h2, fun i hi hi2 => by
        by_cases e : i = j
        · subst e; simp only [] at hi2; omega
        · exact h3 i (by omega) hi2, h4⟩
  · rw [if_neg d]
    rw [i32_le] at d
    rcases h with ⟨rfl, h2⟩ | ⟨k, h0, rfl, h2, h3, h4⟩
    · rw [if_pos rfl]
      refine ⟨nI j, Or.inr ⟨j, by omega, rfl, by simp only []; omega, fun i hi hi2 => ?_, fun i hi hi2 => absurd hi2 (h2 i hi)⟩, rfl⟩
      by_cases e : i = j
      · subst e; exact Int.le_refl _
      · exact absurd hi2 (h2 i (by omega))
    · rw [if_neg (nI_n4 (by omega)), x_outOf (by omega), zb_s]
      by_cases q : outs k ≤ outs j
      · rw [if_pos q]
        rw [i32_le] at q
        refine ⟨nI k, Or.inr ⟨k, by omega, rfl, h2, fun i hi hi2 => ?_, h4⟩, rfl⟩
        by_cases e : i = j
        · subst e; exact q
        · exact h3 i (by omega) hi2
      · rw [if_neg q]
        rw [i32_le] at q
        refine ⟨nI j, Or.inr ⟨j, by omega, rfl, by simp only []; omega, fun i hi hi2 => ?_, fun i hi hi2 => ?_⟩, rfl⟩
        · by_cases e : i = j
          · subst e; exact Int.le_refl _
          · have := h3 i (by omega) hi2
            simp only [] at this ⊢
            omega
        · have := h3 i hi hi2
          simp only [] at this ⊢
          omega
end
theorem x_nearL {n : Nat} (hn : n ≤ 8) {outs : Nat → Int32} {c : Nat} (hc : c < 2 ^ n) : (∃ bl ab i, zp (f_X8_cutToNearest_L25 (nI c) (outs c) (nI (2 ^ n)) outs) zF (-4, -4, 0) = some (1, (bl, ab, i)) ∧ nbB (fun c => (outs c).toInt) c (2 ^ n) bl ∧ nbA (fun c => (outs c).toInt) c (2 ^ n) ab ∧ ∀ i, i < c → ¬ (outs i).toInt = (outs c).toInt) ∨ (∃ q, zp (f_X8_cutToNearest_L25 (nI c) (outs c) (nI (2 ^ n)) outs) zF (-4, -4, 0) = some (2, q) ∧ ∃ i, i < c ∧ (outs i).toInt = (outs c).toInt) := by
  have hp := pw8 hn
  obtain ⟨a, ea, hQ⟩ := zp_i (f := f_X8_cutToNearest_L25 (nI c) (outs c) (nI (2 ^ n)) outs) (s := (-4, -4, 0))
    (fun j w => ∃ bl ab, w = (bl, ab, nI j) ∧ nbB (fun c => (outs c).toInt) c j bl ∧ nbA (fun c => (outs c).toInt) c j ab ∧ ∀ i, i < j → i < c → ¬ (outs i).toInt = (outs c).toInt)
    (fun a => (∃ bl ab i, a = (1, (bl, ab, i)) ∧ nbB (fun c => (outs c).toInt) c (2 ^ n) bl ∧ nbA (fun c => (outs c).toInt) c (2 ^ n) ab ∧ ∀ i, i < c → ¬ (outs i).toInt = (outs c).toInt) ∨ (∃ q, a = (2, q) ∧ ∃ i, i < c ∧ (outs i).toInt = (outs c).toInt)) (2 ^ n) (by omega) ⟨-4, -4, rfl, Or.inl ⟨rfl, fun i hi => by omega⟩, Or.inl ⟨rfl, fun i hi => by omega⟩, fun i hi => by omega⟩ (by
      rintro j w hj ⟨bl, ab, rfl, hb, ha, hne⟩
      unfold f_X8_cutToNearest_L25
      simp only []
      by_cases e : j = 2 ^ n
      · subst e
        rw [if_pos (nI_le (Nat.le_refl _) (by omega))]
        exact Or.inr ⟨_, rfl, (by decide : ¬ (1 : Nat) = 0), Or.inl ⟨bl, ab, _, rfl, hb, ha, fun i hi => hne i (by omega) hi⟩⟩
      · have hj2 : j < 2 ^ n := by omega
        obtain ⟨bl', hb', eb⟩ := stepB (outs := outs) (c := c) (show j < 256 by omega) ab hb
        obtain ⟨ab', ha', ea⟩ := stepA (outs := outs) (c := c) (show j < 256 by omega) bl' ha
        rw [if_neg (nI_ge hj2 (by omega)), x_outOf (by omega), zb_s, eb, ea]
        have go : (¬ outs j = outs c ∨ c ≤ j) → (∃ s', some ((0, (bl', ab', nI (j + 1))) : Nat × Int32 × Int32 × Int32) = some (0, s') ∧ ∃ bl ab, s' = (bl, ab, nI (j + 1)) ∧ nbB (fun c => (outs c).toInt) c (j + 1) bl ∧ nbA (fun c => (outs c).toInt) c (j + 1) ab ∧ ∀ i, i < j + 1 → i < c → ¬ (outs i).toInt = (outs c).toInt) := by
          intro hh
          refine ⟨_, rfl, bl', ab', rfl, hb', ha', fun i hi hic => ?_⟩
          by_cases d : i = j
          · subst d
            rcases hh with hh | hh
            · rw [i32_eq] at hh; exact hh
            · omega
          · exact hne i (by omega) hic
        by_cases q : outs j = outs c
        · rw [if_pos q]
          by_cases q2 : c ≤ j
          · rw [if_pos (nI_le q2 (by omega))]
            exact Or.inl ⟨hj2, go (Or.inr q2)⟩
          · rw [if_neg (nI_ge (by omega) (by omega))]
            exact Or.inr ⟨_, rfl, (by decide : ¬ (2 : Nat) = 0), Or.inr ⟨_, rfl, j, by omega, congrArg Int32.toInt q⟩⟩
        · rw [if_neg q]
          exact Or.inl ⟨hj2, go (Or.inl q)⟩)
  rcases hQ with ⟨bl, ab, i, rfl, h⟩ | ⟨q, rfl, h⟩
  · exact Or.inl ⟨bl, ab, i, ea, h⟩
  · exact Or.inr ⟨q, ea, h⟩
theorem x_cutNear {n : Nat} (hn : n ≤ 8) {outs : Nat → Int32} (hB : oB outs (2 ^ n - 1)) {c : Nat} (hc : c < 2 ^ n) {lo hi : Int32} (hlo : -3000 ≤ lo.toInt ∧ lo.toInt ≤ 130000) (hhi : -3000 ≤ hi.toInt ∧ hi.toInt ≤ 130000) : ∃ lo' hi', f_X8_cutToNearest (nI c) (nI n) outs lo hi = some (lo', hi') ∧ (-300000 ≤ lo'.toInt ∧ lo'.toInt ≤ 300000) ∧ (-300000 ≤ hi'.toInt ∧ hi'.toInt ≤ 300000) ∧ ∀ v : Int, (lo'.toInt ≤ v ∧ v ≤ hi'.toInt ↔ (lo.toInt ≤ v ∧ v ≤ hi.toInt) ∧ nrS v (fun c => (outs c).toInt) (2 ^ n - 1) = c) := by
  have hp := pw8 hn
  have hcB := hB c (by omega)
  have e1 : (1 : Int32).toInt = 1 := rfl
  have e2 : (2 : Int32).toInt = 2 := rfl
  have e0 : (0 : Int32).toInt = 0 := rfl
  unfold f_X8_cutToNearest
  rw [x_outOf (by omega), zb_s, x_codes hn, zb_s]
  rcases x_nearL hn (outs := outs) hc with ⟨bl, ab, i, ez, hb, ha, hne⟩ | ⟨q, ez, i, hi2, hie⟩
  · rw [ez, zb_s]
    simp only []
    rw [if_pos trivial]
    -- what is above
    have hA : ∀ l : Int32, (-300000 ≤ l.toInt ∧ l.toInt ≤ 300000) → ∃ hi', f_X8_cutToNearest_J163 (nI c) (outs c) ab outs l hi = some (l, hi') ∧ (-300000 ≤ hi'.toInt ∧ hi'.toInt ≤ 300000) ∧ ∀ v : Int, (v ≤ hi'.toInt ↔ v ≤ hi.toInt ∧ ∀ i, i < 2 ^ n → (outs c).toInt < (outs i).toInt → (c < i → (v - (outs c).toInt).natAbs ≤ (v - (outs i).toInt).natAbs) ∧ (i < c → (v - (outs c).toInt).natAbs < (v - (outs i).toInt).natAbs)) := by
      intro l hl
      unfold f_X8_cutToNearest_J163 f_X8_cutToNearest_J193 f_X7_cutHigh
      rcases ha with ⟨rfl, h2⟩ | ⟨k, hk, rfl, h2, h3, h4⟩
      · rw [if_pos rfl]
        exact ⟨hi, rfl, by omega, fun v => ⟨fun h => ⟨h, fun i hi h' => absurd h' (h2 i hi)⟩, fun h => h.1⟩⟩
      · have hkB := hB k (by omega)
        have es : (outs c + outs k).toInt = (outs c).toInt + (outs k).toInt := fb_addI (by omega) (by omega)
        simp only [] at h2
        rw [if_neg (nI_n4 (by omega)), x_outOf (by omega), zb_s]
        by_cases d : k ≤ c
        · rw [if_pos (nI_le d (by omega))]
          have ne : k ≠ c := fun e => by subst e; omega
          have es1 : (outs c + outs k - 1).toInt = (outs c).toInt + (outs k).toInt - 1 := by rw [fb_subI] <;> rw [es, e1] <;> omega
          obtain ⟨z, ezz, hz⟩ := x_floor2 (a := outs c + outs k - 1) (by omega)
          rw [ezz, zb_s, f_min, zb_s, zb_s]
          rw [es1] at hz
          refine ⟨_, rfl, by split <;> omega, fun v => ?_⟩
          have step : (v ≤ (if z < hi then z else hi).toInt ↔ v ≤ hi.toInt ∧ v ≤ z.toInt) := by
            split
            · next q => rw [i32_lt] at q; omega
            · next q => rw [i32_lt] at q; omega
          rw [step]
          constructor
          · rintro ⟨q1, q2⟩
            refine ⟨q1, fun i hi' hgt => ?_⟩
            have := h3 i hi' hgt
            simp only [] at this
            exact ⟨fun _ => by omega, fun _ => by omega⟩
          · rintro ⟨q1, q2⟩
            have := (q2 k hk h2).2 (by omega)
            exact ⟨q1, by omega⟩
        · rw [if_neg (nI_ge (by omega) (by omega))]
          have es1 : (outs c + outs k - 0).toInt = (outs c).toInt + (outs k).toInt := by rw [Int32.sub_zero, es]
          obtain ⟨z, ezz, hz⟩ := x_floor2 (a := outs c + outs k - 0) (by omega)
          rw [ezz, zb_s, f_min, zb_s, zb_s]
          rw [es1] at hz
          refine ⟨_, rfl, by split <;> omega, fun v => ?_⟩
          have step : (v ≤ (if z < hi then z else hi).toInt ↔ v ≤ hi.toInt ∧ v ≤ z.toInt) := by
            split
            · next q => rw [i32_lt] at q; omega
            · next q => rw [i32_lt] at q; omega
          rw [step]
          constructor
          · rintro ⟨q1, q2⟩
            refine ⟨q1, fun i hi' hgt => ?_⟩
            have := h3 i hi' hgt
            simp only [] at this
            refine ⟨fun _ => by omega, fun hic => ?_⟩
            have := h4 i (by omega) hgt
            simp only [] at this
            omega
          · rintro ⟨q1, q2⟩
            have := (q2 k hk h2).1 (by omega)
            exact ⟨q1, by omega⟩
    -- what is below
    have hBl : ∃ lo', (-300000 ≤ lo'.toInt ∧ lo'.toInt ≤ 300000) ∧ (if bl = -4 then f_X8_cutToNearest_J163 (nI c) (outs c) ab outs lo hi else zb (f_X8_outOf bl outs) fun z141 => if bl ≤ nI c then f_X8_cutToNearest_J155 (nI c) (outs c) ab 2 (outs c + z141) outs lo hi else f_X8_cutToNearest_J155 (nI c) (outs c) ab 1 (outs c + z141) outs lo hi) = f_X8_cutToNearest_J163 (nI c) (outs c) ab outs lo' hi ∧ ∀ v : Int, (lo'.toInt ≤ v ↔ lo.toInt ≤ v ∧ ∀ i, i < 2 ^ n → (outs i).toInt < (outs c).toInt → (c < i → (v - (outs c).toInt).natAbs ≤ (v - (outs i).toInt).natAbs) ∧ (i < c → (v - (outs c).toInt).natAbs < (v - (outs i).toInt).natAbs)) := by
      unfold f_X8_cutToNearest_J155 f_X7_cutLow
      rcases hb with ⟨rfl, h2⟩ | ⟨k, hk, rfl, h2, h3, h4⟩
      · rw [if_pos rfl]
        exact ⟨lo, by omega, rfl, fun v => ⟨fun h => ⟨h, fun i hi h' => absurd h' (h2 i hi)⟩, fun h => h.1⟩⟩
      · have hkB := hB k (by omega)
        have es : (outs c + outs k).toInt = (outs c).toInt + (outs k).toInt := fb_addI (by omega) (by omega)
        simp only [] at h2
        rw [if_neg (nI_n4 (by omega)), x_outOf (by omega), zb_s]
        by_cases d : k ≤ c
        · rw [if_pos (nI_le d (by omega))]
          have ne : k ≠ c := fun e => by subst e; omega
          have es1 : (outs c + outs k + 2).toInt = (outs c).toInt + (outs k).toInt + 2 := by rw [fb_addI] <;> rw [es, e2] <;> omega
          obtain ⟨z, ezz, hz⟩ := x_floor2 (a := outs c + outs k + 2) (by omega)
          rw [ezz, zb_s, f_max, zb_s, zb_s]
          rw [es1] at hz
          refine ⟨_, by split <;> omega, rfl, fun v => ?_⟩
          have step : ((if lo < z then z else lo).toInt ≤ v ↔ lo.toInt ≤ v ∧ z.toInt ≤ v) := by
            split
            · next q => rw [i32_lt] at q; omega
            · next q => rw [i32_lt] at q; omega
          rw [step]
          constructor
          · rintro ⟨q1, q2⟩
            refine ⟨q1, fun i hi' hgt => ?_⟩
            have := h3 i hi' hgt
            simp only [] at this
            exact ⟨fun _ => by omega, fun _ => by omega⟩
          · rintro ⟨q1, q2⟩
            have := (q2 k hk h2).2 (by omega)
            exact ⟨q1, by omega⟩
        · rw [if_neg (nI_ge (by omega) (by omega))]
          have es1 : (outs c + outs k + 1).toInt = (outs c).toInt + (outs k).toInt + 1 := by rw [fb_addI] <;> rw [es, e1] <;> omega
          obtain ⟨z, ezz, hz⟩ := x_floor2 (a := outs c + outs k + 1) (by omega)
          rw [ezz, zb_s, f_max, zb_s, zb_s]
          rw [es1] at hz
          refine ⟨_, by split <;> omega, rfl, fun v => ?_⟩
          have step : ((if lo < z then z else lo).toInt ≤ v ↔ lo.toInt ≤ v ∧ z.toInt ≤ v) := by
            split
            · next q => rw [i32_lt] at q; omega
            · next q => rw [i32_lt] at q; omega
          rw [step]
          constructor
          · rintro ⟨q1, q2⟩
            refine ⟨q1, fun i hi' hgt => ?_⟩
            have := h3 i hi' hgt
            simp only [] at this
            refine ⟨fun _ => by omega, fun hic => ?_⟩
            have := h4 i (by omega) hgt
            simp only [] at this
            omega
          · rintro ⟨q1, q2⟩
            have := (q2 k hk h2).1 (by omega)
            exact ⟨q1, by omega⟩
    obtain ⟨lo', hl', el, hv1⟩ := hBl
    obtain ⟨hi', eh, hh', hv2⟩ := hA lo' hl'
    rw [el, eh]
    refine ⟨lo', hi', rfl, hl', hh', fun v => ?_⟩
    rw [hv1 v, hv2 v, nrS_iff (by omega)]
    constructor
    · rintro ⟨⟨p1, p2⟩, p3, p4⟩
      refine ⟨⟨p1, p3⟩, fun i hi' => ?_⟩
      rcases Int.lt_trichotomy (outs i).toInt (outs c).toInt with q | q | q
      · exact p2 i (by omega) q
      · refine ⟨fun _ => by rw [q]; omega, fun hic => absurd q (hne i hic)⟩
      · exact p4 i (by omega) q
    · rintro ⟨⟨p1, p3⟩, p2⟩
      exact ⟨⟨p1, fun i hi' _ => p2 i (by omega)⟩, p3, fun i hi' _ => p2 i (by omega)⟩
  · rw [ez, zb_s]
    simp only []
    rw [if_neg (show ¬ (2 : Nat) = 1 by decide)]
    unfold f_X7_cutHigh
    rw [f_min, zb_s, zb_s]
    have es : (lo - 1).toInt = lo.toInt - 1 := by rw [fb_subI] <;> rw [e1] <;> omega
    refine ⟨lo, _, rfl, by omega, by split <;> omega, fun v => ?_⟩
    constructor
    · rintro ⟨q1, q2⟩
      exfalso
      split at q2
      · rw [es] at q2; omega
      · next q => rw [i32_lt, es] at q; omega
    · rintro ⟨-, q⟩
      rw [nrS_iff (by omega)] at q
      have := (q i (by omega)).2 hi2
      rw [hie] at this
      omega
