/-! string, node, strings -/
def SR (f : Nat → Int32) : Nat → Int32
  | 0 => 0
  | j + 1 => SR f j + f j
theorem SR_b {f : Nat → Int32} (h : ∀ i, i < 16 → 1 ≤ (f i).toInt ∧ (f i).toInt ≤ 99) : ∀ j : Nat, j ≤ 16 → (j : Int) ≤ (SR f j).toInt ∧ (SR f j).toInt ≤ 99 * j := by
  intro j
  induction j with
  | zero => intro _; exact ⟨Int.le_refl 0, Int.le_refl 0⟩
  | succ j ih =>
    intro hj
    have h1 := ih (by omega)
    have h2 := h j (by omega)
    simp only [SR]
    rw [fb_addI (by omega) (by omega)]
    omega
theorem x_sumRes {m : Nat} (hm : m ≤ 4) (res below : Nat → Int32) (h0 : below 0 = 0) : f_X0_sumResistors (nI m) res below = some (nI (2 ^ m), fb_put below (fun k => SR res (k + 1)) 1 (2 ^ m)) := by
  have hp : 1 ≤ 2 ^ m ∧ 2 ^ m ≤ 16 := by
    rcases (show m = 0 ∨ m = 1 ∨ m = 2 ∨ m = 3 ∨ m = 4 by omega) with rfl | rfl | rfl | rfl | rfl <;> decide
  unfold f_X0_sumResistors
  rw [zl_e, sh1 (by omega), zp_0 (v := (0, below)) (fun j => (nI j, fb_put below (fun k => SR res (k + 1)) 1 j)) (2 ^ m) (t := 1) (w := (nI (2 ^ m), fb_put below (fun k => SR res (k + 1)) 1 (2 ^ m))) (by rw [fb_put_0]; rfl) (by omega) (by decide)]
  · rfl
  · intro j hj
    unfold f_X0_sumResistors_L9
    simp only []
    have er : f_X5_resistorAt (nI j) res = some (res j) := by
      unfold f_X5_resistorAt
      rw [if_neg (nI_pos (by omega)), if_neg (show ¬ (16 : Int32) ≤ nI j from nI_ge (b := 16) (by omega) (by decide)), zc_nI (by omega) (by decide), nI_clamp (by omega)]
    have ev : fb_put below (fun k => SR res (k + 1)) 1 j j = SR res j := by
      by_cases c : j = 0
      · subst c; rw [fb_put_out (by omega)]; exact h0
      · rw [fb_put_in (by omega) (by omega), show j - 1 + 1 = j by omega]
    rw [if_neg (nI_ge hj (by omega)), nI_1, if_neg (show ¬ (17 : Int32) ≤ nI (j + 1) from nI_ge (b := 17) (by omega) (by decide)), zc_nI (by omega) (by decide), er, zb_s, zl_e, zc_nI (by omega) (by decide), zl_e, zl_e, nI_clamp (by omega), nI_clamp (by omega), ev, ← fb_put_succ, show 1 + j = j + 1 by omega]
    rfl
  · unfold f_X0_sumResistors_L9
    simp only []
    rw [if_pos (nI_le (Nat.le_refl _) (by omega))]
theorem bl_at {m : Nat} (hm : 2 ^ m ≤ 16) (res below : Nat → Int32) (h0 : below 0 = 0) {j : Nat} (hj : j ≤ 2 ^ m) : f_X0_belowNode (nI j) (fb_put below (fun k => SR res (k + 1)) 1 (2 ^ m)) = some (SR res j) := by
  unfold f_X0_belowNode
  rw [if_neg (nI_pos (by omega)), if_neg (show ¬ (17 : Int32) ≤ nI j from nI_ge (b := 17) (by omega) (by decide)), zc_nI (by omega) (by decide), nI_clamp (by omega)]
  by_cases c : j = 0
  · subst c; rw [fb_put_out (by omega), h0]; rfl
  · rw [fb_put_in (by omega) (by omega), show j - 1 + 1 = j by omega]
theorem m_sumTo {res holds : Nat → Int32} (h : ∀ i, i < 16 → holds (15 + i) = res i) {j : Nat} (hj : j ≤ 16) : f_X12_sumTo (nI j) holds = some (SR res j) := by
  unfold f_X12_sumTo
  rw [zp_0 (v := (0, 0)) (fun i => (SR res i, nI i)) j (t := 1) (w := (SR res j, nI j)) rfl (by omega) (by decide)]
  · rfl
  · intro i hi
    unfold f_X12_sumTo_L4
    simp only []
    rw [if_neg (nI_ge hi (by omega)), show (15 : Int32) + nI i = nI (15 + i) from by rw [← nI_add]; rfl, zc_nI (by omega) (by decide), nI_clamp (by omega), h i (by omega), zl_e, zl_e, nI_1]
    rfl
  · unfold f_X12_sumTo_L4
    simp only []
    rw [if_pos (nI_le (Nat.le_refl _) (by omega))]
/-- does comparer j say one -/
def syB (st res : Nat → Int32) (ref v : Int32) (N j : Nat) : Bool := if st j = -4 then !decide (v.toInt * (SR res N).toInt < ref.toInt * (SR res j).toInt) else decide (st j = 1)
def WS (p : Nat → Bool) : Nat → Nat
  | 0 => 0
  | j + 1 => if p (j + 1) then WS p j ||| 2 ^ j else WS p j
theorem WS_lt (p : Nat → Bool) : ∀ j, WS p j < 2 ^ j := by
  intro j
  induction j with
  | zero => exact Nat.one_pos
  | succ j ih =>
    have h : 2 ^ j < 2 ^ (j + 1) := Nat.pow_lt_pow_right (by decide) (by omega)
    simp only [WS]
    split
    · exact Nat.or_lt_two_pow (by omega) h
    · omega
theorem WS_cg {p q : Nat → Bool} : ∀ j, (∀ i, 1 ≤ i → i ≤ j → p i = q i) → WS p j = WS q j := by
  intro j
  induction j with
  | zero => intro _; rfl
  | succ j ih =>
    intro h
    simp only [WS]
    rw [ih (fun i h1 h2 => h i h1 (by omega)), h (j + 1) (by omega) (Nat.le_refl _)]
theorem x_stuckAt {j : Nat} (h1 : 1 ≤ j) (h : j < 16) (st : Nat → Int32) : f_X0_stuckAt (nI j) st = some (st j) := by
  unfold f_X0_stuckAt
  rw [x_comp h1 h, zb_s, if_neg n10, zc_nI h (by decide), nI_clamp (by omega)]
theorem mul_b2 {a b A B : Int} (hB : 0 ≤ B) (ha : -A ≤ a ∧ a ≤ A) (hb : 0 ≤ b ∧ b ≤ B) (hA : 0 ≤ A) : -(A * B) ≤ a * b ∧ a * b ≤ A * B := mul_b hA ha hb
section
variable {st res holds : Nat → Int32} {ref v : Int32} {m : Nat}
theorem x_says (hm : 2 ^ m ≤ 16) (below : Nat → Int32) (h0 : below 0 = 0) (hr : 1 ≤ ref.toInt ∧ ref.toInt ≤ 999) (hv : isV v) (hres : ∀ i, i < 16 → 1 ≤ (res i).toInt ∧ (res i).toInt ≤ 99) {j : Nat} (h1 : 1 ≤ j) (h : j < 2 ^ m) : f_X0_saysOne (nI j) v (nI (2 ^ m)) ref st (fb_put below (fun k => SR res (k + 1)) 1 (2 ^ m)) = some (if syB st res ref v (2 ^ m) j then 1 else 0) := by
  have b1 := SR_b hres (2 ^ m) hm
  have b2 := SR_b hres j (by omega)
  have c1 := mul_b (a := v.toInt) (A := 99999) (b := (SR res (2 ^ m)).toInt) (B := 1584) (by omega) hv (by omega)
  have c2 := mul_b (a := ref.toInt) (A := 999) (b := (SR res j).toInt) (B := 1584) (by omega) (by omega) (by omega)
  have e1 : (v * SR res (2 ^ m)).toInt = v.toInt * (SR res (2 ^ m)).toInt := fb_mulI (by omega) (by omega)
  have e2 : (ref * SR res j).toInt = ref.toInt * (SR res j).toInt := fb_mulI (by omega) (by omega)
  unfold f_X0_saysOne syB
  rw [x_stuckAt h1 (by omega), zb_s, bl_at hm res below h0 (Nat.le_refl _), zb_s, bl_at hm res below h0 (by omega), zb_s]
  by_cases q : st j = -4
  · rw [if_pos q, if_pos q]
    by_cases c : v.toInt * (SR res (2 ^ m)).toInt < ref.toInt * (SR res j).toInt
    · rw [if_pos (by rw [i32_lt, e1, e2]; exact c)]; simp [c]
    · rw [if_neg (by rw [i32_lt, e1, e2]; exact c)]; simp [c]
  · rw [if_neg q, if_neg q]
    by_cases c : st j = 1
    · rw [if_pos c]; simp [c]
    · rw [if_neg c]; simp [c]
theorem x_words (hm : 2 ^ m ≤ 16) (below : Nat → Int32) (h0 : below 0 = 0) (hr : 1 ≤ ref.toInt ∧ ref.toInt ≤ 999) (hv : isV v) (hres : ∀ i, i < 16 → 1 ≤ (res i).toInt ∧ (res i).toInt ≤ 99) : f_X0_wordsOf v (nI (2 ^ m)) ref st (fb_put below (fun k => SR res (k + 1)) 1 (2 ^ m)) = some (nI (WS (syB st res ref v (2 ^ m)) (2 ^ m - 1))) := by
  have hp : 1 ≤ 2 ^ m := Nat.one_le_two_pow
  unfold f_X0_wordsOf
  rw [zp_0 (v := (0, 1)) (fun j => (nI (WS (syB st res ref v (2 ^ m)) j), nI (j + 1))) (2 ^ m - 1) (t := 1) (w := (nI (WS (syB st res ref v (2 ^ m)) (2 ^ m - 1)), nI (2 ^ m - 1 + 1))) rfl (by omega) (by decide)]
  · rfl
  · intro j hj
    unfold f_X0_wordsOf_L4
    simp only []
    rw [if_neg (nI_ge (by omega) (by omega)), x_says hm below h0 hr hv hres (by omega) (by omega), zb_s]
    simp only [f_X0_wordsOf_J29_4, zl_e, nI_1, WS, nI_m1 (show 1 ≤ j + 1 by omega), Nat.add_sub_cancel]
    rw [sh1 (by omega), fa_or]
    cases syB st res ref v (2 ^ m) (j + 1) <;> simp
  · unfold f_X0_wordsOf_L4
    simp only []
    rw [if_pos (nI_le (by omega) (by omega))]
theorem m_said (hm : 2 ^ m ≤ 16) (hm5 : m < 5) (hr : 1 ≤ ref.toInt ∧ ref.toInt ≤ 999) (hv : isV v) (hres : ∀ i, i < 16 → 1 ≤ (res i).toInt ∧ (res i).toInt ≤ 99) (h5 : holds 5 = ref) (hh : ∀ i, i < 16 → holds (15 + i) = res i) : f_X12_said (nI m) v holds st = some (nI (WS (syB st res ref v (2 ^ m)) (2 ^ m - 1))) := by
  have hp : 1 ≤ 2 ^ m := Nat.one_le_two_pow
  unfold f_X12_said
  rw [zp_0 (v := (0, 1)) (fun j => (nI (WS (syB st res ref v (2 ^ m)) j), nI (j + 1))) (2 ^ m - 1) (t := 1) (w := (nI (WS (syB st res ref v (2 ^ m)) (2 ^ m - 1)), nI (2 ^ m - 1 + 1))) rfl (by omega) (by decide)]
  · rfl
  · intro j hj
    have b1 := SR_b hres (2 ^ m) hm
    have b2 := SR_b hres (j + 1) (by omega)
    have c1 := mul_b (a := v.toInt) (A := 99999) (b := (SR res (2 ^ m)).toInt) (B := 1584) (by omega) hv (by omega)
    have c2 := mul_b (a := ref.toInt) (A := 999) (b := (SR res (j + 1)).toInt) (B := 1584) (by omega) (by omega) (by omega)
    have e1 : (v.toInt64 * (SR res (2 ^ m)).toInt64).toInt = v.toInt * (SR res (2 ^ m)).toInt := by rw [fb_mulL] <;> rw [w64, w64] <;> omega
    have e2 : (ref.toInt64 * (SR res (j + 1)).toInt64).toInt = ref.toInt * (SR res (j + 1)).toInt := by rw [fb_mulL] <;> rw [w64, w64] <;> omega
    unfold f_X12_said_L5
    simp only []
    rw [sh1 (by omega), if_neg (nI_ge (by omega) (by omega)), m_sumTo hh hm, zb_s, zc_l rfl, cl5, h5, m_sumTo hh (by omega), zb_s]
    unfold f_X12_said_J48_5 f_X12_said_J83_5 f_X12_said_J101_5
    simp only [zl_e, nI_1, zc_nI (show j + 1 < 16 by omega) (show 16 < 2 ^ 31 by decide), nI_clamp (show j + 1 < 2 ^ 31 by omega), nI_m1 (show 1 ≤ j + 1 by omega), Nat.add_sub_cancel, sh1 (show j < 31 by omega), lg_lt, if_neg n10, if_true]
    have ez : nI (WS (syB st res ref v (2 ^ m)) j) ||| 0 = nI (WS (syB st res ref v (2 ^ m)) j) := by
      have := fa_or (WS (syB st res ref v (2 ^ m)) j) 0
      rw [Nat.or_zero] at this
      exact this
    rw [fa_or, ez]
    simp only [WS]
    by_cases q : st (j + 1) = -4
    · rw [if_pos q, if_pos q]
      by_cases c : v.toInt * (SR res (2 ^ m)).toInt < ref.toInt * (SR res (j + 1)).toInt
      · rw [if_pos (by rw [i64_lt, e1, e2]; exact c)]
        rw [show syB st res ref v (2 ^ m) (j + 1) = false from by unfold syB; rw [if_pos q]; simp [c]]
        rfl
      · rw [if_neg (by rw [i64_lt, e1, e2]; exact c)]
        rw [show syB st res ref v (2 ^ m) (j + 1) = true from by unfold syB; rw [if_pos q]; simp [c]]
        rfl
    · rw [if_neg q, if_neg q]
      by_cases c : st (j + 1) = 1
      · rw [if_pos c]
        rw [show syB st res ref v (2 ^ m) (j + 1) = true from by unfold syB; rw [if_neg q]; simp [c]]
        split <;> rfl
      · rw [if_neg c]
        rw [show syB st res ref v (2 ^ m) (j + 1) = false from by unfold syB; rw [if_neg q]; simp [c]]
        split <;> rfl
  · unfold f_X12_said_L5
    simp only []
    rw [sh1 (by omega), if_pos (nI_le (by omega) (by omega))]
end
