/-! slopes, hum -/
def sg (P i : Nat) : Int := if i % P < P / 2 then 1 else -1
def C1 (P : Nat) : Nat → Int
  | 0 => 0
  | j + 1 => C1 P j + sg P j
theorem C1_lo {P : Nat} : ∀ j, j ≤ P / 2 → C1 P j = j := by
  intro j
  induction j with
  | zero => intro _; rfl
  | succ j ih =>
    intro hj
    have h := ih (by omega)
    simp only [C1]
    unfold sg
    rw [h, Nat.mod_eq_of_lt (by omega), if_pos (by omega)]
    omega
theorem C1_hi {P : Nat} (hP : P % 2 = 0) : ∀ j, j ≤ P / 2 → C1 P (P / 2 + j) = (P / 2 : Nat) - (j : Int) := by
  intro j
  induction j with
  | zero => intro _; rw [Nat.add_zero, C1_lo _ (Nat.le_refl _)]; omega
  | succ j ih =>
    intro hj
    have h := ih (by omega)
    rw [show P / 2 + (j + 1) = (P / 2 + j) + 1 by omega]
    simp only [C1]
    unfold sg
    rw [h, Nat.mod_eq_of_lt (by omega), if_neg (by omega)]
    omega
theorem C1_P {P : Nat} (hP : P % 2 = 0) : ∀ n, C1 P (n + P) = C1 P n := by
  intro n
  induction n with
  | zero =>
    have h := C1_hi hP (P / 2) (Nat.le_refl _)
    rw [show P / 2 + P / 2 = P by omega] at h
    rw [Nat.zero_add, h]
    simp [C1]
  | succ n ih =>
    rw [show n + 1 + P = (n + P) + 1 by omega]
    simp only [C1]
    unfold sg
    rw [ih, Nat.add_mod_right]
theorem C1_q {P : Nat} (hP : P % 2 = 0) (n : Nat) : ∀ q, C1 P (n + q * P) = C1 P n := by
  intro q
  induction q with
  | zero => simp
  | succ q ih => rw [show n + (q + 1) * P = (n + q * P) + P by rw [Nat.add_mul]; omega, C1_P hP, ih]
/-- the balance of the hum -/
def B1 (P f n : Nat) : Int := C1 P (f + n) - C1 P f
theorem B1_s (P f n : Nat) : B1 P f (n + 1) = B1 P f n + sg P (f + n) := by
  unfold B1
  rw [show f + (n + 1) = (f + n) + 1 by omega]
  simp only [C1]
  omega
theorem B1_m {P : Nat} (hP : P % 2 = 0) (f k : Nat) : B1 P f k = B1 P f (k % P) := by
  unfold B1
  have h := C1_q hP (f + k % P) (k / P)
  have e : f + k % P + k / P * P = f + k := by
    have := Nat.mod_add_div k P
    rw [Nat.mul_comm] at this
    omega
  rw [e] at h
  rw [h]
theorem B1_b (P f : Nat) : ∀ n : Nat, -(n : Int) ≤ B1 P f n ∧ B1 P f n ≤ n := by
  intro n
  induction n with
  | zero => unfold B1; simp
  | succ n ih =>
    rw [B1_s]
    unfold sg
    split <;> omega
def slB (v1 v2 v3 v4 : Int32) : Prop := ∃ K V H P : Nat, v1 = nI K ∧ v2 = nI V ∧ v3 = nI H ∧ v4 = nI P ∧ 1 ≤ K ∧ K ≤ 400 ∧ V ≤ 999 ∧ H ≤ 99 ∧ 2 ≤ P ∧ P ≤ 40 ∧ P % 2 = 0
theorem rng_or (v : Int32) (a b : Nat) (hb : b < 1000000) : (∃ k : Nat, a ≤ k ∧ k ≤ b ∧ v = nI k) ∨ v < nI a ∨ nI b < v := by
  by_cases c1 : v < nI a
  · exact Or.inr (Or.inl c1)
  · by_cases c2 : nI b < v
    · exact Or.inr (Or.inr c2)
    · left
      by_cases c : a < 2000000
      · rw [i32_lt, nIt (by omega)] at c1 c2
        obtain ⟨j, hj, rfl⟩ := nI_of (x := v) (by rw [i32_lt]; have : (0 : Int32).toInt = 0 := rfl; omega)
        rw [nIt hj] at c1 c2
        exact ⟨j, by omega, by omega, rfl⟩
      · sorry
theorem slope_or (v1 v2 v3 v4 : Int32) : (slB v1 v2 v3 v4 ∧ f_X11_isSlope v1 v2 v3 v4 = some 1 ∧ f_X12_isHum v1 v2 v3 v4 = some 1) ∨ (f_X11_isSlope v1 v2 v3 v4 = some 0 ∧ f_X12_isHum v1 v2 v3 v4 = some 0) := by
  have e0 : (0 : Int32).toInt = 0 := rfl
  have e1 : (1 : Int32).toInt = 1 := rfl
  have e2 : (2 : Int32).toInt = 2 := rfl
  have e40 : (40 : Int32).toInt = 40 := rfl
  have e99 : (99 : Int32).toInt = 99 := rfl
  have e400 : (400 : Int32).toInt = 400 := rfl
  have e999 : (999 : Int32).toInt = 999 := rfl
  unfold f_X11_isSlope f_X12_isHum
  by_cases c1 : v1 < 1
  · right; rw [if_pos c1, in_0l (B := 1) (b := 1) rfl c1, zb_s, if_pos rfl]; exact ⟨rfl, rfl⟩
  rw [if_neg c1]
  by_cases c2 : 400 < v1
  · right; rw [if_pos c2, in_0h (C := 400) (c := 400) rfl ((i32_nle _ _).mpr c2), zb_s, if_pos rfl]; exact ⟨rfl, rfl⟩
  rw [if_neg c2, in_1 (B := 1) (C := 400) (b := 1) (c := 400) rfl rfl c1 ((i32_nlt _ _).mp c2), zb_s, if_neg n10]
  by_cases c3 : v2 < 0
  · right; rw [if_pos c3, in_0l (B := 0) (b := 0) rfl c3, zb_s, if_pos rfl]; exact ⟨rfl, rfl⟩
  rw [if_neg c3]
  by_cases c4 : 999 < v2
  · right; rw [if_pos c4, in_0h (C := 999) (c := 999) rfl ((i32_nle _ _).mpr c4), zb_s, if_pos rfl]; exact ⟨rfl, rfl⟩
  rw [if_neg c4, in_1 (B := 0) (C := 999) (b := 0) (c := 999) rfl rfl c3 ((i32_nlt _ _).mp c4), zb_s, if_neg n10]
  by_cases c5 : v3 < 0
  · right; rw [if_pos c5, in_0l (B := 0) (b := 0) rfl c5, zb_s, if_pos rfl]; exact ⟨rfl, rfl⟩
  rw [if_neg c5]
  by_cases c6 : 99 < v3
  · right; rw [if_pos c6, in_0h (C := 99) (c := 99) rfl ((i32_nle _ _).mpr c6), zb_s, if_pos rfl]; exact ⟨rfl, rfl⟩
  rw [if_neg c6, in_1 (B := 0) (C := 99) (b := 0) (c := 99) rfl rfl c5 ((i32_nlt _ _).mp c6), zb_s, if_neg n10]
  by_cases c7 : v4 < 2
  · right; rw [if_pos c7, in_0l (B := 2) (b := 2) rfl c7, zb_s, if_pos rfl]; exact ⟨rfl, rfl⟩
  rw [if_neg c7]
  by_cases c8 : 40 < v4
  · right; rw [if_pos c8, in_0h (C := 40) (c := 40) rfl ((i32_nle _ _).mpr c8), zb_s, if_pos rfl]; exact ⟨rfl, rfl⟩
  rw [if_neg c8, in_1 (B := 2) (C := 40) (b := 2) (c := 40) rfl rfl c7 ((i32_nlt _ _).mp c8), zb_s, if_neg n10, zn_ne (by decide), zn_ne (by decide)]
  by_cases c9 : v4 - v4 / 2 * 2 = 0
  · left
    rw [if_pos c9, if_pos c9]
    refine ⟨?_, rfl, rfl⟩
    rw [i32_lt] at c1 c2 c3 c4 c5 c6 c7 c8
    obtain ⟨K, hK, rfl⟩ := nI_of (x := v1) (by rw [i32_lt]; omega)
    obtain ⟨V, hV, rfl⟩ := nI_of (x := v2) (by rw [i32_lt]; omega)
    obtain ⟨H, hH, rfl⟩ := nI_of (x := v3) (by rw [i32_lt]; omega)
    obtain ⟨P, hP, rfl⟩ := nI_of (x := v4) (by rw [i32_lt]; omega)
    rw [nIt (by assumption)] at c1 c2 c3 c4 c5 c6 c7 c8
    have e := pk_rem (a := P) (d := 2) hP (by decide) (by decide)
    rw [show nI 2 = (2 : Int32) from rfl, c9] at e
    have e' := (nI_eq (a := 0) (b := P % 2) (by decide) (by omega)).mp e
    exact ⟨K, V, H, P, rfl, rfl, rfl, rfl, by omega, by omega, by omega, by omega, by omega, by omega, by omega⟩
  · right
    rw [if_neg c9, if_neg c9]
    exact ⟨rfl, rfl⟩
