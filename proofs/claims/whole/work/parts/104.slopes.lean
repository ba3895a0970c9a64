/-! slopes, hum -/
def sg (P i : Nat) : Int := if i % P < P / 2 then 1 else -1
def C1 (P : Nat) : Nat → Int
  | 0 => 0
  | j + 1 => C1 P j + sg P j
theorem C1_lo {P : Nat} : ∀ j, j ≤ P / 2 → C1 P j = j := by
  intro j
  induction j with
  | zero => intro _; rfl
  | succ j ih =>
    intro hj
    have h := ih (by omega)
    simp only [C1]
    unfold sg
    rw [h, Nat.mod_eq_of_lt (by omega), if_pos (by omega)]
    omega
theorem C1_hi {P : Nat} (hP : P % 2 = 0) : ∀ j, j ≤ P / 2 → C1 P (P / 2 + j) = (P / 2 : Nat) - (j : Int) := by
  intro j
  induction j with
  | zero => intro _; rw [Nat.add_zero, C1_lo _ (Nat.le_refl _)]; omega
  | succ j ih =>
    intro hj
    have h := ih (by omega)
    rw [show P / 2 + (j + 1) = (P / 2 + j) + 1 by omega]
    simp only [C1]
    unfold sg
    rw [h, Nat.mod_eq_of_lt (by omega), if_neg (by omega)]
    omega
theorem C1_P {P : Nat} (hP : P % 2 = 0) : ∀ n, C1 P (n + P) = C1 P n := by
  intro n
  induction n with
  | zero =>
    have h := C1_hi hP (P / 2) (Nat.le_refl _)
    rw [show P / 2 + P / 2 = P by omega] at h
    rw [Nat.zero_add, h]
    simp [C1]
  | succ n ih =>
    rw [show n + 1 + P = (n + P) + 1 by omega]
    simp only [C1]
    unfold sg
    rw [ih, Nat.add_mod_right]
theorem C1_q {P : Nat} (hP : P % 2 = 0) (n : Nat) : ∀ q, C1 P (n + q * P) = C1 P n := by
  intro q
  induction q with
  | zero => simp
  | succ q ih => rw [show n + (q + 1) * P = (n + q * P) + P by rw [Nat.add_mul]; omega, C1_P hP, ih]
/-- the balance of the hum -/
def B1 (P f n : Nat) : Int := C1 P (f + n) - C1 P f
theorem B1_s (P f n : Nat) : B1 P f (n + 1) = B1 P f n + sg P (f + n) := by
  unfold B1
  rw [show f + (n + 1) = (f + n) + 1 by omega]
  simp only [C1]
  omega
theorem B1_m {P : Nat} (hP : P % 2 = 0) (f k : Nat) : B1 P f k = B1 P f (k % P) := by
  unfold B1
  have h := C1_q hP (f + k % P) (k / P)
  have e : f + k % P + k / P * P = f + k := by
    have := Nat.mod_add_div k P
    rw [Nat.mul_comm] at this
    omega
  rw [e] at h
  rw [h]
theorem B1_b (P f : Nat) : ∀ n : Nat, -(n : Int) ≤ B1 P f n ∧ B1 P f n ≤ n := by
  intro n
  induction n with
  | zero => unfold B1; simp
  | succ n ih =>
    rw [B1_s]
    unfold sg
    split <;> omega
def slB (v1 v2 v3 v4 : Int32) : Prop := ∃ K V H P : Nat, v1 = nI K ∧ v2 = nI V ∧ v3 = nI H ∧ v4 = nI P ∧ 1 ≤ K ∧ K ≤ 400 ∧ V ≤ 999 ∧ H ≤ 99 ∧ 2 ≤ P ∧ P ≤ 40 ∧ P % 2 = 0
theorem slope_or (v1 v2 v3 v4 : Int32) : (slB v1 v2 v3 v4 ∧ f_X11_isSlope v1 v2 v3 v4 = some 1 ∧ f_X12_isHum v1 v2 v3 v4 = some 1) ∨ (f_X11_isSlope v1 v2 v3 v4 = some 0 ∧ f_X12_isHum v1 v2 v3 v4 = some 0) := by
  have e0 : (0 : Int32).toInt = 0 := rfl
  have e1 : (1 : Int32).toInt = 1 := rfl
  have e2 : (2 : Int32).toInt = 2 := rfl
  have e40 : (40 : Int32).toInt = 40 := rfl
  have e99 : (99 : Int32).toInt = 99 := rfl
  have e400 : (400 : Int32).toInt = 400 := rfl
  have e999 : (999 : Int32).toInt = 999 := rfl
  unfold f_X11_isSlope f_X12_isHum
  by_cases c1 : v1 < 1
  · right; rw [if_pos c1, in_0l (B := 1) (b := 1) rfl c1, zb_s, if_pos rfl]; exact ⟨rfl, rfl⟩
  rw [if_neg c1]
  by_cases c2 : 400 < v1
  · right; rw [if_pos c2, in_0h (C := 400) (c := 400) rfl ((i32_nle _ _).mpr c2), zb_s, if_pos rfl]; exact ⟨rfl, rfl⟩
  rw [if_neg c2, in_1 (B := 1) (C := 400) (b := 1) (c := 400) rfl rfl c1 ((i32_nlt _ _).mp c2), zb_s, if_neg n10]
  by_cases c3 : v2 < 0
  · right; rw [if_pos c3, in_0l (B := 0) (b := 0) rfl c3, zb_s, if_pos rfl]; exact ⟨rfl, rfl⟩
  rw [if_neg c3]
  by_cases c4 : 999 < v2
  · right; rw [if_pos c4, in_0h (C := 999) (c := 999) rfl ((i32_nle _ _).mpr c4), zb_s, if_pos rfl]; exact ⟨rfl, rfl⟩
  rw [if_neg c4, in_1 (B := 0) (C := 999) (b := 0) (c := 999) rfl rfl c3 ((i32_nlt _ _).mp c4), zb_s, if_neg n10]
  by_cases c5 : v3 < 0
  · right; rw [if_pos c5, in_0l (B := 0) (b := 0) rfl c5, zb_s, if_pos rfl]; exact ⟨rfl, rfl⟩
  rw [if_neg c5]
  by_cases c6 : 99 < v3
  · right; rw [if_pos c6, in_0h (C := 99) (c := 99) rfl ((i32_nle _ _).mpr c6), zb_s, if_pos rfl]; exact ⟨rfl, rfl⟩
  rw [if_neg c6, in_1 (B := 0) (C := 99) (b := 0) (c := 99) rfl rfl c5 ((i32_nlt _ _).mp c6), zb_s, if_neg n10]
  by_cases c7 : v4 < 2
  · right; rw [if_pos c7, in_0l (B := 2) (b := 2) rfl c7, zb_s, if_pos rfl]; exact ⟨rfl, rfl⟩
  rw [if_neg c7]
  by_cases c8 : 40 < v4
  · right; rw [if_pos c8, in_0h (C := 40) (c := 40) rfl ((i32_nle _ _).mpr c8), zb_s, if_pos rfl]; exact ⟨rfl, rfl⟩
  rw [if_neg c8, in_1 (B := 2) (C := 40) (b := 2) (c := 40) rfl rfl c7 ((i32_nlt _ _).mp c8), zb_s, if_neg n10, zn_ne (by decide)]
  by_cases c9 : v4 - v4 / 2 * 2 = 0
  · left
    rw [if_pos c9]
    refine ⟨?_, rfl, rfl⟩
    rw [i32_lt] at c1 c2 c3 c4 c5 c6 c7 c8
    obtain ⟨K, hK, rfl⟩ := nI_of (x := v1) (by rw [i32_lt]; omega)
    obtain ⟨V, hV, rfl⟩ := nI_of (x := v2) (by rw [i32_lt]; omega)
    obtain ⟨H, hH, rfl⟩ := nI_of (x := v3) (by rw [i32_lt]; omega)
    obtain ⟨P, hP, rfl⟩ := nI_of (x := v4) (by rw [i32_lt]; omega)
    rw [nIt hK] at c1 c2
    rw [nIt hV] at c3 c4
    rw [nIt hH] at c5 c6
    rw [nIt hP] at c7 c8
    have e := pk_rem (a := P) (d := 2) hP (by decide) (by decide)
    rw [show nI 2 = (2 : Int32) from rfl, c9] at e
    have e' := (nI_eq (a := 0) (b := P % 2) (by decide) (by omega)).mp e
    exact ⟨K, V, H, P, rfl, rfl, rfl, rfl, by omega, by omega, by omega, by omega, by omega, by omega, by omega⟩
  · right
    rw [if_neg c9]
    exact ⟨rfl, rfl⟩

theorem oi_add (a b : Int) : Int32.ofInt a + Int32.ofInt b = Int32.ofInt (a + b) := (Int32.ofInt_add a b).symm
theorem oi_mul (a b : Int) : Int32.ofInt a * Int32.ofInt b = Int32.ofInt (a * b) := (Int32.ofInt_mul a b).symm
theorem oi_nI (k : Nat) : nI k = Int32.ofInt (k : Int) := rfl
theorem x_humB {K P f : Nat} (hK : K ≤ 400) (hP : 2 ≤ P ∧ P ≤ 40) (hf : f < P) : f_X11_humBalance (nI K) (nI P) (nI f) = some (Int32.ofInt (B1 P f (K % P))) := by
  have hKP := Nat.mod_lt K (show 0 < P by omega)
  unfold f_X11_humBalance
  rw [if_pos (show (0 : Int32) < nI P from nI_lt (a := 0) (by omega) (by omega)), zn_ne (nI_ne0 (by omega) (by omega)), zl_e, pk_rem (by omega) (by omega) (by omega), zp_0 (v := (0, 0)) (fun j => (Int32.ofInt (B1 P f j), nI j)) (K % P) (t := 1) (w := (Int32.ofInt (B1 P f (K % P)), nI (K % P))) (by unfold B1; simp; rfl) (by omega) (by decide)]
  · rfl
  · intro j hj
    have hm := Nat.mod_lt (f + j) (show 0 < P by omega)
    unfold f_X11_humBalance_L16
    simp only []
    rw [if_neg (nI_ge hj (by omega)), zn_ne (nI_ne0 (by omega) (by omega)), zn_ne (by decide), nI_add, pk_rem (by omega) (by omega) (by omega), show nI P / (2 : Int32) = nI (P / 2) from pk_div (d := 2) (by omega) (by decide) (by decide)]
    unfold f_X11_humBalance_J41_16
    simp only [zl_e, nI_1]
    rw [B1_s, ← oi_add]
    unfold sg
    by_cases c : (f + j) % P < P / 2
    · rw [if_neg (nI_ge c (by omega)), if_pos c]; rfl
    · rw [if_pos (nI_le (by omega) (by omega)), if_neg c]; rfl
  · unfold f_X11_humBalance_L16
    simp only []
    rw [if_pos (nI_le (Nat.le_refl _) (by omega))]
/-- what is summed up -/
def SS (K V H P f : Nat) : Int := K * V + H * B1 P f K
theorem m_slL6 {K V H P f : Nat} (hK : K ≤ 400) (hP : 2 ≤ P ∧ P ≤ 40) (hf : f < P) : zp (f_X12_sloped_L6 (nI K) (nI V) (nI H) (nI P) (nI f)) zF (0, 0) = some (1, (Int32.ofInt (SS K V H P f), nI K)) := by
  rw [zp_0 (v := (0, 0)) (fun j => (Int32.ofInt (SS j V H P f), nI j)) K (t := 1) (w := (Int32.ofInt (SS K V H P f), nI K)) (by unfold SS B1; simp; rfl) (by omega) (by decide)]
  · intro j hj
    have hm := Nat.mod_lt (f + j) (show 0 < P by omega)
    unfold f_X12_sloped_L6
    simp only []
    rw [if_neg (nI_ge hj (by omega)), zn_ne (nI_ne0 (by omega) (by omega)), zn_ne (by decide), nI_add, pk_rem (by omega) (by omega) (by omega), show nI P / (2 : Int32) = nI (P / 2) from pk_div (d := 2) (by omega) (by decide) (by decide)]
    unfold f_X12_sloped_J38_6
    simp only [zl_e, nI_1]
    have e : SS (j + 1) V H P f = SS j V H P f + (V + H * sg P (f + j)) := by
      unfold SS
      rw [B1_s, Int.mul_add, show ((j + 1 : Nat) : Int) * V = j * V + V from by rw [Int.natCast_add, Int.add_mul]; simp]
      omega
    rw [e, ← oi_add]
    unfold sg
    by_cases c : (f + j) % P < P / 2
    · rw [if_neg (nI_ge c (by omega)), if_pos c, oi_nI V, oi_nI H, oi_add, Int.mul_one]
    · rw [if_pos (nI_le (by omega) (by omega)), if_neg c, oi_nI V, oi_nI H, Int32.ofInt_add, show (H : Int) * -1 = -(H : Int) by omega, Int32.ofInt_neg, ← Int32.sub_eq_add_neg]
  · unfold f_X12_sloped_L6
    simp only []
    rw [if_pos (nI_le (Nat.le_refl _) (by omega))]
/-- ticks down -/
def TD (S : Int) (r : Nat) : Nat := if S ≤ 0 then 0 else min 1000 ((S.toNat + r - 1) / r)
theorem SS_b {K V H P f : Nat} (hK : K ≤ 400) (hV : V ≤ 999) (hH : H ≤ 99) : -1000000 ≤ SS K V H P f ∧ SS K V H P f ≤ 1000000 := by
  have h1 := B1_b P f K
  have h2 := mul_b (a := B1 P f K) (A := 400) (b := H) (B := 99) (by omega) (by omega) (by omega)
  have h3 : K * V ≤ 400 * 999 := Nat.mul_le_mul hK hV
  unfold SS
  rw [Int.mul_comm (H : Int), ← Int.natCast_mul]
  omega
theorem td_lt {S r j : Nat} (hr : 1 ≤ r) (h : j < (S + r - 1) / r) : j * r < S := by
  have h1 : (S + r - 1) / r * r ≤ S + r - 1 := Nat.div_mul_le_self _ _
  have h2 : (j + 1) * r ≤ (S + r - 1) / r * r := Nat.mul_le_mul_right r h
  rw [Nat.add_mul] at h2
  omega
theorem td_ge {S r : Nat} (hr : 1 ≤ r) : S ≤ (S + r - 1) / r * r := by
  have h := Nat.lt_div_mul_add (a := S + r - 1) (b := r) (by omega)
  omega
theorem x_tdown {S : Int} (hS : -1000000 ≤ S ∧ S ≤ 1000000) {r : Nat} (hr : 1 ≤ r ∧ r ≤ 999) : f_X11_ticksDown (Int32.ofInt S) (nI r) = some (nI (TD S r)) := by
  have eS : (Int32.ofInt S).toInt = S := fb_ofI (by omega) (by omega)
  have e0 : (0 : Int32).toInt = 0 := rfl
  unfold f_X11_ticksDown TD
  by_cases c : S ≤ 0
  · rw [if_neg (show ¬ (0 : Int32) < Int32.ofInt S from by rw [i32_lt, eS, e0]; omega), if_pos c]; rfl
  · rw [if_pos (show (0 : Int32) < Int32.ofInt S from by rw [i32_lt, eS, e0]; omega), if_neg c]
    unfold f_X11_dividedUp
    have eN : Int32.ofInt S = nI S.toNat := by rw [i32_eq, eS, nIt (by omega)]; omega
    have hd : (S.toNat + r - 1) / r ≤ S.toNat + r - 1 := Nat.div_le_self _ _
    rw [if_pos (show (0 : Int32) < nI r from nI_lt (a := 0) (by omega) (by omega)), zn_ne (nI_ne0 (by omega) (by omega)), zb_s, f_min, zb_s, eN, nI_add, nI_m1 (by omega), pk_div (by omega) (by omega) (by omega)]
    congr 1
    by_cases q : (S.toNat + r - 1) / r < 1000
    · rw [if_pos (show nI ((S.toNat + r - 1) / r) < (1000 : Int32) from nI_lt (b := 1000) q (by decide)), Nat.min_eq_right (by omega)]
    · rw [if_neg (show ¬ nI ((S.toNat + r - 1) / r) < (1000 : Int32) from nI_nlt (b := 1000) (by omega) (by omega)), Nat.min_eq_left (by omega)]; rfl
theorem m_tdown {S : Int} (hS : -1000000 ≤ S ∧ S ≤ 1000000) {r : Nat} (hr : 1 ≤ r ∧ r ≤ 999) {holds : Nat → Int32} (h5 : holds 5 = nI r) : ∃ q, zp (f_X12_sloped_L50 holds) zF (Int32.ofInt S, 0) = some (1, (q, nI (TD S r))) := by
  have e0 : (0 : Int32).toInt = 0 := rfl
  have hT : TD S r ≤ 1000 := by unfold TD; split; omega; exact Nat.min_le_left _ _
  have hmul : ∀ j : Nat, j ≤ 1000 → ((j * r : Nat) : Int) ≤ 1000000 := fun j hj => by
    have := Nat.mul_le_mul hj hr.2
    omega
  have eS : ∀ j : Nat, j ≤ 1000 → (Int32.ofInt (S - (j * r : Nat))).toInt = S - (j * r : Nat) := fun j hj => by
    have := hmul j hj
    exact fb_ofI (by omega) (by omega)
  refine ⟨Int32.ofInt (S - (TD S r * r : Nat)), ?_⟩
  rw [zp_0 (v := (Int32.ofInt S, 0)) (fun j => (Int32.ofInt (S - (j * r : Nat)), nI j)) (TD S r) (t := 1) (w := (Int32.ofInt (S - (TD S r * r : Nat)), nI (TD S r))) (by simp; rfl) (by omega) (by decide)]
  · intro j hj
    have hpos : ((j * r : Nat) : Int) < S := by
      unfold TD at hj
      split at hj
      · omega
      · have := td_lt (S := S.toNat) (r := r) (j := j) hr.1 (by omega)
        omega
    unfold f_X12_sloped_L50
    simp only []
    rw [if_neg (show ¬ Int32.ofInt (S - (j * r : Nat)) ≤ 0 from by rw [i32_le, eS j (by omega), e0]; omega), if_neg (show ¬ (1000 : Int32) ≤ nI j from nI_ge (b := 1000) (by omega) (by decide)), zc_l rfl, zl_e, zl_e, cl5, h5, nI_1, oi_nI r, ← Int32.ofInt_sub, show S - ((j * r : Nat) : Int) - (r : Int) = S - (((j + 1) * r : Nat) : Int) from by rw [Nat.add_mul]; omega]
  · unfold f_X12_sloped_L50
    simp only []
    by_cases c : (1000 : Int32) ≤ nI (TD S r)
    · by_cases c2 : Int32.ofInt (S - (TD S r * r : Nat)) ≤ 0
      · rw [if_pos c2]
      · rw [if_neg c2, if_pos c]
    · rw [if_pos]
      rw [i32_le, eS _ hT, e0]
      have c' : TD S r < 1000 := by
        rw [show (1000 : Int32) = nI 1000 from rfl, nI_leI (by decide) (by omega)] at c
        omega
      unfold TD at c' ⊢
      split
      · omega
      · next h =>
        rw [if_neg h] at c'
        have := td_ge (S := S.toNat) (r := r) hr.1
        rw [show min 1000 ((S.toNat + r - 1) / r) = (S.toNat + r - 1) / r by omega]
        omega
section
variable {K V H P f r : Nat} {holds : Nat → Int32}
theorem x_sl (hK : K ≤ 400) (hV : V ≤ 999) (hH : H ≤ 99) (hP : 2 ≤ P ∧ P ≤ 40) (hP2 : P % 2 = 0) (hr : 1 ≤ r ∧ r ≤ 999) : f_X11_ticksDown ((nI K * nI V) + (nI H * Int32.ofInt (B1 P f (K % P)))) (nI r) = some (nI (TD (SS K V H P f) r)) := by
  have e : (nI K * nI V) + (nI H * Int32.ofInt (B1 P f (K % P))) = Int32.ofInt (SS K V H P f) := by
    rw [oi_nI, oi_nI, oi_nI, oi_mul, oi_mul, oi_add, ← B1_m hP2]
    rfl
  rw [e, x_tdown (SS_b hK hV hH) hr]
theorem m_sl (hK : K ≤ 400) (hV : V ≤ 999) (hH : H ≤ 99) (hP : 2 ≤ P ∧ P ≤ 40) (hf : f < P) (hr : 1 ≤ r ∧ r ≤ 999) (h5 : holds 5 = nI r) : f_X12_sloped (nI K) (nI V) (nI H) (nI P) (nI f) holds = some (nI (TD (SS K V H P f) r)) := by
  unfold f_X12_sloped
  obtain ⟨q, e⟩ := m_tdown (S := SS K V H P f) (SS_b hK hV hH) hr h5
  rw [m_slL6 hK hP hf, zb_s]
  simp only []
  rw [e, zb_s]
end
theorem ref_nat {v : Int32} (h : 1 ≤ v.toInt ∧ v.toInt ≤ 999) : ∃ k : Nat, (1 ≤ k ∧ k ≤ 999) ∧ v = nI k := by
  obtain ⟨j, hj, e⟩ := nI_of (x := v) (by rw [i32_lt]; have : (0 : Int32).toInt = 0 := rfl; omega)
  rw [e, nIt hj] at h
  exact ⟨j, by omega, e⟩
theorem st_slopes : ST_slopes Inv := by
  intro x y hI v1 v2 v3 v4 v5
  obtain ⟨n, hb, hR, -⟩ := id hI
  obtain ⟨hn, g0, g1, g2, g3, g4, g5, g6, g7, gt, gu, go, gl, gr, -⟩ := id hR
  obtain ⟨r, hr, er⟩ := ref_nat gr
  suffices H : ∃ z, f_X11_slopes v1 v2 v3 v4 v5 (X_rules_ref x) = some z ∧ f_X12_slopes v1 v2 v3 v4 v5 (M_holds y) = some z by
    obtain ⟨z, e1, e2⟩ := H
    exact ⟨z, z, e1, e2, rfl, hI⟩
  unfold f_X11_slopes f_X12_slopes
  rcases slope_or v1 v2 v3 v4 with ⟨⟨K, V, H, P, rfl, rfl, rfl, rfl, b1, b2, b3, b4, b5, b6, b7⟩, e1, e2⟩ | ⟨e1, e2⟩
  · rw [e1, e2, zb_s, zb_s, if_neg n10, if_neg n10]
    rcases pk_ix v5 (n := P) (by omega) with c | c | ⟨f, hf, rfl⟩
    · rw [if_pos c, in_0l (B := 0) (b := 0) rfl c, zb_s, if_pos rfl]
      exact ⟨_, rfl, rfl⟩
    · have d := c
      rw [i32_le, nIt (by omega)] at d
      rw [if_neg (show ¬ v5 < 0 from by rw [i32_lt]; have : (0 : Int32).toInt = 0 := rfl; omega), if_neg (show ¬ v5 < nI P from by rw [i32_lt, nIt (by omega)]; omega), nI_m1 (by omega), in_0h (c := nI (P - 1)) rfl (show ¬ v5 ≤ nI (P - 1) from by rw [i32_le, nIt (by omega)]; omega), zb_s, if_pos rfl]
      exact ⟨_, rfl, rfl⟩
    · rw [if_neg (nI_pos (by omega)), if_pos (nI_lt hf (by omega)), nI_m1 (by omega), in_1 (B := 0) (b := 0) (c := nI (P - 1)) rfl rfl (nI_pos (show f < 2 ^ 31 by omega)) (nI_le (by omega) (by omega)), zb_s, if_neg n10, x_humB b2 ⟨b5, b6⟩ hf, zb_s, er, x_sl b2 b3 b4 ⟨b5, b6⟩ b7 hr, zb_s, m_sl b2 b3 b4 ⟨b5, b6⟩ hf hr (by rw [g5, er]), zb_s]
      exact ⟨_, rfl, rfl⟩
  · rw [e1, e2, zb_s, zb_s, if_pos rfl, if_pos rfl]
    exact ⟨_, rfl, rfl⟩
theorem st_hum : ST_hum Inv := by
  intro x y hI v1 v2 v3 v4
  obtain ⟨n, hb, hR, -⟩ := id hI
  obtain ⟨hn, g0, g1, g2, g3, g4, g5, g6, g7, gt, gu, go, gl, gr, -⟩ := id hR
  obtain ⟨r, hr, er⟩ := ref_nat gr
  suffices H : ∃ z, f_X11_hum v1 v2 v3 v4 (X_rules_ref x) = some z ∧ f_X12_hum v1 v2 v3 v4 (M_holds y) = some z by
    obtain ⟨z, e1, e2⟩ := H
    exact ⟨z, z, e1, e2, rfl, hI⟩
  unfold f_X11_hum f_X12_hum
  rcases slope_or v1 v2 v3 v4 with ⟨⟨K, V, H, P, rfl, rfl, rfl, rfl, b1, b2, b3, b4, b5, b6, b7⟩, e1, e2⟩ | ⟨e1, e2⟩
  · rw [e1, e2, zb_s, zb_s, if_neg n10, if_neg n10, er]
    obtain ⟨a, b, ea, eb, l, g, i, i', rfl, rfl⟩ := zp_r (f := f_X11_hum_L24 (nI K) (nI V) (nI H) (nI P) (nI r)) (g := f_X12_hum_L24 (nI K) (nI V) (nI H) (nI P) (M_holds y)) (s := ((1000, 0, 0) : Int32 × Int32 × Int32)) (t := ((10000, 0, 0) : Int32 × Int32 × Int32))
      (fun j s t => ∃ l l' g, s = (l, g, nI j) ∧ t = (l', g, nI j) ∧ ((j = 0 ∧ l = 1000 ∧ l' = 10000) ∨ (0 < j ∧ l = l')))
      (fun a b => ∃ l g i i', a = (1, (l, g, i)) ∧ b = (1, (l, g, i'))) P (by omega) ⟨1000, 10000, 0, rfl, rfl, Or.inl ⟨rfl, rfl, rfl⟩⟩ (by
        rintro j s t hj ⟨l, l', g, rfl, rfl, hh⟩
        unfold f_X11_hum_L24 f_X12_hum_L24
        simp only []
        by_cases e : j = P
        · subst e
          rw [if_pos (nI_le (Nat.le_refl _) (by omega)), if_pos (nI_le (Nat.le_refl _) (by omega))]
          rcases hh with ⟨h, -⟩ | ⟨-, rfl⟩
          · omega
          · exact Or.inr ⟨_, _, rfl, rfl, (by decide : ¬ (1 : Nat) = 0), (by decide : ¬ (1 : Nat) = 0), l, g, _, _, rfl, rfl⟩
        · rw [if_neg (nI_ge (by omega) (by omega)), if_neg (nI_ge (by omega) (by omega)), x_humB b2 ⟨b5, b6⟩ (by omega), zb_s, x_sl b2 b3 b4 ⟨b5, b6⟩ b7 hr, zb_s, m_sl b2 b3 b4 ⟨b5, b6⟩ (by omega) hr (by rw [g5, er]), zb_s, f_min, zb_s, f_max, zb_s, zl_e, nI_1]
          have hT : TD (SS K V H P j) r ≤ 1000 := by unfold TD; split; omega; exact Nat.min_le_left _ _
          generalize TD (SS K V H P j) r = T at hT ⊢
          unfold f_X12_hum_J58_24 f_X12_hum_J74_24
          simp only [zl_e, nI_1]
          refine Or.inl ⟨by omega, ?_⟩
          have eg : ∀ q : Int32, (if nI T ≤ g then some (0, (q, g, nI (j + 1))) else some (0, (q, nI T, nI (j + 1)))) = some ((0, (q, (if g < nI T then nI T else g), nI (j + 1))) : Nat × Int32 × Int32 × Int32) := by
            intro q
            by_cases c : nI T ≤ g
            · rw [if_pos c, if_neg ((i32_nlt _ _).mpr c)]
            · rw [if_neg c, if_pos ((i32_nle _ _).mp c)]
          rw [eg, eg]
          rcases hh with ⟨-, rfl, rfl⟩ | ⟨-, rfl⟩
          · rw [if_neg (show ¬ (10000 : Int32) ≤ nI T from nI_ge (b := 10000) (by omega) (by decide))]
            refine ⟨_, _, rfl, rfl, _, _, _, rfl, rfl, Or.inr ⟨by omega, ?_⟩⟩
            by_cases c : T = 1000
            · subst c; rw [if_neg (by decide)]; rfl
            · rw [if_pos (show nI T < (1000 : Int32) from nI_lt (b := 1000) (by omega) (by decide))]
          · by_cases c : l ≤ nI T
            · rw [if_pos c, if_neg ((i32_nlt _ _).mpr c)]
              exact ⟨_, _, rfl, rfl, _, _, _, rfl, rfl, Or.inr ⟨by omega, rfl⟩⟩
            · rw [if_neg c, if_pos ((i32_nle _ _).mp c)]
              exact ⟨_, _, rfl, rfl, _, _, _, rfl, rfl, Or.inr ⟨by omega, rfl⟩⟩)
    rw [ea, eb, zb_s, zb_s]
    exact ⟨_, rfl, rfl⟩
  · rw [e1, e2, zb_s, zb_s, if_pos rfl, if_pos rfl]
    exact ⟨_, rfl, rfl⟩
