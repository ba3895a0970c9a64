/-! codes, OUT in a row, by halves, fractions -/
theorem pw8 {n : Nat} (h : n ≤ 8) : 1 ≤ 2 ^ n ∧ 2 ^ n ≤ 256 := by
  rcases (show n = 0 ∨ n = 1 ∨ n = 2 ∨ n = 3 ∨ n = 4 ∨ n = 5 ∨ n = 6 ∨ n = 7 ∨ n = 8 by omega) with rfl | rfl | rfl | rfl | rfl | rfl | rfl | rfl | rfl <;> decide
theorem pw4 {n : Nat} (h : 2 ≤ n) (h8 : n ≤ 8) : 4 ≤ 2 ^ n := by
  rcases (show n = 2 ∨ n = 3 ∨ n = 4 ∨ n = 5 ∨ n = 6 ∨ n = 7 ∨ n = 8 by omega) with rfl | rfl | rfl | rfl | rfl | rfl | rfl <;> decide
theorem sh1 {k : Nat} (h : k < 31) : (1 : Int32) <<< (nI k &&& 31) = nI (2 ^ k) := by
  have e := pk_shlN (n := 1) (nI k &&& 31) k (s_l k (by omega)) (by
    have : 2 ^ k ≤ 2 ^ 30 := Nat.pow_le_pow_right (by decide) (by omega)
    omega)
  rw [Nat.one_mul] at e
  exact e
theorem x_codes {n : Nat} (h : n ≤ 8) : f_X5_codes (nI n) = some (nI (2 ^ n)) := by
  unfold f_X5_codes
  rw [sh1 (by omega)]
theorem nI_m1 {k : Nat} (h : 1 ≤ k) : nI k - (1 : Int32) = nI (k - 1) := by
  have e := nI_pred (k - 1)
  rw [show k - 1 + 1 = k by omega] at e
  exact e
theorem nI_a1 {k : Nat} (h : 1 ≤ k) : nI k + (-1 : Int32) = nI (k - 1) := by
  have e := pk_m1 (k - 1)
  rw [show k - 1 + 1 = k by omega] at e
  exact e
theorem x_last {n : Nat} (h : n ≤ 8) : f_X8_lastCode (nI n) = some (nI (2 ^ n - 1)) := by
  unfold f_X8_lastCode
  rw [x_codes h, zb_s, nI_m1 (pw8 h).1]
theorem x_outOf {c : Nat} (h : c < 256) (outs : Nat → Int32) : f_X8_outOf (nI c) outs = some (outs c) := by
  unfold f_X8_outOf
  rw [if_neg (nI_pos (by omega)), if_neg (show ¬ (256 : Int32) ≤ nI c from nI_ge (b := 256) h (by decide)), zc_nI h (by decide), nI_clamp (by omega)]
/-- the row g up to j, then f -/
def fil {α : Type} (g f : Nat → α) (j : Nat) : Nat → α := fun c => if c < j then g c else f c
theorem fil_0 {α : Type} (g f : Nat → α) : fil g f 0 = f := by funext c; simp [fil]
theorem fil_s (g f : Nat → Int32) (j : Nat) : upd (fil g f j) j (g j) = fil g f (j + 1) := by
  funext c
  unfold upd fil
  by_cases h : c = j
  · subst h; simp
  · by_cases h2 : c < j
    · simp [h, h2, show c < j + 1 by omega]
    · simp [h, h2, show ¬ c < j + 1 by omega]
theorem fil_in {α : Type} {g f : Nat → α} {j c : Nat} (h : c < j) : fil g f j c = g c := if_pos h
def OV (n : Nat) (unit off top : Int32) (misses : Nat → Int32) (c : Nat) : Int32 := oS (nI n) unit off top misses (nI c) (npt n top)
theorem x_reckon {n : Nat} (h : n ≤ 8) {unit off top : Int32} {misses : Nat → Int32} (h9 : npt n top ≤ 9) (outs : Nat → Int32) : f_X8_reckonOuts (nI n) unit off top misses outs = some (fil (OV n unit off top misses) outs (2 ^ n)) := by
  have hp := pw8 h
  unfold f_X8_reckonOuts
  rw [x_codes h, zb_s, zp_0 (v := (0, outs)) (fun j => (nI j, fil (OV n unit off top misses) outs j)) (2 ^ n) (t := 1) (w := (nI (2 ^ n), fil (OV n unit off top misses) outs (2 ^ n))) (by rw [fil_0]; rfl) (by omega) (by decide)]
  · rfl
  · intro j hj
    unfold f_X8_reckonOuts_L10
    simp only []
    rw [if_neg (nI_ge hj (by omega)), if_neg (show ¬ (256 : Int32) ≤ nI j from nI_ge (b := 256) (by omega) (by decide)), x_sum h9, zb_s, zc_nI (by omega) (by decide), nI_clamp (by omega), zl_e, zl_e, nI_1]
    rw [show oS (nI n) unit off top misses (nI j) (npt n top) = OV n unit off top misses j from rfl, fil_s]
  · unfold f_X8_reckonOuts_L10
    simp only []
    rw [if_pos (nI_le (Nat.le_refl _) (by omega))]
section
variable {n : Nat} {unit off top lean ref : Int32} {misses resistors holds : Nat → Int32}
theorem m_many (hR : RI n unit off top lean ref misses resistors holds) : f_X12_many holds = some (nI (2 ^ n)) := by
  unfold f_X12_many
  rw [zc_l rfl, cl0, hR.2.1, sh1 (by have := hR.1.2; omega)]
theorem m_lay (hR : RI n unit off top lean ref misses resistors holds) (levels : Nat → Int32) : f_X12_layLevels holds levels = some (fil (OV n unit off top misses) levels (2 ^ n)) := by
  have hp := pw8 hR.1.2
  have hm := m_many hR
  have ho := m_out hR
  unfold f_X12_layLevels
  rw [zp_0 (v := (0, levels)) (fun j => (nI j, fil (OV n unit off top misses) levels j)) (2 ^ n) (t := 1) (w := (nI (2 ^ n), fil (OV n unit off top misses) levels (2 ^ n))) (by rw [fil_0]; rfl) (by omega) (by decide)]
  · rfl
  · intro j hj
    unfold f_X12_layLevels_L2
    simp only []
    rw [hm, zb_s, if_neg (nI_ge hj (by omega)), ho, zb_s, zc_nI (by omega) (by decide), nI_clamp (by omega), zl_e, zl_e, nI_1]
    rw [show oS (nI n) unit off top misses (nI j) (npt n top) = OV n unit off top misses j from rfl, fil_s]
  · unfold f_X12_layLevels_L2
    simp only []
    rw [hm, zb_s, if_pos (nI_le (Nat.le_refl _) (by omega))]
end
theorem ite_b {P : Prop} {_ : Decidable P} {α : Type} {a b : α} {Q : α → Prop} (ha : Q a) (hb : Q b) : Q (if P then a else b) := by split <;> assumption
theorem sb1 (x : Int32) : x + (-1 : Int32) = x - 1 := by rw [Int32.sub_eq_add_neg]
/-- the code by halves after j trials -/
def hvS (v lean b : Int32) (outs : Nat → Int32) (n : Nat) : Nat → Nat
  | 0 => 0
  | j + 1 => if (if v + lean < outs (hvS v lean b outs n j ||| 2 ^ (n - 1 - j)) then (0 : Int32) else 1) = (if nI (n - 1 - j) = b then (1 : Int32) else 0) then hvS v lean b outs n j else hvS v lean b outs n j ||| 2 ^ (n - 1 - j)
theorem hvS_lt (v lean b : Int32) (outs : Nat → Int32) (n : Nat) : ∀ j, j ≤ n → hvS v lean b outs n j < 2 ^ n := by
  intro j
  induction j with
  | zero => intro _; exact Nat.two_pow_pos n
  | succ j ih =>
    intro hj
    have h1 := ih (by omega)
    have h2 : 2 ^ (n - 1 - j) < 2 ^ n := Nat.pow_lt_pow_right (by decide) (by omega)
    unfold hvS
    exact ite_b (Q := fun x => x < 2 ^ n) h1 (Nat.or_lt_two_pow h1 h2)
theorem hv_tr (v lean b : Int32) (outs : Nat → Int32) {n j : Nat} (hn : n ≤ 8) (hj : j < n) : hvS v lean b outs n j ||| 2 ^ (n - 1 - j) < 256 := by
  have h1 := hvS_lt v lean b outs n j (by omega)
  have h2 : 2 ^ (n - 1 - j) < 2 ^ n := Nat.pow_lt_pow_right (by decide) (by omega)
  have h3 := Nat.or_lt_two_pow h1 h2
  have h4 := (pw8 hn).2
  omega
theorem x_weigh {n : Nat} (hn : 1 ≤ n) (h8 : n ≤ 8) (v b lean : Int32) (outs : Nat → Int32) : f_X8_weigh v b (nI n) lean outs = some (nI (hvS v lean b outs n n)) := by
  unfold f_X8_weigh
  rw [zl_e, zp_0 (v := (0, nI n - 1)) (fun j => (nI (hvS v lean b outs n j), nI (n - j) - 1)) n (t := 1) (w := (nI (hvS v lean b outs n n), nI (n - n) - 1)) rfl (by omega) (by decide)]
  · rfl
  · intro j hj
    have ht := hv_tr v lean b outs h8 hj
    unfold f_X8_weigh_L13
    simp only []
    rw [nI_m1 (show 1 ≤ n - j by omega), if_neg (nI_pos (by omega)), sh1 (by omega), fa_or, zl_e, show n - j - 1 = n - 1 - j by omega, x_outOf ht, zb_s, show n - (j + 1) = n - 1 - j by omega]
    simp only [f_X8_weigh_J49_13, f_X8_weigh_J64_13, f_X8_weigh_J70_13, zl_e, hvS]
    rw [sb1]
    by_cases c1 : v + lean < outs (hvS v lean b outs n j ||| 2 ^ (n - 1 - j))
    · by_cases c2 : nI (n - 1 - j) = b
      · simp [c1, c2]
      · simp [c1, c2]
    · by_cases c2 : nI (n - 1 - j) = b
      · simp [c1, c2]
      · simp [c1, c2]
  · unfold f_X8_weigh_L13
    simp only []
    rw [Nat.sub_self, if_pos (show nI 0 - 1 < 0 by decide)]
theorem m_halved {n : Nat} {unit off top lean ref : Int32} {misses resistors holds : Nat → Int32} (hR : RI n unit off top lean ref misses resistors holds) (v b : Int32) (outs : Nat → Int32) : f_X12_halved v b holds outs = some (nI (hvS v lean b outs n n)) := by
  obtain ⟨hn, h0, h1, h2, h3, h4, -⟩ := hR
  have h8 := hn.2
  unfold f_X12_halved
  rw [zc_l rfl, zl_e, cl0, h0, zp_0 (v := (0, nI n - 1)) (fun j => (nI (hvS v lean b outs n j), nI (n - j) - 1)) n (t := 1) (w := (nI (hvS v lean b outs n n), nI (n - n) - 1)) rfl (by omega) (by decide)]
  · rfl
  · intro j hj
    have ht := hv_tr v lean b outs h8 hj
    unfold f_X12_halved_L12
    simp only []
    rw [nI_m1 (show 1 ≤ n - j by omega), if_neg (nI_pos (by omega)), zc_l rfl, sh1 (by omega), fa_or, show n - j - 1 = n - 1 - j by omega, zc_nI ht (by decide), nI_clamp (by omega), cl4, h4, show n - (j + 1) = n - 1 - j by omega]
    simp only [f_X12_halved_J44_12, f_X12_halved_J60_12, f_X12_halved_J71_12, zl_e, hvS]
    rw [sb1, sh1 (by omega)]
    by_cases c1 : v + lean < outs (hvS v lean b outs n j ||| 2 ^ (n - 1 - j))
    · by_cases c2 : nI (n - 1 - j) = b
      · simp [c1, c2, fa_or]
      · simp [c1, c2]
    · by_cases c2 : nI (n - 1 - j) = b
      · simp [c1, c2]
      · simp [c1, c2, fa_or]
  · unfold f_X12_halved_L12
    simp only []
    rw [Nat.sub_self, if_pos (show nI 0 - 1 < 0 by decide)]
theorem hvS_cg {v lean b : Int32} {f g : Nat → Int32} {n : Nat} (h : ∀ c, c < 2 ^ n → f c = g c) : ∀ j, j ≤ n → hvS v lean b f n j = hvS v lean b g n j := by
  intro j
  induction j with
  | zero => intro _; rfl
  | succ j ih =>
    intro hj
    have h1 := hvS_lt v lean b g n j (by omega)
    have h2 : 2 ^ (n - 1 - j) < 2 ^ n := Nat.pow_lt_pow_right (by decide) (by omega)
    have h3 := Nat.or_lt_two_pow h1 h2
    unfold hvS
    rw [ih (by omega), h _ h3]
/-! Euclid -/
theorem euc (k : Nat) : ∀ (a b fuel : Nat), a < 2 ^ 63 → b < 2 ^ 63 → b < 2 ^ k → 2 * k + 1 ≤ fuel → zp f_X12_lowest_L17 fuel (lN a, lN b) = some (1, (lN (Nat.gcd a b), 0)) := by
  induction k with
  | zero =>
    intro a b fuel ha hb hk hf
    have e : b = 0 := by simpa using hk
    subst e
    obtain ⟨f, rfl⟩ : ∃ f, fuel = f + 1 := ⟨fuel - 1, by omega⟩
    rw [Nat.gcd_zero_right]
    refine zp_stop ?_ (by decide)
    unfold f_X12_lowest_L17
    simp only [lg_eq]
    rw [if_pos (show lN 0 = 0 from rfl)]
    rfl
  | succ k ih =>
    intro a b fuel ha hb hk hf
    obtain ⟨f, rfl⟩ : ∃ f, fuel = f + 1 + 1 + 1 := ⟨fuel - 3, by omega⟩
    by_cases c : b = 0
    · subst c
      rw [Nat.gcd_zero_right]
      refine zp_stop ?_ (by decide)
      unfold f_X12_lowest_L17
      simp only [lg_eq]
      rw [if_pos (show lN 0 = 0 from rfl)]
      rfl
    · have st : ∀ x y : Nat, x < 2 ^ 63 → y < 2 ^ 63 → y ≠ 0 → f_X12_lowest_L17 (lN x, lN y) = some (0, (lN y, lN (x % y))) := by
        intro x y hx hy hn
        have hz : ¬ lN y = 0 := by
          rw [show (0 : Int64) = lN 0 from rfl, pk_lEQ hy (by decide)]
          exact hn
        unfold f_X12_lowest_L17
        simp only [lg_eq]
        rw [if_neg hz, znl_ne hz, zl_e, pk_lRem hx (by omega) hy]
      rw [zp_step (st a b ha hb c)]
      have hr : a % b < b := Nat.mod_lt _ (by omega)
      rw [show Nat.gcd a b = Nat.gcd b (a % b) by rw [Nat.gcd_comm a b, Nat.gcd_rec b a, Nat.gcd_comm]]
      by_cases c2 : a % b = 0
      · rw [c2, Nat.gcd_zero_right]
        refine zp_stop ?_ (by decide)
        unfold f_X12_lowest_L17
        simp only [lg_eq]
        rw [if_pos (show lN 0 = 0 from rfl)]
        rfl
      · rw [zp_step (st b (a % b) hb (by omega) c2)]
        have h2 : b % (a % b) < a % b := Nat.mod_lt _ (by omega)
        have h3 : 2 * (b % (a % b)) < b := by
          have := Nat.div_add_mod b (a % b)
          have h4 : 1 ≤ b / (a % b) := Nat.div_pos (by omega) (by omega)
          have h5 : (a % b) * 1 ≤ (a % b) * (b / (a % b)) := Nat.mul_le_mul_left _ h4
          omega
        have h6 : b % (a % b) < 2 ^ k := by
          rw [Nat.pow_succ] at hk
          omega
        rw [show Nat.gcd b (a % b) = Nat.gcd (a % b) (b % (a % b)) by rw [Nat.gcd_comm b, Nat.gcd_rec (a % b) b, Nat.gcd_comm]]
        exact ih (a % b) (b % (a % b)) (f + 1) (by omega) (by omega) h6 (by omega)
theorem eux (k : Nat) : ∀ (a b fuel c : Nat), a < 2 ^ 63 → b < 2 ^ 63 → b < 2 ^ k → 2 * k + 1 ≤ fuel → c + 2 * k < 200 → ∃ d : Int32, zp f_X1_commonDivisor_L3 fuel (lN a, lN b, nI c) = some (1, (lN (Nat.gcd a b), 0, d)) := by
  have sp : ∀ (x fuel c : Nat), c < 200 → zp f_X1_commonDivisor_L3 (fuel + 1) (lN x, lN 0, nI c) = some (1, (lN x, 0, nI c)) := by
    intro x fuel c hc
    refine zp_stop ?_ (by decide)
    unfold f_X1_commonDivisor_L3
    simp only [lg_eq]
    rw [if_neg (show ¬ (200 : Int32) ≤ nI c from nI_ge (b := 200) hc (by decide)), if_pos (show lN 0 = 0 from rfl)]
    rfl
  have st : ∀ x y c : Nat, x < 2 ^ 63 → y < 2 ^ 63 → y ≠ 0 → c < 200 → f_X1_commonDivisor_L3 (lN x, lN y, nI c) = some (0, (lN y, lN (x % y), nI (c + 1))) := by
    intro x y c hx hy hn hc
    have hz : ¬ lN y = 0 := by
      rw [show (0 : Int64) = lN 0 from rfl, pk_lEQ hy (by decide)]
      exact hn
    unfold f_X1_commonDivisor_L3
    simp only [lg_eq]
    rw [if_neg (show ¬ (200 : Int32) ≤ nI c from nI_ge (b := 200) hc (by decide)), if_neg hz, znl_ne hz, zl_e, zl_e, pk_lRem hx (by omega) hy, nI_1]
  induction k with
  | zero =>
    intro a b fuel c ha hb hk hf hc
    have e : b = 0 := by simpa using hk
    subst e
    obtain ⟨f, rfl⟩ : ∃ f, fuel = f + 1 := ⟨fuel - 1, by omega⟩
    rw [Nat.gcd_zero_right]
    exact ⟨_, sp a f c (by omega)⟩
  | succ k ih =>
    intro a b fuel c ha hb hk hf hc
    obtain ⟨f, rfl⟩ : ∃ f, fuel = f + 1 + 1 + 1 := ⟨fuel - 3, by omega⟩
    by_cases e : b = 0
    · subst e
      rw [Nat.gcd_zero_right]
      exact ⟨_, sp a _ c (by omega)⟩
    · rw [zp_step (st a b c ha hb e (by omega))]
      have hr : a % b < b := Nat.mod_lt _ (by omega)
      rw [show Nat.gcd a b = Nat.gcd b (a % b) by rw [Nat.gcd_comm a b, Nat.gcd_rec b a, Nat.gcd_comm]]
      by_cases c2 : a % b = 0
      · rw [c2, Nat.gcd_zero_right]
        exact ⟨_, sp b _ (c + 1) (by omega)⟩
      · rw [zp_step (st b (a % b) (c + 1) hb (by omega) c2 (by omega))]
        have h2 : b % (a % b) < a % b := Nat.mod_lt _ (by omega)
        have h3 : 2 * (b % (a % b)) < b := by
          have := Nat.div_add_mod b (a % b)
          have h4 : 1 ≤ b / (a % b) := Nat.div_pos (by omega) (by omega)
          have h5 : (a % b) * 1 ≤ (a % b) * (b / (a % b)) := Nat.mul_le_mul_left _ h4
          omega
        have h6 : b % (a % b) < 2 ^ k := by
          rw [Nat.pow_succ] at hk
          omega
        rw [show Nat.gcd b (a % b) = Nat.gcd (a % b) (b % (a % b)) by rw [Nat.gcd_comm b, Nat.gcd_rec (a % b) b, Nat.gcd_comm]]
        exact ih (a % b) (b % (a % b)) (f + 1) (c + 1 + 1) (by omega) (by omega) h6 (by omega) (by omega)
theorem negL {x : Int64} (h : x.toInt ≠ -9223372036854775808) : (-x).toInt = -x.toInt := by
  have := fb_rngL x
  rw [Int64.toInt_neg, fb_bmodL (by omega) (by omega)]
theorem absL {x : Int64} (h : x.toInt ≠ -9223372036854775808) : (if 0 ≤ x then x else -x) = lN x.toInt.natAbs := by
  have hb := fb_rngL x
  apply Int64.toInt_inj.mp
  rw [pk_lT (by omega)]
  split
  · next c => rw [i64_le] at c; simp at c; omega
  · next c => rw [i64_le] at c; simp at c; rw [negL h]; omega
/-- the greatest common part -/
def GL (a b : Int64) : Int64 := lN (Nat.gcd a.toInt.natAbs b.toInt.natAbs)
theorem GL_pos {a b : Int64} (h : 0 < b.toInt) : ¬ GL a b = 0 := by
  have hb := fb_rngL b
  have h1 : 0 < Nat.gcd a.toInt.natAbs b.toInt.natAbs := Nat.gcd_pos_of_pos_right _ (by omega)
  have h2 : Nat.gcd a.toInt.natAbs b.toInt.natAbs ≤ b.toInt.natAbs := Nat.gcd_le_right _ (by omega)
  unfold GL
  rw [show (0 : Int64) = lN 0 from rfl, pk_lEQ (by omega) (by decide)]
  omega
theorem m_lowest {a b : Int64} (w : Int32) (ha : a.toInt ≠ -9223372036854775808) (hb : 0 < b.toInt) : f_X12_lowest a b w = some (if w = 0 then a / GL a b else b / GL a b) := by
  have hra := fb_rngL a
  have hrb := fb_rngL b
  have hg := GL_pos (a := a) hb
  have eb : b = lN b.toInt.natAbs := by
    apply Int64.toInt_inj.mp
    rw [pk_lT (by omega)]
    omega
  have key : f_X12_lowest a b w = f_X12_lowest_J12 a b w (if 0 ≤ a then a else -a) := by
    unfold f_X12_lowest
    simp only [lg_ge]
    split <;> rfl
  rw [key, absL ha]
  unfold f_X12_lowest_J12
  have e := euc 63 a.toInt.natAbs b.toInt.natAbs zF (by omega) (by omega) (by omega) (by unfold zF; omega)
  rw [← eb] at e
  rw [e, zb_s]
  simp only []
  rw [show lN (Nat.gcd a.toInt.natAbs b.toInt.natAbs) = GL a b from rfl]
  split <;> rw [znl_ne hg]
theorem x_put {a b : Int64} (ha : a.toInt ≠ -9223372036854775808) (hb : 0 < b.toInt) : f_X1_put a b = some (a / GL a b, b / GL a b) := by
  have hra := fb_rngL a
  have hrb := fb_rngL b
  have hg := GL_pos (a := a) hb
  unfold f_X1_put
  rw [f_absl, zb_s, f_absl, zb_s, absL ha, absL (by omega)]
  unfold f_X1_commonDivisor
  obtain ⟨d, e⟩ := eux 63 a.toInt.natAbs b.toInt.natAbs zF 0 (by omega) (by omega) (by omega) (by unfold zF; omega) (by decide)
  rw [show nI 0 = (0 : Int32) from rfl] at e
  rw [e, zb_s, zb_s]
  simp only [lg_eq, lg_ge]
  rw [show lN (Nat.gcd a.toInt.natAbs b.toInt.natAbs) = GL a b from rfl, if_neg (show ¬ b = 0 from fun h => by rw [h] at hb; simp at hb), if_neg hg, if_pos (show (0 : Int64) ≤ b by rw [i64_le]; simp; omega)]
  unfold f_X1_put_J50
  rw [znl_ne hg, zl_e, znl_ne hg, zl_e]
  simp
theorem x_putN {a b : Int64} (ha : a.toInt ≠ -9223372036854775808) (hb : b.toInt < 0) (hb2 : b.toInt ≠ -9223372036854775808) : f_X1_put a b = some (-a / GL (-a) (-b), -b / GL (-a) (-b)) := by
  have hra := fb_rngL a
  have hrb := fb_rngL b
  have hg := GL_pos (a := -a) (b := -b) (by rw [negL hb2]; omega)
  have eG : GL a b = GL (-a) (-b) := by
    unfold GL
    rw [negL ha, negL hb2, Int.natAbs_neg, Int.natAbs_neg]
  unfold f_X1_put
  rw [f_absl, zb_s, f_absl, zb_s, absL ha, absL hb2]
  unfold f_X1_commonDivisor
  obtain ⟨d, e⟩ := eux 63 a.toInt.natAbs b.toInt.natAbs zF 0 (by omega) (by omega) (by omega) (by unfold zF; omega) (by decide)
  rw [show nI 0 = (0 : Int32) from rfl] at e
  rw [e, zb_s, zb_s]
  simp only [lg_eq, lg_ge]
  rw [show lN (Nat.gcd a.toInt.natAbs b.toInt.natAbs) = GL (-a) (-b) from eG, if_neg (show ¬ b = 0 from fun h => by rw [h] at hb; simp at hb), if_neg hg, if_neg (show ¬ (0 : Int64) ≤ b by rw [i64_le]; simp; omega)]
  unfold f_X1_put_J50
  rw [znl_ne hg, zl_e, znl_ne hg, zl_e, Int64.neg_mul, Int64.one_mul, Int64.neg_mul, Int64.one_mul]
