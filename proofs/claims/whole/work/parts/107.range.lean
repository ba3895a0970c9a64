/-! range: which code comes -/
def qI (oo : Nat → Int) (n : Nat) (u : Int) : Nat → Nat
  | 0 => 0
  | j + 1 => if u < oo ((2 * qI oo n u j + 1) * 2 ^ (n - 1 - j)) then 2 * qI oo n u j else 2 * qI oo n u j + 1
theorem or_pw (q k : Nat) : q * 2 ^ (k + 1) ||| 2 ^ k = (2 * q + 1) * 2 ^ k := by
  have h := Nat.two_pow_add_eq_or_of_lt (i := k + 1) (b := 2 ^ k) (Nat.pow_lt_pow_right (by decide) (by omega)) q
  rw [Nat.mul_comm q, ← h, Nat.pow_succ, Nat.add_mul, Nat.one_mul]
  congr 1
  rw [Nat.mul_assoc, Nat.mul_comm (2 ^ k), Nat.mul_assoc, Nat.mul_comm q]
theorem hv_q {v lean : Int32} {o : Nat → Int32} {n : Nat} (hn : n ≤ 8) (hs : (v + lean).toInt = v.toInt + lean.toInt) : ∀ j, j ≤ n → hvS v lean (-4) o n j = qI (fun c => (o c).toInt) n (v.toInt + lean.toInt) j * 2 ^ (n - j) := by
  intro j
  induction j with
  | zero => intro _; simp [hvS, qI]
  | succ j ih =>
    intro hj
    have h := ih (by omega)
    have n4 : ¬ nI (n - 1 - j) = (-4 : Int32) := by
      rw [i32_eq, nIt (by omega)]
      have : (-4 : Int32).toInt = -4 := rfl
      omega
    simp only [hvS, qI]
    rw [h, show n - j = (n - 1 - j) + 1 by omega, or_pw, show n - (j + 1) = n - 1 - j by omega, if_neg n4]
    by_cases c : v + lean < o ((2 * qI (fun c => (o c).toInt) n (v.toInt + lean.toInt) j + 1) * 2 ^ (n - 1 - j))
    · rw [if_pos c, if_pos rfl, if_pos (by rw [i32_lt, hs] at c; exact c), Nat.pow_succ, Nat.mul_comm 2, Nat.mul_assoc, Nat.mul_comm 2]
    · rw [if_neg c, if_neg n10, if_neg (by rw [i32_lt, hs] at c; exact c)]
/-- trial i of code c goes as c has it -/
def cns (oo : Nat → Int) (n c : Nat) (u : Int) (i : Nat) : Prop := c / 2 ^ (n - 1 - i) % 2 = 1 ↔ ¬ u < oo ((2 * (c / 2 ^ (n - 1 - i) / 2) + 1) * 2 ^ (n - 1 - i))
theorem q_cns {oo : Nat → Int} {n c : Nat} (hc : c < 2 ^ n) (u : Int) : ∀ j, j ≤ n → (qI oo n u j = c / 2 ^ (n - j) ↔ ∀ i, i < j → cns oo n c u i) := by
  intro j
  induction j with
  | zero =>
    intro _
    rw [Nat.sub_zero, Nat.div_eq_of_lt hc]
    exact ⟨fun _ i hi => by omega, fun _ => rfl⟩
  | succ j ih =>
    intro hj
    have h := ih (by omega)
    have e : c / 2 ^ (n - j) = c / 2 ^ (n - 1 - j) / 2 := by
      rw [show n - j = (n - 1 - j) + 1 by omega, Nat.pow_succ, Nat.div_div_eq_div_mul]
    rw [e] at h
    rw [show n - (j + 1) = n - 1 - j by omega]
    have hall : (∀ i, i < j + 1 → cns oo n c u i) ↔ (∀ i, i < j → cns oo n c u i) ∧ cns oo n c u j := by
      refine ⟨fun H => ⟨fun i hi => H i (by omega), H j (by omega)⟩, fun H i hi => ?_⟩
      by_cases d : i = j
      · subst d; exact H.2
      · exact H.1 i (by omega)
    rw [hall, ← h]
    unfold cns
    simp only [qI]
    generalize c / 2 ^ (n - 1 - j) = X
    constructor
    · intro H
      have hq : qI oo n u j = X / 2 := by
        split at H <;> omega
      refine ⟨hq, ?_⟩
      rw [hq] at H
      split at H
      · next d => exact ⟨fun h1 => by omega, fun h1 => absurd d h1⟩
      · next d => exact ⟨fun _ => d, fun _ => by omega⟩
    · rintro ⟨hq, H⟩
      rw [hq]
      split
      · next d =>
        have : ¬ X % 2 = 1 := fun h1 => (H.mp h1) d
        omega
      · next d =>
        have := H.mpr d
        omega
theorem sh_tr {n c b : Nat} (hn : n ≤ 8) (hc : c < 2 ^ n) (hb : b < n) : ((nI c >>> (nI b &&& 31)) ||| (1 : Int32)) <<< (nI b &&& 31) = nI ((2 * (c / 2 ^ b / 2) + 1) * 2 ^ b) ∧ (2 * (c / 2 ^ b / 2) + 1) * 2 ^ b < 2 ^ n := by
  have hp := pw8 hn
  have e1 : c / 2 ^ b ||| 1 = 2 * (c / 2 ^ b / 2) + 1 := by
    have h := or_pw (c / 2 ^ b / 2) 0
    have h2 : c / 2 ^ b = c / 2 ^ b / 2 * 2 + c / 2 ^ b % 2 := by omega
    have h3 := Nat.two_pow_add_eq_or_of_lt (i := 1) (b := c / 2 ^ b % 2) (by omega) (c / 2 ^ b / 2)
    have h4 : c / 2 ^ b % 2 ||| 1 = 1 := by
      rcases (show c / 2 ^ b % 2 = 0 ∨ c / 2 ^ b % 2 = 1 by omega) with e | e <;> rw [e] <;> rfl
    have h5 : c / 2 ^ b = 2 ^ 1 * (c / 2 ^ b / 2) ||| c / 2 ^ b % 2 := by rw [← h3]; omega
    have h6 := Nat.two_pow_add_eq_or_of_lt (i := 1) (b := 1) (by omega) (c / 2 ^ b / 2)
    calc c / 2 ^ b ||| 1 = (2 ^ 1 * (c / 2 ^ b / 2) ||| c / 2 ^ b % 2) ||| 1 := by rw [← h5]
      _ = 2 ^ 1 * (c / 2 ^ b / 2) ||| (c / 2 ^ b % 2 ||| 1) := Nat.or_assoc _ _ _
      _ = 2 * (c / 2 ^ b / 2) + 1 := by rw [h4, ← h6]
  have e2 : c / 2 ^ b < 2 ^ (n - b) := by
    rw [Nat.div_lt_iff_lt_mul (Nat.two_pow_pos b), ← Nat.pow_add, show n - b + b = n by omega]
    exact hc
  have e3 : 2 ^ (n - b) = 2 * 2 ^ (n - b - 1) := by
    rw [Nat.mul_comm, ← Nat.pow_succ]
    congr 1
    omega
  have hlt : (2 * (c / 2 ^ b / 2) + 1) * 2 ^ b < 2 ^ n := by
    have h : 2 * (c / 2 ^ b / 2) + 1 < 2 ^ (n - b) := by omega
    have h7 := Nat.mul_lt_mul_of_pos_right h (Nat.two_pow_pos b)
    rw [← Nat.pow_add, show n - b + b = n by omega] at h7
    exact h7
  refine ⟨?_, hlt⟩
  rw [pk_shrN (by omega) (nI b &&& 31) b (s_l b (by omega)), show (1 : Int32) = nI 1 from rfl, fa_or, e1, pk_shlN (nI b &&& 31) b (s_l b (by omega)) (by omega)]
section
variable {n : Nat} {unit lean : Int32} {o : Nat → Int32}
/-- both ends of RANGE -/
def rL (o : Nat → Int32) (unit : Int32) : Int := (o 0).toInt - unit.toInt
def rH (o : Nat → Int32) (unit : Int32) (N : Nat) : Int := (o N).toInt + unit.toInt
theorem x_low0 (hu : 1 ≤ unit.toInt ∧ unit.toInt ≤ 99) {N : Nat} (hB : oB o N) : ∃ z, f_X8_rangeLow unit o = some z ∧ z.toInt = rL o unit := by
  unfold f_X8_rangeLow
  have h := hB 0 (Nat.zero_le _)
  rw [show (0 : Int32) = nI 0 from rfl, x_outOf (by omega), zb_s]
  exact ⟨_, rfl, fb_subI (by omega) (by omega)⟩
theorem x_high0 (hn : n ≤ 8) (hu : 1 ≤ unit.toInt ∧ unit.toInt ≤ 99) (hB : oB o (2 ^ n - 1)) : ∃ z, f_X8_rangeHigh (nI n) unit o = some z ∧ z.toInt = rH o unit (2 ^ n - 1) := by
  have hp := pw8 hn
  unfold f_X8_rangeHigh
  have h := hB (2 ^ n - 1) (Nat.le_refl _)
  rw [x_last hn, zb_s, x_outOf (by omega), zb_s]
  exact ⟨_, rfl, fb_addI (by omega) (by omega)⟩
/-- the code of the volt v -/
def cdV (o : Nat → Int32) (n : Nat) (lean : Int32) (v : Int) : Nat := qI (fun c => (o c).toInt) n (v + lean.toInt) n
theorem x_comes (hn : 2 ≤ n ∧ n ≤ 8) (hu : 1 ≤ unit.toInt ∧ unit.toInt ≤ 99) (hl : -999 ≤ lean.toInt ∧ lean.toInt ≤ 999) (hB : oB o (2 ^ n - 1)) {c : Nat} (hc : c < 2 ^ n) : ∃ lo hi, f_X8_comes (nI c) (nI n) unit lean o = some (if lo.toInt ≤ hi.toInt then 1 else 0, lo, hi) ∧ (-3000 ≤ lo.toInt ∧ lo.toInt ≤ 130000) ∧ (-3000 ≤ hi.toInt ∧ hi.toInt ≤ 130000) ∧ ∀ v : Int, (lo.toInt ≤ v ∧ v ≤ hi.toInt ↔ (rL o unit ≤ v ∧ v ≤ rH o unit (2 ^ n - 1)) ∧ cdV o n lean v = c) := by
  have hp := pw8 hn.2
  obtain ⟨zl0, el, hzl⟩ := x_low0 (unit := unit) hu hB
  obtain ⟨zh0, eh, hzh⟩ := x_high0 hn.2 hu hB
  have b0 := hB 0 (Nat.zero_le _)
  have bN := hB (2 ^ n - 1) (Nat.le_refl _)
  unfold f_X8_comes
  rw [el, zb_s, eh, zb_s, zl_e]
  obtain ⟨a, ea, i, lo, hi, rfl, hlo, hhi, hQ⟩ := zp_i (f := f_X8_comes_L32 (nI c) lean o) (s := (nI n - 1, zl0, zh0))
    (fun j w => ∃ lo hi, w = (nI (n - j) - 1, lo, hi) ∧ (-3000 ≤ lo.toInt ∧ lo.toInt ≤ 130000) ∧ (-3000 ≤ hi.toInt ∧ hi.toInt ≤ 130000) ∧ ∀ v : Int, (lo.toInt ≤ v ∧ v ≤ hi.toInt ↔ (rL o unit ≤ v ∧ v ≤ rH o unit (2 ^ n - 1)) ∧ ∀ i, i < j → cns (fun c => (o c).toInt) n c (v + lean.toInt) i))
    (fun a => ∃ i lo hi, a = (1, (i, lo, hi)) ∧ (-3000 ≤ lo.toInt ∧ lo.toInt ≤ 130000) ∧ (-3000 ≤ hi.toInt ∧ hi.toInt ≤ 130000) ∧ ∀ v : Int, (lo.toInt ≤ v ∧ v ≤ hi.toInt ↔ (rL o unit ≤ v ∧ v ≤ rH o unit (2 ^ n - 1)) ∧ ∀ i, i < n → cns (fun c => (o c).toInt) n c (v + lean.toInt) i)) n (by omega)
    ⟨zl0, zh0, by rw [Nat.sub_zero], by unfold rL at hzl; omega, by unfold rH at hzh; omega, fun v => by rw [hzl, hzh]; exact ⟨fun h => ⟨h, fun i hi => by omega⟩, fun h => h.1⟩⟩ (by
      rintro j w hj ⟨lo, hi, rfl, hlo, hhi, hv⟩
      unfold f_X8_comes_L32
      simp only []
      by_cases e : j = n
      · subst e
        rw [Nat.sub_self, if_pos (by decide)]
        exact Or.inr ⟨_, rfl, (by decide : ¬ (1 : Nat) = 0), _, lo, hi, rfl, hlo, hhi, hv⟩
      · have ht := sh_tr hn.2 hc (show n - 1 - j < n by omega)
        have hbo := hB _ (show (2 * (c / 2 ^ (n - 1 - j) / 2) + 1) * 2 ^ (n - 1 - j) ≤ 2 ^ n - 1 by omega)
        rw [nI_m1 (show 1 ≤ n - j by omega), show n - j - 1 = n - 1 - j by omega, if_neg (nI_pos (by omega)), zl_e, ht.1, x_outOf (by omega), zb_s, zl_e, bit_at (by omega) (by omega)]
        have es : (o ((2 * (c / 2 ^ (n - 1 - j) / 2) + 1) * 2 ^ (n - 1 - j)) - lean).toInt = (o ((2 * (c / 2 ^ (n - 1 - j) / 2) + 1) * 2 ^ (n - 1 - j))).toInt - lean.toInt := fb_subI (by omega) (by omega)
        have es1 : (o ((2 * (c / 2 ^ (n - 1 - j) / 2) + 1) * 2 ^ (n - 1 - j)) - lean - 1).toInt = (o ((2 * (c / 2 ^ (n - 1 - j) / 2) + 1) * 2 ^ (n - 1 - j))).toInt - lean.toInt - 1 := by
          have e1 : (1 : Int32).toInt = 1 := rfl
          rw [fb_subI] <;> rw [es, e1] <;> omega
        have hcj : ∀ v : Int, cns (fun c => (o c).toInt) n c (v + lean.toInt) j ↔ (c / 2 ^ (n - 1 - j) % 2 = 1 ↔ ¬ v + lean.toInt < (o ((2 * (c / 2 ^ (n - 1 - j) / 2) + 1) * 2 ^ (n - 1 - j))).toInt) := fun v => Iff.rfl
        have hall : ∀ v : Int, (∀ i, i < j + 1 → cns (fun c => (o c).toInt) n c (v + lean.toInt) i) ↔ (∀ i, i < j → cns (fun c => (o c).toInt) n c (v + lean.toInt) i) ∧ cns (fun c => (o c).toInt) n c (v + lean.toInt) j := by
          intro v
          refine ⟨fun H => ⟨fun i hi => H i (by omega), H j (by omega)⟩, fun H i hi => ?_⟩
          by_cases d : i = j
          · subst d; exact H.2
          · exact H.1 i (by omega)
        unfold f_X8_comes_J91_32 f_X7_cutLow f_X7_cutHigh
        rw [f_max, f_min, zb_s, zb_s, zb_s, zb_s, zl_e, zl_e, sb1]
        refine Or.inl ⟨by omega, ?_⟩
        generalize o ((2 * (c / 2 ^ (n - 1 - j) / 2) + 1) * 2 ^ (n - 1 - j)) = O at *
        rcases (show c / 2 ^ (n - 1 - j) % 2 = 0 ∨ c / 2 ^ (n - 1 - j) % 2 = 1 by omega) with d | d
        · rw [d, if_neg (show ¬ nI 0 = (1 : Int32) by decide)]
          refine ⟨_, rfl, _, _, by rw [show n - (j + 1) = n - 1 - j by omega], hlo, ?_, ?_⟩
          · split <;> omega
          · intro v
            rw [hall v, hcj v, ← and_assoc, ← hv v, d]
            have : (0 = 1 ↔ ¬ v + lean.toInt < O.toInt) ↔ v + lean.toInt < O.toInt := by
              constructor
              · intro H
                exact Classical.byContradiction fun h1 => absurd (H.mpr h1) (by decide)
              · intro H
                exact ⟨fun h1 => absurd h1 (by decide), fun h1 => absurd H h1⟩
            rw [this]
            split
            · next q => rw [i32_lt, es1] at q; rw [es1]; omega
            · next q => rw [i32_lt, es1] at q; omega
        · rw [d, if_pos (show nI 1 = (1 : Int32) from rfl)]
          refine ⟨_, rfl, _, _, by rw [show n - (j + 1) = n - 1 - j by omega], ?_, hhi, ?_⟩
          · split <;> omega
          · intro v
            rw [hall v, hcj v, ← and_assoc, ← hv v, d]
            have : (1 = 1 ↔ ¬ v + lean.toInt < O.toInt) ↔ ¬ v + lean.toInt < O.toInt := ⟨fun H => H.mp rfl, fun H => ⟨fun _ => H, fun _ => rfl⟩⟩
            rw [this]
            split
            · next q => rw [i32_lt, es] at q; rw [es]; omega
            · next q => rw [i32_lt, es] at q; omega)
  rw [ea, zb_s]
  simp only []
  refine ⟨lo, hi, ?_, hlo, hhi, ?_⟩
  · unfold f_X7_volts
    by_cases d : lo.toInt ≤ hi.toInt
    · rw [if_pos (show lo ≤ hi from by rw [i32_le]; exact d), zb_s, if_neg, if_pos d]
      have e1 : (1 : Int32).toInt = 1 := rfl
      have e0 : (0 : Int32).toInt = 0 := rfl
      have es : (hi - lo).toInt = hi.toInt - lo.toInt := fb_subI (by omega) (by omega)
      rw [i32_le, fb_addI] <;> rw [es, e1] <;> omega
    · rw [if_neg (show ¬ lo ≤ hi from by rw [i32_le]; exact d), zb_s, if_pos (by decide), if_neg d]
  · intro v
    rw [hQ v]
    unfold cdV
    have h := q_cns (oo := fun c => (o c).toInt) hc (v + lean.toInt) n (Nat.le_refl _)
    rw [Nat.sub_self, Nat.pow_zero, Nat.div_one] at h
    rw [h]
end
