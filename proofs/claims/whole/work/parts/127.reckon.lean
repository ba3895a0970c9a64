/-! a value in lowest terms, the same on both sides -/
theorem GL_t {a b : Int64} (hb : 0 < b.toInt) : (GL a b).toInt = (Nat.gcd a.toInt.natAbs b.toInt.natAbs : Int) ∧ 1 ≤ Nat.gcd a.toInt.natAbs b.toInt.natAbs := by
  have h0 := fb_rngL b
  have h1 : 0 < Nat.gcd a.toInt.natAbs b.toInt.natAbs := Nat.gcd_pos_of_pos_right _ (by omega)
  have h2 : Nat.gcd a.toInt.natAbs b.toInt.natAbs ≤ b.toInt.natAbs := Nat.gcd_le_right _ (by omega)
  unfold GL
  exact ⟨pk_lT (by omega), h1⟩
theorem GL_div {a b : Int64} (ha : a.toInt.natAbs < 2 ^ 62) (hb : 0 < b.toInt) (hb2 : b.toInt.natAbs < 2 ^ 62) : (a / GL a b).toInt = a.toInt / (Nat.gcd a.toInt.natAbs b.toInt.natAbs : Int) ∧ (b / GL a b).toInt = b.toInt / (Nat.gcd a.toInt.natAbs b.toInt.natAbs : Int) := by
  obtain ⟨h1, h2⟩ := GL_t (a := a) hb
  constructor
  · rw [div_L ha (by rw [h1]; exact Int.ofNat_dvd_left.mpr (Nat.gcd_dvd_left _ _)) (by rw [h1]; omega), h1]
  · rw [div_L hb2 (by rw [h1]; exact Int.ofNat_dvd_left.mpr (Nat.gcd_dvd_right _ _)) (by rw [h1]; omega), h1]
theorem low_eq {a b a' b' : Int64} {m : Nat} (hm : 1 ≤ m) (ha : a.toInt = m * a'.toInt) (hb : b.toInt = m * b'.toInt) (hb' : 0 < b'.toInt) (ba : a.toInt.natAbs < 2 ^ 62) (bb : b.toInt.natAbs < 2 ^ 62) : a / GL a b = a' / GL a' b' ∧ b / GL a b = b' / GL a' b' := by
  have l1 : ∀ x : Int, x.natAbs ≤ (m * x).natAbs := by
    intro x
    rw [Int.natAbs_mul, Int.natAbs_natCast]
    have := Nat.mul_le_mul_right x.natAbs hm
    omega
  have ba' : a'.toInt.natAbs < 2 ^ 62 := by have := l1 a'.toInt; rw [← ha] at this; omega
  have bb' : b'.toInt.natAbs < 2 ^ 62 := by have := l1 b'.toInt; rw [← hb] at this; omega
  have hpos : 0 < b.toInt := by rw [hb]; exact Int.mul_pos (by omega) hb'
  obtain ⟨e1, e2⟩ := GL_div ba hpos bb
  obtain ⟨e3, e4⟩ := GL_div ba' hb' bb'
  have hg : Nat.gcd a.toInt.natAbs b.toInt.natAbs = m * Nat.gcd a'.toInt.natAbs b'.toInt.natAbs := by
    rw [ha, hb, Int.natAbs_mul, Int.natAbs_mul, Int.natAbs_natCast, Nat.gcd_mul_left]
  constructor
  · apply Int64.toInt_inj.mp
    rw [e1, e3, hg, ha, Int.natCast_mul, Int.mul_ediv_mul_of_pos _ _ (by omega)]
  · apply Int64.toInt_inj.mp
    rw [e2, e4, hg, hb, Int.natCast_mul, Int.mul_ediv_mul_of_pos _ _ (by omega)]
theorem den_1 {a b : Int64} (ba : a.toInt.natAbs < 2 ^ 62) (hb : 0 < b.toInt) (bb : b.toInt.natAbs < 2 ^ 62) : (b / GL a b = 1 ↔ b.toInt ∣ a.toInt) ∧ (b / GL a b = 1 → (a / GL a b).toInt = a.toInt / b.toInt) := by
  obtain ⟨e1, e2⟩ := GL_div ba hb bb
  obtain ⟨-, h2⟩ := GL_t (a := a) hb
  have h1 : b / GL a b = 1 ↔ (Nat.gcd a.toInt.natAbs b.toInt.natAbs : Int) = b.toInt := by
    rw [← Int64.toInt_inj, e2]
    have e0 : (1 : Int64).toInt = 1 := rfl
    rw [e0]
    have hd : (Nat.gcd a.toInt.natAbs b.toInt.natAbs : Int) ∣ b.toInt := Int.ofNat_dvd_left.mpr (Nat.gcd_dvd_right _ _)
    constructor
    · intro h
      have := Int.mul_ediv_cancel' hd
      rw [h, Int.mul_one] at this
      exact this
    · intro h
      rw [h]
      exact Int.ediv_self (by omega)
  refine ⟨?_, fun h => by rw [e1, h1.mp h]⟩
  rw [h1]
  constructor
  · intro h
    rw [← h]
    exact Int.ofNat_dvd_left.mpr (Nat.gcd_dvd_left _ _)
  · intro h
    have : Nat.gcd a.toInt.natAbs b.toInt.natAbs = b.toInt.natAbs := Nat.gcd_eq_right (Int.natAbs_dvd_natAbs.mpr h)
    omega
theorem neg_0L {x : Int64} (h : x.toInt.natAbs < 2 ^ 62) : (-x).toInt = -x.toInt := negL (by omega)
theorem val_both {u i : Nat} {e : Int64} {g rows : Nat → Int64} (hi : i < 11) (h : SV u e g rows i) : ∃ num den : Int64, f_X1_put (g (11 * i + u)) e = some (num, den) ∧ (∀ w, f_X12_solved (nI i) w rows = some (if w = 0 then num else den)) ∧ (den = 1 ↔ e.toInt ∣ (g (11 * i + u)).toInt) ∧ (den = 1 → num.toInt = (g (11 * i + u)).toInt / e.toInt) := by
  obtain ⟨l, hl, hN, hE, he, bN, bE⟩ := h
  have la : ∀ x : Int, x.natAbs ≤ (l * x).natAbs := by
    intro x
    rw [Int.natAbs_mul]
    have := Nat.mul_le_mul_right x.natAbs (show 1 ≤ l.natAbs by omega)
    omega
  generalize hN0 : g (11 * i + u) = N at *
  generalize hn0 : rows (11 * i + 10) = n at *
  generalize hd0 : rows (11 * i + i) = d at *
  have bn : n.toInt.natAbs < 2 ^ 62 := by have := la n.toInt; rw [← hN] at this; omega
  have bd : d.toInt.natAbs < 2 ^ 62 := by have := la d.toInt; rw [← hE] at this; omega
  have hd : d.toInt ≠ 0 := fun hh => he (by rw [hE, hh, Int.mul_zero])
  -- the reference
  have ref : ∃ n' d' : Int64, (∀ w, f_X12_solved (nI i) w rows = some (if w = 0 then n' / GL n' d' else d' / GL n' d')) ∧ 0 < d'.toInt ∧ ((0 < d.toInt ∧ n' = n ∧ d' = d) ∨ (d.toInt < 0 ∧ n'.toInt = -n.toInt ∧ d'.toInt = -d.toInt)) := by
    by_cases c : 0 ≤ d.toInt
    · refine ⟨n, d, fun w => ?_, by omega, Or.inl ⟨by omega, rfl, rfl⟩⟩
      unfold f_X12_solved
      rw [m_at (by omega) hi, zb_s, show f_X12_at (nI i) 10 rows = _ from m_at (j := 10) (by omega) (by decide) rows, zb_s, hn0, hd0, if_pos (by rw [lg_ge, i64_le]; exact c), m_lowest w (by omega) (by omega), zb_s]
    · refine ⟨-n, -d, fun w => ?_, by rw [neg_0L bd]; omega, Or.inr ⟨by omega, neg_0L bn, neg_0L bd⟩⟩
      unfold f_X12_solved
      rw [m_at (by omega) hi, zb_s, show f_X12_at (nI i) 10 rows = _ from m_at (j := 10) (by omega) (by decide) rows, zb_s, hn0, hd0, if_neg (by rw [lg_ge, i64_le]; exact c), m_lowest w (by rw [neg_0L bn]; omega) (by rw [neg_0L bd]; omega), zb_s]
  obtain ⟨n', d', hr, hd', hnd⟩ := ref
  -- the class
  have cls : ∃ N' E' : Int64, f_X1_put N e = some (N' / GL N' E', E' / GL N' E') ∧ 0 < E'.toInt ∧ ((0 < e.toInt ∧ N'.toInt = N.toInt ∧ E'.toInt = e.toInt) ∨ (e.toInt < 0 ∧ N'.toInt = -N.toInt ∧ E'.toInt = -e.toInt)) := by
    by_cases c : 0 < e.toInt
    · exact ⟨N, e, x_put (by omega) c, c, Or.inl ⟨c, rfl, rfl⟩⟩
    · have bN2 : N.toInt.natAbs < 2 ^ 62 := by omega
      have bE2 : e.toInt.natAbs < 2 ^ 62 := by omega
      exact ⟨-N, -e, x_putN (by omega) (by omega) (by omega), by rw [neg_0L bE2]; omega, Or.inr ⟨by omega, neg_0L bN2, neg_0L bE2⟩⟩
  obtain ⟨N', E', hc, hE', hNE⟩ := cls
  have key : N'.toInt = l.natAbs * n'.toInt ∧ E'.toInt = l.natAbs * d'.toInt := by
    rcases (show 0 < l ∨ l < 0 by omega) with sl | sl
    · have el : (l.natAbs : Int) = l := by omega
      rw [el]
      rcases hnd with ⟨sd, rfl, rfl⟩ | ⟨sd, e1, e2⟩
      · have : 0 < e.toInt := by rw [hE]; exact Int.mul_pos sl sd
        rcases hNE with ⟨-, e3, e4⟩ | ⟨hh, -⟩
        · rw [e3, e4]; exact ⟨hN, hE⟩
        · omega
      · have : e.toInt < 0 := by rw [hE]; exact Int.mul_neg_of_pos_of_neg sl sd
        rcases hNE with ⟨hh, -⟩ | ⟨-, e3, e4⟩
        · omega
        · rw [e3, e4, e1, e2, hN, hE]; constructor <;> grind
    · have el : (l.natAbs : Int) = -l := by omega
      rw [el]
      rcases hnd with ⟨sd, rfl, rfl⟩ | ⟨sd, e1, e2⟩
      · have : e.toInt < 0 := by rw [hE]; exact Int.mul_neg_of_neg_of_pos sl sd
        rcases hNE with ⟨hh, -⟩ | ⟨-, e3, e4⟩
        · omega
        · rw [e3, e4, hN, hE]; constructor <;> grind
      · have : 0 < e.toInt := by rw [hE]; exact Int.mul_pos_of_neg_of_neg sl sd
        rcases hNE with ⟨-, e3, e4⟩ | ⟨hh, -⟩
        · rw [e3, e4, e1, e2, hN, hE]; constructor <;> grind
        · omega
  have bN' : N'.toInt.natAbs < 2 ^ 62 := by rcases hNE with ⟨-, q, -⟩ | ⟨-, q, -⟩ <;> rw [q] <;> omega
  have bE' : E'.toInt.natAbs < 2 ^ 62 := by rcases hNE with ⟨-, -, q⟩ | ⟨-, -, q⟩ <;> rw [q] <;> omega
  obtain ⟨q1, q2⟩ := low_eq (m := l.natAbs) (by omega) key.1 key.2 hd' bN' bE'
  obtain ⟨q3, q4⟩ := den_1 bN' hE' bE'
  refine ⟨_, _, hc, fun w => by rw [hr w, q1, q2], ?_, fun hh => ?_⟩
  · rw [q3]
    rcases hNE with ⟨-, e3, e4⟩ | ⟨-, e3, e4⟩
    · rw [e3, e4]
    · rw [e3, e4, Int.neg_dvd, Int.dvd_neg]
  · rw [q4 hh]
    rcases hNE with ⟨-, e3, e4⟩ | ⟨-, e3, e4⟩
    · rw [e3, e4]
    · rw [e3, e4]
      have hdv := q3.mp hh
      rw [e3, e4, Int.neg_dvd, Int.dvd_neg] at hdv
      obtain ⟨x, hx⟩ := hdv
      rw [hx, show -(e.toInt * x) = (-e.toInt) * x by grind, Int.mul_ediv_cancel_left _ (by omega), Int.mul_ediv_cancel_left _ (by omega)]
theorem x_solved {i u : Nat} (hi : i < 12) (hu : u < 11) (g : Nat → Int64) : f_X3_solved (nI i) (nI u) g = some (g (11 * i + u)) := by
  unfold f_X3_solved
  rw [x_cell hi hu, zb_s]
