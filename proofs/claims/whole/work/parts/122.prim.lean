/-! rows without a common divisor -/
def gU (f : Nat → Int) : Nat → Nat
  | 0 => 0
  | n + 1 => Nat.gcd (gU f n) (f n).natAbs
theorem gU_dvd (f : Nat → Int) : ∀ n q, q < n → gU f n ∣ (f q).natAbs := by
  intro n
  induction n with
  | zero => intro q hq; omega
  | succ n ih =>
    intro q hq
    unfold gU
    by_cases c : q = n
    · subst c; exact Nat.gcd_dvd_right _ _
    · exact Nat.dvd_trans (Nat.gcd_dvd_left _ _) (ih q (by omega))
theorem dvd_gU {f : Nat → Int} {d : Nat} : ∀ n, (∀ q, q < n → d ∣ (f q).natAbs) → d ∣ gU f n := by
  intro n
  induction n with
  | zero => intro _; exact Nat.dvd_zero _
  | succ n ih =>
    intro h
    unfold gU
    exact Nat.dvd_gcd (ih (fun q hq => h q (by omega))) (h n (by omega))
theorem gU_mul {f g : Nat → Int} {a : Int} : ∀ n, (∀ q, q < n → f q = a * g q) → gU f n = a.natAbs * gU g n := by
  intro n
  induction n with
  | zero => intro _; simp [gU]
  | succ n ih =>
    intro h
    unfold gU
    rw [ih (fun q hq => h q (by omega)), h n (by omega), Int.natAbs_mul, Nat.gcd_mul_left]
theorem gU_le {f : Nat → Int} {M : Nat} : ∀ n, (∀ q, q < n → (f q).natAbs ≤ M) → gU f n ≤ M := by
  intro n
  induction n with
  | zero => intro _; exact Nat.zero_le _
  | succ n ih =>
    intro h
    unfold gU
    have h1 := ih (fun q hq => h q (by omega))
    have h2 := h n (by omega)
    rcases Nat.eq_zero_or_pos (f n).natAbs with c | c
    · rw [c, Nat.gcd_zero_right]; exact h1
    · exact Nat.le_trans (Nat.gcd_le_right _ c) h2
theorem gU_zero {f : Nat → Int} {n : Nat} (h : gU f n = 0) : ∀ q, q < n → f q = 0 := by
  intro q hq
  have := gU_dvd f n q hq
  rw [h] at this
  have := Nat.eq_zero_of_zero_dvd this
  omega
theorem gU_cg {f g : Nat → Int} : ∀ n, (∀ q, q < n → f q = g q) → gU f n = gU g n := by
  intro n h
  have := gU_mul (f := f) (g := g) (a := 1) n (fun q hq => by rw [Int.one_mul]; exact h q hq)
  simpa using this
def prim (r : Nat → Int) : Prop := (∀ q, q < 11 → r q = 0) ∨ gU r 11 = 1
def PR (b r : Nat → Int) : Prop := ∃ l : Int, l ≠ 0 ∧ ∀ q, q < 11 → b q = l * r q
theorem pr_div {b r : Nat → Int} {e m : Int} (he : e ≠ 0) (hm : m ≠ 0) (h : ∀ q, q < 11 → e * b q = m * r q) (hp : prim r) : PR b r := by
  rcases hp with hz | hg
  · refine ⟨1, by decide, fun q hq => ?_⟩
    have := h q hq
    rw [hz q hq, Int.mul_zero] at this
    rw [hz q hq, Int.mul_zero]
    exact (Int.mul_eq_zero.mp this).resolve_left he
  · have d : e.natAbs ∣ gU (fun q => m * r q) 11 := dvd_gU 11 (fun q hq => by
      rw [← h q hq, Int.natAbs_mul]
      exact Nat.dvd_mul_right _ _)
    rw [gU_mul (a := m) (g := r) 11 (fun q _ => rfl), hg, Nat.mul_one, Int.natAbs_dvd_natAbs] at d
    obtain ⟨l, rfl⟩ := d
    refine ⟨l, fun hl => hm (by rw [hl, Int.mul_zero]), fun q hq => ?_⟩
    have := h q hq
    rw [Int.mul_assoc] at this
    exact Int.eq_of_mul_eq_mul_left he this
theorem pr_b {b r : Nat → Int} (h : PR b r) {q : Nat} (hq : q < 11) : (r q).natAbs ≤ (b q).natAbs ∧ (b q = 0 ↔ r q = 0) := by
  obtain ⟨l, hl, hb⟩ := h
  rw [hb q hq, Int.natAbs_mul]
  have : 1 ≤ l.natAbs := by omega
  refine ⟨?_, ?_⟩
  · have := Nat.mul_le_mul_right (r q).natAbs this
    omega
  · rw [Int.mul_eq_zero]
    constructor
    · intro h; exact h.resolve_left hl
    · intro h; exact Or.inr h
theorem pr_shrink {D : Nat → Int} : ∃ r : Nat → Int, (∀ q, q < 11 → r q = if gU D 11 ≤ 1 then D q else D q / (gU D 11 : Int)) ∧ prim r ∧ ∃ m : Int, m ≠ 0 ∧ ∀ q, q < 11 → D q = m * r q := by
  by_cases c : gU D 11 ≤ 1
  · refine ⟨D, fun q _ => by rw [if_pos c], ?_, 1, by decide, fun q _ => by rw [Int.one_mul]⟩
    rcases (show gU D 11 = 0 ∨ gU D 11 = 1 by omega) with h | h
    · exact Or.inl (gU_zero h)
    · exact Or.inr h
  · have hd : ∀ q, q < 11 → D q = (gU D 11 : Int) * (D q / (gU D 11 : Int)) := by
      intro q hq
      have := gU_dvd D 11 q hq
      rw [Int.mul_ediv_cancel' (Int.ofNat_dvd_left.mpr this)]
    refine ⟨fun q => D q / (gU D 11 : Int), fun q _ => by rw [if_neg c], Or.inr ?_, (gU D 11 : Int), by omega, hd⟩
    have := gU_mul 11 hd
    rw [Int.natAbs_natCast] at this
    have h2 : gU D 11 * gU (fun q => D q / (gU D 11 : Int)) 11 = gU D 11 * 1 := by omega
    exact Nat.eq_of_mul_eq_mul_left (by omega) h2
/-- a class row, in the reference's columns -/
def XC (u : Nat) (b : Nat → Int) (q : Nat) : Int := if q = 10 then b u else if q < u then b q else 0
theorem XC_lt {u q : Nat} (hu : u ≤ 10) (hq : q < u) (b : Nat → Int) : XC u b q = b q := by
  unfold XC
  rw [if_neg (by omega), if_pos hq]
theorem XC_10 (u : Nat) (b : Nat → Int) : XC u b 10 = b u := if_pos rfl
theorem XC_0 {u q : Nat} (h1 : u ≤ q) (h2 : q < 10) (b : Nat → Int) : XC u b q = 0 := by
  unfold XC
  rw [if_neg (by omega), if_neg (by omega)]
/-- one row of a step, on both sides -/
theorem pr_step {u c : Nat} {bk br b' rk rr r' : Nat → Int} {e : Int} (hu : u ≤ 10) (hc : c < u) (he : e ≠ 0) (hk : PR (XC u bk) rk) (hr : PR (XC u br) rr) (hp : br c ≠ 0) (hb : ∀ j, e * b' j = br c * bk j - bk c * br j) (hpk : prim rk) (h' : (rk c = 0 ∧ r' = rk) ∨ (rk c ≠ 0 ∧ prim r' ∧ ∃ m : Int, m ≠ 0 ∧ ∀ q, q < 11 → rk q * rr c - rr q * rk c = m * r' q)) : PR (XC u b') r' := by
  obtain ⟨l, hl, hbk⟩ := id hk
  obtain ⟨l2, hl2, hbr⟩ := id hr
  have c1 : bk c = l * rk c := by rw [← XC_lt hu hc bk]; exact hbk c (by omega)
  have c2 : br c = l2 * rr c := by rw [← XC_lt hu hc br]; exact hbr c (by omega)
  have hx : ∀ q, q < 11 → e * XC u b' q = br c * XC u bk q - bk c * XC u br q := by
    intro q hq
    unfold XC
    by_cases q1 : q = 10
    · rw [if_pos q1, if_pos q1, if_pos q1]; exact hb u
    · rw [if_neg q1, if_neg q1, if_neg q1]
      by_cases q2 : q < u
      · rw [if_pos q2, if_pos q2, if_pos q2]; exact hb q
      · rw [if_neg q2, if_neg q2, if_neg q2]; simp
  rcases h' with ⟨h0, rfl⟩ | ⟨h0, hpr, m, hm, hd⟩
  · refine pr_div he (m := br c * l) (Int.mul_ne_zero hp hl) (fun q hq => ?_) hpk
    rw [hx q hq, c1, h0, hbk q hq]
    grind
  · refine pr_div he (m := l * l2 * m) (Int.mul_ne_zero (Int.mul_ne_zero hl hl2) hm) (fun q hq => ?_) hpr
    have := hd q hq
    rw [hx q hq, c1, c2, hbk q hq, hbr q hq]
    grind
