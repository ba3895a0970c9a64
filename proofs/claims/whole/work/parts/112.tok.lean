/-! text: tokens on both sides -/
/-- the kind of a byte -/
def kc (t : Int32) : Int32 := if 97 ≤ t.toInt ∧ t.toInt ≤ 122 then 1 else if 48 ≤ t.toInt ∧ t.toInt ≤ 57 then 2 else if t.toInt = 32 then 6 else if t.toInt = 45 then 3 else if t.toInt = 59 then 4 else 5
def TB (k : Nat) (bytes tape : Nat → Int32) : Prop := k ≤ 200 ∧ ∀ j, j < k → bytes j = (tape j).toInt8.toInt32 ∧ 0 ≤ (tape j).toInt ∧ (tape j).toInt ≤ 255
theorem byte_v {t : Int32} (h : 0 ≤ t.toInt ∧ t.toInt ≤ 255) : t.toInt8.toInt32.toInt = if t.toInt < 128 then t.toInt else t.toInt - 256 := by
  have h3 : t.toInt8.toInt32.toInt = (t.toInt).bmod 256 := by simp
  rw [h3, Int.bmod_def]
  split <;> split <;> omega
theorem lit (k : Nat) (h : k < 2 ^ 31) : (OfNat.ofNat k : Int32).toInt = (k : Int) := nIt h
section
variable {k : Nat} {bytes tape : Nat → Int32}
theorem x_kindAt (h : TB k bytes tape) {i : Nat} (hi : i < k) : f_X9_kindAt (nI i) (nI k) bytes = some (kc (tape i)) := by
  obtain ⟨hk, hb⟩ := h
  obtain ⟨e, ht⟩ := hb i hi
  have hv := byte_v ht
  unfold f_X9_kindAt
  rw [if_neg (nI_pos (by omega)), if_neg (nI_ge hi (by omega)), if_pos (show nI i < (200 : Int32) from nI_lt (b := 200) (by omega) (by decide)), zc_nI (by omega) (by decide), zl_e, nI_clamp (by omega), e]
  unfold f_X9_kindAt_J44 f_X9_kindAt_J58 kc
  generalize (tape i).toInt8.toInt32 = B at hv ⊢
  simp only [i32_lt, i32_eq, lit 97 (by decide), lit 122 (by decide), lit 48 (by decide), lit 57 (by decide), lit 32 (by decide), lit 45 (by decide), lit 59 (by decide)]
  rw [hv]
  generalize (tape i).toInt = T at ht ⊢
  by_cases c0 : T < 128
  · rw [if_pos c0]
    repeat' split
    all_goals first | rfl | (exfalso; omega)
  · rw [if_neg c0]
    repeat' split
    all_goals first | rfl | (exfalso; omega)
theorem x_kindEnd (h : TB k bytes tape) : f_X9_kindAt (nI k) (nI k) bytes = some 0 := by
  obtain ⟨hk, -⟩ := h
  unfold f_X9_kindAt
  rw [if_neg (nI_pos (by omega)), if_pos (nI_le (Nat.le_refl _) (by omega))]
theorem m_byte (h : TB k bytes tape) {i : Nat} (hi : i < k) : f_X12_byteAt (nI i) (nI k) tape = some (tape i) := by
  obtain ⟨hk, -⟩ := h
  unfold f_X12_byteAt
  rw [if_neg (nI_ge hi (by omega)), zc_nI (by omega) (by decide), nI_clamp (by omega)]
theorem m_byteEnd (h : TB k bytes tape) : f_X12_byteAt (nI k) (nI k) tape = some (-4) := by
  obtain ⟨hk, -⟩ := h
  unfold f_X12_byteAt
  rw [if_pos (nI_le (Nat.le_refl _) (by omega))]
/-- from p to e all bytes are of kind d, and e is the end of them -/
def run (k : Nat) (tape : Nat → Int32) (d : Int32) (p e : Nat) : Prop := p ≤ e ∧ e ≤ k ∧ (∀ i, p ≤ i → i < e → kc (tape i) = d) ∧ (e = k ∨ ¬ kc (tape e) = d)
theorem run_one {d : Int32} {p e e' : Nat} (h : run k tape d p e) (h' : run k tape d p e') : e = e' := by
  obtain ⟨a1, a2, a3, a4⟩ := h
  obtain ⟨b1, b2, b3, b4⟩ := h'
  rcases Nat.lt_trichotomy e e' with c | c | c
  · rcases a4 with a4 | a4
    · omega
    · exact absurd (b3 e a1 c) a4
  · exact c
  · rcases b4 with b4 | b4
    · omega
    · exact absurd (a3 e' b1 c) b4
theorem run_ex (tape : Nat → Int32) (d : Int32) {p : Nat} (hp : p ≤ k) : ∃ e, run k tape d p e := by
  have : ∀ f p, p ≤ k → k - p ≤ f → ∃ e, run k tape d p e := by
    intro f
    induction f with
    | zero => intro p h1 h2; exact ⟨p, Nat.le_refl _, h1, fun i hi hi2 => by omega, Or.inl (by omega)⟩
    | succ f ih =>
      intro p h1 h2
      by_cases c : p = k
      · exact ⟨p, Nat.le_refl _, h1, fun i hi hi2 => by omega, Or.inl c⟩
      · by_cases d' : kc (tape p) = d
        · obtain ⟨e, q1, q2, q3, q4⟩ := ih (p + 1) (by omega) (by omega)
          exact ⟨e, by omega, q2, fun i hi hi2 => by
            by_cases c2 : i = p
            · subst c2; exact d'
            · exact q3 i (by omega) hi2, q4⟩
        · exact ⟨p, Nat.le_refl _, h1, fun i hi hi2 => by omega, Or.inr d'⟩
  exact this (k - p) p hp (Nat.le_refl _)
theorem run_in {d : Int32} {p e i : Nat} (h : run k tape d p e) (h1 : p ≤ i) (h2 : i ≤ e) : (i < e ∧ i < k ∧ kc (tape i) = d) ∨ (i = e ∧ (i = k ∨ (i < k ∧ ¬ kc (tape i) = d))) := by
  obtain ⟨a1, a2, a3, a4⟩ := h
  by_cases c : i < e
  · exact Or.inl ⟨c, by omega, a3 i h1 c⟩
  · have : i = e := by omega
    subst this
    right
    refine ⟨rfl, ?_⟩
    rcases a4 with a4 | a4
    · exact Or.inl a4
    · by_cases ck : i = k
      · exact Or.inl ck
      · exact Or.inr ⟨by omega, a4⟩
theorem x_skip (h : TB k bytes tape) {b e : Nat} (hr : run k tape 6 b e) : zp (f_X9_advance_L8 (nI k) bytes) zF (nI b) = some (1, nI e) := by
  have hk := h.1
  have hr2 := hr
  obtain ⟨a1, a2, a3, a4⟩ := hr2
  rw [zp_0 (v := nI b) (fun j => nI (b + j)) (e - b) (t := 1) (w := nI e) rfl (by omega) (by decide)]
  · intro j hj
    unfold f_X9_advance_L8
    rw [if_neg (nI_ge (by omega) (by omega)), x_kindAt h (by omega), zb_s, a3 (b + j) (by omega) (by omega), if_pos rfl, zl_e, nI_1]
    rfl
  · rw [show b + (e - b) = e by omega]
    unfold f_X9_advance_L8
    by_cases c : e = k
    · subst c; rw [if_pos (nI_le (Nat.le_refl _) (by omega))]
    · rw [if_neg (nI_ge (by omega) (by omega)), x_kindAt h (by omega), zb_s, if_neg (a4.resolve_left c)]
theorem m_skip (h : TB k bytes tape) {b e : Nat} (hr : run k tape 6 b e) : zp (f_X12_next_L8 (nI k) tape) zF (nI b) = some (1, nI e) := by
  have hk := h.1
  have key : ∀ t : Int32, kc t = 6 ↔ t = 32 := by
    intro t
    have e32 : (32 : Int32).toInt = 32 := rfl
    rw [i32_eq t 32, e32]
    unfold kc
    constructor
    · intro hh
      repeat' split at hh
      all_goals first | omega | exact absurd hh (by decide)
    · intro hh
      rw [if_neg (by omega), if_neg (by omega), if_pos hh]
  obtain ⟨a1, a2, a3, a4⟩ := id hr
  rw [zp_0 (v := nI b) (fun j => nI (b + j)) (e - b) (t := 1) (w := nI e) rfl (by omega) (by decide)]
  · intro j hj
    unfold f_X12_next_L8
    rw [m_byte h (by omega), zb_s, if_pos ((key _).mp (a3 (b + j) (by omega) (by omega))), zl_e, nI_1]
    rfl
  · rw [show b + (e - b) = e by omega]
    unfold f_X12_next_L8
    by_cases c : e = k
    · subst c; rw [m_byteEnd h, zb_s, if_neg (by decide)]
    · rw [m_byte h (by omega), zb_s, if_neg (fun hh => (a4.resolve_left c) ((key _).mpr hh))]
theorem x_more (h : TB k bytes tape) {d : Int32} {p e : Nat} (hp : p < k) (hd : kc (tape p) = d) (hr : run k tape d p e) : zp (f_X9_advance_L90 (nI k) d bytes) zF (nI (p + 1)) = some (1, nI e) := by
  have hk := h.1
  obtain ⟨a1, a2, a3, a4⟩ := id hr
  have hpe : p < e := by
    rcases a4 with a4 | a4
    · omega
    · rcases Nat.lt_or_ge p e with c | c
      · exact c
      · have : e = p := by omega
        subst this; exact absurd hd a4
  rw [zp_0 (v := nI (p + 1)) (fun j => nI (p + 1 + j)) (e - (p + 1)) (t := 1) (w := nI e) rfl (by omega) (by decide)]
  · intro j hj
    unfold f_X9_advance_L90
    rw [if_neg (nI_ge (by omega) (by omega)), x_kindAt h (by omega), zb_s, a3 (p + 1 + j) (by omega) (by omega), if_pos rfl, zl_e, nI_1]
    rfl
  · rw [show p + 1 + (e - (p + 1)) = e by omega]
    unfold f_X9_advance_L90
    by_cases c : e = k
    · subst c; rw [if_pos (nI_le (Nat.le_refl _) (by omega))]
    · rw [if_neg (nI_ge (by omega) (by omega)), x_kindAt h (by omega), zb_s, if_neg (a4.resolve_left c)]
theorem in_lt (t : Int32) : f_X12_in t.toInt64 97 122 = some (if kc t = 1 then 1 else 0) := by
  rw [f_inI t 97 122 97 122 rfl rfl]
  congr 1
  have e : (97 ≤ t ∧ t ≤ 122) ↔ kc t = 1 := by
    have e97 : (97 : Int32).toInt = 97 := rfl
    have e122 : (122 : Int32).toInt = 122 := rfl
    rw [i32_le, i32_le, e97, e122]
    unfold kc
    constructor
    · intro hh; rw [if_pos hh]
    · intro hh
      repeat' split at hh
      all_goals first | assumption | exact absurd hh (by decide)
  by_cases c : kc t = 1
  · rw [if_pos c, if_pos (e.mpr c)]
  · rw [if_neg c, if_neg (fun hh => c (e.mp hh))]
theorem in_dg (t : Int32) : f_X12_in t.toInt64 48 57 = some (if kc t = 2 then 1 else 0) := by
  rw [f_inI t 48 57 48 57 rfl rfl]
  congr 1
  have e : (48 ≤ t ∧ t ≤ 57) ↔ kc t = 2 := by
    have e48 : (48 : Int32).toInt = 48 := rfl
    have e57 : (57 : Int32).toInt = 57 := rfl
    rw [i32_le, i32_le, e48, e57]
    unfold kc
    constructor
    · intro hh; rw [if_neg (by omega), if_pos hh]
    · intro hh
      repeat' split at hh
      all_goals first | assumption | exact absurd hh (by decide)
  by_cases c : kc t = 2
  · rw [if_pos c, if_pos (e.mpr c)]
  · rw [if_neg c, if_neg (fun hh => c (e.mp hh))]
theorem m_word (h : TB k bytes tape) {p e : Nat} (hr : run k tape 1 p e) : zp (f_X12_next_L84 (nI k) tape) zF (nI p) = some (1, nI e) := by
  have hk := h.1
  obtain ⟨a1, a2, a3, a4⟩ := id hr
  rw [zp_0 (v := nI p) (fun j => nI (p + j)) (e - p) (t := 1) (w := nI e) rfl (by omega) (by decide)]
  · intro j hj
    unfold f_X12_next_L84
    rw [m_byte h (by omega), zb_s, in_lt, zb_s, a3 (p + j) (by omega) (by omega), if_pos rfl, if_neg n10, zl_e, nI_1]
    rfl
  · rw [show p + (e - p) = e by omega]
    unfold f_X12_next_L84
    by_cases c : e = k
    · subst c; rw [m_byteEnd h, zb_s, in_lt, zb_s, if_neg (show ¬ kc (-4) = 1 by decide), if_pos rfl]
    · rw [m_byte h (by omega), zb_s, in_lt, zb_s, if_neg (a4.resolve_left c), if_pos rfl]
/-- the number of the first j figures -/
def fgN (tape : Nat → Int32) (p : Nat) : Nat → Int32
  | 0 => 0
  | j + 1 => 10 * fgN tape p j + tape (p + j) - 48
theorem fg_b {p e : Nat} (hr : run k tape 2 p e) : ∀ j, j ≤ 3 → p + j ≤ e → ∃ m : Nat, m < 10 ^ j ∧ fgN tape p j = nI m := by
  obtain ⟨a1, a2, a3, a4⟩ := id hr
  intro j
  induction j with
  | zero => intro _ _; exact ⟨0, by decide, rfl⟩
  | succ j ih =>
    intro hj hp
    obtain ⟨m, hm, em⟩ := ih (by omega) (by omega)
    have hd := a3 (p + j) (by omega) (by omega)
    have hb : 48 ≤ (tape (p + j)).toInt ∧ (tape (p + j)).toInt ≤ 57 := by
      unfold kc at hd
      repeat' split at hd
      all_goals first | assumption | exact absurd hd (by decide)
    obtain ⟨t, ht, et⟩ := nI_of (x := tape (p + j)) (by rw [i32_lt]; have : (0 : Int32).toInt = 0 := rfl; omega)
    rw [et, nIt ht] at hb
    have hm2 : m ≤ 99 := by
      have : 10 ^ j ≤ 10 ^ 2 := Nat.pow_le_pow_right (by decide) (by omega)
      omega
    refine ⟨10 * m + t - 48, ?_, ?_⟩
    · rw [Nat.pow_succ]; omega
    · simp only [fgN]
      rw [em, et, show (10 : Int32) = nI 10 from rfl, pk_mul, nI_add, show (48 : Int32) = nI 48 from rfl, pk_sub (by omega)]
theorem fg_byte (h : TB k bytes tape) {p e : Nat} (hr : run k tape 2 p e) {i : Nat} (h1 : p ≤ i) (h2 : i < e) : bytes i = tape i := by
  obtain ⟨a1, a2, a3, a4⟩ := id hr
  have hd := a3 i h1 h2
  have hb : 48 ≤ (tape i).toInt ∧ (tape i).toInt ≤ 57 := by
    unfold kc at hd
    repeat' split at hd
    all_goals first | assumption | exact absurd hd (by decide)
  rw [(h.2 i (by omega)).1]
  exact fb_byte (by omega) (by omega)
theorem x_figs (h : TB k bytes tape) {p e : Nat} (hr : run k tape 2 p e) (h3 : e - p ≤ 3) (num : Int32) : f_X9_readFigures 2 (nI p) num (nI e) bytes = some (2, fgN tape p (e - p)) := by
  have hk := h.1
  obtain ⟨a1, a2, a3, a4⟩ := id hr
  unfold f_X9_readFigures
  rw [pk_sub a1, if_pos (show nI (e - p) ≤ (3 : Int32) from nI_le (b := 3) h3 (by decide)), zp_0 (v := (nI p, 0)) (fun j => (nI (p + j), fgN tape p j)) (e - p) (t := 1) (w := (nI e, fgN tape p (e - p))) rfl (by omega) (by decide)]
  · rfl
  · intro j hj
    unfold f_X9_readFigures_L29
    simp only []
    rw [if_neg (nI_ge (by omega) (by omega)), if_neg (show ¬ (200 : Int32) ≤ nI (p + j) from nI_ge (b := 200) (by omega) (by decide)), zc_nI (by omega) (by decide), zl_e, zl_e, nI_1, nI_clamp (by omega), fg_byte h hr (by omega) (by omega), Int32.mul_comm]
    rfl
  · rw [show p + (e - p) = e by omega]
    unfold f_X9_readFigures_L29
    simp only []
    rw [if_pos (nI_le (Nat.le_refl _) (by omega))]
theorem m_figs (h : TB k bytes tape) {p e : Nat} (hr : run k tape 2 p e) : ∃ val, zp (f_X12_next_L145 (nI k) (nI p) tape) zF (nI p, 0) = some (1, (nI e, val)) ∧ (e - p ≤ 3 → val = fgN tape p (e - p)) := by
  have hk := h.1
  obtain ⟨a1, a2, a3, a4⟩ := id hr
  obtain ⟨a, ea, val, rfl, hv⟩ := zp_i (f := f_X12_next_L145 (nI k) (nI p) tape) (s := (nI p, 0)) (fun j w => ∃ val, w = (nI (p + j), val) ∧ (j ≤ 3 → val = fgN tape p j)) (fun a => ∃ val, a = (1, (nI e, val)) ∧ (e - p ≤ 3 → val = fgN tape p (e - p))) (e - p) (by omega) ⟨0, rfl, fun _ => rfl⟩ (by
    rintro j w hj ⟨val, rfl, hv⟩
    unfold f_X12_next_L145
    simp only []
    by_cases c : j = e - p
    · right
      have hpe : p + j = e := by omega
      rw [hpe]
      have stop : ∀ t : Int32, (¬ kc t = 2) → ∃ a, (zb (f_X12_in t.toInt64 48 57) fun z160 => if z160 = 0 then some (1, (nI e, val)) else if 3 ≤ nI e - nI p then f_X12_next_J206_145 val (nI e) else zb (f_X12_byteAt (nI e) (nI k) tape) fun z192 => f_X12_next_J206_145 (10 * val + z192 - 48) (nI e)) = some a ∧ ¬ a.1 = 0 ∧ ∃ val, a = (1, (nI e, val)) ∧ (e - p ≤ 3 → val = fgN tape p (e - p)) := by
        intro t ht
        rw [in_dg, if_neg ht, zb_s, if_pos rfl]
        exact ⟨_, rfl, (by decide : ¬ (1 : Nat) = 0), val, rfl, fun h3 => by rw [hv (by omega), c]⟩
      by_cases ck : e = k
      · subst ck
        rw [m_byteEnd h, zb_s]
        exact stop (-4) (by decide)
      · have := stop (tape e) (a4.resolve_left ck)
        rw [m_byte h (by omega)] at this
        rw [m_byte h (by omega), zb_s]
        exact this
    · left
      rw [m_byte h (by omega), zb_s, in_dg, a3 (p + j) (by omega) (by omega), if_pos rfl, zb_s, if_neg n10, zb_s, pk_sub (by omega), show p + j - p = j by omega]
      unfold f_X12_next_J206_145
      simp only [zl_e, nI_1]
      refine ⟨by omega, ?_⟩
      by_cases c3 : 3 ≤ j
      · rw [if_pos (show (3 : Int32) ≤ nI j from nI_le (a := 3) c3 (by omega))]
        exact ⟨_, rfl, _, rfl, fun hh => by omega⟩
      · rw [if_neg (show ¬ (3 : Int32) ≤ nI j from nI_ge (b := 3) (by omega) (by decide))]
        exact ⟨_, rfl, _, rfl, fun hh => by rw [hv (by omega)]; rfl⟩)
  exact ⟨val, ea, hv⟩
end
