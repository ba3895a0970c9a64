/-! loops and steps of the decompiled functions -/
theorem zb_s {α β : Type} (a : α) (k : α → Option β) : zb (some a) k = k a := rfl
theorem zl_e {α β : Type} (a : α) (k : α → Option β) : zl a k = k a := rfl
theorem zc_in {β : Type} {i : Int32} {n : Nat} {k : Option β} (h : vp_in i n) : zc i n k = k := if_neg h
theorem zc_nI {β : Type} {j n : Nat} {k : Option β} (h : j < n) (hn : n < 2 ^ 31) : zc (nI j) n k = k := zc_in (vp_in_nI h hn)
theorem zc_l {β : Type} {i : Int32} {n : Nat} {k : Option β} (h : decide (i < 0 ∨ n ≤ i.toNatClampNeg) = false) : zc i n k = k := if_neg (of_decide_eq_false h)
theorem zn_ne {β : Type} {y : Int32} {k : Option β} (h : ¬ y = 0) : zn y k = k := if_neg h
theorem znl_ne {β : Type} {y : Int64} {k : Option β} (h : ¬ y = 0) : znl y k = k := if_neg h
theorem zz_in {β : Type} {v : Int32} {k : Option β} (h : v = 0 ∨ v = 1) : zz v k = k := if_pos h
theorem zp_step {σ : Type} {body : σ → Option (Nat × σ)} {n : Nat} {v w : σ} (h : body v = some (0, w)) : zp body (n + 1) v = zp body n w := by
  show zb (body v) _ = _
  rw [h, zb_s]
  exact if_pos rfl
theorem zp_stop {σ : Type} {body : σ → Option (Nat × σ)} {n t : Nat} {v w : σ} (h : body v = some (t, w)) (ht : ¬ t = 0) : zp body (n + 1) v = some (t, w) := by
  show zb (body v) _ = _
  rw [h, zb_s]
  exact if_neg ht
theorem zp_for {σ : Type} {body : σ → Option (Nat × σ)} (S : Nat → σ) (N : Nat) {t : Nat} {w : σ} (ht : ¬ t = 0) (hs : ∀ j, j < N → body (S j) = some (0, S (j + 1))) (he : body (S N) = some (t, w)) : ∀ n k, k ≤ N → N < n + k → zp body n (S k) = some (t, w) := by
  intro n
  induction n with
  | zero => intro k h1 h2; omega
  | succ n ih =>
    intro k h1 h2
    by_cases c : k = N
    · subst c; exact zp_stop he ht
    · rw [zp_step (hs k (by omega))]
      exact ih (k + 1) (by omega) (by omega)
theorem zp_0 {σ : Type} {body : σ → Option (Nat × σ)} (S : Nat → σ) (N : Nat) {t : Nat} {v w : σ} (hv : v = S 0) (hN : N < 100000) (ht : ¬ t = 0) (hs : ∀ j, j < N → body (S j) = some (0, S (j + 1))) (he : body (S N) = some (t, w)) : zp body zF v = some (t, w) := by
  subst hv
  exact zp_for S N ht hs he zF 0 (Nat.zero_le _) (by unfold zF; omega)
theorem cl0 : (0 : Int32).toNatClampNeg = 0 := rfl
theorem cl1 : (1 : Int32).toNatClampNeg = 1 := rfl
theorem cl2 : (2 : Int32).toNatClampNeg = 2 := rfl
theorem cl3 : (3 : Int32).toNatClampNeg = 3 := rfl
theorem cl4 : (4 : Int32).toNatClampNeg = 4 := rfl
theorem cl5 : (5 : Int32).toNatClampNeg = 5 := rfl
theorem i32_lt (a b : Int32) : a < b ↔ a.toInt < b.toInt := Int32.lt_iff_toInt_lt
theorem i32_le (a b : Int32) : a ≤ b ↔ a.toInt ≤ b.toInt := Int32.le_iff_toInt_le
theorem i32_eq (a b : Int32) : a = b ↔ a.toInt = b.toInt := Int32.toInt_inj.symm
theorem i32_nlt (a b : Int32) : ¬ a < b ↔ b ≤ a := by rw [i32_lt, i32_le]; omega
theorem i32_nle (a b : Int32) : ¬ a ≤ b ↔ b < a := by rw [i32_lt, i32_le]; omega
theorem i64_lt (a b : Int64) : a < b ↔ a.toInt < b.toInt := Int64.lt_iff_toInt_lt
theorem i64_le (a b : Int64) : a ≤ b ↔ a.toInt ≤ b.toInt := Int64.le_iff_toInt_le
theorem i64_eq (a b : Int64) : a = b ↔ a.toInt = b.toInt := Int64.toInt_inj.symm
theorem lg_lt (a b : Int64) : lg_cmp a b < 0 ↔ a < b := by
  unfold lg_cmp
  by_cases h1 : b < a
  · have h2 : ¬ a < b := by rw [i64_lt] at *; omega
    simp [h1, h2]
  · by_cases h2 : a = b
    · subst h2; simp [h1]
    · have h3 : a < b := by
        rw [i64_lt] at *
        have : a.toInt ≠ b.toInt := fun e => h2 (Int64.toInt_inj.mp e)
        omega
      simp [h1, h2, h3]
theorem lg_eq (a b : Int64) : lg_cmp a b = 0 ↔ a = b := by
  unfold lg_cmp
  by_cases h1 : b < a
  · have h2 : ¬ a = b := fun e => by subst e; rw [i64_lt] at h1; omega
    simp [h1, h2]
  · by_cases h2 : a = b
    · subst h2; simp [h1]
    · simp [h1, h2]
theorem lg_ge (a b : Int64) : 0 ≤ lg_cmp a b ↔ b ≤ a := by
  have h := lg_lt a b
  rw [← i32_nlt, h, i64_lt, i64_le]; omega
theorem lg_gt (a b : Int64) : 0 < lg_cmp a b ↔ b < a := by
  have h1 := lg_lt a b
  have h2 := lg_eq a b
  have h3 := lg_ge a b
  rw [i64_lt] at h1
  rw [i64_eq] at h2
  rw [i64_le] at h3
  rw [i32_lt] at h1 ⊢
  rw [i32_le] at h3
  rw [i32_eq] at h2
  rw [i64_lt]
  simp at h1 h2 h3 ⊢
  omega
theorem lg_le (a b : Int64) : lg_cmp a b ≤ 0 ↔ a ≤ b := by
  rw [← i32_nlt, lg_gt, i64_lt, i64_le]; omega
theorem w64 (a : Int32) : a.toInt64.toInt = a.toInt := by simp
theorem f_min (a b : Int32) : f_J9_min_7cf53 a b = some (if b < a then b else a) := by unfold f_J9_min_7cf53; split <;> rfl
theorem f_max (a b : Int32) : f_J9_max_7cf53 a b = some (if a < b then b else a) := by unfold f_J9_max_7cf53; split <;> rfl
theorem f_abs (a : Int32) : f_J9_abs_0f7a4 a = some (if 0 ≤ a then a else -a) := by unfold f_J9_abs_0f7a4; split <;> rfl
theorem f_absl (a : Int64) : f_J9_abs_067f4 a = some (if 0 ≤ a then a else -a) := by unfold f_J9_abs_067f4; simp only [lg_ge]; split <;> rfl
theorem f_in (a b c : Int64) : f_X12_in a b c = some (if b ≤ a ∧ a ≤ c then 1 else 0) := by
  unfold f_X12_in
  simp only [lg_lt, lg_gt]
  by_cases h1 : a < b
  · have h2 : ¬ (b ≤ a ∧ a ≤ c) := by rw [i64_le, i64_le]; rw [i64_lt] at h1; omega
    simp [h1, h2]
  · by_cases h3 : c < a
    · have h2 : ¬ (b ≤ a ∧ a ≤ c) := by rw [i64_le, i64_le]; rw [i64_lt] at h3; omega
      simp [h1, h2, h3]
    · have h2 : b ≤ a ∧ a ≤ c := by rw [i64_le, i64_le]; rw [i64_lt] at h1 h3; omega
      simp [h1, h2, h3]
theorem f_inI (a b c : Int32) (B C : Int64) (hb : B = b.toInt64) (hc : C = c.toInt64) : f_X12_in a.toInt64 B C = some (if b ≤ a ∧ a ≤ c then 1 else 0) := by
  rw [f_in, hb, hc]
  congr 1
  by_cases h : b ≤ a ∧ a ≤ c
  · have h2 : b.toInt64 ≤ a.toInt64 ∧ a.toInt64 ≤ c.toInt64 := by rw [i64_le, i64_le, w64, w64, w64, ← i32_le, ← i32_le]; exact h
    simp [h, h2]
  · have h2 : ¬ (b.toInt64 ≤ a.toInt64 ∧ a.toInt64 ≤ c.toInt64) := by rw [i64_le, i64_le, w64, w64, w64, ← i32_le, ← i32_le]; exact h
    simp [h, h2]
/-! the rules: weights and OUT -/
def evw (bits unit top i : Int32) : Int32 := if top = 0 then unit <<< (i &&& 31) else if bits - 2 < i then unit <<< ((bits - 2) &&& 31) else unit <<< (i &&& 31)
def wgt (bits unit top : Int32) (misses : Nat → Int32) (j : Nat) : Int32 := if 0 ≤ evw bits unit top (nI j) + misses j then evw bits unit top (nI j) + misses j else 0
def tkn (bits top c i : Int32) : Int32 := if top = 0 then (if (c >>> (i &&& 31)) &&& 1 = 1 then 1 else 0) else if i < bits - 2 then (if (c >>> (i &&& 31)) &&& 1 = 1 then 1 else 0) else if c >>> ((bits - 2) &&& 31) ≤ i - (bits - 2) then 0 else 1
def oS (bits unit off top : Int32) (misses : Nat → Int32) (c : Int32) : Nat → Int32
  | 0 => off
  | j + 1 => if tkn bits top c (nI j) = 0 then oS bits unit off top misses c j else oS bits unit off top misses c j + wgt bits unit top misses j
/-- how many PARTS -/
def npt (n : Nat) (top : Int32) : Nat := if top = 0 then n else n + 1
theorem x_parts (n : Nat) (top : Int32) : f_X5_parts (nI n) top = some (nI (npt n top)) := by
  unfold f_X5_parts npt
  split
  · rfl
  · rw [show (1 : Int32) = nI 1 from rfl, nI_add]
theorem x_even (i bits unit top : Int32) : f_X5_evenWeight i bits unit top = some (evw bits unit top i) := by
  unfold f_X5_evenWeight evw
  split
  · rfl
  · rw [f_min, zb_s]
    split <;> rfl
theorem x_takes (c i bits top : Int32) : f_X5_takesPart c i bits top = some (tkn bits top c i) := by
  unfold f_X5_takesPart f_X5_takesPart_J42 tkn
  repeat' split
  all_goals first | rfl | contradiction
theorem x_miss {n j : Nat} {top : Int32} {misses : Nat → Int32} (hj : j < npt n top) (h9 : npt n top ≤ 9) : f_X5_missOf (nI j) (nI n) top misses = some (misses j) := by
  unfold f_X5_missOf
  rw [if_neg (nI_pos (by omega)), x_parts, zb_s, if_neg (nI_ge hj (by omega)), if_neg (show ¬ (9 : Int32) ≤ nI j from nI_ge (b := 9) (by omega) (by decide)), zc_nI (by omega) (by decide), nI_clamp (by omega)]
theorem x_weight {n j : Nat} {unit top : Int32} {misses : Nat → Int32} (hj : j < npt n top) (h9 : npt n top ≤ 9) : f_X5_weightOf (nI j) (nI n) unit top misses = some (wgt (nI n) unit top misses j) := by
  unfold f_X5_weightOf
  rw [x_even, zb_s, x_miss hj h9, zb_s, f_max, zb_s]
  unfold wgt
  congr 1
  by_cases h : 0 ≤ evw (nI n) unit top (nI j) + misses j
  · rw [if_pos h]
    by_cases h2 : 0 < evw (nI n) unit top (nI j) + misses j
    · rw [if_pos h2]
    · rw [if_neg h2]
      rw [i32_lt] at h2
      rw [i32_le] at h
      exact (i32_eq _ _).mpr (by omega)
  · rw [if_neg h]
    have h2 : ¬ 0 < evw (nI n) unit top (nI j) + misses j := by rw [i32_lt]; rw [i32_le] at h; omega
    rw [if_neg h2]
theorem x_sum {n : Nat} {unit off top : Int32} {misses : Nat → Int32} (h9 : npt n top ≤ 9) (c : Int32) : f_X8_sumOf c (nI n) unit off top misses = some (oS (nI n) unit off top misses c (npt n top)) := by
  unfold f_X8_sumOf
  rw [x_parts, zb_s, zp_0 (v := (off, 0)) (fun j => (oS (nI n) unit off top misses c j, nI j)) (npt n top) (t := 1) (w := (oS (nI n) unit off top misses c (npt n top), nI (npt n top))) rfl (by omega) (by decide)]
  · rfl
  · intro j hj
    unfold f_X8_sumOf_L19
    simp only []
    rw [if_neg (nI_ge hj (by omega)), x_takes, zb_s]
    simp only [oS, f_X8_sumOf_J50_19, zl_e]
    split
    · rw [nI_1]
    · rw [x_weight hj h9, zb_s, nI_1]
  · unfold f_X8_sumOf_L19
    simp only []
    rw [if_pos (nI_le (Nat.le_refl _) (by omega))]
/-- the rules of both sides are the same, and within their bounds -/
def RI (n : Nat) (unit off top lean ref : Int32) (misses resistors holds : Nat → Int32) : Prop :=
  (2 ≤ n ∧ n ≤ 8) ∧ holds 0 = nI n ∧ holds 1 = unit ∧ holds 2 = off ∧ holds 3 = top ∧ holds 4 = lean ∧ holds 5 = ref ∧ (∀ i, i < 9 → holds (6 + i) = misses i) ∧ (∀ i, i < 16 → holds (15 + i) = resistors i) ∧ (top = 0 ∨ top = 1) ∧ (1 ≤ unit.toInt ∧ unit.toInt ≤ 99) ∧ (-999 ≤ off.toInt ∧ off.toInt ≤ 999) ∧ (-999 ≤ lean.toInt ∧ lean.toInt ≤ 999) ∧ (1 ≤ ref.toInt ∧ ref.toInt ≤ 999) ∧ (∀ i, i < 9 → -999 ≤ (misses i).toInt ∧ (misses i).toInt ≤ 999) ∧ (∀ i, i < 16 → 1 ≤ (resistors i).toInt ∧ (resistors i).toInt ≤ 99) ∧ (top = 1 → 3 ≤ n)
theorem npt_le {n : Nat} {top : Int32} (h : n ≤ 8) : npt n top ≤ 9 := by unfold npt; split <;> omega
section
variable {n : Nat} {unit off top lean ref : Int32} {misses resistors holds : Nat → Int32} (hR : RI n unit off top lean ref misses resistors holds)
theorem m_parts (hR : RI n unit off top lean ref misses resistors holds) : f_X12_parts holds = some (nI (npt n top)) := by
  obtain ⟨hn, h0, h1, h2, h3, h4, h5, h6, h7, ht, -⟩ := hR
  unfold f_X12_parts
  rw [zc_l rfl, zc_l rfl, cl0, cl3, h0, h3]
  unfold npt
  rcases ht with rfl | rfl
  · rw [if_pos rfl]; simp
  · rw [if_neg (by decide), show (1 : Int32) = nI 1 from rfl, nI_add]
theorem m_taken (hR : RI n unit off top lean ref misses resistors holds) (i c : Int32) : f_X12_isTaken i c holds = some (tkn (nI n) top c i) := by
  obtain ⟨hn, h0, h1, h2, h3, h4, h5, h6, h7, ht, -⟩ := hR
  unfold f_X12_isTaken f_X12_isTaken_J41 tkn
  rw [zc_l rfl, zl_e, zc_l rfl, cl0, cl3, h0, h3]
  rcases ht with rfl | rfl
  · rw [if_neg (show ¬ (0 : Int32) = 1 by decide), if_pos rfl]; split <;> rfl
  · rw [if_pos rfl, if_neg (show ¬ (1 : Int32) = 0 by decide)]
    repeat' split
    all_goals first | rfl | contradiction
theorem m_nominal (hR : RI n unit off top lean ref misses resistors holds) (i : Int32) : f_X12_nominal i holds = some (evw (nI n) unit top i) := by
  obtain ⟨hn, h0, h1, h2, h3, h4, h5, h6, h7, ht, -⟩ := hR
  unfold f_X12_nominal evw
  rw [zc_l rfl, zl_e, zc_l rfl, zc_l rfl, cl0, cl1, cl3, h0, h1, h3]
  rcases ht with rfl | rfl
  · rw [if_neg (show ¬ (0 : Int32) = 1 by decide), if_pos rfl]
  · rw [if_pos rfl, if_neg (show ¬ (1 : Int32) = 0 by decide)]
    by_cases h : nI n - 2 < i
    · rw [if_pos h, if_neg (by rw [i32_nle]; exact h)]
    · rw [if_neg h, if_pos ((i32_nlt _ _).mp h)]
theorem m_weight (hR : RI n unit off top lean ref misses resistors holds) {j : Nat} (hj : j < 9) : f_X12_weight (nI j) holds = some (wgt (nI n) unit top misses j) := by
  have hm := m_nominal hR (nI j)
  obtain ⟨hn, h0, h1, h2, h3, h4, h5, h6, h7, ht, -⟩ := hR
  unfold f_X12_weight
  rw [hm, zb_s, show (6 : Int32) + nI j = nI (6 + j) from by rw [← nI_add]; rfl, zc_nI (by omega) (by decide), nI_clamp (by omega), h6 j hj, zl_e]
  unfold wgt
  split <;> rfl
theorem m_out (hR : RI n unit off top lean ref misses resistors holds) (c : Int32) : f_X12_outOf c holds = some (oS (nI n) unit off top misses c (npt n top)) := by
  have h9 : npt n top ≤ 9 := npt_le hR.1.2
  have hp := m_parts hR
  have htk := m_taken hR
  have hw := @m_weight _ _ _ _ _ _ _ _ _ hR
  obtain ⟨hn, h0, h1, h2, h3, h4, h5, h6, h7, ht, -⟩ := hR
  unfold f_X12_outOf
  rw [zc_l rfl, zl_e, cl2, h2, zp_0 (v := (off, 0)) (fun j => (oS (nI n) unit off top misses c j, nI j)) (npt n top) (t := 1) (w := (oS (nI n) unit off top misses c (npt n top), nI (npt n top))) rfl (by omega) (by decide)]
  · rfl
  · intro j hj
    unfold f_X12_outOf_L9
    simp only []
    rw [hp, zb_s, if_neg (nI_ge hj (by omega)), htk, zb_s]
    simp only [oS, f_X12_outOf_J36_9, zl_e]
    split
    · simp [nI_1]
    · rw [hw (by omega), zb_s, nI_1]
  · unfold f_X12_outOf_L9
    simp only []
    rw [hp, zb_s, if_pos (nI_le (Nat.le_refl _) (by omega))]
end
