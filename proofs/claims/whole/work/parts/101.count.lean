/-! counting bits on both sides -/
theorem x_bitCount {u : Nat} (h : u < 32768) : f_J6_bitCount_0f7a4 (nI u) = some (nI (pS u 16)) := by
  rw [← bc_eq h]
  have b1 : (u / 2 ^ 1) &&& 1431655765 ≤ u / 2 ^ 1 := Nat.and_le_left
  have c1 : t1 u ≤ u := Nat.sub_le _ _
  have b2 : t1 u &&& 858993459 ≤ t1 u := Nat.and_le_left
  have b3 : (t1 u / 4) &&& 858993459 ≤ t1 u / 4 := Nat.and_le_left
  have c2 : t2 u ≤ 2 * u := by unfold t2; omega
  have b4 : (t2 u + t2 u / 16) &&& 252645135 ≤ t2 u + t2 u / 16 := Nat.and_le_left
  have c3 : t3 u ≤ 4 * u := by unfold t3; omega
  have c4 : t4 u ≤ 8 * u := by unfold t4; omega
  unfold f_J6_bitCount_0f7a4
  have e1 : nI u - (((nI u).toUInt32 >>> ((1 : Int32).toUInt32 &&& Int32.toUInt32 31)).toInt32 &&& (1431655765 : Int32)) = nI (t1 u) := by
    rw [pk_ushrN (by omega) 1 1 (by decide), show (1431655765 : Int32) = nI 1431655765 from rfl, fa_and, pk_sub (by have := Nat.div_le_self u (2 ^ 1); omega)]
    rfl
  rw [e1, zl_e]
  have e2 : (nI (t1 u) &&& (858993459 : Int32)) + (((nI (t1 u)).toUInt32 >>> ((2 : Int32).toUInt32 &&& Int32.toUInt32 31)).toInt32 &&& (858993459 : Int32)) = nI (t2 u) := by
    rw [pk_ushrN (by omega) 2 2 (by decide), show (858993459 : Int32) = nI 858993459 from rfl, fa_and, fa_and, nI_add]
    rfl
  rw [e2, zl_e]
  have e3 : (nI (t2 u) + ((nI (t2 u)).toUInt32 >>> ((4 : Int32).toUInt32 &&& Int32.toUInt32 31)).toInt32) &&& (252645135 : Int32) = nI (t3 u) := by
    rw [pk_ushrN (by omega) 4 4 (by decide), show (252645135 : Int32) = nI 252645135 from rfl, nI_add, fa_and]
    rfl
  rw [e3, zl_e]
  have e4 : nI (t3 u) + ((nI (t3 u)).toUInt32 >>> ((8 : Int32).toUInt32 &&& Int32.toUInt32 31)).toInt32 = nI (t4 u) := by
    rw [pk_ushrN (by omega) 8 8 (by decide), nI_add]
    rfl
  rw [e4, zl_e]
  have e5 : nI (t4 u) + ((nI (t4 u)).toUInt32 >>> ((16 : Int32).toUInt32 &&& Int32.toUInt32 31)).toInt32 = nI (t5 u) := by
    rw [pk_ushrN (by omega) 16 16 (by decide), nI_add]
    rfl
  rw [e5, zl_e, show (63 : Int32) = nI 63 from rfl, fa_and]
  rfl
theorem bit_at {u j : Nat} (hu : u < 2 ^ 31) (hj : j < 32) : (nI u >>> (nI j &&& 31)) &&& 1 = nI (u / 2 ^ j % 2) := by
  rw [pk_shrN hu (nI j &&& 31) j (s_l j hj), pk_andN (by have := Nat.div_le_self u (2 ^ j); omega) 1 (by decide)]
theorem m_countOf {u : Nat} (h : u < 32768) : f_X12_countOf (nI u) = some (nI (pS u 16)) := by
  unfold f_X12_countOf
  rw [zp_0 (v := (0, 0)) (fun j => (nI (pS u j), nI j)) 16 (t := 1) (w := (nI (pS u 16), nI 16)) rfl (by omega) (by decide)]
  · rfl
  · intro j hj
    unfold f_X12_countOf_L4
    simp only []
    rw [if_neg (show ¬ (16 : Int32) ≤ nI j from nI_ge (b := 16) hj (by decide)), zl_e, zl_e, bit_at (by omega) (by omega), nI_add, nI_1]
    rfl
  · unfold f_X12_countOf_L4
    simp only []
    rw [if_pos (show (16 : Int32) ≤ nI 16 by decide)]
theorem m_edgeOf {u : Nat} (h : u < 32768) : f_X12_edgeOf (nI u) = some (nI (tN 16 u)) := by
  unfold f_X12_edgeOf
  obtain ⟨a, e, hQ⟩ := zp_i (f := f_X12_edgeOf_L2 (nI u)) (s := (0 : Int32)) (fun j s => s = nI j ∧ tN 16 u = j + tN (16 - j) (u / 2 ^ j)) (fun a => a.2 = nI (tN 16 u)) 15 (by omega) ⟨rfl, by simp⟩ (by
    rintro j s hj ⟨rfl, ht⟩
    unfold f_X12_edgeOf_L2
    rw [bit_at (by omega) (by omega)]
    rw [show 16 - j = (15 - j) + 1 by omega] at ht
    rw [tN_s (15 - j)] at ht
    by_cases c : u / 2 ^ j % 2 = 1
    · rw [c, if_pos (show nI 1 = (1 : Int32) from rfl), zl_e, nI_1]
      rw [if_pos c, Nat.div_div_eq_div_mul, ← Nat.pow_add_one] at ht
      have hj2 : j < 15 := by
        rcases Nat.lt_or_ge j 15 with h' | h'
        · exact h'
        · have : j = 15 := by omega
          subst this
          omega
      exact Or.inl ⟨hj2, _, rfl, rfl, by rw [show 16 - (j + 1) = 15 - j by omega]; omega⟩
    · have c2 : u / 2 ^ j % 2 = 0 := by omega
      rw [c2, if_neg (show ¬ nI 0 = (1 : Int32) by decide)]
      rw [if_neg c] at ht
      exact Or.inr ⟨_, rfl, (by decide : ¬ (1 : Nat) = 0), by rw [ht]; rfl⟩)
  rw [e, zb_s]
  exact congrArg some hQ
theorem nI_xm1 (a : Nat) : nI a ^^^ (-1 : Int32) = nI (a ^^^ 4294967295) := by
  rw [show (-1 : Int32) = nI 4294967295 from rfl, fb_xorI]
theorem x_saying {u : Nat} (h : u < 32768) : f_X0_saying (nI u) = some (nI (pS u 16)) := by
  unfold f_X0_saying
  rw [x_bitCount h, zb_s]
theorem x_edge {u : Nat} (h : u < 32768) : f_X0_edge (nI u) = some (nI (tN 16 u)) := by
  unfold f_X0_edge
  have b : u &&& ((u + 1) ^^^ 4294967295) ≤ u := Nat.and_le_left
  rw [nI_1, nI_xm1, fa_and, x_bitCount (by omega), zb_s, eg_eq h]
theorem bub {u : Nat} (h : u < 32768) : f_X0_bubbles (nI u) = f_X12_countOf ((nI u >>> ((1 : Int32) &&& 31)) &&& (nI u ^^^ (-1 : Int32))) := by
  unfold f_X0_bubbles
  have b : u / 2 ^ 1 &&& (u ^^^ 4294967295) ≤ u / 2 ^ 1 := Nat.and_le_left
  rw [nI_xm1, pk_shrN (by omega) ((1 : Int32) &&& 31) 1 (by decide), fa_and, fa_and, Nat.and_comm (u ^^^ 4294967295), x_bitCount (by omega), zb_s, m_countOf (by omega)]
