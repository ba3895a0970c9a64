/-! text: a line -/
def DR (b u o l r t : Int32) (ms rs reads : Nat → Int32) : Prop :=
  ∃ n : Nat, b = nI n ∧ (2 ≤ n ∧ n ≤ 8) ∧ reads 0 = nI n ∧ reads 1 = u ∧ reads 2 = o ∧ reads 3 = t ∧ reads 4 = l ∧ reads 5 = r ∧ (∀ i, i < 9 → reads (6 + i) = ms i) ∧ (∀ i, i < 16 → reads (15 + i) = rs i) ∧ (t = 0 ∨ t = 1) ∧ (1 ≤ u.toInt ∧ u.toInt ≤ 99) ∧ (-999 ≤ o.toInt ∧ o.toInt ≤ 999) ∧ (-999 ≤ l.toInt ∧ l.toInt ≤ 999) ∧ (1 ≤ r.toInt ∧ r.toInt ≤ 999) ∧ (∀ i, i < 9 → -999 ≤ (ms i).toInt ∧ (ms i).toInt ≤ 999) ∧ (∀ i, i < 16 → 1 ≤ (rs i).toInt ∧ (rs i).toInt ≤ 99)
def TR (tl tm tr told : Int32) : Prop := (∀ i, i < 6 → bt told i = bt tl i) ∧ bt tl 6 = false ∧ bt tl 7 = false ∧ (∀ i, i < 9 → bt told (6 + i) = bt tm i) ∧ (∀ i, i < 16 → bt told (15 + i) = bt tr i)
def bitI (i : Nat) : Int32 := (1 : Int32) <<< (nI i &&& 31)
theorem set_b (x : Int32) {i j : Nat} (hi : i < 32) (hj : j < 32) : bt (x ||| bitI i) j = (bt x j || decide (i = j)) := told_set x hi hj
theorem set_n (x : Int32) {i j : Nat} (hi : i < 32) (hj : j < 32) (h : i ≠ j) : bt (x ||| bitI i) j = bt x j := by rw [set_b x hi hj, decide_eq_false h, Bool.or_false]
theorem TR_l {tl tm tr told : Int32} (h : TR tl tm tr told) {i : Nat} (hi : i < 6) : TR (tl ||| bitI i) tm tr (told ||| bitI i) := by
  obtain ⟨h1, h2, h3, h4, h5⟩ := h
  refine ⟨fun j hj => ?_, ?_, ?_, fun j hj => ?_, fun j hj => ?_⟩
  · rw [set_b _ (by omega) (by omega), set_b _ (by omega) (by omega), h1 j hj]
  · rw [set_n _ (by omega) (by omega) (by omega), h2]
  · rw [set_n _ (by omega) (by omega) (by omega), h3]
  · rw [set_n _ (by omega) (by omega) (by omega), h4 j hj]
  · rw [set_n _ (by omega) (by omega) (by omega), h5 j hj]
theorem TR_m {tl tm tr told : Int32} (h : TR tl tm tr told) {i : Nat} (hi : i < 9) : TR tl (tm ||| bitI i) tr (told ||| bitI (6 + i)) := by
  obtain ⟨h1, h2, h3, h4, h5⟩ := h
  refine ⟨fun j hj => ?_, h2, h3, fun j hj => ?_, fun j hj => ?_⟩
  · rw [set_n _ (by omega) (by omega) (by omega), h1 j hj]
  · rw [set_b _ (by omega) (by omega), set_b _ (by omega) (by omega), h4 j hj]
    congr 1
    exact decide_eq_decide.mpr (by omega)
  · rw [set_n _ (by omega) (by omega) (by omega), h5 j hj]
theorem TR_r {tl tm tr told : Int32} (h : TR tl tm tr told) {i : Nat} (hi : i < 16) : TR tl tm (tr ||| bitI i) (told ||| bitI (15 + i)) := by
  obtain ⟨h1, h2, h3, h4, h5⟩ := h
  refine ⟨fun j hj => ?_, h2, h3, fun j hj => ?_, fun j hj => ?_⟩
  · rw [set_n _ (by omega) (by omega) (by omega), h1 j hj]
  · rw [set_n _ (by omega) (by omega) (by omega), h4 j hj]
  · rw [set_b _ (by omega) (by omega), set_b _ (by omega) (by omega), h5 j hj]
    congr 1
    exact decide_eq_decide.mpr (by omega)
theorem ud_s (f : Nat → Int32) (i : Nat) (v : Int32) : upd f i v i = v := by unfold upd; rw [if_pos rfl]
theorem ud_n (f : Nat → Int32) {i j : Nat} (v : Int32) (h : j ≠ i) : upd f i v j = f j := by unfold upd; rw [if_neg h]
section
variable {b u o l r t v : Int32} {ms rs reads : Nat → Int32}
theorem DR_0 (h : DR b u o l r t ms rs reads) (h1 : (2 : Int32) ≤ v) (h2 : v ≤ 8) : DR v u o l r t ms rs (upd reads 0 v) := by
  obtain ⟨n, e, hn, r0, r1, r2, r3, r4, r5, r6, r7, rest⟩ := h
  obtain ⟨j, hj, rfl⟩ := nI_of2 (M := 8) (n := 8) rfl (by rw [i32_nlt]; rw [i32_le] at h1 ⊢; have e : (2 : Int32).toInt = 2 := rfl; have e0 : (0 : Int32).toInt = 0 := rfl; omega) h2
  have hj2 : 2 ≤ j := by
    rw [i32_le, nIt (by omega)] at h1
    have e : (2 : Int32).toInt = 2 := rfl
    omega
  refine ⟨j, rfl, ⟨hj2, hj⟩, ud_s _ _ _, ?_, ?_, ?_, ?_, ?_, fun i hi => ?_, fun i hi => ?_, rest⟩
  · rw [ud_n _ _ (by omega)]; exact r1
  · rw [ud_n _ _ (by omega)]; exact r2
  · rw [ud_n _ _ (by omega)]; exact r3
  · rw [ud_n _ _ (by omega)]; exact r4
  · rw [ud_n _ _ (by omega)]; exact r5
  · rw [ud_n _ _ (by omega)]; exact r6 i hi
  · rw [ud_n _ _ (by omega)]; exact r7 i hi
theorem DR_1 (h : DR b u o l r t ms rs reads) (h1 : 1 ≤ v.toInt) (h2 : v.toInt ≤ 99) : DR b v o l r t ms rs (upd reads 1 v) := by
  obtain ⟨n, e, hn, r0, r1, r2, r3, r4, r5, r6, r7, rt, ru, ro, rl, rr, rm, rz⟩ := h
  refine ⟨n, e, hn, ?_, ud_s _ _ _, ?_, ?_, ?_, ?_, fun i hi => ?_, fun i hi => ?_, rt, ⟨h1, h2⟩, ro, rl, rr, rm, rz⟩
  · rw [ud_n _ _ (by omega)]; exact r0
  · rw [ud_n _ _ (by omega)]; exact r2
  · rw [ud_n _ _ (by omega)]; exact r3
  · rw [ud_n _ _ (by omega)]; exact r4
  · rw [ud_n _ _ (by omega)]; exact r5
  · rw [ud_n _ _ (by omega)]; exact r6 i hi
  · rw [ud_n _ _ (by omega)]; exact r7 i hi
theorem DR_2 (h : DR b u o l r t ms rs reads) (h1 : -999 ≤ v.toInt) (h2 : v.toInt ≤ 999) : DR b u v l r t ms rs (upd reads 2 v) := by
  obtain ⟨n, e, hn, r0, r1, r2, r3, r4, r5, r6, r7, rt, ru, ro, rl, rr, rm, rz⟩ := h
  refine ⟨n, e, hn, ?_, ?_, ud_s _ _ _, ?_, ?_, ?_, fun i hi => ?_, fun i hi => ?_, rt, ru, ⟨h1, h2⟩, rl, rr, rm, rz⟩
  · rw [ud_n _ _ (by omega)]; exact r0
  · rw [ud_n _ _ (by omega)]; exact r1
  · rw [ud_n _ _ (by omega)]; exact r3
  · rw [ud_n _ _ (by omega)]; exact r4
  · rw [ud_n _ _ (by omega)]; exact r5
  · rw [ud_n _ _ (by omega)]; exact r6 i hi
  · rw [ud_n _ _ (by omega)]; exact r7 i hi
theorem DR_3 (h : DR b u o l r t ms rs reads) : DR b u o l r 1 ms rs (upd reads 3 1) := by
  obtain ⟨n, e, hn, r0, r1, r2, r3, r4, r5, r6, r7, rt, ru, ro, rl, rr, rm, rz⟩ := h
  refine ⟨n, e, hn, ?_, ?_, ?_, ud_s _ _ _, ?_, ?_, fun i hi => ?_, fun i hi => ?_, Or.inr rfl, ru, ro, rl, rr, rm, rz⟩
  · rw [ud_n _ _ (by omega)]; exact r0
  · rw [ud_n _ _ (by omega)]; exact r1
  · rw [ud_n _ _ (by omega)]; exact r2
  · rw [ud_n _ _ (by omega)]; exact r4
  · rw [ud_n _ _ (by omega)]; exact r5
  · rw [ud_n _ _ (by omega)]; exact r6 i hi
  · rw [ud_n _ _ (by omega)]; exact r7 i hi
theorem DR_4 (h : DR b u o l r t ms rs reads) (h1 : -999 ≤ v.toInt) (h2 : v.toInt ≤ 999) : DR b u o v r t ms rs (upd reads 4 v) := by
  obtain ⟨n, e, hn, r0, r1, r2, r3, r4, r5, r6, r7, rt, ru, ro, rl, rr, rm, rz⟩ := h
  refine ⟨n, e, hn, ?_, ?_, ?_, ?_, ud_s _ _ _, ?_, fun i hi => ?_, fun i hi => ?_, rt, ru, ro, ⟨h1, h2⟩, rr, rm, rz⟩
  · rw [ud_n _ _ (by omega)]; exact r0
  · rw [ud_n _ _ (by omega)]; exact r1
  · rw [ud_n _ _ (by omega)]; exact r2
  · rw [ud_n _ _ (by omega)]; exact r3
  · rw [ud_n _ _ (by omega)]; exact r5
  · rw [ud_n _ _ (by omega)]; exact r6 i hi
  · rw [ud_n _ _ (by omega)]; exact r7 i hi
theorem DR_5 (h : DR b u o l r t ms rs reads) (h1 : 1 ≤ v.toInt) (h2 : v.toInt ≤ 999) : DR b u o l v t ms rs (upd reads 5 v) := by
  obtain ⟨n, e, hn, r0, r1, r2, r3, r4, r5, r6, r7, rt, ru, ro, rl, rr, rm, rz⟩ := h
  refine ⟨n, e, hn, ?_, ?_, ?_, ?_, ?_, ud_s _ _ _, fun i hi => ?_, fun i hi => ?_, rt, ru, ro, rl, ⟨h1, h2⟩, rm, rz⟩
  · rw [ud_n _ _ (by omega)]; exact r0
  · rw [ud_n _ _ (by omega)]; exact r1
  · rw [ud_n _ _ (by omega)]; exact r2
  · rw [ud_n _ _ (by omega)]; exact r3
  · rw [ud_n _ _ (by omega)]; exact r4
  · rw [ud_n _ _ (by omega)]; exact r6 i hi
  · rw [ud_n _ _ (by omega)]; exact r7 i hi
theorem DR_m (h : DR b u o l r t ms rs reads) {i : Nat} (hi : i < 9) (h1 : -999 ≤ v.toInt) (h2 : v.toInt ≤ 999) : DR b u o l r t (upd ms i v) rs (upd reads (6 + i) v) := by
  obtain ⟨n, e, hn, r0, r1, r2, r3, r4, r5, r6, r7, rt, ru, ro, rl, rr, rm, rz⟩ := h
  refine ⟨n, e, hn, ?_, ?_, ?_, ?_, ?_, ?_, fun j hj => ?_, fun j hj => ?_, rt, ru, ro, rl, rr, fun j hj => ?_, rz⟩
  · rw [ud_n _ _ (by omega)]; exact r0
  · rw [ud_n _ _ (by omega)]; exact r1
  · rw [ud_n _ _ (by omega)]; exact r2
  · rw [ud_n _ _ (by omega)]; exact r3
  · rw [ud_n _ _ (by omega)]; exact r4
  · rw [ud_n _ _ (by omega)]; exact r5
  · by_cases c : j = i
    · subst c; rw [ud_s, ud_s]
    · rw [ud_n _ _ (by omega), ud_n _ _ c]; exact r6 j hj
  · rw [ud_n _ _ (by omega)]; exact r7 j hj
  · by_cases c : j = i
    · subst c; rw [ud_s]; exact ⟨h1, h2⟩
    · rw [ud_n _ _ c]; exact rm j hj
theorem DR_r (h : DR b u o l r t ms rs reads) {i : Nat} (hi : i < 16) (h1 : 1 ≤ v.toInt) (h2 : v.toInt ≤ 99) : DR b u o l r t ms (upd rs i v) (upd reads (15 + i) v) := by
  obtain ⟨n, e, hn, r0, r1, r2, r3, r4, r5, r6, r7, rt, ru, ro, rl, rr, rm, rz⟩ := h
  refine ⟨n, e, hn, ?_, ?_, ?_, ?_, ?_, ?_, fun j hj => ?_, fun j hj => ?_, rt, ru, ro, rl, rr, rm, fun j hj => ?_⟩
  · rw [ud_n _ _ (by omega)]; exact r0
  · rw [ud_n _ _ (by omega)]; exact r1
  · rw [ud_n _ _ (by omega)]; exact r2
  · rw [ud_n _ _ (by omega)]; exact r3
  · rw [ud_n _ _ (by omega)]; exact r4
  · rw [ud_n _ _ (by omega)]; exact r5
  · rw [ud_n _ _ (by omega)]; exact r6 j hj
  · by_cases c : j = i
    · subst c; rw [ud_s, ud_s]
    · rw [ud_n _ _ (by omega), ud_n _ _ c]; exact r7 j hj
  · by_cases c : j = i
    · subst c; rw [ud_s]; exact ⟨h1, h2⟩
    · rw [ud_n _ _ c]; exact rz j hj
end
