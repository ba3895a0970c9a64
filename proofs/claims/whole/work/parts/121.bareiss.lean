/-! an elimination without fractions: each minor of it is a minor of the start -/
def BI (A : Nat → Nat → Int) (u t : Nat) (e : Int) (B : Nat → Nat → Int) : Prop :=
  ∀ X Y : List Nat, X.length = Y.length → X.Nodup → X ≠ [] → ∃ X' Q : List Nat, X'.length = Q.length + Y.length ∧ Q.length ≤ t ∧ (∀ q ∈ Q, q < u) ∧ dt Y (X.map B) = e ^ (X.length - 1) * dt (Q ++ Y) (X'.map A)
theorem BI_init (A : Nat → Nat → Int) (u : Nat) : BI A u 0 1 A := by
  intro X Y hl _ _
  exact ⟨X, [], by simpa using hl, Nat.le_refl _, fun q hq => absurd hq (by simp), by rw [Int.one_pow, Int.one_mul, List.nil_append]⟩
def sw (i r k : Nat) : Nat := if k = i then r else if k = r then i else k
theorem sw_sw (i r k : Nat) : sw i r (sw i r k) = k := by
  unfold sw
  by_cases h1 : k = i
  · rw [if_pos h1]
    by_cases h2 : r = i
    · rw [if_pos h2]; omega
    · rw [if_neg h2, if_pos rfl]; omega
  · rw [if_neg h1]
    by_cases h2 : k = r
    · rw [if_pos h2, if_pos rfl]; omega
    · rw [if_neg h2, if_neg h1, if_neg h2]
theorem nodup_map {f : Nat → Nat} (hf : ∀ k, f (f k) = k) : ∀ X : List Nat, X.Nodup → (X.map f).Nodup := by
  intro X
  induction X with
  | nil => intro _; exact List.Pairwise.nil
  | cons x X ih =>
    intro h
    rw [List.nodup_cons] at h
    rw [List.map_cons, List.nodup_cons]
    refine ⟨fun hm => ?_, ih h.2⟩
    obtain ⟨y, hy, e⟩ := List.mem_map.mp hm
    have : y = x := by rw [← hf y, e, hf x]
    exact h.1 (this ▸ hy)
section
variable {A B B' : Nat → Nat → Int} {u t : Nat} {e : Int}
theorem BI_swap (h : BI A u t e B) (i r : Nat) : BI A u t e (fun k => B (sw i r k)) := by
  intro X Y hl hn hx
  obtain ⟨X', Q, h1, h2, h3, h4⟩ := h (X.map (sw i r)) Y (by rw [List.length_map]; exact hl) (nodup_map (sw_sw i r) X hn) (fun hh => hx (List.map_eq_nil_iff.mp hh))
  refine ⟨X', Q, h1, h2, h3, ?_⟩
  rw [List.map_map, List.length_map] at h4
  exact h4
theorem pow_ne {a : Int} (h : a ≠ 0) : ∀ k : Nat, a ^ k ≠ 0 := by
  intro k
  induction k with
  | zero => rw [Int.pow_zero]; decide
  | succ k ih => rw [Int.pow_succ]; exact Int.mul_ne_zero ih h
theorem BI_step (h : BI A u t e B) {r c : Nat} (he : e ≠ 0) (hp : B r c ≠ 0) (hc : c < u) (hr : B' r = B r) (hk : ∀ k, k ≠ r → ∀ j, e * B' k j = B r c * B k j - B k c * B r j) : BI A u (t + 1) (B r c) B' := by
  intro X Y hl hn hx
  by_cases hm : r ∈ X
  · obtain ⟨X', Q, h1, h2, h3, h4⟩ := h X Y hl hn hx
    refine ⟨X', Q, h1, by omega, h3, ?_⟩
    obtain ⟨X1, X2, rfl⟩ := List.append_of_mem hm
    have n1 : ∀ x ∈ X1, x ≠ r := by
      intro x hx1 hh
      subst hh
      rw [List.nodup_append] at hn
      exact hn.2.2 x hx1 x (List.mem_cons_self ..) rfl
    have n2 : ∀ x ∈ X2, x ≠ r := by
      intro x hx2 hh
      subst hh
      rw [List.nodup_append] at hn
      exact (List.nodup_cons.mp hn.2.1).1 hx2
    have a1 := dt_op (a := B r c) (F := fun x j => B r c * B x j - B x c * B r j) (g := B) (ρ := B r) (b := fun x => - B x c) Y (B r :: X2.map (fun x j => B r c * B x j - B x c * B r j)) X1 [] (fun x _ j => by grind) (fun x _ => Or.inr (Or.inr (List.mem_cons_self ..)))
    have a2 := dt_op (a := B r c) (F := fun x j => B r c * B x j - B x c * B r j) (g := B) (ρ := B r) (b := fun x => - B x c) Y [] X2 (X1.map B ++ [B r]) (fun x _ j => by grind) (fun x _ => Or.inr (Or.inl (by simp)))
    have b1 := dt_op (a := e) (F := fun x j => B r c * B x j - B x c * B r j) (g := B') (ρ := B r) (b := fun x => 0) Y (B r :: X2.map (fun x j => B r c * B x j - B x c * B r j)) X1 [] (fun x hx j => by rw [hk x (n1 x hx) j]; grind) (fun x _ => Or.inl rfl)
    have b2 := dt_op (a := e) (F := fun x j => B r c * B x j - B x c * B r j) (g := B') (ρ := B r) (b := fun x => 0) Y [] X2 (X1.map B' ++ [B r]) (fun x hx j => by rw [hk x (n2 x hx) j]; grind) (fun x _ => Or.inl rfl)
    simp only [List.nil_append, List.append_nil, List.append_assoc, List.cons_append] at a1 a2 b1 b2
    rw [a2] at a1
    rw [b2] at b1
    rw [a1] at b1
    have ek : (X1 ++ r :: X2).length - 1 = X1.length + X2.length := by simp only [List.length_append, List.length_cons]; omega
    rw [ek] at h4 ⊢
    simp only [List.map_append, List.map_cons] at h4 ⊢
    rw [hr]
    rw [h4] at b1
    have ne1 := pow_ne he X1.length
    have ne2 := pow_ne he X2.length
    have : (e ^ X1.length * e ^ X2.length) * (B r c ^ (X1.length + X2.length) * dt (Q ++ Y) (X'.map A)) = (e ^ X1.length * e ^ X2.length) * dt Y (X1.map B' ++ B r :: X2.map B') := by
      rw [Int.pow_add] at b1 ⊢
      grind
    exact (Int.eq_of_mul_eq_mul_left (Int.mul_ne_zero ne1 ne2) this).symm
  · obtain ⟨X', Q, h1, h2, h3, h4⟩ := h (r :: X) (c :: Y) (by simp only [List.length_cons]; omega) (List.nodup_cons.mpr ⟨hm, hn⟩) (by simp)
    refine ⟨X', Q ++ [c], ?_, ?_, ?_, ?_⟩
    · simp only [List.length_append, List.length_cons, List.length_nil] at h1 ⊢; omega
    · simp only [List.length_append, List.length_cons, List.length_nil]; omega
    · intro q hq
      rcases List.mem_append.mp hq with hh | hh
      · exact h3 q hh
      · rw [List.mem_singleton.mp hh]; exact hc
    · have n1 : ∀ x ∈ X, x ≠ r := fun x hx hh => hm (hh ▸ hx)
      have a1 := dt_op (a := B r c) (F := fun x j => B r c * B x j - B x c * B r j) (g := B) (ρ := B r) (b := fun x => - B x c) (c :: Y) [] X [B r] (fun x _ j => by grind) (fun x _ => Or.inr (Or.inl (by simp)))
      have b1 := dt_op (a := e) (F := fun x j => B r c * B x j - B x c * B r j) (g := B') (ρ := B r) (b := fun x => 0) Y [] X [] (fun x hx j => by rw [hk x (n1 x hx) j]; grind) (fun x _ => Or.inl rfl)
      have f1 := dt_first c Y (B r) (X.map (fun x j => B r c * B x j - B x c * B r j)) (fun y hy => by
        obtain ⟨x, _, rfl⟩ := List.mem_map.mp hy
        grind)
      simp only [List.nil_append, List.append_nil, List.append_assoc, List.cons_append] at a1 b1
      rw [f1, b1] at a1
      simp only [List.map_cons, List.length_cons, Nat.add_sub_cancel] at h4
      rw [h4] at a1
      have hk1 : X.length = (X.length - 1) + 1 := by
        have := List.length_pos_iff.mpr hx
        omega
      have ne1 := pow_ne he X.length
      rw [List.append_assoc, List.cons_append, List.nil_append]
      have e2 : B r c ^ X.length = B r c ^ (X.length - 1) * B r c := by
        rw [← Int.pow_succ]
        exact congrArg (fun z => B r c ^ z) hk1
      have : (B r c * e ^ X.length) * dt Y (X.map B') = (B r c * e ^ X.length) * (B r c ^ (X.length - 1) * dt (Q ++ c :: Y) (X'.map A)) := by
        rw [e2] at a1
        grind
      exact Int.eq_of_mul_eq_mul_left (Int.mul_ne_zero hp ne1) this
theorem BI_b (h : BI A u t e B) {m : Nat → Nat} (hA : ∀ i j, (A i j).natAbs ≤ m j) (hm : ∀ q, q < u → m q ≤ 1) (i j : Nat) : (B i j).natAbs ≤ fc (t + 1) * m j := by
  obtain ⟨X', Q, h1, h2, h3, h4⟩ := h [i] [j] rfl (by simp) (by simp)
  simp only [List.map_cons, List.map_nil, dt_1, List.length_cons, List.length_nil, Nat.zero_add, Nat.sub_self, Int.pow_zero, Int.one_mul] at h4
  rw [h4]
  have b1 := dt_b (m := m) (Q ++ [j]) (X'.map A) (by rw [List.length_map, h1]; simp) (fun x hx j => by
    obtain ⟨y, _, rfl⟩ := List.mem_map.mp hx
    exact hA y j)
  have b2 := bd_1 (m := m) j Q (fun q hq => hm q (h3 q hq))
  have b3 : fc (Q.length + 1) * m j ≤ fc (t + 1) * m j := Nat.mul_le_mul_right _ (fc_le (by omega))
  omega
theorem BI_div (h : BI A u t e B) {r k : Nat} (hk : k ≠ r) (c j : Nat) : ∃ M, B r c * B k j - B k c * B r j = e * M := by
  obtain ⟨X', Q, h1, h2, h3, h4⟩ := h [r, k] [c, j] rfl (by simp; omega) (by simp)
  simp only [List.map_cons, List.map_nil, dt_2, List.length_cons, List.length_nil, Nat.zero_add, Nat.add_sub_cancel, Int.pow_one] at h4
  exact ⟨_, h4⟩
end
