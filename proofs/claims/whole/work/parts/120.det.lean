/-! determinants over lists of rows, by the first column -/
def dx (f : List (Nat → Int) → Int) (c : Nat) : Int → List (Nat → Int) → List (Nat → Int) → Int
  | _, _, [] => 0
  | s, pre, x :: post => s * x c * f (pre ++ post) + dx f c (-s) (pre ++ [x]) post
def dt : List Nat → List (Nat → Int) → Int
  | [], [] => 1
  | [], _ :: _ => 0
  | c :: cs, rows => dx (dt cs) c 1 [] rows
theorem dt_nil {rows : List (Nat → Int)} (h : rows ≠ []) : dt [] rows = 0 := by
  cases rows with
  | nil => exact absurd rfl h
  | cons x xs => rfl
section
variable {f : List (Nat → Int) → Int} {u v w : Nat → Int} {a b : Int}
theorem dx_lin_pre (hf : ∀ p q, f (p ++ w :: q) = a * f (p ++ u :: q) + b * f (p ++ v :: q)) (c : Nat) : ∀ (rows : List (Nat → Int)) (s : Int) (p q : List (Nat → Int)), dx f c s (p ++ w :: q) rows = a * dx f c s (p ++ u :: q) rows + b * dx f c s (p ++ v :: q) rows := by
  intro rows
  induction rows with
  | nil => intro s p q; simp [dx]
  | cons x post ih =>
    intro s p q
    have h1 := hf p (q ++ post)
    have h2 := ih (-s) p (q ++ [x])
    simp only [dx, List.append_assoc, List.cons_append] at h1 h2 ⊢
    rw [h1, h2]
    grind
theorem dx_lin (hf : ∀ p q, f (p ++ w :: q) = a * f (p ++ u :: q) + b * f (p ++ v :: q)) (hw : ∀ j, w j = a * u j + b * v j) (c : Nat) : ∀ (q : List (Nat → Int)) (s : Int) (p post : List (Nat → Int)), dx f c s p (q ++ w :: post) = a * dx f c s p (q ++ u :: post) + b * dx f c s p (q ++ v :: post) := by
  intro q
  induction q with
  | nil =>
    intro s p post
    have h2 := dx_lin_pre hf c post (-s) p []
    simp only [dx, List.nil_append]
    rw [h2, hw c]
    grind
  | cons x q ih =>
    intro s p post
    have h1 := hf (p ++ q) post
    have h2 := ih (-s) (p ++ [x]) post
    simp only [dx, List.cons_append, List.append_assoc] at h1 h2 ⊢
    rw [h1, h2]
    grind
theorem dt_lin (hw : ∀ j, w j = a * u j + b * v j) : ∀ (cs : List Nat) (p q : List (Nat → Int)), dt cs (p ++ w :: q) = a * dt cs (p ++ u :: q) + b * dt cs (p ++ v :: q) := by
  intro cs
  induction cs with
  | nil =>
    intro p q
    rw [dt_nil (by simp), dt_nil (by simp), dt_nil (by simp)]
    simp
  | cons c cs ih =>
    intro p q
    simp only [dt]
    exact dx_lin ih hw c p 1 [] q
theorem dx_eq_pre {x : Nat → Int} (hf : ∀ p q, f (p ++ x :: x :: q) = 0) (c : Nat) : ∀ (rows : List (Nat → Int)) (s : Int) (p q : List (Nat → Int)), dx f c s (p ++ x :: x :: q) rows = 0 := by
  intro rows
  induction rows with
  | nil => intro s p q; rfl
  | cons y post ih =>
    intro s p q
    have h1 := hf p (q ++ post)
    have h2 := ih (-s) p (q ++ [y])
    simp only [dx, List.append_assoc, List.cons_append] at h1 h2 ⊢
    rw [h1, h2]
    simp
theorem dx_eq {x : Nat → Int} (hf : ∀ p q, f (p ++ x :: x :: q) = 0) (c : Nat) : ∀ (q : List (Nat → Int)) (s : Int) (p post : List (Nat → Int)), dx f c s p (q ++ x :: x :: post) = 0 := by
  intro q
  induction q with
  | nil =>
    intro s p post
    have h2 := dx_eq_pre hf c post (- -s) p []
    simp only [dx, List.nil_append, List.append_assoc, List.cons_append] at h2 ⊢
    rw [h2]
    grind
  | cons y q ih =>
    intro s p post
    have h1 := hf (p ++ q) post
    have h2 := ih (-s) (p ++ [y]) post
    simp only [dx, List.cons_append, List.append_assoc] at h1 h2 ⊢
    rw [h1, h2]
    simp
theorem dt_eq (x : Nat → Int) : ∀ (cs : List Nat) (p q : List (Nat → Int)), dt cs (p ++ x :: x :: q) = 0 := by
  intro cs
  induction cs with
  | nil => intro p q; exact dt_nil (by simp)
  | cons c cs ih =>
    intro p q
    simp only [dt]
    exact dx_eq ih c p 1 [] q
theorem dt_swap (x y : Nat → Int) (cs : List Nat) (p q : List (Nat → Int)) : dt cs (p ++ x :: y :: q) = - dt cs (p ++ y :: x :: q) := by
  have h := dt_eq (fun j => x j + y j) cs p q
  have l1 := dt_lin (w := fun j => x j + y j) (u := x) (v := y) (a := 1) (b := 1) (fun j => by simp) cs p ((fun j => x j + y j) :: q)
  have l2 := dt_lin (w := fun j => x j + y j) (u := x) (v := y) (a := 1) (b := 1) (fun j => by simp) cs (p ++ [x]) q
  have l3 := dt_lin (w := fun j => x j + y j) (u := x) (v := y) (a := 1) (b := 1) (fun j => by simp) cs (p ++ [y]) q
  have e1 := dt_eq x cs p q
  have e2 := dt_eq y cs p q
  simp only [List.append_assoc, List.cons_append, List.nil_append] at l2 l3
  rw [l1, l2, l3, e1, e2] at h
  omega
theorem dt_two (x : Nat → Int) (cs : List Nat) : ∀ (m p q : List (Nat → Int)), dt cs (p ++ x :: (m ++ x :: q)) = 0 := by
  intro m
  induction m with
  | nil => intro p q; exact dt_eq x cs p q
  | cons y m ih =>
    intro p q
    have h := ih (p ++ [y]) q
    rw [List.cons_append, dt_swap]
    simp only [List.append_assoc, List.cons_append, List.nil_append] at h
    rw [h]
    rfl
/-- rows by a factor, and times of another row that stands before or behind -/
theorem dt_op {α : Type} {F g : α → Nat → Int} {ρ : Nat → Int} {b : α → Int} (cs : List Nat) (S : List (Nat → Int)) : ∀ (X : List α) (P : List (Nat → Int)), (∀ x ∈ X, ∀ j, F x j = a * g x j + b x * ρ j) → (∀ x ∈ X, b x = 0 ∨ ρ ∈ P ∨ ρ ∈ S) → dt cs (P ++ (X.map F ++ S)) = a ^ X.length * dt cs (P ++ (X.map g ++ S)) := by
  intro X
  induction X with
  | nil => intro P _ _; simp
  | cons x X ih =>
    intro P h1 h2
    have l := dt_lin (w := F x) (u := g x) (v := ρ) (a := a) (b := b x) (h1 x (List.mem_cons_self ..)) cs P (X.map F ++ S)
    have z : b x * dt cs (P ++ ρ :: (X.map F ++ S)) = 0 := by
      rcases h2 x (List.mem_cons_self ..) with h | h | h
      · rw [h, Int.zero_mul]
      · obtain ⟨p1, p2, rfl⟩ := List.append_of_mem h
        have := dt_two ρ cs p2 p1 (X.map F ++ S)
        simp only [List.append_assoc, List.cons_append] at this ⊢
        rw [this, Int.mul_zero]
      · obtain ⟨s1, s2, rfl⟩ := List.append_of_mem h
        have := dt_two ρ cs (X.map F ++ s1) P s2
        simp only [List.append_assoc] at this ⊢
        rw [this, Int.mul_zero]
    have k := ih (P ++ [g x]) (fun y hy => h1 y (List.mem_cons_of_mem _ hy)) (fun y hy => by
      rcases h2 y (List.mem_cons_of_mem _ hy) with h | h | h
      · exact Or.inl h
      · exact Or.inr (Or.inl (List.mem_append_left _ h))
      · exact Or.inr (Or.inr h))
    simp only [List.append_assoc, List.cons_append, List.nil_append] at k
    simp only [List.map_cons, List.cons_append, List.length_cons]
    rw [l, z, k, Int.pow_succ]
    grind
theorem dx_zero (f : List (Nat → Int) → Int) (c : Nat) : ∀ (rows : List (Nat → Int)) (s : Int) (p : List (Nat → Int)), (∀ y ∈ rows, y c = 0) → dx f c s p rows = 0 := by
  intro rows
  induction rows with
  | nil => intro s p _; rfl
  | cons y post ih =>
    intro s p h
    simp only [dx]
    rw [h y (List.mem_cons_self ..), ih _ _ (fun z hz => h z (List.mem_cons_of_mem _ hz))]
    simp
theorem dt_first (c : Nat) (cs : List Nat) (R : Nat → Int) (rest : List (Nat → Int)) (h : ∀ y ∈ rest, y c = 0) : dt (c :: cs) (R :: rest) = R c * dt cs rest := by
  simp only [dt, dx]
  rw [dx_zero _ _ _ _ _ h]
  simp
theorem dt_1 (j : Nat) (x : Nat → Int) : dt [j] [x] = x j := by
  simp [dt, dx]
theorem dt_2 (c j : Nat) (x y : Nat → Int) : dt [c, j] [x, y] = x c * y j - y c * x j := by
  simp [dt, dx]
  grind
end
/-- bounds -/
def fc : Nat → Nat
  | 0 => 1
  | n + 1 => (n + 1) * fc n
theorem fc_pos (n : Nat) : 1 ≤ fc n := by
  induction n with
  | zero => decide
  | succ n ih => unfold fc; exact Nat.mul_pos (Nat.succ_pos _) ih
theorem fc_le {a b : Nat} (h : a ≤ b) : fc a ≤ fc b := by
  induction b with
  | zero => rw [show a = 0 by omega]; exact Nat.le_refl _
  | succ b ih =>
    by_cases c : a = b + 1
    · rw [c]; exact Nat.le_refl _
    · have := ih (by omega)
      have e : fc (b + 1) = (b + 1) * fc b := rfl
      rw [e]
      have h2 : 1 * fc b ≤ (b + 1) * fc b := Nat.mul_le_mul_right _ (by omega)
      omega
def bd (m : Nat → Nat) : List Nat → Nat
  | [] => 1
  | c :: cs => (cs.length + 1) * (m c * bd m cs)
theorem bd_1 {m : Nat → Nat} (j : Nat) : ∀ (Q : List Nat), (∀ q ∈ Q, m q ≤ 1) → bd m (Q ++ [j]) ≤ fc (Q.length + 1) * m j := by
  intro Q
  induction Q with
  | nil => intro _; simp [bd, fc]
  | cons q Q ih =>
    intro h
    have h1 := ih (fun x hx => h x (List.mem_cons_of_mem _ hx))
    have h2 := h q (List.mem_cons_self ..)
    simp only [List.cons_append, bd, List.length_append, List.length_cons, List.length_nil]
    have h3 : m q * bd m (Q ++ [j]) ≤ 1 * (fc (Q.length + 1) * m j) := Nat.mul_le_mul h2 h1
    have h4 := Nat.mul_le_mul_left (Q.length + (0 + 1) + 1) h3
    refine Nat.le_trans h4 (Nat.le_of_eq ?_)
    rw [Nat.one_mul]
    show (Q.length + 1 + 1) * (fc (Q.length + 1) * m j) = ((Q.length + 1 + 1) * fc (Q.length + 1)) * m j
    exact (Nat.mul_assoc _ _ _).symm
theorem dx_b {m : Nat → Nat} {f : List (Nat → Int) → Int} {c n M : Nat} (hf : ∀ rows : List (Nat → Int), rows.length = n → (∀ x ∈ rows, ∀ j, (x j).natAbs ≤ m j) → (f rows).natAbs ≤ M) : ∀ (rows p : List (Nat → Int)) (s : Int), s.natAbs ≤ 1 → p.length + rows.length = n + 1 → (∀ x ∈ p, ∀ j, (x j).natAbs ≤ m j) → (∀ x ∈ rows, ∀ j, (x j).natAbs ≤ m j) → (dx f c s p rows).natAbs ≤ rows.length * (m c * M) := by
  intro rows
  induction rows with
  | nil => intro p s _ _ _ _; simp [dx]
  | cons x post ih =>
    intro p s hs hl hp hr
    have h1 := hf (p ++ post) (by simp only [List.length_append, List.length_cons] at hl ⊢; omega) (fun y hy j => by
      rcases List.mem_append.mp hy with h | h
      · exact hp y h j
      · exact hr y (List.mem_cons_of_mem _ h) j)
    have h2 := ih (p ++ [x]) (-s) (by rw [Int.natAbs_neg]; exact hs) (by simp only [List.length_append, List.length_cons, List.length_nil] at hl ⊢; omega) (fun y hy j => by
      rcases List.mem_append.mp hy with h | h
      · exact hp y h j
      · rw [List.mem_singleton.mp h]; exact hr x (List.mem_cons_self ..) j) (fun y hy j => hr y (List.mem_cons_of_mem _ hy) j)
    have h3 := hr x (List.mem_cons_self ..) c
    have h4 : (s * x c * f (p ++ post)).natAbs ≤ 1 * m c * M := by
      rw [Int.natAbs_mul, Int.natAbs_mul]
      exact Nat.mul_le_mul (Nat.mul_le_mul hs h3) h1
    simp only [dx, List.length_cons]
    have h5 := Int.natAbs_add_le (s * x c * f (p ++ post)) (dx f c (-s) (p ++ [x]) post)
    rw [Nat.one_mul] at h4
    rw [Nat.add_mul, Nat.one_mul]
    omega
theorem dt_b {m : Nat → Nat} : ∀ (cs : List Nat) (rows : List (Nat → Int)), rows.length = cs.length → (∀ x ∈ rows, ∀ j, (x j).natAbs ≤ m j) → (dt cs rows).natAbs ≤ bd m cs := by
  intro cs
  induction cs with
  | nil =>
    intro rows hl _
    rw [List.length_eq_zero_iff.mp hl]
    exact Nat.le_refl 1
  | cons c cs ih =>
    intro rows hl hr
    have := dx_b (c := c) (fun rows hl hr => ih rows hl hr) rows [] 1 (by decide) (by simpa using hl) (fun x hx => absurd hx (by simp)) hr
    simp only [dt, bd]
    rw [hl] at this
    exact this
