/-! counting bits -/
def pS (u : Nat) : Nat → Nat
  | 0 => 0
  | j + 1 => pS u j + u / 2 ^ j % 2
def tN : Nat → Nat → Nat
  | 0, _ => 0
  | f + 1, w => if w % 2 = 1 then tN f (w / 2) + 1 else 0
def t1 (u : Nat) : Nat := u - ((u / 2) &&& 1431655765)
def t2 (u : Nat) : Nat := (t1 u &&& 858993459) + ((t1 u / 4) &&& 858993459)
def t3 (u : Nat) : Nat := (t2 u + t2 u / 16) &&& 252645135
def t4 (u : Nat) : Nat := t3 u + t3 u / 256
def t5 (u : Nat) : Nat := t4 u + t4 u / 65536
def bcN (u : Nat) : Nat := t5 u &&& 63
def allB (p : Nat → Bool) : Nat → Bool
  | 0 => true
  | n + 1 => p n && allB p n
theorem allB_at {p : Nat → Bool} : ∀ {n : Nat}, allB p n = true → ∀ i, i < n → p i = true := by
  intro n
  induction n with
  | zero => intro _ i hi; omega
  | succ n ih =>
    intro h i hi
    simp only [allB, Bool.and_eq_true] at h
    by_cases c : i = n
    · subst c; exact h.1
    · exact ih h.2 i (by omega)
set_option maxRecDepth 100000 in
theorem bc_all : allB (fun h => allB (fun l => Nat.beq (bcN (256 * h + l)) (pS (256 * h + l) 16)) 256) 128 = true := by decide +kernel
set_option maxRecDepth 100000 in
theorem eg_all : allB (fun h => allB (fun l => Nat.beq (pS ((256 * h + l) &&& ((256 * h + l + 1) ^^^ 4294967295)) 16) (tN 16 (256 * h + l))) 256) 128 = true := by decide +kernel
theorem bc_eq {u : Nat} (h : u < 32768) : bcN u = pS u 16 := by
  have h1 := allB_at bc_all (u / 256) (by omega)
  have h2 := allB_at h1 (u % 256) (by omega)
  rw [show 256 * (u / 256) + u % 256 = u by omega] at h2
  exact Nat.eq_of_beq_eq_true h2
theorem eg_eq {u : Nat} (h : u < 32768) : pS (u &&& ((u + 1) ^^^ 4294967295)) 16 = tN 16 u := by
  have h1 := allB_at eg_all (u / 256) (by omega)
  have h2 := allB_at h1 (u % 256) (by omega)
  rw [show 256 * (u / 256) + u % 256 = u by omega] at h2
  exact Nat.eq_of_beq_eq_true h2
theorem tN_s (f w : Nat) : tN (f + 1) w = if w % 2 = 1 then tN f (w / 2) + 1 else 0 := rfl
