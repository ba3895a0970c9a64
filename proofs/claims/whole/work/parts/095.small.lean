/-! back, stick, count, measure, sheet, lay, feed, apart -/
theorem zp_inv {σ : Type} {f : σ → Option (Nat × σ)} (R : Nat → σ → Prop) (Q : Nat × σ → Prop) (N : Nat) (h : ∀ j s, j ≤ N → R j s → (j < N ∧ ∃ s', f s = some (0, s') ∧ R (j + 1) s') ∨ ∃ a, f s = some a ∧ ¬ a.1 = 0 ∧ Q a) : ∀ n k s, k ≤ N → N < n + k → R k s → ∃ a, zp f n s = some a ∧ Q a := by
  intro n
  induction n with
  | zero => intro k s h1 h2; omega
  | succ n ih =>
    intro k s h1 h2 hR
    rcases h k s h1 hR with ⟨hk, s', e, hR'⟩ | ⟨a, e, ha, hQ⟩
    · rw [zp_step e]
      exact ih (k + 1) s' (by omega) (by omega) hR'
    · obtain ⟨a1, a2⟩ := a
      exact ⟨(a1, a2), zp_stop e ha, hQ⟩
theorem zp_i {σ : Type} {f : σ → Option (Nat × σ)} {s : σ} (R : Nat → σ → Prop) (Q : Nat × σ → Prop) (N : Nat) (hN : N < 100000) (h0 : R 0 s) (h : ∀ j s, j ≤ N → R j s → (j < N ∧ ∃ s', f s = some (0, s') ∧ R (j + 1) s') ∨ ∃ a, f s = some a ∧ ¬ a.1 = 0 ∧ Q a) : ∃ a, zp f zF s = some a ∧ Q a :=
  zp_inv R Q N h zF 0 s (Nat.zero_le _) (by unfold zF; omega) h0
theorem zp_rel {σ τ : Type} {f : σ → Option (Nat × σ)} {g : τ → Option (Nat × τ)} (R : Nat → σ → τ → Prop) (Q : Nat × σ → Nat × τ → Prop) (N : Nat) (h : ∀ j s t, j ≤ N → R j s t → (j < N ∧ ∃ s' t', f s = some (0, s') ∧ g t = some (0, t') ∧ R (j + 1) s' t') ∨ ∃ a b, f s = some a ∧ g t = some b ∧ ¬ a.1 = 0 ∧ ¬ b.1 = 0 ∧ Q a b) : ∀ n k s t, k ≤ N → N < n + k → R k s t → ∃ a b, zp f n s = some a ∧ zp g n t = some b ∧ Q a b := by
  intro n
  induction n with
  | zero => intro k s t h1 h2; omega
  | succ n ih =>
    intro k s t h1 h2 hR
    rcases h k s t h1 hR with ⟨hk, s', t', e, e', hR'⟩ | ⟨a, b, e, e', ha, hb, hQ⟩
    · rw [zp_step e, zp_step e']
      exact ih (k + 1) s' t' (by omega) (by omega) hR'
    · obtain ⟨a1, a2⟩ := a
      obtain ⟨b1, b2⟩ := b
      exact ⟨(a1, a2), (b1, b2), zp_stop e ha, zp_stop e' hb, hQ⟩
theorem zp_r {σ τ : Type} {f : σ → Option (Nat × σ)} {g : τ → Option (Nat × τ)} {s : σ} {t : τ} (R : Nat → σ → τ → Prop) (Q : Nat × σ → Nat × τ → Prop) (N : Nat) (hN : N < 100000) (h0 : R 0 s t) (h : ∀ j s t, j ≤ N → R j s t → (j < N ∧ ∃ s' t', f s = some (0, s') ∧ g t = some (0, t') ∧ R (j + 1) s' t') ∨ ∃ a b, f s = some a ∧ g t = some b ∧ ¬ a.1 = 0 ∧ ¬ b.1 = 0 ∧ Q a b) : ∃ a b, zp f zF s = some a ∧ zp g zF t = some b ∧ Q a b :=
  zp_rel R Q N h zF 0 s t (Nat.zero_le _) (by unfold zF; omega) h0
/-- counts from the end, and the first from the end -/
def cD (p : Nat → Prop) [DecidablePred p] (N : Nat) : Nat → Nat
  | 0 => 0
  | k + 1 => if p (N - 1 - k) then cD p N k + 1 else cD p N k
def fD (p : Nat → Prop) [DecidablePred p] (N : Nat) : Nat → Int32
  | 0 => -4
  | k + 1 => if p (N - 1 - k) then nI (N - 1 - k) else fD p N k
def cU (p : Nat → Prop) [DecidablePred p] : Nat → Nat
  | 0 => 0
  | k + 1 => if p k then cU p k + 1 else cU p k
theorem cD_b (p : Nat → Prop) [DecidablePred p] (N : Nat) : ∀ k, cD p N k ≤ k := by
  intro k
  induction k with
  | zero => exact Nat.le_refl _
  | succ k ih => unfold cD; split <;> omega
theorem cDU (p : Nat → Prop) [DecidablePred p] (N : Nat) : ∀ k, k ≤ N → cD p N k + cU p (N - k) = cU p N := by
  intro k
  induction k with
  | zero => intro _; simp [cD]
  | succ k ih =>
    intro hk
    have h := ih (by omega)
    rw [show N - k = (N - 1 - k) + 1 by omega] at h
    rw [show N - (k + 1) = N - 1 - k by omega]
    simp only [cU, cD] at h ⊢
    split <;> rename_i q
    · rw [if_pos q] at h; omega
    · rw [if_neg q] at h; omega
theorem cDN (p : Nat → Prop) [DecidablePred p] (N : Nat) : cD p N N = cU p N := by
  have h := cDU p N N (Nat.le_refl _)
  simp [cU] at h
  exact h
theorem x_stepsBack {n : Nat} (h : n ≤ 8) (o : Nat → Int32) : f_X8_stepsBack (nI n) o = some (nI (cU (fun c => o (c + 1) - o c < 0) (2 ^ n - 1))) := by
  have hp := pw8 h
  unfold f_X8_stepsBack
  rw [x_last h, zb_s, zp_0 (v := (0, 0)) (fun j => (nI (cU (fun c => o (c + 1) - o c < 0) j), nI j)) (2 ^ n - 1) (t := 1) (w := (nI (cU (fun c => o (c + 1) - o c < 0) (2 ^ n - 1)), nI (2 ^ n - 1))) rfl (by omega) (by decide)]
  · rfl
  · intro j hj
    unfold f_X8_stepsBack_L9
    simp only []
    rw [if_neg (nI_ge hj (by omega)), x_step (by omega), zb_s]
    simp only [f_X8_stepsBack_J25_9, zl_e, nI_1, cU]
    by_cases q : o (j + 1) - o j < 0
    · rw [if_pos q, if_neg ((i32_nle _ _).mpr q)]
    · rw [if_neg q, if_pos ((i32_nlt _ _).mp q)]
  · unfold f_X8_stepsBack_L9
    simp only []
    rw [if_pos (nI_le (Nat.le_refl _) (by omega))]
theorem x_stepsOfNothing {n : Nat} (h : n ≤ 8) (o : Nat → Int32) : f_X8_stepsOfNothing (nI n) o = some (nI (cU (fun c => o (c + 1) - o c = 0) (2 ^ n - 1))) := by
  have hp := pw8 h
  unfold f_X8_stepsOfNothing
  rw [x_last h, zb_s, zp_0 (v := (0, 0)) (fun j => (nI (cU (fun c => o (c + 1) - o c = 0) j), nI j)) (2 ^ n - 1) (t := 1) (w := (nI (cU (fun c => o (c + 1) - o c = 0) (2 ^ n - 1)), nI (2 ^ n - 1))) rfl (by omega) (by decide)]
  · rfl
  · intro j hj
    unfold f_X8_stepsOfNothing_L9
    simp only []
    rw [if_neg (nI_ge hj (by omega)), x_step (by omega), zb_s]
    simp only [f_X8_stepsOfNothing_J25_9, zl_e, nI_1, cU]
    split <;> rfl
  · unfold f_X8_stepsOfNothing_L9
    simp only []
    rw [if_pos (nI_le (Nat.le_refl _) (by omega))]
theorem x_firstStepBack {n : Nat} (h : n ≤ 8) (o : Nat → Int32) : f_X8_firstStepBack (nI n) o = some (fD (fun c => o (c + 1) - o c < 0) (2 ^ n - 1) (2 ^ n - 1)) := by
  have hp := pw8 h
  unfold f_X8_firstStepBack
  rw [x_last h, zb_s]
  obtain ⟨a, e, hQ⟩ := zp_i (f := f_X8_firstStepBack_L7 (nI (2 ^ n - 1)) o) (s := (0 : Int32)) (fun j w => w = nI j ∧ fD (fun c => o (c + 1) - o c < 0) (2 ^ n - 1) (2 ^ n - 1) = fD (fun c => o (c + 1) - o c < 0) (2 ^ n - 1) (2 ^ n - 1 - j)) (fun a => (if a.1 = 1 then some (-4 : Int32) else some a.2) = some (fD (fun c => o (c + 1) - o c < 0) (2 ^ n - 1) (2 ^ n - 1))) (2 ^ n - 1) (by omega) ⟨rfl, rfl⟩ (by
    rintro j w hj ⟨rfl, hf⟩
    unfold f_X8_firstStepBack_L7
    by_cases c : j = 2 ^ n - 1
    · refine Or.inr ⟨(1, nI j), by rw [if_pos (nI_le (by omega) (by omega))], (by decide : ¬ (1 : Nat) = 0), ?_⟩
      rw [hf, c, Nat.sub_self]
      rfl
    · rw [if_neg (nI_ge (by omega) (by omega)), x_step (by omega), zb_s]
      rw [show 2 ^ n - 1 - j = (2 ^ n - 1 - (j + 1)) + 1 by omega] at hf
      simp only [fD] at hf
      rw [show 2 ^ n - 1 - 1 - (2 ^ n - 1 - (j + 1)) = j by omega] at hf
      by_cases q : o (j + 1) - o j < 0
      · rw [if_pos q] at hf
        refine Or.inr ⟨(2, nI j), by rw [if_neg ((i32_nle _ _).mpr q)], (by decide : ¬ (2 : Nat) = 0), ?_⟩
        rw [hf]
        rfl
      · rw [if_neg q] at hf
        exact Or.inl ⟨by omega, nI (j + 1), by rw [if_pos ((i32_nlt _ _).mp q), zl_e, nI_1], rfl, hf⟩)
  rw [e, zb_s]
  exact hQ
theorem fD_cg {p q : Nat → Prop} [DecidablePred p] [DecidablePred q] {N : Nat} (h : ∀ c, c < N → (p c ↔ q c)) : ∀ k, k ≤ N → fD p N k = fD q N k := by
  intro k
  induction k with
  | zero => intro _; rfl
  | succ k ih =>
    intro hk
    simp only [fD]
    rw [ih (by omega)]
    simp only [h (N - 1 - k) (by omega)]
theorem cU_cg {p q : Nat → Prop} [DecidablePred p] [DecidablePred q] : ∀ N, (∀ c, c < N → (p c ↔ q c)) → cU p N = cU q N := by
  intro N
  induction N with
  | zero => intro _; rfl
  | succ k ih =>
    intro h
    simp only [cU]
    rw [ih (fun c hc => h c (by omega))]
    simp only [h k (by omega)]
theorem m_backL (o : Nat → Int32) {N : Nat} (h1 : 1 ≤ N) (hN : N ≤ 255) : ∃ i, zp (f_X12_back_L34 o) zF (0, 0, -4, nI (N - 1)) = some (1, (nI (cD (fun c => o (c + 1) - o c < 0) N N), nI (cD (fun c => o (c + 1) - o c = 0) N N), fD (fun c => o (c + 1) - o c < 0) N N, i)) := by
  have key := zp_i (f := f_X12_back_L34 o) (s := (0, 0, -4, nI (N - 1))) (fun j w => w = (nI (cD (fun c => o (c + 1) - o c < 0) N j), nI (cD (fun c => o (c + 1) - o c = 0) N j), fD (fun c => o (c + 1) - o c < 0) N j, nI (N - j) - 1)) (fun a => ∃ i, a = (1, (nI (cD (fun c => o (c + 1) - o c < 0) N N), nI (cD (fun c => o (c + 1) - o c = 0) N N), fD (fun c => o (c + 1) - o c < 0) N N, i))) N (by omega) (by rw [show N - 0 = N - 1 + 1 by omega, nI_pred]; rfl) (by
    rintro j w hj rfl
    unfold f_X12_back_L34
    simp only []
    by_cases c : j = N
    · subst c
      refine Or.inr ⟨(1, (nI (cD (fun c => o (c + 1) - o c < 0) j j), nI (cD (fun c => o (c + 1) - o c = 0) j j), fD (fun c => o (c + 1) - o c < 0) j j, nI (j - j) - 1)), ?_, (by decide : ¬ (1 : Nat) = 0), ⟨_, rfl⟩⟩
      rw [Nat.sub_self, if_pos (by decide)]
    · refine Or.inl ⟨by omega, (nI (cD (fun c => o (c + 1) - o c < 0) N (j + 1)), nI (cD (fun c => o (c + 1) - o c = 0) N (j + 1)), fD (fun c => o (c + 1) - o c < 0) N (j + 1), nI (N - (j + 1)) - 1), ?_, rfl⟩
      rw [show N - j = (N - 1 - j) + 1 by omega, nI_pred, show N - (j + 1) = N - 1 - j by omega, if_neg (nI_pos (by omega)), nI_1, zc_nI (by omega) (by decide), zc_nI (by omega) (by decide), zl_e, nI_clamp (by omega), nI_clamp (by omega)]
      simp only [f_X12_back_J69_34, f_X12_back_J82_34, f_X12_back_J96_34, zl_e, cD, fD, sb1]
      have e0 : (0 : Int32) = nI 0 := rfl
      have e1 : (1 : Int32) = nI 1 := rfl
      by_cases q : o (N - 1 - j + 1) - o (N - 1 - j) < 0
      · have q2 : ¬ o (N - 1 - j + 1) - o (N - 1 - j) = 0 := fun e => by rw [e] at q; exact absurd q (by decide)
        simp only [if_pos q, if_neg q2, if_neg ((i32_nle _ _).mpr q)]
        rw [nI_1]
        simp
      · have q3 := (i32_nlt _ _).mp q
        by_cases q2 : o (N - 1 - j + 1) - o (N - 1 - j) = 0
        · simp only [if_neg q, if_pos q2, if_pos q3]
          rw [nI_1]
          simp
        · simp only [if_neg q, if_neg q2, if_pos q3]
          simp)
  obtain ⟨a, e, i, rfl⟩ := key
  exact ⟨i, e⟩
theorem bk_cg {f g : Nat → Int32} {N : Nat} (h : ∀ c, c ≤ N → f c = g c) : cU (fun c => f (c + 1) - f c < 0) N = cU (fun c => g (c + 1) - g c < 0) N ∧ cU (fun c => f (c + 1) - f c = 0) N = cU (fun c => g (c + 1) - g c = 0) N ∧ fD (fun c => f (c + 1) - f c < 0) N N = fD (fun c => g (c + 1) - g c < 0) N N := by
  refine ⟨cU_cg N fun c hc => ?_, cU_cg N fun c hc => ?_, fD_cg (fun c hc => ?_) N (Nat.le_refl _)⟩ <;> rw [h (c + 1) (by omega), h c (by omega)]
theorem stk_cg {f g : Nat → Int32} (h : SI f g) : cU (fun c => ¬ f (c + 1) = -4) 15 = cU (fun c => ¬ g (c + 1) = -4) 15 := cU_cg 15 fun c hc => by rw [(h (c + 1) (by omega) (by omega)).1]
theorem st_back : ST_back Inv := by
  intro x y hI v1
  obtain ⟨n, hb, hR, ho, -⟩ := id hI
  have hp := pw8 hR.1.2
  have hp4 := pw4 hR.1.1 hR.1.2
  have hl := lv_le (g := M_levels y) ho hp.1
  suffices H : ∃ r lv, f_X11_back v1 (X_rules_bits x) (X_steps_outs x) = some r ∧ f_X12_back v1 (M_holds y) (M_levels y) = some (r, lv) by
    obtain ⟨r, lv, e1, e2⟩ := H
    exact ⟨r, (r, lv), e1, e2, rfl, hI⟩
  rw [hb]
  unfold f_X11_back f_X12_back
  rw [x_stepsBack hR.1.2, x_stepsOfNothing hR.1.2, x_firstStepBack hR.1.2, zb_s, zb_s, zb_s]
  by_cases c : 0 ≤ v1 ∧ v1 ≤ 2
  · rw [in_1 (B := 0) (C := 2) (b := 0) (c := 2) rfl rfl ((i32_nlt _ _).mpr c.1) c.2, zb_s, if_neg n10, m_lay hR, zb_s, m_many hR, zb_s, zl_e, show nI (2 ^ n) - (2 : Int32) = nI (2 ^ n - 1 - 1) from by rw [show (2 : Int32) = nI 2 from rfl, pk_sub (by omega)]; rfl]
    obtain ⟨i, e⟩ := m_backL (fil (OV n (X_rules_unit x) (X_rules_offset x) (X_rules_top x) (X_rules_misses x)) (M_levels y) (2 ^ n)) (N := 2 ^ n - 1) (by omega) (by omega)
    rw [e, zb_s, cDN, cDN]
    simp only []
    rw [(bk_cg hl).1, (bk_cg hl).2.1, (bk_cg hl).2.2]
    by_cases c0 : v1 = 0
    · rw [if_pos c0, if_pos c0]; exact ⟨_, _, rfl, rfl⟩
    · rw [if_neg c0, if_neg c0]
      by_cases c1 : v1 = 1
      · rw [if_pos c1, if_pos c1]; exact ⟨_, _, rfl, rfl⟩
      · rw [if_neg c1, if_neg c1, if_pos]
        · exact ⟨_, _, rfl, rfl⟩
        · rw [i32_le, i32_le] at c
          rw [i32_eq] at c0 c1 ⊢
          have e0 : (0 : Int32).toInt = 0 := rfl
          have e1 : (1 : Int32).toInt = 1 := rfl
          have e2 : (2 : Int32).toInt = 2 := rfl
          omega
  · rw [f_inI v1 0 2 0 2 rfl rfl, if_neg c, zb_s, if_pos rfl, if_neg, if_neg, if_neg]
    · exact ⟨_, _, rfl, rfl⟩
    all_goals (intro h; subst h; exact c (by decide))
theorem x_comp {j : Nat} (h1 : 1 ≤ j) (h : j < 16) : f_X0_isComparer (nI j) = some 1 := by
  unfold f_X0_isComparer
  rw [if_neg (show ¬ nI j < (1 : Int32) from nI_nlt (b := 1) h1 (by omega)), if_neg (show ¬ (16 : Int32) ≤ nI j from nI_ge (b := 16) h (by decide))]
theorem st_stick : ST_stick Inv := by
  intro x y hI v1 v2
  obtain ⟨n, h1, h2, h3, h4, h5, hS, hr⟩ := id hI
  unfold f_X11_stick f_X12_stick
  have bad : ∀ (h : f_X0_isComparer v1 = some 0) (h' : f_X12_in v1.toInt64 1 15 = some 0), ∃ (zx : Int32 × (Nat → Int32)) (zm : Int32 × (Nat → Int32)), f_X11_stick v1 v2 (X_comparers_stuck x) = some zx ∧ f_X12_stick v1 v2 (M_stuck y) = some zm ∧ zx.1 = zm.1 ∧ Inv (xu_stick x zx) (mu_stick y zm) := by
    intro h h'
    unfold f_X11_stick f_X12_stick
    rw [h, h', zb_s, zb_s, if_pos rfl, if_pos rfl]
    exact ⟨_, _, rfl, rfl, rfl, hI⟩
  by_cases ca : v1 < 1
  · exact bad (by unfold f_X0_isComparer; rw [if_pos ca]) (in_0l (b := 1) rfl ca)
  by_cases cb : 16 ≤ v1
  · refine bad (by unfold f_X0_isComparer; rw [if_neg ca, if_pos cb]) (in_0h (c := 15) rfl ?_)
    rw [i32_le] at cb ⊢
    have e0 : (16 : Int32).toInt = 16 := rfl
    have e1 : (15 : Int32).toInt = 15 := rfl
    omega
  obtain ⟨j, hj1, hj, rfl⟩ : ∃ j : Nat, 1 ≤ j ∧ j < 16 ∧ v1 = nI j := by
    have e1 : (1 : Int32).toInt = 1 := rfl
    have e0 : (0 : Int32).toInt = 0 := rfl
    have e16 : (16 : Int32).toInt = 16 := rfl
    rw [i32_lt] at ca
    rw [i32_le] at cb
    obtain ⟨j, hj, rfl⟩ := nI_of (x := v1) (by rw [i32_lt]; omega)
    rw [nIt hj] at ca cb
    exact ⟨j, by omega, by omega, rfl⟩
  rw [x_comp hj1 hj, in_1 (B := 1) (C := 15) (b := 1) (c := 15) rfl rfl ca (show nI j ≤ nI 15 from nI_le (by omega) (by decide)), zb_s, zb_s, if_neg n10, if_neg n10]
  have e := hS j hj1 hj
  have good : ∀ (h : v2 = 0 ∨ v2 = 1 ∨ v2 = -4), ∃ (zx : Int32 × (Nat → Int32)) (zm : Int32 × (Nat → Int32)), f_X11_stick_J28 (nI j) v2 (X_comparers_stuck x) = some zx ∧ f_X12_stick_J30 (nI j) v2 (M_stuck y) = some zm ∧ zx.1 = zm.1 ∧ Inv (xu_stick x zx) (mu_stick y zm) := by
    intro h
    unfold f_X11_stick_J28 f_X12_stick_J30 f_X0_stickAt f_X0_stuckAt
    simp only [x_comp hj1 hj, zb_s, if_neg n10, zc_nI hj (show 16 < 2 ^ 31 by decide), zl_e, nI_clamp (show j < 2 ^ 31 by omega)]
    refine ⟨_, _, rfl, rfl, e.1, n, h1, h2, h3, h4, h5, ?_, hr⟩
    intro i hi1 hi
    show upd (X_comparers_stuck x) j v2 i = upd (M_stuck y) j v2 i ∧ _
    by_cases c : i = j
    · subst c
      refine ⟨by rw [pk_us, pk_us], ?_⟩
      show upd (X_comparers_stuck x) i v2 i = 0 ∨ upd (X_comparers_stuck x) i v2 i = 1 ∨ upd (X_comparers_stuck x) i v2 i = -4
      rw [pk_us]; exact h
    · refine ⟨by rw [pk_un c, pk_un c]; exact (hS i hi1 hi).1, ?_⟩
      show upd (X_comparers_stuck x) j v2 i = 0 ∨ upd (X_comparers_stuck x) j v2 i = 1 ∨ upd (X_comparers_stuck x) j v2 i = -4
      rw [pk_un c]; exact (hS i hi1 hi).2
  by_cases c4 : v2 = -4
  · subst c4
    rw [if_pos rfl, in_0l (B := 0) (C := 1) (b := 0) rfl (by decide), zb_s, if_pos rfl, if_pos rfl]
    exact good (by simp)
  · rw [if_neg c4]
    by_cases c0 : v2 = 0
    · subst c0
      rw [if_pos rfl, in_1 (B := 0) (C := 1) (b := 0) (c := 1) rfl rfl (by decide) (by decide), zb_s, if_neg n10]
      exact good (by simp)
    · rw [if_neg c0]
      by_cases c1 : v2 = 1
      · subst c1
        rw [if_pos rfl, in_1 (B := 0) (C := 1) (b := 0) (c := 1) rfl rfl (by decide) (by decide), zb_s, if_neg n10]
        exact good (by simp)
      · rw [if_neg c1, f_inI v2 0 1 0 1 rfl rfl, if_neg, zb_s, if_pos rfl, if_neg c4]
        · exact ⟨_, _, rfl, rfl, rfl, hI⟩
        · rintro ⟨ha, hb⟩
          rw [i32_le] at ha hb
          rw [i32_eq] at c0 c1
          have e0 : (0 : Int32).toInt = 0 := rfl
          have e1 : (1 : Int32).toInt = 1 := rfl
          omega
theorem x_stuckOnes (f : Nat → Int32) : f_X0_stuckOnes f = some (nI (cU (fun c => ¬ f (c + 1) = -4) 15)) := by
  unfold f_X0_stuckOnes
  rw [zp_0 (v := (0, 1)) (fun j => (nI (cU (fun c => ¬ f (c + 1) = -4) j), nI (j + 1))) 15 (t := 1) (w := (nI (cU (fun c => ¬ f (c + 1) = -4) 15), nI 16)) rfl (by omega) (by decide)]
  · rfl
  · intro j hj
    unfold f_X0_stuckOnes_L4
    simp only []
    rw [if_neg (show ¬ (16 : Int32) ≤ nI (j + 1) from nI_ge (b := 16) (by omega) (by decide)), zc_nI (by omega) (by decide), nI_clamp (by omega)]
    simp only [f_X0_stuckOnes_J27_4, zl_e, nI_1, cU]
    by_cases q : f (j + 1) = -4
    · rw [if_pos q, if_neg (fun h => h q)]
    · rw [if_neg q, if_pos q]
  · unfold f_X0_stuckOnes_L4
    simp only []
    rw [if_pos (show (16 : Int32) ≤ nI (15 + 1) from by decide)]
theorem m_stuckOnes (f : Nat → Int32) : zp (f_X12_count_L4 f) zF (0, 1) = some (1, (nI (cU (fun c => ¬ f (c + 1) = -4) 15), nI 16)) := by
  rw [zp_0 (v := (0, 1)) (fun j => (nI (cU (fun c => ¬ f (c + 1) = -4) j), nI (j + 1))) 15 (t := 1) (w := (nI (cU (fun c => ¬ f (c + 1) = -4) 15), nI 16)) rfl (by omega) (by decide)]
  · intro j hj
    unfold f_X12_count_L4
    simp only []
    rw [if_neg (show ¬ (16 : Int32) ≤ nI (j + 1) from nI_ge (b := 16) (by omega) (by decide)), zc_nI (by omega) (by decide), nI_clamp (by omega)]
    simp only [f_X12_count_J27_4, zl_e, nI_1, cU]
    by_cases q : f (j + 1) = -4
    · rw [if_pos q, if_neg (fun h => h q)]; simp
    · rw [if_neg q, if_pos q]
  · unfold f_X12_count_L4
    simp only []
    rw [if_pos (show (16 : Int32) ≤ nI (15 + 1) from by decide)]
theorem st_count : ST_count Inv := by
  intro x y hI v1
  obtain ⟨n, hb, hR, ho, ⟨k, hk, ek1, ek2, -⟩, hf, hS, ⟨m, hm, em1, em2, -⟩, h0, -⟩ := id hI
  suffices H : ∃ r, f_X11_count v1 (X_rules_bits x) (X_rules_top x) (X_tape_length x) (X_comparers_stuck x) (X_measures_size x) (X_sheet0_size x) = some r ∧ f_X12_count v1 (M_taped y) (M_measured y) (M_holds y) (M_stuck y) (M_lanes y) (M_lengths y) = some r by
    obtain ⟨r, e1, e2⟩ := H
    exact ⟨r, r, e1, e2, rfl, hI⟩
  rw [hb]
  unfold f_X11_count f_X12_count
  rw [m_stuckOnes, zb_s, x_codes hR.1.2, x_parts, x_stuckOnes, zb_s, zb_s, zb_s, m_many hR, m_parts hR, zb_s, zb_s, ek1, ek2, em1, em2, stk_cg hS]
  by_cases c0 : v1 = 0
  · rw [if_pos c0, if_pos c0]; exact ⟨_, rfl, rfl⟩
  rw [if_neg c0, if_neg c0]
  by_cases c1 : v1 = 1
  · rw [if_pos c1, if_pos c1]; exact ⟨_, rfl, rfl⟩
  rw [if_neg c1, if_neg c1]
  by_cases c2 : v1 = 2
  · rw [if_pos c2, if_pos c2]; exact ⟨_, rfl, rfl⟩
  rw [if_neg c2, if_neg c2]
  by_cases c3 : v1 = 3
  · rw [if_pos c3, if_pos c3]; exact ⟨_, rfl, rfl⟩
  rw [if_neg c3, if_neg c3]
  by_cases c4 : v1 = 4
  · rw [if_pos c4, if_pos c4]; exact ⟨_, rfl, rfl⟩
  rw [if_neg c4, if_neg c4]
  by_cases c5 : v1 = 5
  · rw [if_pos c5, if_pos c5, zc_l rfl, zc_l rfl, zc_l rfl, cl0]
    rcases h0.1 with ⟨e1, e2⟩ | ⟨q, hq, e1, e2, e3, e4⟩
    · rw [if_pos e2, e1]; exact ⟨_, rfl, rfl⟩
    · rw [if_neg, e1, e2]
      · exact ⟨_, rfl, rfl⟩
      · rw [e3]; rcases e4 with e | e | e <;> rw [e] <;> decide
  · rw [if_neg c5, if_neg c5]; exact ⟨_, rfl, rfl⟩
