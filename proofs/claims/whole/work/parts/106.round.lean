/-! round -/
theorem rho {α : Type} {p : Nat → α} (det : ∀ i j, p i = p j → p (i + 1) = p (j + 1)) {m l : Nat} (hl : 0 < l) (hp : p m = p (m + l)) (hd : ∀ i j, i < j → j < m + l → ¬ p i = p j) {n : Nat} (hn : m + l ≤ n) : p (n - l) = p n ∧ ∀ t, n - l < t → t < n → ¬ p t = p n := by
  have sh : ∀ {a b : Nat} (_ : p a = p b) (k : Nat), p (a + k) = p (b + k) := by
    intro a b h k
    induction k with
    | zero => exact h
    | succ k ih => exact det _ _ ih
  have per : ∀ k, p (m + k) = p (m + l + k) := fun k => sh hp k
  have it : ∀ q k, p (m + k + q * l) = p (m + k) := by
    intro q
    induction q with
    | zero => intro k; simp
    | succ q ih =>
      intro k
      have h1 := per (k + q * l)
      rw [show m + l + (k + q * l) = m + k + (q + 1) * l by rw [Nat.add_mul]; omega, show m + (k + q * l) = m + k + q * l by omega] at h1
      rw [← h1, ih]
  refine ⟨?_, ?_⟩
  · have h := per (n - l - m)
    rw [show m + (n - l - m) = n - l by omega, show m + l + (n - l - m) = n by omega] at h
    exact h
  · intro t h1 h2 h3
    have ht : t ≤ m + t * l := by
      have := Nat.le_mul_of_pos_right t hl
      omega
    have h4 := sh h3 (m + t * l - t)
    rw [show t + (m + t * l - t) = m + 0 + t * l by omega, show n + (m + t * l - t) = m + (n - t) + t * l by omega, it, it] at h4
    exact hd m (m + (n - t)) (by omega) (by omega) h4
def pj (o : Int32) (z : Int32 × Int32 × Int32) : Int32 × Int32 × Int32 := if o = 1 then (z.1, 0, 0) else z
def pq (o v ref : Int32) (i : Nat) : Int32 × Int32 × Int32 := pj o (kS o v ref i)
theorem pq_det (o v ref : Int32) (i j : Nat) (h : pq o v ref i = pq o v ref j) : pq o v ref (i + 1) = pq o v ref (j + 1) := by
  unfold pq pj at *
  show (if o = 1 then ((tk o v ref (kS o v ref i)).1, 0, 0) else tk o v ref (kS o v ref i)) = (if o = 1 then ((tk o v ref (kS o v ref j)).1, 0, 0) else tk o v ref (kS o v ref j))
  by_cases c : o = 1
  · rw [if_pos c, if_pos c] at h ⊢
    have h1 : (kS o v ref i).1 = (kS o v ref j).1 := (Prod.mk.inj h).1
    unfold tk
    rw [if_pos c, if_pos c, h1]
  · rw [if_neg c, if_neg c] at h ⊢
    rw [h]
theorem x_isAs (o v ref : Int32) (i j : Nat) : (pq o v ref i = pq o v ref j ∧ f_X2_isAs o (kS o v ref i).1 (kS o v ref i).2.1 (kS o v ref i).2.2 (kS o v ref j).1 (kS o v ref j).2.1 (kS o v ref j).2.2 = some 1) ∨ (¬ pq o v ref i = pq o v ref j ∧ f_X2_isAs o (kS o v ref i).1 (kS o v ref i).2.1 (kS o v ref i).2.2 (kS o v ref j).1 (kS o v ref j).2.1 (kS o v ref j).2.2 = some 0) := by
  unfold pq pj f_X2_isAs
  generalize kS o v ref i = a
  generalize kS o v ref j = b
  obtain ⟨a1, a2, a3⟩ := a
  obtain ⟨b1, b2, b3⟩ := b
  by_cases c : o = 1
  · by_cases d : a1 = b1 <;> simp [c, d]
  · by_cases d1 : a1 = b1 <;> by_cases d2 : a2 = b2 <;> by_cases d3 : a3 = b3 <;> simp [c, d1, d2, d3]
theorem x_rl (o v ref : Int32) : ∃ l z1 z2 z3, f_X11_roundLength o v ref = some (l, o, v, ref, z1, z2, z3, o, v, ref, kS o v ref 400) ∧ ((l = -4 ∧ ∀ i, i < 400 → ¬ pq o v ref i = pq o v ref 400) ∨ ∃ t, t < 400 ∧ l = nI (400 - t) ∧ pq o v ref t = pq o v ref 400 ∧ ∀ i, t < i → i < 400 → ¬ pq o v ref i = pq o v ref 400) := by
  unfold f_X11_roundLength
  rw [x_begin, zb_s]
  simp only []
  have h1 := x_twone o v ref 0 (n := 400) (by omega)
  rw [Nat.zero_add, show nI 400 = (400 : Int32) from rfl] at h1
  rw [h1, zb_s, zb_s]
  simp only []
  obtain ⟨a, ea, l, i, z, rfl, hQ⟩ := zp_i (f := f_X11_roundLength_L49 o v ref (kS o v ref 400).1 (kS o v ref 400).2.1 (kS o v ref 400).2.2) (s := (-4, 0, (kS o v ref 0).1, (kS o v ref 0).2.1, (kS o v ref 0).2.2))
    (fun j w => ∃ l, w = (l, nI j, kS o v ref j) ∧ ((l = -4 ∧ ∀ i, i < j → ¬ pq o v ref i = pq o v ref 400) ∨ ∃ t, t < j ∧ l = nI (400 - t) ∧ pq o v ref t = pq o v ref 400 ∧ ∀ i, t < i → i < j → ¬ pq o v ref i = pq o v ref 400))
    (fun a => ∃ l i z, a = (1, (l, i, z)) ∧ ((l = -4 ∧ ∀ i, i < 400 → ¬ pq o v ref i = pq o v ref 400) ∨ ∃ t, t < 400 ∧ l = nI (400 - t) ∧ pq o v ref t = pq o v ref 400 ∧ ∀ i, t < i → i < 400 → ¬ pq o v ref i = pq o v ref 400)) 400 (by omega) ⟨-4, rfl, Or.inl ⟨rfl, fun i hi => by omega⟩⟩ (by
      rintro j w hj ⟨l, rfl, hh⟩
      unfold f_X11_roundLength_L49
      simp only []
      by_cases c : j = 400
      · subst c
        rw [if_pos (show (400 : Int32) ≤ nI 400 by decide)]
        exact Or.inr ⟨_, rfl, (by decide : ¬ (1 : Nat) = 0), l, _, _, rfl, hh⟩
      · rw [if_neg (show ¬ (400 : Int32) ≤ nI j from nI_ge (b := 400) (by omega) (by decide))]
        unfold f_X11_roundLength_J78_49
        rw [x_tick, zb_s, zl_e, nI_1]
        refine Or.inl ⟨by omega, ?_⟩
        rcases x_isAs o v ref j 400 with ⟨h1, h2⟩ | ⟨h1, h2⟩
        · rw [h2, zb_s, if_neg n10, zl_e, zb_s, show (400 : Int32) - nI j = nI (400 - j) from pk_sub (a := 400) (by omega)]
          exact ⟨_, rfl, _, rfl, Or.inr ⟨j, by omega, rfl, h1, fun i hi hi2 => by omega⟩⟩
        · rw [h2, zb_s, if_pos rfl]
          refine ⟨_, rfl, _, rfl, ?_⟩
          rcases hh with ⟨g1, g2⟩ | ⟨t, g0, g1, g2, g3⟩
          · exact Or.inl ⟨g1, fun i hi => by
              by_cases d : i = j
              · subst d; exact h1
              · exact g2 i (by omega)⟩
          · exact Or.inr ⟨t, by omega, g1, g2, fun i hi hi2 => by
              by_cases d : i = j
              · subst d; exact h1
              · exact g3 i hi (by omega)⟩)
  rw [ea, zb_s]
  exact ⟨l, z.1, z.2.1, z.2.2, rfl, hQ⟩
theorem m_same {o v ref : Int32} (ho : o = 1 ∨ o = 2) {e t g : Nat → Int32} (h : ∀ i, i ≤ 400 → e i = (kS o v ref i).1 ∧ t i = (kS o v ref i).2.1 ∧ g i = (kS o v ref i).2.2) {w j : Nat} (hw : w < j) (hj : j ≤ 400) : (pq o v ref w = pq o v ref j ∧ f_X12_round_L45 o (nI j) e t g (nI w) = some (2, nI w)) ∨ (¬ pq o v ref w = pq o v ref j ∧ f_X12_round_L45 o (nI j) e t g (nI w) = some (0, nI (w + 1))) := by
  have h1 := h w (by omega)
  have h2 := h j hj
  unfold f_X12_round_L45 f_X12_round_J141_45
  rw [if_neg (nI_ge hw (by omega))]
  simp only [zl_e, nI_1, zc_nI (show w < 440 by omega) (show 440 < 2 ^ 31 by decide), zc_nI (show j < 440 by omega) (show 440 < 2 ^ 31 by decide), nI_clamp (show w < 2 ^ 31 by omega), nI_clamp (show j < 2 ^ 31 by omega), h1.1, h1.2.1, h1.2.2, h2.1, h2.2.1, h2.2.2]
  unfold pq pj
  generalize kS o v ref w = a
  generalize kS o v ref j = b
  obtain ⟨a1, a2, a3⟩ := a
  obtain ⟨b1, b2, b3⟩ := b
  by_cases c : o = 1
  · by_cases d : a1 = b1 <;> simp [c, d]
  · by_cases d1 : a1 = b1 <;> by_cases d2 : a2 = b2 <;> by_cases d3 : a3 = b3 <;> simp [c, d1, d2, d3]
theorem m_in {o v ref : Int32} (ho : o = 1 ∨ o = 2) {e t g : Nat → Int32} (h : ∀ i, i ≤ 400 → e i = (kS o v ref i).1 ∧ t i = (kS o v ref i).2.1 ∧ g i = (kS o v ref i).2.2) {j : Nat} (hj : j ≤ 400) : (zp (f_X12_round_L45 o (nI j) e t g) zF 0 = some (1, nI j) ∧ ∀ w, w < j → ¬ pq o v ref w = pq o v ref j) ∨ ∃ w, w < j ∧ zp (f_X12_round_L45 o (nI j) e t g) zF 0 = some (2, nI w) ∧ pq o v ref w = pq o v ref j := by
  obtain ⟨a, ea, hQ⟩ := zp_i (f := f_X12_round_L45 o (nI j) e t g) (s := (0 : Int32)) (fun w s => s = nI w ∧ ∀ i, i < w → ¬ pq o v ref i = pq o v ref j) (fun a => (a = (1, nI j) ∧ ∀ w, w < j → ¬ pq o v ref w = pq o v ref j) ∨ ∃ w, w < j ∧ a = (2, nI w) ∧ pq o v ref w = pq o v ref j) j (by omega) ⟨rfl, fun i hi => by omega⟩ (by
    rintro w s hw ⟨rfl, hh⟩
    by_cases c : w = j
    · subst c
      right
      unfold f_X12_round_L45
      rw [if_pos (nI_le (Nat.le_refl _) (by omega))]
      exact ⟨_, rfl, (by decide : ¬ (1 : Nat) = 0), Or.inl ⟨rfl, hh⟩⟩
    · rcases m_same ho h (show w < j by omega) hj with ⟨g1, g2⟩ | ⟨g1, g2⟩
      · exact Or.inr ⟨_, g2, (by decide : ¬ (2 : Nat) = 0), Or.inr ⟨w, by omega, rfl, g1⟩⟩
      · exact Or.inl ⟨by omega, _, g2, rfl, fun i hi => by
          by_cases d : i = w
          · subst d; exact g1
          · exact hh i (by omega)⟩)
  rcases hQ with ⟨rfl, h⟩ | ⟨w, hw, rfl, h⟩
  · exact Or.inl ⟨ea, h⟩
  · exact Or.inr ⟨w, hw, ea, h⟩
theorem m_rl {o v ref : Int32} (ho : o = 1 ∨ o = 2) {e t g : Nat → Int32} (h : ∀ i, i ≤ 400 → e i = (kS o v ref i).1 ∧ t i = (kS o v ref i).2.1 ∧ g i = (kS o v ref i).2.2) : (∃ q, zp (f_X12_round_L34 o e t g) zF (1, 0) = some (1, q) ∧ ∀ i j, i < j → j ≤ 400 → ¬ pq o v ref i = pq o v ref j) ∨ ∃ w j, w < j ∧ j ≤ 400 ∧ zp (f_X12_round_L34 o e t g) zF (1, 0) = some (2, (nI j, nI w)) ∧ pq o v ref w = pq o v ref j ∧ ∀ i i', i < i' → i' < j → ¬ pq o v ref i = pq o v ref i' := by
  obtain ⟨a, ea, hQ⟩ := zp_i (f := f_X12_round_L34 o e t g) (s := ((1, 0) : Int32 × Int32)) (fun k s => s = (nI (k + 1), 0) ∧ ∀ i j, i < j → j ≤ k → ¬ pq o v ref i = pq o v ref j) (fun a => (∃ q, a = (1, q) ∧ ∀ i j, i < j → j ≤ 400 → ¬ pq o v ref i = pq o v ref j) ∨ ∃ w j, w < j ∧ j ≤ 400 ∧ a = (2, (nI j, nI w)) ∧ pq o v ref w = pq o v ref j ∧ ∀ i i', i < i' → i' < j → ¬ pq o v ref i = pq o v ref i') 400 (by omega) ⟨rfl, fun i j hi hj => by omega⟩ (by
    rintro k s hk ⟨rfl, hh⟩
    unfold f_X12_round_L34
    simp only []
    by_cases c : k = 400
    · subst c
      right
      rw [if_pos (show (400 : Int32) < nI (400 + 1) by decide)]
      exact ⟨_, rfl, (by decide : ¬ (1 : Nat) = 0), Or.inl ⟨_, rfl, hh⟩⟩
    · rw [if_neg (show ¬ (400 : Int32) < nI (k + 1) from nI_nlt (a := 400) (by omega) (by decide))]
      rcases m_in ho h (show k + 1 ≤ 400 by omega) with ⟨g1, g2⟩ | ⟨w, hw, g1, g2⟩
      · rw [g1, zb_s]
        simp only []
        rw [if_pos trivial, zl_e, nI_1]
        refine Or.inl ⟨by omega, _, rfl, rfl, fun i j hi hj => ?_⟩
        by_cases d : j = k + 1
        · subst d; exact g2 i hi
        · exact hh i j hi (by omega)
      · rw [g1, zb_s]
        simp only []
        rw [if_neg (show ¬ (2 : Nat) = 1 by decide)]
        exact Or.inr ⟨_, rfl, (by decide : ¬ (2 : Nat) = 0), Or.inr ⟨w, k + 1, hw, by omega, rfl, g2, fun i i' hi hi' => hh i i' hi (by omega)⟩⟩)
  rcases hQ with ⟨q, rfl, h⟩ | ⟨w, j, h1, h2, rfl, h3⟩
  · exact Or.inl ⟨q, ea, h⟩
  · exact Or.inr ⟨w, j, h1, h2, ea, h3⟩
theorem x_enter (o v ref : Int32) {m l : Nat} (hl : l ≤ 400) (hm : m < 400) (h1 : pq o v ref m = pq o v ref (m + l)) (h2 : ∀ i, i < m → ¬ pq o v ref i = pq o v ref (i + l)) : f_X11_enterRound o v (nI l) ref = some (nI m, o, v, ref, (kS o v ref m).1, (kS o v ref m).2.1, (kS o v ref m).2.2, o, v, ref, kS o v ref (m + l)) := by
  unfold f_X11_enterRound
  rw [x_begin, zb_s]
  simp only []
  have e1 := x_twone o v ref 0 hl
  rw [Nat.zero_add] at e1
  rw [e1, zb_s, zb_s]
  simp only []
  rw [zp_0 (v := (0, (kS o v ref 0).1, (kS o v ref 0).2.1, (kS o v ref 0).2.2, (kS o v ref l).1, (kS o v ref l).2.1, (kS o v ref l).2.2)) (fun j => (nI j, (kS o v ref j).1, (kS o v ref j).2.1, (kS o v ref j).2.2, kS o v ref (j + l))) m (t := 1) (w := (nI m, (kS o v ref m).1, (kS o v ref m).2.1, (kS o v ref m).2.2, kS o v ref (m + l))) (by rw [Nat.zero_add]; rfl) (by omega) (by decide)]
  · rfl
  · intro j hj
    unfold f_X11_enterRound_L44
    simp only []
    rw [if_neg (show ¬ (400 : Int32) ≤ nI j from nI_ge (b := 400) (by omega) (by decide))]
    rcases x_isAs o v ref j (j + l) with ⟨g1, g2⟩ | ⟨g1, g2⟩
    · exact absurd g1 (h2 j hj)
    · rw [g2, zb_s, if_pos rfl, x_tick, zb_s, x_tick, zb_s, zl_e, nI_1, show j + 1 + l = (j + l) + 1 by omega]
      rfl
  · unfold f_X11_enterRound_L44
    simp only []
    rw [if_neg (show ¬ (400 : Int32) ≤ nI m from nI_ge (b := 400) (by omega) (by decide))]
    rcases x_isAs o v ref m (m + l) with ⟨g1, g2⟩ | ⟨g1, g2⟩
    · rw [g2, zb_s, if_neg n10]
    · exact absurd h1 g1
theorem st_round : ST_round Inv := by
  intro x y hI v1 v2 v3
  obtain ⟨n, hb, hR, -⟩ := id hI
  obtain ⟨hn, g0, g1, g2, g3, g4, g5, -⟩ := id hR
  suffices H : ∃ r a1 a2 a3 a4 a5 a6 a7 a8 a9 b1 b2 b3 es ts gs, f_X11_round v1 v2 v3 (X_rules_ref x) (X_keeper_order x) (X_keeper_volt x) (X_keeper_ref x) (X_keeper_s x) (X_keeper_t x) (X_keeper_bit x) (X_otherKeeper_order x) (X_otherKeeper_volt x) (X_otherKeeper_ref x) (X_otherKeeper_s x) (X_otherKeeper_t x) (X_otherKeeper_bit x) = some (r, a1, a2, a3, a4, a5, a6, a7, a8, a9, b1, b2, b3) ∧ f_X12_round v1 v2 v3 (M_holds y) (M_esses y) (M_tees y) (M_gave y) = some (r, es, ts, gs) by
    obtain ⟨r, a1, a2, a3, a4, a5, a6, a7, a8, a9, b1, b2, b3, es, ts, gs, e1, e2⟩ := H
    exact ⟨(r, a1, a2, a3, a4, a5, a6, a7, a8, a9, b1, b2, b3), (r, es, ts, gs), e1, e2, rfl, hI⟩
  unfold f_X11_round f_X12_round
  rcases kept_or v1 v2 with ⟨ho, e1, e2⟩ | ⟨e1, e2⟩
  · rw [e1, e2, zb_s, zb_s, if_neg n10, if_neg n10]
    by_cases c1 : v3 < 0
    · rw [if_pos c1, in_0l (B := 0) (b := 0) rfl c1, zb_s, if_pos rfl]
      exact ⟨_, _, _, _, _, _, _, _, _, _, _, _, _, _, _, _, rfl, rfl⟩
    rw [if_neg c1]
    by_cases c2 : v3 ≤ 2
    · obtain ⟨es, ts, gs, e3, hh⟩ := m_layKept ho (v := v2) g5 (show 400 < 440 by omega) (M_esses y) (M_tees y) (M_gave y)
      rw [show nI 400 = (400 : Int32) from rfl] at e3
      obtain ⟨l, z1, z2, z3, el, hl⟩ := x_rl v1 v2 (X_rules_ref x)
      rw [if_pos c2, in_1 (B := 0) (C := 2) (b := 0) (c := 2) rfl rfl c1 c2, zb_s, if_neg n10, e3, zb_s, el, zb_s]
      simp only []
      rcases m_rl ho hh with ⟨q, k1, k2⟩ | ⟨w, j, hw, hj, k1, k2, k3⟩
      · rw [k1, zb_s]
        simp only []
        rcases hl with ⟨rfl, -⟩ | ⟨t, ht, -, hp, -⟩
        · rw [if_pos rfl, if_pos trivial]
          exact ⟨_, _, _, _, _, _, _, _, _, _, _, _, _, _, _, _, rfl, rfl⟩
        · exact absurd hp (k2 t 400 ht (by omega))
      · rw [k1, zb_s]
        simp only []
        have hr := rho (p := pq v1 v2 (X_rules_ref x)) (pq_det v1 v2 (X_rules_ref x)) (m := w) (l := j - w) (by omega) (by rw [show w + (j - w) = j by omega]; exact k2) (by rw [show w + (j - w) = j by omega]; exact k3) (n := 400) (by omega)
        have el2 : l = nI (j - w) := by
          rcases hl with ⟨-, hno⟩ | ⟨t, ht, et, hp, hlast⟩
          · exact absurd hr.1 (hno (400 - (j - w)) (by omega))
          · rcases Nat.lt_trichotomy t (400 - (j - w)) with d | d | d
            · exact absurd hr.1 (hlast _ d (by omega))
            · rw [et, d, show 400 - (400 - (j - w)) = j - w by omega]
            · exact absurd hp (hr.2 t d ht)
        have nl : ¬ l = -4 := by
          rw [el2, i32_eq, nIt (by omega)]
          have : (-4 : Int32).toInt = -4 := rfl
          omega
        rw [if_neg nl, if_neg (show ¬ (2 : Nat) = 1 by decide), el2]
        unfold f_X12_round_J108
        have hen := x_enter v1 v2 (X_rules_ref x) (m := w) (l := j - w) (by omega) (by omega) (by rw [show w + (j - w) = j by omega]; exact k2) (fun i hi => k3 i (i + (j - w)) (by omega) (by omega))
        by_cases d1 : v3 = 1
        · rw [if_pos d1, if_neg (show ¬ v3 = 0 by rw [d1]; decide), if_pos d1, pk_sub (by omega)]
          exact ⟨_, _, _, _, _, _, _, _, _, _, _, _, _, _, _, _, rfl, rfl⟩
        · rw [if_neg d1, if_neg d1, hen, zb_s]
          simp only []
          by_cases d0 : v3 = 0
          · rw [if_pos d0, if_pos d0]
            exact ⟨_, _, _, _, _, _, _, _, _, _, _, _, _, _, _, _, rfl, rfl⟩
          · have h1 := x_twone v1 v2 (X_rules_ref x) w (n := j - w) (by omega)
            have h2 := m_onesIn (o := v1) (v := v2) (ref := X_rules_ref x) (g := gs) (a := w) (n := j - w) (M := 400) (by omega) (by omega) (fun i hi => (hh i hi).2.2)
            rw [show w + (j - w) = j by omega] at h2
            rw [if_neg d0, if_neg d0, h1, zb_s, nI_1, h2, zb_s]
            exact ⟨_, _, _, _, _, _, _, _, _, _, _, _, _, _, _, _, rfl, rfl⟩
    · rw [if_neg c2, in_0h (C := 2) (c := 2) rfl c2, zb_s, if_pos rfl]
      exact ⟨_, _, _, _, _, _, _, _, _, _, _, _, _, _, _, _, rfl, rfl⟩
  · rw [e1, e2, zb_s, zb_s, if_pos rfl, if_pos rfl]
    exact ⟨_, _, _, _, _, _, _, _, _, _, _, _, _, _, _, _, rfl, rfl⟩
