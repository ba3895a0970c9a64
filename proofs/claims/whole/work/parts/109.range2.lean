/-! range: both sides -/
def exB (p : Nat → Bool) : Nat → Bool
  | 0 => false
  | k + 1 => exB p k || p k
theorem exB_iff (p : Nat → Bool) : ∀ M, exB p M = true ↔ ∃ k, k < M ∧ p k = true := by
  intro M
  induction M with
  | zero => simp [exB]
  | succ M ih =>
    simp only [exB, Bool.or_eq_true]
    rw [ih]
    constructor
    · rintro (⟨k, hk, h⟩ | h)
      · exact ⟨k, by omega, h⟩
      · exact ⟨M, by omega, h⟩
    · rintro ⟨k, hk, h⟩
      by_cases d : k = M
      · subst d; exact Or.inr h
      · exact Or.inl ⟨k, by omega, h⟩
theorem iv_ct (lo hi L : Int) : ∀ M : Nat, (fb_ct (fun k => decide (lo ≤ L + k ∧ L + k ≤ hi)) M : Int) = if max lo L ≤ min hi (L + M - 1) then min hi (L + M - 1) - max lo L + 1 else 0 := by
  intro M
  induction M with
  | zero =>
    simp only [fb_ct]
    split <;> omega
  | succ M ih =>
    rw [fb_ct_succ]
    by_cases c : lo ≤ L + M ∧ L + M ≤ hi
    · rw [if_pos (decide_eq_true c)]
      split at ih <;> split <;> omega
    · rw [if_neg (by simpa using c)]
      split at ih <;> split <;> omega
theorem sm_one {N : Nat} (a b : Nat) (ha : a < N) : fb_sm (fun c => if (decide (a = c ∧ b = c)) then 1 else 0) N = if decide (a = b) then 1 else 0 := by
  have key : ∀ n, fb_sm (fun c => if (decide (a = c ∧ b = c)) then 1 else 0) n = if decide (a < n ∧ a = b) then 1 else 0 := by
    intro n
    induction n with
    | zero => simp [fb_sm]
    | succ n ih =>
      rw [fb_sm_succ, ih]
      by_cases c : a = b
      · subst c
        by_cases d : a = n
        · subst d; simp
        · by_cases e : a < n
          · simp [d, e, show a < n + 1 by omega]
          · simp [d, e, show ¬ a < n + 1 by omega]
      · have : ¬ (a = n ∧ b = n) := fun h => c (by omega)
        simp [c, this]
  rw [key N]
  simp [ha]
theorem sm_all {N : Nat} (f g : Nat → Nat) : ∀ M, (∀ k, k < M → f k < N) → fb_sm (fun c => fb_ct (fun k => decide (f k = c ∧ g k = c)) M) N = fb_ct (fun k => decide (f k = g k)) M := by
  intro M
  induction M with
  | zero =>
    intro _
    have : fb_sm (fun c => fb_ct (fun k => decide (f k = c ∧ g k = c)) 0) N = fb_sm (fun _ => 0) N := rfl
    rw [this, fb_sm_const]
    rfl
  | succ M ih =>
    intro h
    have e : (fun c => fb_ct (fun k => decide (f k = c ∧ g k = c)) (M + 1)) = (fun c => fb_ct (fun k => decide (f k = c ∧ g k = c)) M + if (decide (f M = c ∧ g M = c)) then 1 else 0) := by
      funext c; rfl
    rw [e, fb_sm_add, ih (fun k hk => h k (by omega)), sm_one _ _ (h M (by omega)), fb_ct_succ]
theorem qI_lt (oo : Nat → Int) (n : Nat) (u : Int) : ∀ j, qI oo n u j < 2 ^ j := by
  intro j
  induction j with
  | zero => simp [qI]
  | succ j ih =>
    simp only [qI]
    rw [Nat.pow_succ]
    split <;> omega
section
variable {n : Nat} {unit off top lean ref : Int32} {misses resistors holds o : Nat → Int32}
/-- does code c come among the first M volts -/
def cmB (o : Nat → Int32) (n : Nat) (unit lean : Int32) (M c : Nat) : Bool := exB (fun k => decide (cdV o n lean (rL o unit + k) = c)) M
theorem x_comes2 (hn : 2 ≤ n ∧ n ≤ 8) (hu : 1 ≤ unit.toInt ∧ unit.toInt ≤ 99) (hl : -999 ≤ lean.toInt ∧ lean.toInt ≤ 999) (hB : oB o (2 ^ n - 1)) {M : Nat} (hM : rH o unit (2 ^ n - 1) - rL o unit + 1 = M) {c : Nat} (hc : c < 2 ^ n) : ∃ lo hi, f_X8_comes (nI c) (nI n) unit lean o = some (if cmB o n unit lean M c then 1 else 0, lo, hi) ∧ (-3000 ≤ lo.toInt ∧ lo.toInt ≤ 130000) ∧ (-3000 ≤ hi.toInt ∧ hi.toInt ≤ 130000) ∧ ∀ v : Int, (lo.toInt ≤ v ∧ v ≤ hi.toInt ↔ (rL o unit ≤ v ∧ v ≤ rH o unit (2 ^ n - 1)) ∧ cdV o n lean v = c) := by
  obtain ⟨lo, hi, e, hlo, hhi, hv⟩ := x_comes hn hu hl hB hc
  refine ⟨lo, hi, ?_, hlo, hhi, hv⟩
  rw [e]
  have : (lo.toInt ≤ hi.toInt) ↔ cmB o n unit lean M c = true := by
    unfold cmB
    rw [exB_iff]
    constructor
    · intro h
      have h1 := (hv lo.toInt).mp ⟨Int.le_refl _, h⟩
      refine ⟨(lo.toInt - rL o unit).toNat, by omega, ?_⟩
      rw [show rL o unit + ((lo.toInt - rL o unit).toNat : Nat) = lo.toInt by omega]
      exact decide_eq_true h1.2
    · rintro ⟨k, hk, h⟩
      have h1 := (hv (rL o unit + k)).mpr ⟨by omega, of_decide_eq_true h⟩
      omega
  by_cases d : lo.toInt ≤ hi.toInt
  · rw [if_pos d, if_pos (this.mp d)]
  · rw [if_neg d, if_neg (fun h => d (this.mpr h))]
theorem x_codesCome (hn : 2 ≤ n ∧ n ≤ 8) (hu : 1 ≤ unit.toInt ∧ unit.toInt ≤ 99) (hl : -999 ≤ lean.toInt ∧ lean.toInt ≤ 999) (hB : oB o (2 ^ n - 1)) {M : Nat} (hM : rH o unit (2 ^ n - 1) - rL o unit + 1 = M) (s1 s2 : Int32) : ∃ z1 z2, f_X8_codesThatCome (nI n) unit lean o s1 s2 = some (nI (cU (fun c => cmB o n unit lean M c = true) (2 ^ n)), z1, z2) := by
  have hp := pw8 hn.2
  unfold f_X8_codesThatCome
  rw [x_codes hn.2, zb_s]
  obtain ⟨a, ea, i, z1, z2, rfl⟩ := zp_i (f := f_X8_codesThatCome_L12 (nI (2 ^ n)) (nI n) unit lean o) (s := (0, 0, s1, s2)) (fun j w => ∃ z1 z2, w = (nI (cU (fun c => cmB o n unit lean M c = true) j), nI j, z1, z2)) (fun a => ∃ i z1 z2, a = (1, (nI (cU (fun c => cmB o n unit lean M c = true) (2 ^ n)), i, z1, z2))) (2 ^ n) (by omega) ⟨s1, s2, rfl⟩ (by
    rintro j w hj ⟨z1, z2, rfl⟩
    unfold f_X8_codesThatCome_L12
    simp only []
    by_cases e : j = 2 ^ n
    · subst e
      rw [if_pos (nI_le (Nat.le_refl _) (by omega))]
      exact Or.inr ⟨_, rfl, (by decide : ¬ (1 : Nat) = 0), _, _, _, rfl⟩
    · obtain ⟨lo, hi, ec, -⟩ := x_comes2 hn hu hl hB hM (show j < 2 ^ n by omega)
      rw [if_neg (nI_ge (by omega) (by omega)), ec, zb_s]
      unfold f_X8_codesThatCome_J28_12
      simp only [zl_e, nI_1]
      refine Or.inl ⟨by omega, ?_⟩
      rw [show cU (fun c => cmB o n unit lean M c = true) (j + 1) = if cmB o n unit lean M j = true then cU (fun c => cmB o n unit lean M c = true) j + 1 else cU (fun c => cmB o n unit lean M c = true) j from rfl]
      cases cmB o n unit lean M j
      · exact ⟨_, rfl, _, _, rfl⟩
      · exact ⟨_, rfl, _, _, rfl⟩)
  rw [ea, zb_s]
  exact ⟨_, _, rfl⟩
theorem x_firstNever (hn : 2 ≤ n ∧ n ≤ 8) (hu : 1 ≤ unit.toInt ∧ unit.toInt ≤ 99) (hl : -999 ≤ lean.toInt ∧ lean.toInt ≤ 999) (hB : oB o (2 ^ n - 1)) {M : Nat} (hM : rH o unit (2 ^ n - 1) - rL o unit + 1 = M) (s1 s2 : Int32) : ∃ z1 z2, f_X8_firstThatNeverComes (nI n) unit lean o s1 s2 = some (fD (fun c => ¬ cmB o n unit lean M c = true) (2 ^ n) (2 ^ n), z1, z2) := by
  have hp := pw8 hn.2
  unfold f_X8_firstThatNeverComes
  rw [x_codes hn.2, zb_s]
  obtain ⟨a, ea, hQ⟩ := zp_i (f := f_X8_firstThatNeverComes_L10 (nI (2 ^ n)) (nI n) unit lean o) (s := (0, s1, s2)) (fun j w => ∃ z1 z2, w = (nI j, z1, z2) ∧ fD (fun c => ¬ cmB o n unit lean M c = true) (2 ^ n) (2 ^ n) = fD (fun c => ¬ cmB o n unit lean M c = true) (2 ^ n) (2 ^ n - j)) (fun a => ∃ z1 z2, (if a.1 = 1 then some ((-4 : Int32), a.2.2.1, a.2.2.2) else some (a.2.1, a.2.2.1, a.2.2.2)) = some (fD (fun c => ¬ cmB o n unit lean M c = true) (2 ^ n) (2 ^ n), z1, z2)) (2 ^ n) (by omega) ⟨s1, s2, rfl, rfl⟩ (by
    rintro j w hj ⟨z1, z2, rfl, hf⟩
    unfold f_X8_firstThatNeverComes_L10
    simp only []
    by_cases e : j = 2 ^ n
    · subst e
      rw [if_pos (nI_le (Nat.le_refl _) (by omega))]
      refine Or.inr ⟨_, rfl, (by decide : ¬ (1 : Nat) = 0), z1, z2, ?_⟩
      rw [hf, Nat.sub_self]
      rfl
    · obtain ⟨lo, hi, ec, -⟩ := x_comes2 hn hu hl hB hM (show j < 2 ^ n by omega)
      rw [if_neg (nI_ge (by omega) (by omega)), ec, zb_s]
      simp only [zl_e, nI_1]
      rw [show 2 ^ n - j = (2 ^ n - (j + 1)) + 1 by omega] at hf
      rw [show fD (fun c => ¬ cmB o n unit lean M c = true) (2 ^ n) (2 ^ n - (j + 1) + 1) = if ¬ cmB o n unit lean M (2 ^ n - 1 - (2 ^ n - (j + 1))) = true then nI (2 ^ n - 1 - (2 ^ n - (j + 1))) else fD (fun c => ¬ cmB o n unit lean M c = true) (2 ^ n) (2 ^ n - (j + 1)) from rfl, show 2 ^ n - 1 - (2 ^ n - (j + 1)) = j by omega] at hf
      cases hcm : cmB o n unit lean M j
      · rw [hcm] at hf
        rw [if_pos (by decide)] at hf
        refine Or.inr ⟨_, rfl, (by decide : ¬ (2 : Nat) = 0), lo, hi, ?_⟩
        rw [hf]
        rfl
      · rw [hcm] at hf
        rw [if_neg (by decide)] at hf
        exact Or.inl ⟨by omega, _, rfl, _, _, rfl, hf⟩)
  rw [ea, zb_s]
  exact hQ
/-- volts at the nearest, for one code -/
def ctN (o : Nat → Int32) (n : Nat) (unit lean : Int32) (M c : Nat) : Nat := fb_ct (fun k => decide (cdV o n lean (rL o unit + k) = c ∧ nrS (rL o unit + k) (fun c => (o c).toInt) (2 ^ n - 1) = c)) M
theorem x_voltsNear (hn : 2 ≤ n ∧ n ≤ 8) (hu : 1 ≤ unit.toInt ∧ unit.toInt ≤ 99) (hl : -999 ≤ lean.toInt ∧ lean.toInt ≤ 999) (hB : oB o (2 ^ n - 1)) {M : Nat} (hM : rH o unit (2 ^ n - 1) - rL o unit + 1 = M) (s1 s2 : Int32) : ∃ z1 z2, f_X8_voltsAtNearest (nI n) unit lean o s1 s2 = some (nI (fb_sm (ctN o n unit lean M) (2 ^ n)), z1, z2) := by
  have hp := pw8 hn.2
  unfold f_X8_voltsAtNearest
  rw [x_codes hn.2, zb_s]
  obtain ⟨a, ea, i, z1, z2, rfl⟩ := zp_i (f := f_X8_voltsAtNearest_L12 (nI (2 ^ n)) (nI n) unit lean o) (s := (0, 0, s1, s2)) (fun j w => ∃ z1 z2, w = (nI (fb_sm (ctN o n unit lean M) j), nI j, z1, z2)) (fun a => ∃ i z1 z2, a = (1, (nI (fb_sm (ctN o n unit lean M) (2 ^ n)), i, z1, z2))) (2 ^ n) (by omega) ⟨s1, s2, rfl⟩ (by
    rintro j w hj ⟨z1, z2, rfl⟩
    unfold f_X8_voltsAtNearest_L12
    simp only []
    by_cases e : j = 2 ^ n
    · subst e
      rw [if_pos (nI_le (Nat.le_refl _) (by omega))]
      exact Or.inr ⟨_, rfl, (by decide : ¬ (1 : Nat) = 0), _, _, _, rfl⟩
    · obtain ⟨lo, hi, ec, hlo, hhi, hv⟩ := x_comes2 hn hu hl hB hM (show j < 2 ^ n by omega)
      obtain ⟨lo', hi', en, hlo', hhi', hv'⟩ := x_cutNear hn.2 hB (show j < 2 ^ n by omega) hlo hhi
      have e1 : (1 : Int32).toInt = 1 := rfl
      have both : ∀ k, k < M → decide (cdV o n lean (rL o unit + k) = j ∧ nrS (rL o unit + k) (fun c => (o c).toInt) (2 ^ n - 1) = j) = decide (lo'.toInt ≤ rL o unit + k ∧ rL o unit + k ≤ hi'.toInt) := by
        intro k hk
        have h1 := hv' (rL o unit + k)
        have h2 := hv (rL o unit + k)
        rw [h2] at h1
        apply decide_eq_decide.mpr
        rw [h1]
        constructor
        · rintro ⟨q1, q2⟩; exact ⟨⟨by omega, q1⟩, q2⟩
        · rintro ⟨⟨-, q1⟩, q2⟩; exact ⟨q1, q2⟩
      have hcnt : ctN o n unit lean M j = fb_ct (fun k => decide (lo'.toInt ≤ rL o unit + k ∧ rL o unit + k ≤ hi'.toInt)) M := fb_ct_cong both
      have hiv := iv_ct lo'.toInt hi'.toInt (rL o unit) M
      rw [← hcnt] at hiv
      rw [if_neg (nI_ge (by omega) (by omega)), ec, zb_s]
      unfold f_X8_voltsAtNearest_J40_12
      simp only [zl_e, nI_1]
      refine Or.inl ⟨by omega, ?_⟩
      rw [fb_sm_succ]
      by_cases hcm : cmB o n unit lean M j = true
      · rw [if_pos hcm, if_neg n10, en, zb_s]
        have hin : lo'.toInt ≤ hi'.toInt → rL o unit ≤ lo'.toInt ∧ hi'.toInt ≤ rL o unit + M - 1 := by
          intro h
          have h1 := (hv' lo'.toInt).mp ⟨Int.le_refl _, h⟩
          have h2 := (hv' hi'.toInt).mp ⟨h, Int.le_refl _⟩
          have h3 := (hv lo'.toInt).mp h1.1
          have h4 := (hv hi'.toInt).mp h2.1
          omega
        have evo : f_X7_volts lo' hi' = some (nI (ctN o n unit lean M j)) := by
          unfold f_X7_volts
          by_cases q : lo'.toInt ≤ hi'.toInt
          · have h5 := hin q
            rw [if_pos (show lo' ≤ hi' from by rw [i32_le]; exact q)]
            congr 1
            rw [if_pos (by omega)] at hiv
            have es : (hi' - lo').toInt = hi'.toInt - lo'.toInt := fb_subI (by omega) (by omega)
            have es1 : (hi' - lo' + 1).toInt = hi'.toInt - lo'.toInt + 1 := by rw [fb_addI] <;> rw [es, e1] <;> omega
            rw [i32_eq, es1, nIt (by omega), hiv]
            omega
          · rw [if_neg (show ¬ lo' ≤ hi' from by rw [i32_le]; exact q)]
            congr 1
            have : ctN o n unit lean M j = 0 := by
              split at hiv <;> omega
            rw [this]
            rfl
        rw [evo, zb_s, nI_add]
        exact ⟨_, rfl, _, _, rfl⟩
      · rw [if_neg hcm, if_pos rfl]
        have : ctN o n unit lean M j = 0 := by
          unfold ctN
          rw [fb_ct_zero]
          intro k hk
          apply decide_eq_false
          rintro ⟨q1, -⟩
          apply hcm
          unfold cmB
          rw [exB_iff]
          exact ⟨k, hk, decide_eq_true q1⟩
        rw [this, Nat.add_zero]
        exact ⟨_, rfl, _, _, rfl⟩)
  rw [ea, zb_s]
  exact ⟨_, _, rfl⟩
end
