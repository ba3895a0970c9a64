/-! text: names -/
def lw (i j : Nat) : Int32 := (sbyt.getD i []).getD j 0
theorem sch : ∀ i, i < 8 → ∀ j, j < slen.getD i 0 → schar i (nI j) = lw i j := by decide +kernel
theorem lwL : ∀ i, i < 8 → ∀ j, j < slen.getD i 0 → lettersL.getD ((endsL.getD i 0).toNatClampNeg + j) 0 = lw i j := by decide +kernel
theorem enL : ∀ i, i < 8 → endsL.getD (i + 1) 0 - endsL.getD i 0 = nI (slen.getD i 0) ∧ endsL.getD i 0 = nI (endsL.getD i 0).toNatClampNeg ∧ (endsL.getD i 0).toNatClampNeg + slen.getD i 0 ≤ 34 ∧ slen.getD i 0 ≤ 6 := by decide +kernel
/-- the word from p to q is name i -/
def NM (tape : Nat → Int32) (p q i : Nat) : Prop := q - p = slen.getD i 0 ∧ ∀ j, j < slen.getD i 0 → tape (p + j) = lw i j
section
variable {k : Nat} {bytes tape ends letters : Nat → Int32}
theorem lt_byte (h : TB k bytes tape) {p e : Nat} (hr : run k tape 1 p e) {i : Nat} (h1 : p ≤ i) (h2 : i < e) : bytes i = tape i := by
  obtain ⟨a1, a2, a3, a4⟩ := id hr
  have hd := a3 i h1 h2
  have hb : 97 ≤ (tape i).toInt ∧ (tape i).toInt ≤ 122 := by
    unfold kc at hd
    repeat' split at hd
    all_goals first | assumption | exact absurd hd (by decide)
  rw [(h.2 i (by omega)).1]
  exact fb_byte (by omega) (by omega)
theorem nI_ij {a b : Nat} (ha : a < 2 ^ 31) (hb : b < 2 ^ 31) (e : nI a = nI b) : a = b := by
  have := congrArg Int32.toInt e
  rw [nIt ha, nIt hb] at this
  omega
theorem x_named (h : TB k bytes tape) {p q i : Nat} (hr : run k tape 1 p q) (hi : i < 8) : (NM tape p q i ∧ f_X9_isNamed 1 (nI p) (nI q) bytes i = some 1) ∨ (¬ NM tape p q i ∧ f_X9_isNamed 1 (nI p) (nI q) bytes i = some 0) := by
  have hk := h.1
  obtain ⟨a1, a2, a3, a4⟩ := id hr
  have h6 := (enL i hi).2.2.2
  unfold f_X9_isNamed
  rw [if_pos rfl, pk_sub a1]
  by_cases cl : q - p = slen.getD i 0
  · rw [if_pos (show nI (q - p) = Int32.ofNat (slen.getD i 0) from congrArg nI cl)]
    obtain ⟨a, ea, hq⟩ := zp_i (f := f_X9_isNamed_L32 (nI p) bytes i) (s := (0 : Int32)) (fun j w => w = nI j ∧ ∀ l, l < j → tape (p + l) = lw i l) (fun a => (a.1 = 1 ∧ NM tape p q i) ∨ (a.1 = 2 ∧ ¬ NM tape p q i)) (slen.getD i 0) (by omega) ⟨rfl, fun l hl => by omega⟩ (by
      rintro j w hj ⟨rfl, hl⟩
      unfold f_X9_isNamed_L32
      by_cases c : j = slen.getD i 0
      · right
        rw [if_pos (show Int32.ofNat (slen.getD i 0) ≤ nI j from nI_le (a := slen.getD i 0) (by omega) (by omega))]
        exact ⟨_, rfl, (by decide : ¬ (1 : Nat) = 0), Or.inl ⟨rfl, cl, fun l hl2 => hl l (by omega)⟩⟩
      · have hj2 : j < slen.getD i 0 := by omega
        rw [if_neg (show ¬ Int32.ofNat (slen.getD i 0) ≤ nI j from nI_ge hj2 (by omega)), zc_nI hj2 (by omega), nI_add, sch i hi j hj2]
        unfold f_X9_byteAt
        rw [if_neg (nI_pos (by omega)), if_neg (show ¬ (200 : Int32) ≤ nI (p + j) from nI_ge (b := 200) (by omega) (by decide)), zc_nI (by omega) (by decide), zb_s, nI_clamp (by omega), lt_byte h hr (by omega) (by omega)]
        by_cases ce : lw i j = tape (p + j)
        · left
          rw [if_pos ce, zl_e, nI_1]
          refine ⟨hj2, _, rfl, rfl, fun l hl2 => ?_⟩
          by_cases e : l = j
          · subst e; exact ce.symm
          · exact hl l (by omega)
        · right
          rw [if_neg ce]
          exact ⟨_, rfl, (by decide : ¬ (2 : Nat) = 0), Or.inr ⟨rfl, fun hn => ce (hn.2 j hj2).symm⟩⟩)
    rw [ea, zb_s]
    rcases hq with ⟨e, hn⟩ | ⟨e, hn⟩
    · rw [e]; exact Or.inl ⟨hn, rfl⟩
    · rw [e]; exact Or.inr ⟨hn, rfl⟩
  · rw [if_neg (show ¬ nI (q - p) = Int32.ofNat (slen.getD i 0) from fun hh => cl (nI_ij (by omega) (by omega) hh))]
    exact Or.inr ⟨fun hn => cl hn.1, rfl⟩
/-- class: the first of the names that it is -/
def FN (tape : Nat → Int32) (p q : Nat) (x y : Int32) : Prop := (x = -1 ∧ y = -4 ∧ ∀ i, i < 8 → ¬ NM tape p q i) ∨ ∃ i, i < 8 ∧ x = nI i ∧ y = nI i ∧ NM tape p q i ∧ ∀ j, j < i → ¬ NM tape p q j
theorem x_line (h : TB k bytes tape) {p q : Nat} (hr : run k tape 1 p q) : ∃ x y, f_X4_lineNamed 1 (nI p) (nI q) bytes = some x ∧ FN tape p q x y := by
  unfold f_X4_lineNamed
  rcases x_named h hr (i := 0) (by decide) with ⟨h0, e⟩ | ⟨h0, e⟩
  · rw [e, zb_s, if_neg n10]
    exact ⟨_, _, rfl, Or.inr ⟨0, by decide, rfl, rfl, h0, fun j hj => by omega⟩⟩
  rw [e, zb_s, if_pos rfl]
  rcases x_named h hr (i := 1) (by decide) with ⟨h1, e⟩ | ⟨h1, e⟩
  · rw [e, zb_s, if_neg n10]
    exact ⟨_, _, rfl, Or.inr ⟨1, by decide, rfl, rfl, h1, fun j hj => by rcases (show j = 0 by omega) with rfl; assumption⟩⟩
  rw [e, zb_s, if_pos rfl]
  rcases x_named h hr (i := 2) (by decide) with ⟨h2, e⟩ | ⟨h2, e⟩
  · rw [e, zb_s, if_neg n10]
    exact ⟨_, _, rfl, Or.inr ⟨2, by decide, rfl, rfl, h2, fun j hj => by rcases (show j = 0 ∨ j = 1 by omega) with rfl | rfl <;> assumption⟩⟩
  rw [e, zb_s, if_pos rfl]
  rcases x_named h hr (i := 3) (by decide) with ⟨h3, e⟩ | ⟨h3, e⟩
  · rw [e, zb_s, if_neg n10]
    exact ⟨_, _, rfl, Or.inr ⟨3, by decide, rfl, rfl, h3, fun j hj => by rcases (show j = 0 ∨ j = 1 ∨ j = 2 by omega) with rfl | rfl | rfl <;> assumption⟩⟩
  rw [e, zb_s, if_pos rfl]
  rcases x_named h hr (i := 4) (by decide) with ⟨h4, e⟩ | ⟨h4, e⟩
  · rw [e, zb_s, if_neg n10]
    exact ⟨_, _, rfl, Or.inr ⟨4, by decide, rfl, rfl, h4, fun j hj => by rcases (show j = 0 ∨ j = 1 ∨ j = 2 ∨ j = 3 by omega) with rfl | rfl | rfl | rfl <;> assumption⟩⟩
  rw [e, zb_s, if_pos rfl]
  rcases x_named h hr (i := 5) (by decide) with ⟨h5, e⟩ | ⟨h5, e⟩
  · rw [e, zb_s, if_neg n10]
    exact ⟨_, _, rfl, Or.inr ⟨5, by decide, rfl, rfl, h5, fun j hj => by rcases (show j = 0 ∨ j = 1 ∨ j = 2 ∨ j = 3 ∨ j = 4 by omega) with rfl | rfl | rfl | rfl | rfl <;> assumption⟩⟩
  rw [e, zb_s, if_pos rfl]
  rcases x_named h hr (i := 6) (by decide) with ⟨h6, e⟩ | ⟨h6, e⟩
  · rw [e, zb_s, if_neg n10]
    exact ⟨_, _, rfl, Or.inr ⟨6, by decide, rfl, rfl, h6, fun j hj => by rcases (show j = 0 ∨ j = 1 ∨ j = 2 ∨ j = 3 ∨ j = 4 ∨ j = 5 by omega) with rfl | rfl | rfl | rfl | rfl | rfl <;> assumption⟩⟩
  rw [e, zb_s, if_pos rfl]
  rcases x_named h hr (i := 7) (by decide) with ⟨h7, e⟩ | ⟨h7, e⟩
  · rw [e, zb_s, if_neg n10]
    exact ⟨_, _, rfl, Or.inr ⟨7, by decide, rfl, rfl, h7, fun j hj => by rcases (show j = 0 ∨ j = 1 ∨ j = 2 ∨ j = 3 ∨ j = 4 ∨ j = 5 ∨ j = 6 by omega) with rfl | rfl | rfl | rfl | rfl | rfl | rfl <;> assumption⟩⟩
  rw [e, zb_s, if_pos rfl]
  exact ⟨_, _, rfl, Or.inl ⟨rfl, rfl, fun j hj => by rcases (show j = 0 ∨ j = 1 ∨ j = 2 ∨ j = 3 ∨ j = 4 ∨ j = 5 ∨ j = 6 ∨ j = 7 by omega) with rfl | rfl | rfl | rfl | rfl | rfl | rfl | rfl <;> assumption⟩⟩
theorem m_nameL (h : TB k bytes tape) (hK : KI ends letters) {p q i : Nat} (hr : run k tape 1 p q) (hi : i < 8) (cl : q - p = slen.getD i 0) : ∃ a b, zp (f_X12_nameHere_L51 (nI i) (nI k) (nI q) (nI p) tape ends letters) zF (1, 0) = some (1, (a, b)) ∧ ((a = 1 ∧ NM tape p q i) ∨ (a = 0 ∧ ¬ NM tape p q i)) := by
  have hk := h.1
  obtain ⟨a1, a2, a3, a4⟩ := id hr
  obtain ⟨e1, e2, e3, e6⟩ := enL i hi
  obtain ⟨a, ea, ⟨b, c, rfl, hq⟩⟩ := zp_i (f := f_X12_nameHere_L51 (nI i) (nI k) (nI q) (nI p) tape ends letters) (s := ((1 : Int32), (0 : Int32))) (fun j w => ∃ b, w = (b, nI j) ∧ ((b = 1 ∧ ∀ l, l < j → tape (p + l) = lw i l) ∨ (b = 0 ∧ ¬ NM tape p q i))) (fun a => ∃ b c, a = (1, (b, c)) ∧ ((b = 1 ∧ NM tape p q i) ∨ (b = 0 ∧ ¬ NM tape p q i))) (slen.getD i 0) (by omega) ⟨1, rfl, Or.inl ⟨rfl, fun l hl => by omega⟩⟩ (by
    rintro j w hj ⟨b, rfl, hb⟩
    unfold f_X12_nameHere_L51 f_X12_nameHere_J99_51
    simp only []
    rcases hb with ⟨rfl, hb⟩ | ⟨rfl, hb⟩
    · rw [if_neg n10, pk_sub a1, cl]
      by_cases c : j = slen.getD i 0
      · right
        rw [if_pos (nI_le (by omega) (by omega))]
        exact ⟨_, rfl, (by decide : ¬ (1 : Nat) = 0), _, _, rfl, Or.inl ⟨rfl, cl, fun l hl => hb l (by omega)⟩⟩
      · have hj2 : j < slen.getD i 0 := by omega
        left
        rw [if_neg (nI_ge hj2 (by omega)), nI_add, m_byte h (by omega), zb_s, zc_nI (by omega) (by decide), nI_clamp (by omega), hK.1 i (by omega), e2, nI_add, zc_nI (by omega) (by decide), nI_clamp (by omega), hK.2 _ (by omega), lwL i hi j hj2]
        refine ⟨hj2, ?_⟩
        by_cases ce : tape (p + j) = lw i j
        · rw [if_pos ce, zl_e, nI_1]
          refine ⟨_, rfl, _, rfl, Or.inl ⟨rfl, fun l hl2 => ?_⟩⟩
          by_cases e : l = j
          · subst e; exact ce
          · exact hb l (by omega)
        · rw [if_neg ce, zl_e, nI_1]
          exact ⟨_, rfl, _, rfl, Or.inr ⟨rfl, fun hn => ce (hn.2 j hj2)⟩⟩
    · right
      rw [if_pos rfl]
      exact ⟨_, rfl, (by decide : ¬ (1 : Nat) = 0), _, _, rfl, Or.inr ⟨rfl, hb⟩⟩)
  exact ⟨b, c, ea, hq⟩
theorem m_L51_0 (v a b c : Int32) (t e l : Nat → Int32) (x : Int32) : zp (f_X12_nameHere_L51 v a b c t e l) zF (0, x) = some (1, (0, x)) := by
  unfold zF
  exact zp_stop (by unfold f_X12_nameHere_L51; simp only []; rw [if_pos trivial]) (by decide)
theorem m_name (h : TB k bytes tape) (hK : KI ends letters) {p q : Nat} (hr : run k tape 1 p q) {x y : Int32} (hF : FN tape p q x y) : f_X12_nameHere (nI k) (nI q) (nI p) 1 tape ends letters = some y := by
  have hk := h.1
  obtain ⟨a1, a2, a3, a4⟩ := id hr
  unfold f_X12_nameHere
  obtain ⟨a, ea, hq⟩ := zp_i (f := f_X12_nameHere_L2 (nI k) (nI q) (nI p) 1 tape ends letters) (s := (0 : Int32)) (fun j w => w = nI j ∧ ∀ l, l < j → ¬ NM tape p q l) (fun a => (a.1 = 1 ∧ ∀ l, l < 8 → ¬ NM tape p q l) ∨ (a.1 = 2 ∧ ∃ i, i < 8 ∧ a.2 = nI i ∧ NM tape p q i ∧ ∀ l, l < i → ¬ NM tape p q l)) 8 (by decide) ⟨rfl, fun l hl => by omega⟩ (by
    rintro j w hj ⟨rfl, hb⟩
    unfold f_X12_nameHere_L2 f_X12_nameHere_J47_2 f_X12_nameHere_J48_2 f_X12_nameHere_J106_2
    by_cases c : j = 8
    · right
      subst c
      rw [if_pos (by decide)]
      exact ⟨_, rfl, (by decide : ¬ (1 : Nat) = 0), Or.inl ⟨rfl, hb⟩⟩
    · have hi : j < 8 := by omega
      obtain ⟨e1, e2, e3, e6⟩ := enL j hi
      rw [if_neg (show ¬ (8 : Int32) ≤ nI j from nI_ge (b := 8) hi (by decide)), if_pos rfl, nI_1, zc_nI (by omega) (by decide), zc_nI (by omega) (by decide), nI_clamp (by omega), nI_clamp (by omega), hK.1 _ (by omega), hK.1 _ (by omega), e1, pk_sub a1]
      have stp : ∀ hn : ¬ NM tape p q j, ∀ l, l < j + 1 → ¬ NM tape p q l := by
        intro hn l hl
        by_cases e : l = j
        · subst e; exact hn
        · exact hb l (by omega)
      by_cases cl : q - p = slen.getD j 0
      · obtain ⟨a, b, ez, hq⟩ := m_nameL h hK hr hi cl
        rw [if_pos (congrArg nI cl), ez, zb_s]
        simp only []
        rcases hq with ⟨rfl, hn⟩ | ⟨rfl, hn⟩
        · right
          rw [if_neg n10]
          exact ⟨_, rfl, (by decide : ¬ (2 : Nat) = 0), Or.inr ⟨rfl, j, hi, rfl, hn, hb⟩⟩
        · left
          rw [if_pos rfl, zl_e]
          exact ⟨hi, _, rfl, rfl, stp hn⟩
      · left
        rw [if_neg (fun hh => cl (nI_ij (by omega) (by omega) hh)), m_L51_0, zb_s]
        simp only []
        rw [if_pos trivial, zl_e]
        exact ⟨hi, _, rfl, rfl, stp (fun hn => cl hn.1)⟩)
  rw [ea, zb_s]
  rcases hF with ⟨-, rfl, hF⟩ | ⟨i, hi, -, rfl, hn, hf⟩
  · rcases hq with ⟨e, -⟩ | ⟨-, i, hi, -, hn, -⟩
    · rw [if_pos e]
    · exact absurd hn (hF i hi)
  · rcases hq with ⟨-, e⟩ | ⟨e, j, hj, e2, hn2, hf2⟩
    · exact absurd hn (e i hi)
    · rw [if_neg (by rw [e]; decide), e2]
      have : i = j := by
        rcases Nat.lt_trichotomy i j with c | c | c
        · exact absurd hn (hf2 i c)
        · exact c
        · exact absurd hn2 (hf j c)
      rw [this]
theorem m_noname (tp sp pl tok : Int32) (ht : ¬ tok = 1) (hK : KI ends letters) : f_X12_nameHere tp sp pl tok tape ends letters = some (-4) := by
  unfold f_X12_nameHere
  rw [zp_0 (v := 0) (fun j => nI j) 8 (t := 1) (w := nI 8) rfl (by decide) (by decide)]
  · rfl
  · intro j hj
    unfold f_X12_nameHere_L2 f_X12_nameHere_J47_2 f_X12_nameHere_J48_2 f_X12_nameHere_J106_2
    rw [if_neg (show ¬ (8 : Int32) ≤ nI j from nI_ge (b := 8) hj (by decide)), if_neg ht, m_L51_0, zb_s]
    simp only []
    rw [if_pos trivial, zl_e, nI_1]
  · unfold f_X12_nameHere_L2
    rw [if_pos (by decide)]
end
