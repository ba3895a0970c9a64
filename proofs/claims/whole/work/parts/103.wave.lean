/-! wave -/
def wvX (v2 v3 v4 v5 bits lean : Int32) (outs : Nat → Int32) (before falls : Int32) (times : Nat → Int32) (lane size : Int32) (cells : Nat → Int32) : Option (Int32 × Int32 × Int32 × (Nat → Int32)) :=
  zb (f_X6_isNothing size) fun z50 =>
  if z50 = 0 then
    if lane = v2 then
      zb (f_X11_readWave v3 v4 bits lean outs times size cells) fun z77 =>
      if 0 ≤ z77.1 then
        if v5 = (0 : Int32) then
          zb (f_X10_unlike z77.2.2.2) fun z124 =>
          some (z124, z77.2.1, z77.2.2.1, z77.2.2.2)
        else
          if v5 = (1 : Int32) then
            zb (f_X10_mostOften z77.2.2.2) fun z132 =>
            some (z132, z77.2.1, z77.2.2.1, z77.2.2.2)
          else
            some (z77.2.2.1, z77.2.1, z77.2.2.1, z77.2.2.2)
      else
        some (z77.1, z77.2.1, z77.2.2.1, z77.2.2.2)
    else
      some ((-13 : Int32), before, falls, times)
  else
    some ((-11 : Int32), before, falls, times)
theorem x_unlike (f : Nat → Int32) : f_X10_unlike f = some (nI (cU (fun c => ¬ f c ≤ 0) 256)) := by
  unfold f_X10_unlike
  rw [zp_0 (v := (0, 0)) (fun j => (nI (cU (fun c => ¬ f c ≤ 0) j), nI j)) 256 (t := 1) (w := (nI (cU (fun c => ¬ f c ≤ 0) 256), nI 256)) rfl (by omega) (by decide)]
  · rfl
  · intro j hj
    unfold f_X10_unlike_L4
    simp only []
    rw [if_neg (show ¬ (256 : Int32) ≤ nI j from nI_ge (b := 256) hj (by decide)), zc_nI hj (by decide), nI_clamp (by omega)]
    simp only [f_X10_unlike_J25_4, zl_e, nI_1, cU]
    by_cases q : f j ≤ 0
    · rw [if_pos q, if_neg (fun h => h q)]
    · rw [if_neg q, if_pos q]
  · unfold f_X10_unlike_L4
    simp only []
    rw [if_pos (show (256 : Int32) ≤ nI 256 by decide)]
theorem wv_end {f g : Nat → Int32} (hfg : ∀ c, c < 256 → g c = f c) (h : ∀ c, c < 256 → 0 ≤ (f c).toInt) : ∃ mo best i, f_X10_mostOften g = some mo ∧ zp (f_X12_wave_L239 f) zF (0, 0, 0) = some (1, (nI (cU (fun c => ¬ f c ≤ 0) 256), best, i)) ∧ ((∃ c, c < 256 ∧ 0 < (f c).toInt) → mo = best) ∧ ((∀ c, c < 256 → (f c).toInt = 0) → mo = -4) := by
  have e0 : (0 : Int32).toInt = 0 := rfl
  obtain ⟨a, b, ea, eb, mo, best, i, i', most, rfl, rfl, hQ⟩ := zp_r (f := f_X10_mostOften_L7 g) (g := f_X12_wave_L239 f) (s := ((0, -4, 0) : Int32 × Int32 × Int32)) (t := ((0, 0, 0) : Int32 × Int32 × Int32))
    (fun j s t => ∃ most found, s = (most, found, nI j) ∧ ∃ bn, bn < 256 ∧ t = (nI (cU (fun c => ¬ f c ≤ 0) j), nI bn, nI j) ∧ ((most = 0 ∧ found = -4 ∧ bn = 0 ∧ ∀ i, i < j → (f i).toInt = 0) ∨ (found = nI bn ∧ most = f bn ∧ 0 < (f bn).toInt)))
    (fun a b => ∃ mo best i i' most, a = (1, (most, mo, i)) ∧ b = (1, (nI (cU (fun c => ¬ f c ≤ 0) 256), best, i')) ∧ ((mo = -4 ∧ ∀ i, i < 256 → (f i).toInt = 0) ∨ (mo = best ∧ ∃ c, c < 256 ∧ 0 < (f c).toInt))) 256 (by omega) ⟨0, -4, rfl, 0, by omega, rfl, Or.inl ⟨rfl, rfl, rfl, fun i hi => by omega⟩⟩ (by
      rintro j s t hj ⟨most, found, rfl, bn, hbn, rfl, hc⟩
      unfold f_X10_mostOften_L7 f_X12_wave_L239
      simp only []
      by_cases e : j = 256
      · subst e
        rw [if_pos (show (256 : Int32) ≤ nI 256 by decide), if_pos (show (256 : Int32) ≤ nI 256 by decide)]
        refine Or.inr ⟨_, _, rfl, rfl, (by decide : ¬ (1 : Nat) = 0), (by decide : ¬ (1 : Nat) = 0), found, nI bn, _, _, most, rfl, rfl, ?_⟩
        rcases hc with ⟨h1, h2, h3, h4⟩ | ⟨h1, h2, h3⟩
        · exact Or.inl ⟨h2, h4⟩
        · exact Or.inr ⟨h1, bn, hbn, h3⟩
      · have hfj := h j (by omega)
        have hfb := h bn hbn
        rw [if_neg (show ¬ (256 : Int32) ≤ nI j from nI_ge (b := 256) (by omega) (by decide)), if_neg (show ¬ (256 : Int32) ≤ nI j from nI_ge (b := 256) (by omega) (by decide)), zc_nI (show j < 256 by omega) (by decide), zc_nI (show j < 256 by omega) (by decide), zc_nI (show j < 256 by omega) (by decide), nI_clamp (by omega), zl_e, hfg j (by omega)]
        unfold f_X10_mostOften_J35_7 f_X12_wave_J264_239 f_X12_wave_J291_239
        simp only [zl_e, nI_1, zc_nI (show j < 256 by omega) (show 256 < 2 ^ 31 by decide), zc_nI hbn (show 256 < 2 ^ 31 by decide), nI_clamp (show j < 2 ^ 31 by omega), nI_clamp (show bn < 2 ^ 31 by omega)]
        rw [show cU (fun c => ¬ f c ≤ 0) (j + 1) = if ¬ f j ≤ 0 then cU (fun c => ¬ f c ≤ 0) j + 1 else cU (fun c => ¬ f c ≤ 0) j from rfl]
        refine Or.inl ⟨by omega, ?_⟩
        by_cases q : f j ≤ 0
        · have q' := q
          rw [i32_le, e0] at q'
          have qz : (f j).toInt = 0 := by omega
          rw [if_pos q, if_neg (show ¬ ¬ f j ≤ 0 from fun hh => hh q)]
          have r1 : nI (cU (fun c => ¬ f c ≤ 0) j) + (0 : Int32) = nI (cU (fun c => ¬ f c ≤ 0) j) := by simp
          rw [r1]
          have r2 : f j ≤ f bn := by rw [i32_le]; omega
          rw [if_pos r2]
          rcases hc with ⟨rfl, rfl, rfl, h4⟩ | ⟨rfl, rfl, h3⟩
          · rw [if_pos q]
            exact ⟨_, _, rfl, rfl, _, _, rfl, 0, by omega, rfl, Or.inl ⟨rfl, rfl, rfl, fun i hi => by
              by_cases d : i = j
              · subst d; exact qz
              · exact h4 i (by omega)⟩⟩
          · rw [if_pos r2]
            exact ⟨_, _, rfl, rfl, _, _, rfl, bn, hbn, rfl, Or.inr ⟨rfl, rfl, h3⟩⟩
        · have q' := q
          rw [i32_le, e0] at q'
          rw [if_neg q, if_pos q]
          rcases hc with ⟨rfl, rfl, rfl, h4⟩ | ⟨rfl, rfl, h3⟩
          · rw [if_neg q]
            by_cases d : j = 0
            · subst d
              rw [if_pos (show f 0 ≤ f 0 from by rw [i32_le]; omega)]
              exact ⟨_, _, rfl, rfl, _, _, rfl, 0, by omega, rfl, Or.inr ⟨rfl, rfl, by omega⟩⟩
            · have h40 := h4 0 (by omega)
              rw [if_neg (show ¬ f j ≤ f 0 from by rw [i32_le]; omega)]
              exact ⟨_, _, rfl, rfl, _, _, rfl, j, by omega, rfl, Or.inr ⟨rfl, rfl, by omega⟩⟩
          · by_cases d : f j ≤ f bn
            · rw [if_pos d, if_pos d]
              exact ⟨_, _, rfl, rfl, _, _, rfl, bn, hbn, rfl, Or.inr ⟨rfl, rfl, h3⟩⟩
            · rw [if_neg d, if_neg d]
              exact ⟨_, _, rfl, rfl, _, _, rfl, j, by omega, rfl, Or.inr ⟨rfl, rfl, by omega⟩⟩)
  refine ⟨mo, best, i', ?_, eb, ?_, ?_⟩
  · unfold f_X10_mostOften
    rw [ea, zb_s]
  · rintro ⟨c, hc, hp⟩
    rcases hQ with ⟨h1, h2⟩ | ⟨h1, h2⟩
    · have := h2 c hc; omega
    · exact h1
  · intro hz
    rcases hQ with ⟨h1, h2⟩ | ⟨h1, c, hc, hp⟩
    · exact h1
    · have := hz c hc; omega
theorem m_zero (f : Nat → Int32) : zp f_X12_wave_L88 zF (0, f) = some (1, (nI 256, fil (fun _ => 0) f 256)) := by
  rw [zp_0 (v := (0, f)) (fun j => (nI j, fil (fun _ => 0) f j)) 256 (t := 1) (w := (nI 256, fil (fun _ => 0) f 256)) (by rw [fil_0]; rfl) (by omega) (by decide)]
  · intro j hj
    unfold f_X12_wave_L88
    simp only []
    rw [if_neg (show ¬ (256 : Int32) ≤ nI j from nI_ge (b := 256) hj (by decide)), zc_nI hj (by decide), zl_e, zl_e, nI_1, nI_clamp (by omega), ← fil_s]
  · unfold f_X12_wave_L88
    simp only []
    rw [if_pos (show (256 : Int32) ≤ nI 256 by decide)]
theorem x_hasCell {k : Nat} (hk : k ≤ 64) (v : Int32) : ((∃ j, j < k ∧ v = nI j) ∧ f_X6_hasCell v (nI k) = some 1) ∨ ((v < 0 ∨ nI k ≤ v) ∧ f_X6_hasCell v (nI k) = some 0) := by
  rcases pk_ix v (n := k) (by omega) with c | c | ⟨j, hj, rfl⟩
  · right
    exact ⟨Or.inl c, by unfold f_X6_hasCell; rw [if_pos c]⟩
  · right
    have c0 : ¬ v < 0 := by
      rw [i32_le, nIt (by omega)] at c
      rw [i32_lt]
      have e0 : (0 : Int32).toInt = 0 := rfl
      omega
    exact ⟨Or.inr c, by unfold f_X6_hasCell; rw [if_neg c0, if_pos c]⟩
  · left
    refine ⟨⟨j, hj, rfl⟩, ?_⟩
    unfold f_X6_hasCell
    rw [if_neg (nI_pos (by omega)), if_neg (nI_ge hj (by omega)), if_neg (show ¬ (64 : Int32) ≤ nI j from nI_ge (b := 64) (by omega) (by decide))]
/-- the place of a cell, on both sides -/
theorem cell_both {k i : Nat} (hk : k ≤ 64) (hi : i ≤ 64) (f : Int32) : (∃ j, j < k ∧ f + nI i = nI j ∧ f_X6_hasCell (f + nI i) (nI k) = some 1 ∧ f_X12_in (f.toInt64 + (nI i).toInt64) 0 ((nI k - 1).toInt64) = some 1) ∨ (f_X6_hasCell (f + nI i) (nI k) = some 0 ∧ f_X12_in (f.toInt64 + (nI i).toInt64) 0 ((nI k - 1).toInt64) = some 0) := by
  have hr := fb_rng f
  have e1 : (f.toInt64 + (nI i).toInt64).toInt = f.toInt + i := by
    rw [fb_addL] <;> rw [w64, w64, nIt (by omega)] <;> omega
  have e2 : (nI k - 1).toInt64.toInt = (k : Int) - 1 := by
    rw [w64, fb_subI] <;> rw [nIt (by omega)] <;> have : (1 : Int32).toInt = 1 := rfl <;> omega
  have e3 : (0 : Int64).toInt = 0 := rfl
  have e0 : (0 : Int32).toInt = 0 := rfl
  rw [f_in]
  rcases x_hasCell hk (f + nI i) with ⟨⟨j, hj, ej⟩, eh⟩ | ⟨hc, eh⟩
  · left
    refine ⟨j, hj, ej, eh, ?_⟩
    rw [if_pos]
    rw [i64_le, i64_le, e1, e2, e3]
    by_cases c : f.toInt + i < 2147483648
    · have e4 : (f + nI i).toInt = f.toInt + i := by rw [fb_addI] <;> rw [nIt (by omega)] <;> omega
      rw [ej, nIt (by omega)] at e4
      omega
    · exfalso
      have e5 : (f + nI i).toInt = f.toInt + i - 4294967296 := by
        rw [Int32.toInt_add, nIt (by omega), Int.bmod_def]
        omega
      rw [ej, nIt (by omega)] at e5
      omega
  · right
    refine ⟨eh, ?_⟩
    rw [if_neg]
    rw [i64_le, i64_le, e1, e2, e3]
    intro hh
    have e4 : (f + nI i).toInt = f.toInt + i := by rw [fb_addI] <;> rw [nIt (by omega)] <;> omega
    rcases hc with hc | hc
    · rw [i32_lt, e4, e0] at hc; omega
    · rw [i32_le, e4, nIt (by omega)] at hc; omega
theorem wave_one {n : Nat} {unit off top lean ref : Int32} {misses resistors holds outs levels : Nat → Int32} (hR : RI n unit off top lean ref misses resistors holds) (ho : ∀ c, c < 2 ^ n → outs c = OV n unit off top misses c) {s : Nat} (hs : s < 4) {lane size : Int32} {cells lanes lengths mcells : Nat → Int32} (h : HI lane size cells s lanes lengths mcells) {v2 v3 v4 v5 : Int32} (hl : v2 = 0 ∨ v2 = 1 ∨ v2 = 2) (h2 : f_X12_in v2.toInt64 0 2 = some 1) {N : Nat} (hN : N ≤ 64) (e4 : v4 = nI N) (c5 : ¬ v5 < 0) (c52 : v5 ≤ 2) (before falls : Int32) (times often : Nat → Int32) : ∃ r b f t lv ot, wvX v2 v3 v4 v5 (nI n) lean outs before falls times lane size cells = some (r, b, f, t) ∧ f_X12_wave (nI s) v2 v3 v4 v5 holds levels lanes lengths mcells often = some (r, lv, ot) := by
  have hp := pw8 hR.1.2
  have i4 : f_X12_in v4.toInt64 0 64 = some 1 := by rw [e4]; exact in_1 (b := 0) (c := 64) rfl rfl (nI_pos (by omega)) (show nI N ≤ nI 64 from nI_le (by omega) (by decide))
  have i5 : f_X12_in v5.toInt64 0 2 = some 1 := in_1 (b := 0) (c := 2) rfl rfl c5 c52
  unfold wvX f_X12_wave
  rw [(x_sheet1 hs).2, zb_s, if_neg n10, h2, zb_s, if_neg n10, i4, zb_s, if_neg n10, i5, zb_s, if_neg n10, zc_nI hs (by decide), zc_nI hs (by decide), nI_clamp (by omega)]
  unfold f_X6_isNothing
  rcases h.1 with ⟨es, el⟩ | ⟨k, hk, es, eL, el, hl2⟩
  · rw [if_pos es, zb_s, if_neg n10, el, if_neg (show ¬ (-4 : Int32) = v2 from by rcases hl with e | e | e <;> rw [e] <;> decide), if_pos rfl]
    exact ⟨_, _, _, _, _, _, rfl, rfl⟩
  · have ns : ¬ size = -4 := by
      rw [es, i32_eq, nIt (by omega)]
      have : (-4 : Int32).toInt = -4 := rfl
      omega
    have nl : ¬ lane = -4 := by rcases hl2 with e | e | e <;> rw [e] <;> decide
    rw [if_neg ns, zb_s, if_pos rfl, el]
    by_cases cl : lane = v2
    · rw [if_pos cl, if_pos cl, m_lay hR, zb_s, m_zero, zb_s]
      unfold f_X11_readWave f_X10_clear
      rw [j_fill _ _ (by decide), zb_s, zb_s, es, e4]
      simp only []
      have hlv : ∀ c, c < 2 ^ n → fil (OV n unit off top misses) levels (2 ^ n) c = outs c := fun c hc => lv_eq ho hc
      generalize fil (OV n unit off top misses) levels (2 ^ n) = lv at hlv ⊢
      obtain ⟨a, b, ea, eb, hQ⟩ := zp_r (f := f_X11_readWave_L10 v3 (nI N) (nI n) lean outs (nI k) cells) (g := f_X12_wave_L120 (nI s) v3 (nI N) holds lv lengths mcells) (s := ((0, -4, 0, fil (fun _ => 0) times 256) : Int32 × Int32 × Int32 × (Nat → Int32))) (t := ((0, -4, 0, fil (fun _ => 0) often 256) : Int32 × Int32 × Int32 × (Nat → Int32)))
        (fun j s t => ∃ bf fl tm ot, s = (nI j, bf, fl, tm) ∧ t = (fl, bf, nI j, ot) ∧ (∀ c, c < 256 → tm c = ot c ∧ 0 ≤ (ot c).toInt ∧ (ot c).toInt ≤ j) ∧ (0 < j → ∃ c, c < 256 ∧ 0 < (ot c).toInt) ∧ (j = 0 → ∀ c, c < 256 → (ot c).toInt = 0))
        (fun a b => ∃ j bf fl tm ot, a.2 = (nI j, bf, fl, tm) ∧ b.2 = (fl, bf, nI j, ot) ∧ j ≤ 64 ∧ ((a.1 = 1 ∧ b.1 = 1 ∧ j = N ∧ (∀ c, c < 256 → tm c = ot c ∧ 0 ≤ (ot c).toInt ∧ (ot c).toInt ≤ j) ∧ (0 < j → ∃ c, c < 256 ∧ 0 < (ot c).toInt) ∧ (j = 0 → ∀ c, c < 256 → (ot c).toInt = 0)) ∨ (a.1 = 2 ∧ b.1 = 2) ∨ (a.1 = 3 ∧ b.1 = 3))) N (by omega) ⟨-4, 0, _, _, rfl, rfl, fun c hc => by rw [fil_in hc, fil_in hc]; exact ⟨rfl, Int.le_refl _, Int.le_refl _⟩, fun h0 => by omega, fun _ c hc => by rw [fil_in hc]; rfl⟩ (by
          rintro j s' t hj ⟨bf, fl, tm, ot, rfl, rfl, hc1, hc2, hc3⟩
          unfold f_X11_readWave_L10 f_X12_wave_L120
          simp only []
          by_cases e : j = N
          · subst e
            rw [if_pos (nI_le (Nat.le_refl _) (by omega)), if_pos (nI_le (Nat.le_refl _) (by omega))]
            exact Or.inr ⟨_, _, rfl, rfl, (by decide : ¬ (1 : Nat) = 0), (by decide : ¬ (1 : Nat) = 0), j, bf, fl, tm, ot, rfl, rfl, by omega, Or.inl ⟨rfl, rfl, rfl, hc1, hc2, hc3⟩⟩
          · rw [if_neg (nI_ge (by omega) (by omega)), if_neg (nI_ge (by omega) (by omega)), zc_nI hs (by decide), nI_clamp (by omega), eL]
            rcases cell_both hk (show j ≤ 64 by omega) v3 with ⟨q, hq, eq, g1, g2⟩ | ⟨g1, g2⟩
            · have ecell : f_X6_cellAt (nI q) (nI k) cells = some (mcells (64 * s + q)) := by
                unfold f_X6_cellAt
                rw [← eq, g1, zb_s, if_neg n10, eq, zc_nI (by omega) (by decide), nI_clamp (by omega), h.2 q (by omega)]
              rw [g1, g2, zb_s, zb_s, if_neg n10, if_neg n10, eq, ecell, zb_s, Int32.add_assoc, eq, show (64 : Int32) * nI s + nI q = nI (64 * s + q) from by rw [show (64 : Int32) = nI 64 from rfl, pk_mul, nI_add], zc_nI (by omega) (by decide), zl_e, nI_clamp (by omega)]
              rcases volt_or (mcells (64 * s + q)) with hv | hv
              · have hcode : hvS (mcells (64 * s + q)) lean (-4) outs n n < 2 ^ n := hvS_lt _ _ _ _ _ n (Nat.le_refl _)
                rw [x_volt1 hv, m_volt1 hv, zb_s, zb_s, if_neg n10, if_neg n10, x_weigh (by have := hR.1.1; omega) hR.1.2, m_halved hR, zb_s, zb_s, hvS_cg (fun c hc => hlv c hc) n (Nat.le_refl _)]
                generalize hvS (mcells (64 * s + q)) lean (-4) outs n n = C at hcode ⊢
                have hC : C < 256 := by omega
                have hcC := hc1 C hC
                unfold f_X10_add f_X10_add_J32 f_X12_wave_J217_120
                rw [if_neg (nI_pos (by omega)), if_pos (show nI C < (256 : Int32) from nI_lt (b := 256) hC (by decide))]
                simp only [zl_e, zb_s, nI_1, zc_nI hC (show 256 < 2 ^ 31 by decide), nI_clamp (show C < 2 ^ 31 by omega)]
                have eo : (ot C + 1).toInt = (ot C).toInt + 1 := fb_addI (by have : (1 : Int32).toInt = 1 := rfl; omega) (by have : (1 : Int32).toInt = 1 := rfl; omega)
                have new1 : ∀ c, c < 256 → upd tm C (tm C + 1) c = upd ot C (ot C + 1) c ∧ 0 ≤ (upd ot C (ot C + 1) c).toInt ∧ (upd ot C (ot C + 1) c).toInt ≤ ((j + 1 : Nat) : Int) := by
                  intro c hc
                  by_cases d : c = C
                  · subst d
                    rw [pk_us, pk_us, hcC.1, eo]
                    exact ⟨rfl, by omega, by omega⟩
                  · rw [pk_un d, pk_un d]
                    have := hc1 c hc
                    exact ⟨this.1, by omega, by omega⟩
                have new2 : 0 < j + 1 → ∃ c, c < 256 ∧ 0 < (upd ot C (ot C + 1) c).toInt := fun _ => ⟨C, hC, by rw [pk_us, eo]; omega⟩
                refine Or.inl ⟨by omega, ?_⟩
                by_cases d : bf ≤ nI C
                · rw [if_pos d, if_pos d]
                  simp only [zb_s]
                  exact ⟨_, _, rfl, rfl, nI C, fl, _, _, rfl, by simp, new1, new2, fun h => by omega⟩
                · rw [if_neg d, if_neg d]
                  simp only [zb_s]
                  exact ⟨_, _, rfl, rfl, nI C, fl + 1, _, _, rfl, rfl, new1, new2, fun h => by omega⟩
              · rw [x_volt0 hv, m_volt0 hv, zb_s, zb_s, if_pos rfl, if_pos rfl]
                exact Or.inr ⟨_, _, rfl, rfl, (by decide : ¬ (3 : Nat) = 0), (by decide : ¬ (3 : Nat) = 0), j, bf, fl, tm, ot, rfl, rfl, by omega, Or.inr (Or.inr ⟨rfl, rfl⟩)⟩
            · rw [g1, g2, zb_s, zb_s, if_pos rfl, if_pos rfl]
              exact Or.inr ⟨_, _, rfl, rfl, (by decide : ¬ (2 : Nat) = 0), (by decide : ¬ (2 : Nat) = 0), j, bf, fl, tm, ot, rfl, rfl, by omega, Or.inr (Or.inl ⟨rfl, rfl⟩)⟩)
      rw [ea, eb, zb_s, zb_s]
      obtain ⟨a1, a2⟩ := a
      obtain ⟨b1, b2⟩ := b
      obtain ⟨j, bf, fl, tm, ot, q1, q2, hj, hh⟩ := hQ
      simp only [] at q1 q2 hh ⊢
      subst q1
      subst q2
      rcases hh with ⟨rfl, rfl, rfl, hc1, hc2, hc3⟩ | ⟨rfl, rfl⟩ | ⟨rfl, rfl⟩
      · rw [if_pos rfl, if_pos rfl, zb_s]
        obtain ⟨mo, best, i, m1, m2, m3, m4⟩ := wv_end (f := ot) (g := tm) (fun c hc => (hc1 c hc).1) (fun c hc => (hc1 c hc).2.1)
        have eun : f_X10_unlike tm = some (nI (cU (fun c => ¬ ot c ≤ 0) 256)) := by
          have e : cU (fun c => ¬ tm c ≤ 0) 256 = cU (fun c => ¬ ot c ≤ 0) 256 := cU_cg 256 (fun c hc => by rw [(hc1 c hc).1])
          rw [x_unlike, e]
        rw [if_pos (show (0 : Int32) ≤ 0 by decide), eun, m1, m2, zb_s, zb_s, zb_s]
        simp only []
        by_cases d0 : v5 = 0
        · rw [if_pos d0, if_pos d0]; exact ⟨_, _, _, _, _, _, rfl, rfl⟩
        · rw [if_neg d0, if_neg d0]
          by_cases d1 : v5 = 1
          · rw [if_pos d1, if_pos d1]
            by_cases dN : j = 0
            · subst dN
              rw [if_pos (show nI 0 = (0 : Int32) from rfl), m4 (hc3 rfl)]
              exact ⟨_, _, _, _, _, _, rfl, rfl⟩
            · rw [if_neg (nI_ne0 (by omega) (by omega)), m3 (hc2 (by omega))]
              exact ⟨_, _, _, _, _, _, rfl, rfl⟩
          · rw [if_neg d1, if_neg d1]; exact ⟨_, _, _, _, _, _, rfl, rfl⟩
      · rw [if_neg (by decide), if_pos rfl, if_neg (by decide), if_pos rfl, zb_s]
        rw [if_neg (show ¬ (0 : Int32) ≤ -12 by decide)]
        exact ⟨_, _, _, _, _, _, rfl, rfl⟩
      · rw [if_neg (by decide), if_neg (by decide), if_neg (by decide), if_neg (by decide), zb_s]
        have : ¬ (0 : Int32) ≤ -20 - nI j := by
          rw [i32_le, fb_subI] <;> rw [nIt (by omega)] <;> have e0 : (0 : Int32).toInt = 0 := rfl <;> have e20 : (-20 : Int32).toInt = -20 := rfl <;> omega
        rw [if_neg this]
        exact ⟨_, _, _, _, _, _, rfl, rfl⟩
    · rw [if_neg cl, if_neg cl, if_neg nl]
      exact ⟨_, _, _, _, _, _, rfl, rfl⟩
theorem st_wave : ST_wave Inv := by
  intro x y hI v1 v2 v3 v4 v5
  obtain ⟨n, hb, hR, ho, hT, hf, hS, hM, h0, h1, h2, h3, hK⟩ := id hI
  suffices H : ∃ r b f t lv ot, f_X11_wave v1 v2 v3 v4 v5 (X_rules_bits x) (X_rules_lean x) (X_steps_outs x) (X_waveSeen_before x) (X_waveSeen_falls x) (X_waveSeen_times x) (X_sheet0_lane x) (X_sheet0_size x) (X_sheet0_cells x) (X_sheet1_lane x) (X_sheet1_size x) (X_sheet1_cells x) (X_sheet2_lane x) (X_sheet2_size x) (X_sheet2_cells x) (X_sheet3_lane x) (X_sheet3_size x) (X_sheet3_cells x) = some (r, b, f, t) ∧ f_X12_wave v1 v2 v3 v4 v5 (M_holds y) (M_levels y) (M_lanes y) (M_lengths y) (M_cells y) (M_often y) = some (r, lv, ot) by
    obtain ⟨r, b, f, t, lv, ot, e1, e2⟩ := H
    exact ⟨(r, b, f, t), (r, lv, ot), e1, e2, rfl, hI⟩
  rw [hb]
  unfold f_X11_wave
  rcases sheet_or v1 with ⟨s, hs, rfl⟩ | ⟨e1, e2⟩
  · rcases lane_or v2 with ⟨hl, e1, e2⟩ | ⟨e1, e2⟩
    · rw [(x_sheet1 hs).1, zb_s, if_neg n10, e1, zb_s, if_neg n10]
      by_cases c4 : v4 < 0
      · rw [if_pos c4]
        unfold f_X12_wave
        rw [(x_sheet1 hs).2, zb_s, if_neg n10, e2, zb_s, if_neg n10, in_0l (B := 0) (b := 0) rfl c4, zb_s, if_pos rfl]
        exact ⟨_, _, _, _, _, _, rfl, rfl⟩
      rw [if_neg c4]
      by_cases c64 : 64 < v4
      · rw [if_pos c64]
        unfold f_X12_wave
        rw [(x_sheet1 hs).2, zb_s, if_neg n10, e2, zb_s, if_neg n10, in_0h (C := 64) (c := 64) rfl ((i32_nle _ _).mpr c64), zb_s, if_pos rfl]
        exact ⟨_, _, _, _, _, _, rfl, rfl⟩
      rw [if_neg c64]
      obtain ⟨N, hN, rfl⟩ := nI_of2 (x := v4) (M := 64) (n := 64) rfl c4 ((i32_nlt _ _).mp c64)
      have i4 : f_X12_in (nI N).toInt64 0 64 = some 1 := in_1 (b := 0) (c := 64) rfl rfl c4 ((i32_nlt _ _).mp c64)
      by_cases c5 : v5 < 0
      · rw [if_pos c5]
        unfold f_X12_wave
        rw [(x_sheet1 hs).2, zb_s, if_neg n10, e2, zb_s, if_neg n10, i4, zb_s, if_neg n10, in_0l (B := 0) (b := 0) rfl c5, zb_s, if_pos rfl]
        exact ⟨_, _, _, _, _, _, rfl, rfl⟩
      rw [if_neg c5]
      by_cases c52 : v5 ≤ 2
      · rw [if_pos c52, zc_nI hs (by decide)]
        rcases (show s = 0 ∨ s = 1 ∨ s = 2 ∨ s = 3 by omega) with rfl | rfl | rfl | rfl
        · rw [if_pos (show nI 0 = (0 : Int32) from rfl)]
          exact wave_one hR ho hs h0 hl e2 hN rfl c5 c52 _ _ _ _
        · rw [if_neg (show ¬ nI 1 = (0 : Int32) by decide), if_pos (show nI 1 = (1 : Int32) from rfl)]
          exact wave_one hR ho hs h1 hl e2 hN rfl c5 c52 _ _ _ _
        · rw [if_neg (show ¬ nI 2 = (0 : Int32) by decide), if_neg (show ¬ nI 2 = (1 : Int32) by decide), if_pos (show nI 2 = (2 : Int32) from rfl)]
          exact wave_one hR ho hs h2 hl e2 hN rfl c5 c52 _ _ _ _
        · rw [if_neg (show ¬ nI 3 = (0 : Int32) by decide), if_neg (show ¬ nI 3 = (1 : Int32) by decide), if_neg (show ¬ nI 3 = (2 : Int32) by decide)]
          exact wave_one hR ho hs h3 hl e2 hN rfl c5 c52 _ _ _ _
      · rw [if_neg c52]
        unfold f_X12_wave
        rw [(x_sheet1 hs).2, zb_s, if_neg n10, e2, zb_s, if_neg n10, i4, zb_s, if_neg n10, in_0h (C := 2) (c := 2) rfl c52, zb_s, if_pos rfl]
        exact ⟨_, _, _, _, _, _, rfl, rfl⟩
    · rw [(x_sheet1 hs).1, zb_s, if_neg n10, e1, zb_s, if_pos rfl]
      unfold f_X12_wave
      rw [(x_sheet1 hs).2, zb_s, if_neg n10, e2, zb_s, if_pos rfl]
      exact ⟨_, _, _, _, _, _, rfl, rfl⟩
  · rw [e1, zb_s, if_pos rfl]
    unfold f_X12_wave
    rw [e2, zb_s, if_pos rfl]
    exact ⟨_, _, _, _, _, _, rfl, rfl⟩
