/-! feed, apart, wave -/
theorem byte_sh (v : Int64) (a : UInt64) (b : Int64) (k : Nat) (hk : k ≤ 56) (ha : a.toNat % 64 = k) (hb : (b.toBitVec.smod 64).toNat = k) : ((v.toUInt64 >>> a).toInt64.toInt32).toInt8 = ((v >>> b).toInt32).toInt8 := by
  refine Int8.toBitVec_inj.mp (BitVec.eq_of_getLsbD_eq fun i hi => ?_)
  have e1 : ((v.toUInt64 >>> a).toInt64.toInt32).toInt8.toBitVec = ((v.toBitVec >>> k).setWidth 32).setWidth 8 := by
    rw [Int32.toBitVec_toInt8, Int64.toBitVec_toInt32, BitVec.signExtend_eq_setWidth_of_le _ (show 8 ≤ 32 by decide), BitVec.signExtend_eq_setWidth_of_le _ (show 32 ≤ 64 by decide)]
    congr 2
    show v.toBitVec >>> (a.toBitVec % 64) = v.toBitVec >>> k
    rw [BitVec.ushiftRight_eq', BitVec.toNat_umod]
    congr 1
  have e2 : ((v >>> b).toInt32).toInt8.toBitVec = ((v.toBitVec.sshiftRight k).setWidth 32).setWidth 8 := by
    rw [Int32.toBitVec_toInt8, Int64.toBitVec_toInt32, BitVec.signExtend_eq_setWidth_of_le _ (show 8 ≤ 32 by decide), BitVec.signExtend_eq_setWidth_of_le _ (show 32 ≤ 64 by decide)]
    congr 2
    show v.toBitVec.sshiftRight' (b.toBitVec.smod 64) = v.toBitVec.sshiftRight k
    rw [BitVec.sshiftRight', hb]
  rw [e1, e2, BitVec.getLsbD_setWidth, BitVec.getLsbD_setWidth, BitVec.getLsbD_setWidth, BitVec.getLsbD_setWidth, BitVec.getLsbD_ushiftRight, BitVec.getLsbD_sshiftRight, if_pos (by omega)]
  simp [show ¬ 64 ≤ i by omega]
theorem byte_j (v : Int64) {j : Nat} (hj : j < 8) : ((v.toUInt64 >>> (((56 : Int32) - ((8 : Int32) * nI j)).toInt64.toUInt64 &&& Int64.toUInt64 63)).toInt64.toInt32).toInt8 = ((v >>> ((nI (56 - 8 * j)).toInt64 &&& 63)).toInt32).toInt8 := by
  rcases (show j = 0 ∨ j = 1 ∨ j = 2 ∨ j = 3 ∨ j = 4 ∨ j = 5 ∨ j = 6 ∨ j = 7 by omega) with rfl | rfl | rfl | rfl | rfl | rfl | rfl | rfl
  · exact byte_sh v _ _ 56 (by decide) (by decide) (by decide)
  · exact byte_sh v _ _ 48 (by decide) (by decide) (by decide)
  · exact byte_sh v _ _ 40 (by decide) (by decide) (by decide)
  · exact byte_sh v _ _ 32 (by decide) (by decide) (by decide)
  · exact byte_sh v _ _ 24 (by decide) (by decide) (by decide)
  · exact byte_sh v _ _ 16 (by decide) (by decide) (by decide)
  · exact byte_sh v _ _ 8 (by decide) (by decide) (by decide)
  · exact byte_sh v _ _ 0 (by decide) (by decide) (by decide)
def fdR (v : Int64) (j : Nat) : Int32 := ((v >>> ((nI (56 - 8 * j)).toInt64 &&& 63)).toInt32) &&& 255
def fdC (v : Int64) (j : Nat) : Int32 := (((v.toUInt64 >>> (((56 : Int32) - ((8 : Int32) * nI j)).toInt64.toUInt64 &&& Int64.toUInt64 63)).toInt64).toInt32).toInt8.toInt32
theorem fd_eq (v : Int64) {j : Nat} (hj : j < 8) : fdC v j = (fdR v j).toInt8.toInt32 ∧ 0 ≤ (fdR v j).toInt ∧ (fdR v j).toInt ≤ 255 := by
  refine ⟨?_, ?_⟩
  · unfold fdC fdR
    rw [byte_j v hj, fa_byte_low]
  · unfold fdR
    obtain ⟨q, hq, e⟩ := pk_andE ((v >>> ((nI (56 - 8 * j)).toInt64 &&& 63)).toInt32) (m := 255) 8 (by decide)
    rw [e, nIt (by omega)]
    omega
theorem x_append {k : Nat} (hk : k + 8 ≤ 200) (v : Int64) (bytes : Nat → Int32) : f_X9_append v (nI k) bytes = some (1, nI (k + 8), fb_put bytes (fdC v) k 8) := by
  unfold f_X9_append
  rw [if_neg (nI_pos (by omega)), show nI k + (8 : Int32) = nI (k + 8) from nI_add k 8, if_pos (show nI (k + 8) ≤ (200 : Int32) from nI_le (b := 200) (by omega) (by decide)), zp_0 (v := (0, bytes)) (fun j => (nI j, fb_put bytes (fdC v) k j)) 8 (t := 1) (w := (nI 8, fb_put bytes (fdC v) k 8)) (by rw [fb_put_0]; rfl) (by omega) (by decide)]
  · rw [zb_s, zl_e]
  · intro j hj
    unfold f_X9_append_L26
    simp only []
    rw [if_neg (show ¬ (8 : Int32) ≤ nI j from nI_ge (b := 8) hj (by decide)), zl_e, nI_add, zc_nI (by omega) (by decide), zl_e, zl_e, nI_1, nI_clamp (by omega), pk_vb, ← fb_put_succ]
    rfl
  · unfold f_X9_append_L26
    simp only []
    rw [if_pos (show (8 : Int32) ≤ nI 8 by decide)]
theorem m_feedL {k : Nat} (hk : k + 8 ≤ 200) (v : Int64) (tape : Nat → Int32) : ∃ i, zp (f_X12_feed_L19 v) zF (56, nI k, tape) = some (1, (i, nI (k + 8), fb_put tape (fdR v) k 8)) := by
  have key := zp_i (f := f_X12_feed_L19 v) (s := (56, nI k, tape)) (fun j w => w = (if j = 8 then -8 else nI (56 - 8 * j), nI (k + j), fb_put tape (fdR v) k j)) (fun a => ∃ i, a = (1, (i, nI (k + 8), fb_put tape (fdR v) k 8))) 8 (by omega) (by rw [fb_put_0]; rfl) (by
    rintro j w hj rfl
    unfold f_X12_feed_L19
    simp only []
    by_cases c : j = 8
    · subst c
      rw [if_pos rfl, if_pos (by decide)]
      exact Or.inr ⟨_, rfl, (by decide : ¬ (1 : Nat) = 0), _, rfl⟩
    · rw [if_neg c, if_neg (nI_pos (by omega)), zl_e, zc_nI (by omega) (by decide), zl_e, zl_e, zl_e, nI_clamp (by omega), nI_1]
      refine Or.inl ⟨by omega, (if j + 1 = 8 then -8 else nI (56 - 8 * (j + 1)), nI (k + (j + 1)), fb_put tape (fdR v) k (j + 1)), ?_, rfl⟩
      rw [← fb_put_succ]
      have e : nI (56 - 8 * j) + (-8 : Int32) = if j + 1 = 8 then -8 else nI (56 - 8 * (j + 1)) := by
        rcases (show j = 0 ∨ j = 1 ∨ j = 2 ∨ j = 3 ∨ j = 4 ∨ j = 5 ∨ j = 6 ∨ j = 7 by omega) with rfl | rfl | rfl | rfl | rfl | rfl | rfl | rfl <;> decide
      rw [e]
      rfl)
  obtain ⟨a, e, i, rfl⟩ := key
  exact ⟨i, e⟩
theorem st_feed : ST_feed Inv := by
  intro x y hI v1
  obtain ⟨n, hb, hR, ho, hT, hr⟩ := id hI
  obtain ⟨k, hk, e1, e2, hk2⟩ := id hT
  rw [e1, e2]
  unfold f_X11_feed f_X12_feed
  by_cases c : k + 8 ≤ 200
  · obtain ⟨i, e⟩ := m_feedL c v1 (M_tape y)
    rw [x_append c, show nI k + (8 : Int32) = nI (k + 8) from nI_add k 8, if_pos (show nI (k + 8) ≤ (200 : Int32) from nI_le (b := 200) (by omega) (by decide)), e, zb_s, zb_s]
    simp only []
    rw [if_neg n10]
    have q : TI (nI (k + 8)) (fb_put (X_tape_bytes x) (fdC v1) k 8) (nI (k + 8)) (fb_put (M_tape y) (fdR v1) k 8) := by
      refine ⟨k + 8, c, rfl, rfl, fun j hj => ?_⟩
      by_cases d : j < k
      · rw [fb_put_out (by omega), fb_put_out (by omega)]
        exact hk2 j d
      · rw [fb_put_in (by omega) (by omega), fb_put_in (by omega) (by omega)]
        exact fd_eq v1 (by omega)
    exact ⟨_, _, rfl, rfl, rfl, n, hb, hR, ho, q, hr⟩
  · have e : ¬ nI k + 8 ≤ 200 := by
      rw [show nI k + (8 : Int32) = nI (k + 8) from nI_add k 8]
      exact nI_ge (b := k + 8) (a := 200) (by omega) (by omega)
    rw [if_neg e]
    unfold f_X9_append
    rw [if_neg (nI_pos (by omega)), if_neg e, zb_s, if_pos rfl]
    exact ⟨_, _, rfl, rfl, rfl, n, hb, hR, ho, ⟨k, hk, rfl, rfl, hk2⟩, hr⟩
theorem x_codeAt {j : Nat} (h : j < 12) (f : Nat → Int32) : f_X3_codeAt (nI j) f = some (f j) := by
  unfold f_X3_codeAt
  rw [if_neg (nI_pos (by omega)), if_neg (show ¬ (12 : Int32) ≤ nI j from nI_ge (b := 12) (by omega) (by decide)), zc_nI (by omega) (by decide), nI_clamp (by omega)]
theorem x_voltAt {j : Nat} (h : j < 12) (f : Nat → Int32) : f_X3_voltAt (nI j) f = some (f j) := by
  unfold f_X3_voltAt
  rw [if_neg (nI_pos (by omega)), if_neg (show ¬ (12 : Int32) ≤ nI j from nI_ge (b := 12) (by omega) (by decide)), zc_nI (by omega) (by decide), nI_clamp (by omega)]
theorem m_size (a : Int64) : f_X12_size a = some (if 0 ≤ a then a else -a) := by
  unfold f_X12_size
  simp only [lg_ge]
  split <;> rfl
theorem st_apart : ST_apart Inv := by
  intro x y hI v1
  obtain ⟨n, hb, hR, ho, hT, hf, hS, ⟨k, hk, es, em, hk2, hd⟩, -⟩ := id hI
  have hp := pw8 hR.1.2
  have hB := o_B hR ho
  suffices H : ∃ r, f_X11_apart v1 (X_steps_outs x) (X_measures_size x) (X_measures_codes x) (X_measures_volts x) = some r ∧ f_X12_apart v1 (M_measured y) (M_holds y) (M_measuredCode y) (M_measuredVolt y) = some r by
    obtain ⟨r, e1, e2⟩ := H
    exact ⟨r, r, e1, e2, rfl, hI⟩
  unfold f_X11_apart f_X12_apart
  by_cases c0 : v1 < 0
  · rw [if_pos c0, in_0l (B := 0) (b := 0) rfl c0, zb_s, if_pos rfl]
    exact ⟨_, rfl, rfl⟩
  rw [if_neg c0]
  by_cases c2 : v1 ≤ 2
  · rw [if_pos c2, in_1 (B := 0) (C := 2) (b := 0) (c := 2) rfl rfl c0 c2, zb_s, if_neg n10, es, em]
    obtain ⟨a, b, ea, eb, s, g, f, i, rfl, g', i', rfl, hg⟩ := zp_r (f := f_X11_apart_L22 (X_steps_outs x) (nI k) (X_measures_codes x) (X_measures_volts x)) (g := f_X12_apart_L25 (nI k) (M_holds y) (M_measuredCode y) (M_measuredVolt y)) (s := ((0, 0, -4, 0) : Int32 × Int32 × Int32 × Int32)) (t := ((0, -1, -4, 0) : Int32 × Int32 × Int32 × Int32))
      (fun j s t => ∃ a g f g', s = (a, g, f, nI j) ∧ t = (a, g', f, nI j) ∧ ((g = 0 ∧ g' = -1 ∧ f = -4) ∨ (g = g' ∧ 0 ≤ g ∧ ¬ f = -4)))
      (fun a b => ∃ s g f i, a = (1, s, g, f, i) ∧ ∃ g' i', b = (1, s, g', f, i') ∧ ((g = 0 ∧ g' = -1) ∨ (g = g' ∧ 0 ≤ g))) k (by omega) ⟨0, 0, -4, -1, rfl, rfl, Or.inl ⟨rfl, rfl, rfl⟩⟩ (by
        rintro j s t hj ⟨a, g, f, g', rfl, rfl, hg⟩
        unfold f_X11_apart_L22 f_X12_apart_L25
        simp only []
        by_cases e : j = k
        · subst e
          rw [if_pos (nI_le (Nat.le_refl _) (by omega)), if_pos (nI_le (Nat.le_refl _) (by omega))]
          refine Or.inr ⟨_, _, rfl, rfl, (by decide : ¬ (1 : Nat) = 0), (by decide : ¬ (1 : Nat) = 0), a, g, f, _, rfl, g', _, rfl, ?_⟩
          rcases hg with ⟨h1, h2, -⟩ | ⟨h1, h2, -⟩
          · exact Or.inl ⟨h1, h2⟩
          · exact Or.inr ⟨h1, h2⟩
        · obtain ⟨ec, ev, ⟨c, hc, eq⟩, hv⟩ := hk2 j (by omega)
          have hcB := hB c (by omega)
          rw [if_neg (nI_ge (by omega) (by omega)), if_neg (nI_ge (by omega) (by omega)), x_codeAt (by omega), zb_s, x_voltAt (by omega), zb_s, zc_nI (by omega) (by decide), zc_nI (by omega) (by decide), nI_clamp (by omega), ec, ev, eq, x_outOf (by omega), zb_s, m_out hR, zb_s, ho c hc]
          unfold OV
          have ho2 : X_steps_outs x c = oS (nI n) (X_rules_unit x) (X_rules_offset x) (X_rules_top x) (X_rules_misses x) (nI c) (npt n (X_rules_top x)) := ho c hc
          rw [← ho2]
          have hsub : (M_measuredVolt y j - X_steps_outs x c).toInt = (M_measuredVolt y j).toInt - (X_steps_outs x c).toInt := fb_subI (by omega) (by omega)
          have hab : (if 0 ≤ (M_measuredVolt y j - X_steps_outs x c) then (M_measuredVolt y j - X_steps_outs x c) else -(M_measuredVolt y j - X_steps_outs x c)) = nI (M_measuredVolt y j - X_steps_outs x c).toInt.natAbs := by
            rw [i32_eq, absI (by omega), nIt (by omega)]
          rw [f_abs, zb_s, hab, m_size, zb_s, absL (by rw [w64]; omega), w64, zl_e, lN_i, zl_e, zl_e]
          have hD : (nI (M_measuredVolt y j - X_steps_outs x c).toInt.natAbs).toInt = ((M_measuredVolt y j - X_steps_outs x c).toInt.natAbs : Int) := nIt (by omega)
          generalize nI (M_measuredVolt y j - X_steps_outs x c).toInt.natAbs = D at hD ⊢
          have hD0 : 0 ≤ D := by rw [i32_le, hD]; have : (0 : Int32).toInt = 0 := rfl; omega
          have hcn : ¬ nI c = -4 := by rw [i32_eq, nIt (by omega)]; have : (-4 : Int32).toInt = -4 := rfl; omega
          unfold f_X11_apart_J100_22 f_X11_apart_J107_22 f_X12_apart_J89_25 f_X12_apart_J101_25
          simp only [zl_e, nI_1, zc_nI (show j < 12 by omega) (show 12 < 2 ^ 31 by decide), nI_clamp (show j < 2 ^ 31 by omega), eq]
          left
          refine ⟨by omega, ?_⟩
          rcases hg with ⟨rfl, rfl, rfl⟩ | ⟨rfl, h2, h3⟩
          · rw [if_pos rfl, if_pos (show (-1 : Int32) < D from by rw [i32_lt, hD]; have : (-1 : Int32).toInt = -1 := rfl; omega)]
            exact ⟨_, _, rfl, rfl, _, _, _, _, rfl, rfl, Or.inr ⟨rfl, hD0, hcn⟩⟩
          · rw [if_neg h3]
            repeat' split
            all_goals exact ⟨_, _, rfl, rfl, _, _, _, _, rfl, rfl, Or.inr ⟨rfl, by assumption, by assumption⟩⟩)
    rw [ea, eb, zb_s, zb_s]
    simp only []
    by_cases d0 : v1 = 0
    · rw [if_pos d0, if_pos d0]; exact ⟨_, rfl, rfl⟩
    · rw [if_neg d0, if_neg d0]
      by_cases d1 : v1 = 1
      · rw [if_pos d1, if_pos d1]
        rcases hg with ⟨rfl, rfl⟩ | ⟨rfl, h⟩
        · rw [if_neg (show ¬ (0 : Int32) ≤ -1 by decide)]; exact ⟨_, rfl, rfl⟩
        · rw [if_pos h]; exact ⟨_, rfl, rfl⟩
      · rw [if_neg d1, if_neg d1]; exact ⟨_, rfl, rfl⟩
  · rw [if_neg c2, in_0h (C := 2) (c := 2) rfl c2, zb_s, if_pos rfl]
    exact ⟨_, rfl, rfl⟩
